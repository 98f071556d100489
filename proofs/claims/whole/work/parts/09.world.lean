def cel (E : EV) (ad n : Nat → Nat) (a : Nat) (σ : HS) : va_E := match a with
  | 0 => .inr (4, [.ref (ad 1), .ref (ad 2), .ref (ad 3), .ref (ad 4), .ref (ad 5), .int (σ.1 0 5), .int (σ.1 0 6), .int (σ.1 0 7), .ref (ad 6), .ref (ad 7), .ref (ad 8)])
  | 1 => .inr (0, [.int (σ.1 1 0), .int (σ.1 1 1), .int (σ.1 1 2), .int (σ.1 1 3), .int (σ.1 1 4), .int (σ.1 1 5), .int (σ.1 1 6), .int (σ.1 1 7), .int (σ.1 1 8), .ref (ad 9)])
  | 2 => .inr (3, [.ref (ad 10), .ref (ad 1), .ref (ad 11), .ref (ad 12), .ref (ad 13), .ref (ad 14)])
  | 3 => .inr (1, [.ref (ad 15), .ref (ad 16), .ref (ad 1), .ref (ad 2)])
  | 4 => .inr (2, [.int (σ.1 4 0), .int (σ.1 4 1), .int (σ.1 4 2)])
  | 5 => .inl (E.2 1, n 5, .inr (.inl (σ.2 5)))
  | 6 => .inl (E.2 1, n 6, .inr (.inl (σ.2 6)))
  | 7 => .inl (E.2 1, n 7, .inr (.inl (σ.2 7)))
  | 8 => .inl (E.2 1, n 8, .inr (.inl (σ.2 8)))
  | 9 => .inl (E.2 0, n 9, .inl (σ.1 9))
  | 10 => .inl (E.2 2, n 10, .inl (σ.1 10))
  | 11 => .inl (E.2 1, n 11, .inr (.inl (σ.2 11)))
  | 12 => .inl (E.2 1, n 12, .inr (.inl (σ.2 12)))
  | 13 => .inl (E.2 2, n 13, .inl (σ.1 13))
  | 14 => .inl (E.2 2, n 14, .inl (σ.1 14))
  | 15 => .inl (E.2 0, n 15, .inl (σ.1 15))
  | 16 => .inl (E.2 0, n 16, .inl (σ.1 16))
  | 17 => .inl (E.2 1, n 17, .inr (.inl (σ.2 17)))
  | 18 => .inl (E.2 0, n 18, .inl (σ.1 18))
  | 19 => .inl (E.2 0, n 19, .inl (σ.1 19))
  | 20 => .inr (5, [.int (σ.1 20 0), .int (σ.1 20 1), .int (σ.1 20 2), .int (σ.1 20 3), .int (σ.1 20 4), .ref (ad 21), .int (σ.1 20 6), .ref (ad 22), .ref (ad 23), .ref (ad 24), .ref (ad 25), .ref (ad 26), .int (σ.1 20 12), .int (σ.1 20 13), .int (σ.1 20 14), .int (σ.1 20 15), .ref (ad 27), .int (σ.1 20 17), .ref (ad 28), .int (σ.1 20 19), .int (σ.1 20 20), .ref (ad 29)])
  | 21 => .inl (E.2 0, n 21, .inl (σ.1 21))
  | 22 => .inl (E.2 2, n 22, .inl (σ.1 22))
  | 23 => .inl (E.2 2, n 23, .inl (σ.1 23))
  | 24 => .inl (E.2 0, n 24, .inl (σ.1 24))
  | 25 => .inl (E.2 3, n 25, .inl (σ.1 25))
  | 26 => .inl (E.2 0, n 26, .inl (σ.1 26))
  | 27 => .inl (E.2 0, n 27, .inl (σ.1 27))
  | 28 => .inl (E.2 0, n 28, .inl (σ.1 28))
  | 29 => .inl (E.2 0, n 29, .inl (σ.1 29))
  | 30 => .inl (E.2 1, n 30, .inr (.inl (σ.2 30)))
  | _ => .inr (6, [])
theorem cel_0 (E : EV) (ad n : Nat → Nat) (σ : HS) : cel E ad n 0 σ = .inr (4, [.ref (ad 1), .ref (ad 2), .ref (ad 3), .ref (ad 4), .ref (ad 5), .int (σ.1 0 5), .int (σ.1 0 6), .int (σ.1 0 7), .ref (ad 6), .ref (ad 7), .ref (ad 8)]) := rfl
theorem cel_1 (E : EV) (ad n : Nat → Nat) (σ : HS) : cel E ad n 1 σ = .inr (0, [.int (σ.1 1 0), .int (σ.1 1 1), .int (σ.1 1 2), .int (σ.1 1 3), .int (σ.1 1 4), .int (σ.1 1 5), .int (σ.1 1 6), .int (σ.1 1 7), .int (σ.1 1 8), .ref (ad 9)]) := rfl
theorem cel_2 (E : EV) (ad n : Nat → Nat) (σ : HS) : cel E ad n 2 σ = .inr (3, [.ref (ad 10), .ref (ad 1), .ref (ad 11), .ref (ad 12), .ref (ad 13), .ref (ad 14)]) := rfl
theorem cel_3 (E : EV) (ad n : Nat → Nat) (σ : HS) : cel E ad n 3 σ = .inr (1, [.ref (ad 15), .ref (ad 16), .ref (ad 1), .ref (ad 2)]) := rfl
theorem cel_4 (E : EV) (ad n : Nat → Nat) (σ : HS) : cel E ad n 4 σ = .inr (2, [.int (σ.1 4 0), .int (σ.1 4 1), .int (σ.1 4 2)]) := rfl
theorem cel_5 (E : EV) (ad n : Nat → Nat) (σ : HS) : cel E ad n 5 σ = .inl (E.2 1, n 5, .inr (.inl (σ.2 5))) := rfl
theorem cel_6 (E : EV) (ad n : Nat → Nat) (σ : HS) : cel E ad n 6 σ = .inl (E.2 1, n 6, .inr (.inl (σ.2 6))) := rfl
theorem cel_7 (E : EV) (ad n : Nat → Nat) (σ : HS) : cel E ad n 7 σ = .inl (E.2 1, n 7, .inr (.inl (σ.2 7))) := rfl
theorem cel_8 (E : EV) (ad n : Nat → Nat) (σ : HS) : cel E ad n 8 σ = .inl (E.2 1, n 8, .inr (.inl (σ.2 8))) := rfl
theorem cel_9 (E : EV) (ad n : Nat → Nat) (σ : HS) : cel E ad n 9 σ = .inl (E.2 0, n 9, .inl (σ.1 9)) := rfl
theorem cel_10 (E : EV) (ad n : Nat → Nat) (σ : HS) : cel E ad n 10 σ = .inl (E.2 2, n 10, .inl (σ.1 10)) := rfl
theorem cel_11 (E : EV) (ad n : Nat → Nat) (σ : HS) : cel E ad n 11 σ = .inl (E.2 1, n 11, .inr (.inl (σ.2 11))) := rfl
theorem cel_12 (E : EV) (ad n : Nat → Nat) (σ : HS) : cel E ad n 12 σ = .inl (E.2 1, n 12, .inr (.inl (σ.2 12))) := rfl
theorem cel_13 (E : EV) (ad n : Nat → Nat) (σ : HS) : cel E ad n 13 σ = .inl (E.2 2, n 13, .inl (σ.1 13)) := rfl
theorem cel_14 (E : EV) (ad n : Nat → Nat) (σ : HS) : cel E ad n 14 σ = .inl (E.2 2, n 14, .inl (σ.1 14)) := rfl
theorem cel_15 (E : EV) (ad n : Nat → Nat) (σ : HS) : cel E ad n 15 σ = .inl (E.2 0, n 15, .inl (σ.1 15)) := rfl
theorem cel_16 (E : EV) (ad n : Nat → Nat) (σ : HS) : cel E ad n 16 σ = .inl (E.2 0, n 16, .inl (σ.1 16)) := rfl
theorem cel_17 (E : EV) (ad n : Nat → Nat) (σ : HS) : cel E ad n 17 σ = .inl (E.2 1, n 17, .inr (.inl (σ.2 17))) := rfl
theorem cel_18 (E : EV) (ad n : Nat → Nat) (σ : HS) : cel E ad n 18 σ = .inl (E.2 0, n 18, .inl (σ.1 18)) := rfl
theorem cel_19 (E : EV) (ad n : Nat → Nat) (σ : HS) : cel E ad n 19 σ = .inl (E.2 0, n 19, .inl (σ.1 19)) := rfl
theorem cel_20 (E : EV) (ad n : Nat → Nat) (σ : HS) : cel E ad n 20 σ = .inr (5, [.int (σ.1 20 0), .int (σ.1 20 1), .int (σ.1 20 2), .int (σ.1 20 3), .int (σ.1 20 4), .ref (ad 21), .int (σ.1 20 6), .ref (ad 22), .ref (ad 23), .ref (ad 24), .ref (ad 25), .ref (ad 26), .int (σ.1 20 12), .int (σ.1 20 13), .int (σ.1 20 14), .int (σ.1 20 15), .ref (ad 27), .int (σ.1 20 17), .ref (ad 28), .int (σ.1 20 19), .int (σ.1 20 20), .ref (ad 29)]) := rfl
theorem cel_21 (E : EV) (ad n : Nat → Nat) (σ : HS) : cel E ad n 21 σ = .inl (E.2 0, n 21, .inl (σ.1 21)) := rfl
theorem cel_22 (E : EV) (ad n : Nat → Nat) (σ : HS) : cel E ad n 22 σ = .inl (E.2 2, n 22, .inl (σ.1 22)) := rfl
theorem cel_23 (E : EV) (ad n : Nat → Nat) (σ : HS) : cel E ad n 23 σ = .inl (E.2 2, n 23, .inl (σ.1 23)) := rfl
theorem cel_24 (E : EV) (ad n : Nat → Nat) (σ : HS) : cel E ad n 24 σ = .inl (E.2 0, n 24, .inl (σ.1 24)) := rfl
theorem cel_25 (E : EV) (ad n : Nat → Nat) (σ : HS) : cel E ad n 25 σ = .inl (E.2 3, n 25, .inl (σ.1 25)) := rfl
theorem cel_26 (E : EV) (ad n : Nat → Nat) (σ : HS) : cel E ad n 26 σ = .inl (E.2 0, n 26, .inl (σ.1 26)) := rfl
theorem cel_27 (E : EV) (ad n : Nat → Nat) (σ : HS) : cel E ad n 27 σ = .inl (E.2 0, n 27, .inl (σ.1 27)) := rfl
theorem cel_28 (E : EV) (ad n : Nat → Nat) (σ : HS) : cel E ad n 28 σ = .inl (E.2 0, n 28, .inl (σ.1 28)) := rfl
theorem cel_29 (E : EV) (ad n : Nat → Nat) (σ : HS) : cel E ad n 29 σ = .inl (E.2 0, n 29, .inl (σ.1 29)) := rfl
theorem cel_30 (E : EV) (ad n : Nat → Nat) (σ : HS) : cel E ad n 30 σ = .inl (E.2 1, n 30, .inr (.inl (σ.2 30))) := rfl
theorem cel_congr {E : EV} {ad n : Nat → Nat} {σ σ1 : HS} (b : Nat) (h1 : σ1.1 b = σ.1 b) (h2 : σ1.2 b = σ.2 b) : cel E ad n b σ1 = cel E ad n b σ := by
  match b, h1, h2 with
  | 0, h1, h2 => rw [cel_0, cel_0]; (try rw [h1]); (try rw [h2])
  | 1, h1, h2 => rw [cel_1, cel_1]; (try rw [h1]); (try rw [h2])
  | 2, h1, h2 => rw [cel_2, cel_2]; (try rw [h1]); (try rw [h2])
  | 3, h1, h2 => rw [cel_3, cel_3]; (try rw [h1]); (try rw [h2])
  | 4, h1, h2 => rw [cel_4, cel_4]; (try rw [h1]); (try rw [h2])
  | 5, h1, h2 => rw [cel_5, cel_5]; (try rw [h1]); (try rw [h2])
  | 6, h1, h2 => rw [cel_6, cel_6]; (try rw [h1]); (try rw [h2])
  | 7, h1, h2 => rw [cel_7, cel_7]; (try rw [h1]); (try rw [h2])
  | 8, h1, h2 => rw [cel_8, cel_8]; (try rw [h1]); (try rw [h2])
  | 9, h1, h2 => rw [cel_9, cel_9]; (try rw [h1]); (try rw [h2])
  | 10, h1, h2 => rw [cel_10, cel_10]; (try rw [h1]); (try rw [h2])
  | 11, h1, h2 => rw [cel_11, cel_11]; (try rw [h1]); (try rw [h2])
  | 12, h1, h2 => rw [cel_12, cel_12]; (try rw [h1]); (try rw [h2])
  | 13, h1, h2 => rw [cel_13, cel_13]; (try rw [h1]); (try rw [h2])
  | 14, h1, h2 => rw [cel_14, cel_14]; (try rw [h1]); (try rw [h2])
  | 15, h1, h2 => rw [cel_15, cel_15]; (try rw [h1]); (try rw [h2])
  | 16, h1, h2 => rw [cel_16, cel_16]; (try rw [h1]); (try rw [h2])
  | 17, h1, h2 => rw [cel_17, cel_17]; (try rw [h1]); (try rw [h2])
  | 18, h1, h2 => rw [cel_18, cel_18]; (try rw [h1]); (try rw [h2])
  | 19, h1, h2 => rw [cel_19, cel_19]; (try rw [h1]); (try rw [h2])
  | 20, h1, h2 => rw [cel_20, cel_20]; (try rw [h1]); (try rw [h2])
  | 21, h1, h2 => rw [cel_21, cel_21]; (try rw [h1]); (try rw [h2])
  | 22, h1, h2 => rw [cel_22, cel_22]; (try rw [h1]); (try rw [h2])
  | 23, h1, h2 => rw [cel_23, cel_23]; (try rw [h1]); (try rw [h2])
  | 24, h1, h2 => rw [cel_24, cel_24]; (try rw [h1]); (try rw [h2])
  | 25, h1, h2 => rw [cel_25, cel_25]; (try rw [h1]); (try rw [h2])
  | 26, h1, h2 => rw [cel_26, cel_26]; (try rw [h1]); (try rw [h2])
  | 27, h1, h2 => rw [cel_27, cel_27]; (try rw [h1]); (try rw [h2])
  | 28, h1, h2 => rw [cel_28, cel_28]; (try rw [h1]); (try rw [h2])
  | 29, h1, h2 => rw [cel_29, cel_29]; (try rw [h1]); (try rw [h2])
  | 30, h1, h2 => rw [cel_30, cel_30]; (try rw [h1]); (try rw [h2])
  | b + 31, _, _ => rfl
def wl (E : EV) (ad n : Nat → Nat) (L : List Nat) (σ : HS) : va_W := L.map (fun a => (ad a, cel E ad n a σ))
section WL
variable {E : EV} {ad n : Nat → Nat} {L : List Nat} {σ σ1 : HS}
theorem wl_at {k a : Nat} (h : L[k]? = some a) : (wl E ad n L σ)[k]? = some (ad a, cel E ad n a σ) := by
  unfold wl
  rw [List.getElem?_map, h]
  rfl
theorem wl_mem {a : Nat} (h : a ∈ L) : ∃ k : Nat, L[k]? = some a := List.mem_iff_getElem?.mp h
theorem wl_set {A : Nat → Prop} {k a : Nat} (hD : va_D A (wl E ad n L σ)) (h : L[k]? = some a) (h1 : ∀ b, b ≠ a → σ1.1 b = σ.1 b) (h2 : ∀ b, b ≠ a → σ1.2 b = σ.2 b) {e : va_E} (he : cel E ad n a σ1 = e) : (wl E ad n L σ).set k (ad a, e) = wl E ad n L σ1 := by
  subst he
  apply List.ext_getElem?
  intro j
  rw [List.getElem?_set]
  by_cases hj : k = j
  · subst hj
    have hlt : k < (wl E ad n L σ).length := by
      have := wl_at (E := E) (ad := ad) (n := n) (σ := σ) h
      exact (List.getElem?_eq_some_iff.mp this).1
    simp only [if_true, hlt]
    exact (wl_at h).symm
  · simp only [hj, if_false]
    cases hL : L[j]? with
    | none =>
      unfold wl
      rw [List.getElem?_map, List.getElem?_map, hL]
      rfl
    | some b =>
      have hb : b ≠ a := by
        intro e
        subst e
        exact hj (hD.1 k j _ _ (wl_at h) (wl_at hL) rfl)
      rw [wl_at hL, wl_at hL, cel_congr b (h1 b hb) (h2 b hb)]
theorem beq_ne {a b : Nat} (h : b ≠ a) : Nat.beq b a = false := by
  cases hb : Nat.beq b a with
  | false => rfl
  | true => exact absurd (Nat.eq_of_beq_eq_true hb) h
theorem stF_1 {a k : Nat} {v : Int32} : ∀ b, b ≠ a → (stF σ a k v).1 b = σ.1 b := fun b h => by
  show cond (Nat.beq b a) _ _ = _
  rw [beq_ne h]; rfl
theorem stI_1 {a k : Nat} {v : Int32} : ∀ b, b ≠ a → (stI σ a k v).1 b = σ.1 b := fun b h => by
  show cond (Nat.beq b a) _ _ = _
  rw [beq_ne h]; rfl
theorem stL_2 {a k : Nat} {v : Int64} : ∀ b, b ≠ a → (stL σ a k v).2 b = σ.2 b := fun b h => by
  show cond (Nat.beq b a) _ _ = _
  rw [beq_ne h]; rfl
end WL
section GR
variable {p : Program} {l : Launch} {e : Env} {R : Room} {s : State} {m : MethodId} {args : Array Value} {below : List Frame} {meth : Method} {c : Code} {H : Heap} {locs : List Loc} {cells slots : Nat} {Q : State → Prop}
variable {E : EV} {ad n : Nat → Nat} {L : List Nat} {σ σ1 : HS} {A : Nat → Prop} {H0 : Heap} {cc : ByteArray} {own : String} {ret : Option FieldType} {nL pc : Nat} {ls : Array Slot} {rest : List Value} {a : Nat}
theorem g_get (cx : Cx E p s m args meth c cc own ret nL) (wo : Wo E A H0 (wl E ad n L σ) H locs) (hm : a ∈ L) {ci N index : Nat} {C : String} {T : u_T} {fs : List Value} {v : Value} (he : cel E ad n a σ = .inr (ci, fs)) (hc : cls6[ci]? = some (C, T, N)) (hin : ∀ w ∈ u_ws C T N, w ∈ ltb) (k : Nat) (hk : k < N) (hl : Cond.fieldLink own index (T k).1 (T k).2.1 (T k).2.2.1 ∈ ltb) (hv : fs[k]? = some v) (hdg : decode cc pc = .ok (.getfield index, 3))
    (kk : W p l e R s m args below meth c H locs cells slots Q (F0 m (pc + 3) ls (v :: rest))) : W p l e R s m args below meth c H locs cells slots Q (F0 m pc ls (.ref (ad a) :: rest)) := by
  obtain ⟨q, hq⟩ := wl_mem hm
  exact r_get cx wo q (by rw [wl_at hq, he]) hc hin k hk hl hv hdg kk
theorem g_put (cx : Cx E p s m args meth c cc own ret nL) (wo : Wo E A H0 (wl E ad n L σ) H locs) (hm : a ∈ L) {ci N index : Nat} {C : String} {T : u_T} {fs : List Value} {v : Int32} (he : cel E ad n a σ = .inr (ci, fs)) (hc : cls6[ci]? = some (C, T, N)) (hin : ∀ w ∈ u_ws C T N, w ∈ ltb) (ty0 : Nat → FieldType) (hty : ∀ k, k < N → parseFieldDescriptor (T k).2.2.1 = some (ty0 k)) (hnm : ∀ a, a < N → ∀ b, b < N → a ≠ b → (T a).2.1 ≠ (T b).2.1) (k : Nat) (hk : k < N) (hl : Cond.fieldLink own index (T k).1 (T k).2.1 (T k).2.2.1 ∈ ltb) (hfin : (T k).2.2.2 = false) (hn : narrow (ty0 k) (.int v) = .int v) (hfit : fits (ty0 k) (.int v) = true) (hlen : k < fs.length) (he1 : cel E ad n a (stF σ a k v) = .inr (ci, fs.set k (.int v))) (hdg : decode cc pc = .ok (.putfield index, 3))
    (kk : ∀ (H1 : Heap) (locs1 : List Loc), Wo E A H0 (wl E ad n L (stF σ a k v)) H1 locs1 → W p l e R s m args below meth c H1 locs1 cells slots Q (F0 m (pc + 3) ls rest)) : W p l e R s m args below meth c H locs cells slots Q (F0 m pc ls (.int v :: .ref (ad a) :: rest)) := by
  obtain ⟨q, hq⟩ := wl_mem hm
  exact r_put cx wo q (by rw [wl_at hq, he]) hc hin ty0 hty hnm k hk hl hfin hn hfit hlen (wl_set wo.2.1 hq stF_1 (fun _ _ => rfl) he1) hdg kk
theorem g_iald (cx : Cx E p s m args meth c cc own ret nL) (wo : Wo E A H0 (wl E ad n L σ) H locs) (hm : a ∈ L) (he : cel E ad n a σ = .inl (E.2 0, n a, .inl (σ.1 a))) {i : Int32} (hin : inb i (n a) = true) (hdg : decode cc pc = .ok (.iaload, 1))
    (kk : W p l e R s m args below meth c H locs cells slots Q (F0 m (pc + 1) ls (.int (σ.1 a i.toNatClampNeg) :: rest))) : W p l e R s m args below meth c H locs cells slots Q (F0 m pc ls (.int i :: .ref (ad a) :: rest)) := by
  obtain ⟨q, hq⟩ := wl_mem hm
  exact r_iald cx wo q (by rw [wl_at hq, he]) hin hdg kk
theorem g_zald (cx : Cx E p s m args meth c cc own ret nL) (wo : Wo E A H0 (wl E ad n L σ) H locs) (hm : a ∈ L) (he : cel E ad n a σ = .inl (E.2 2, n a, .inl (σ.1 a))) {i : Int32} (hin : inb i (n a) = true) (hdg : decode cc pc = .ok (.baload, 1))
    (kk : W p l e R s m args below meth c H locs cells slots Q (F0 m (pc + 1) ls (.int (σ.1 a i.toNatClampNeg) :: rest))) : W p l e R s m args below meth c H locs cells slots Q (F0 m pc ls (.int i :: .ref (ad a) :: rest)) := by
  obtain ⟨q, hq⟩ := wl_mem hm
  exact r_zald cx wo q (by rw [wl_at hq, he]) hin hdg kk
theorem g_bald (cx : Cx E p s m args meth c cc own ret nL) (wo : Wo E A H0 (wl E ad n L σ) H locs) (hm : a ∈ L) (he : cel E ad n a σ = .inl (E.2 3, n a, .inl (σ.1 a))) {i : Int32} (hin : inb i (n a) = true) (hdg : decode cc pc = .ok (.baload, 1))
    (kk : W p l e R s m args below meth c H locs cells slots Q (F0 m (pc + 1) ls (.int (σ.1 a i.toNatClampNeg) :: rest))) : W p l e R s m args below meth c H locs cells slots Q (F0 m pc ls (.int i :: .ref (ad a) :: rest)) := by
  obtain ⟨q, hq⟩ := wl_mem hm
  exact r_bald cx wo q (by rw [wl_at hq, he]) hin hdg kk
theorem g_lald (cx : Cx E p s m args meth c cc own ret nL) (wo : Wo E A H0 (wl E ad n L σ) H locs) (hm : a ∈ L) (he : cel E ad n a σ = .inl (E.2 1, n a, .inr (.inl (σ.2 a)))) {i : Int32} (hin : inb i (n a) = true) (hdg : decode cc pc = .ok (.laload, 1))
    (kk : W p l e R s m args below meth c H locs cells slots Q (F0 m (pc + 1) ls (.long (σ.2 a i.toNatClampNeg) :: rest))) : W p l e R s m args below meth c H locs cells slots Q (F0 m pc ls (.int i :: .ref (ad a) :: rest)) := by
  obtain ⟨q, hq⟩ := wl_mem hm
  exact r_lald cx wo q (by rw [wl_at hq, he]) hin hdg kk
theorem g_iast (cx : Cx E p s m args meth c cc own ret nL) (wo : Wo E A H0 (wl E ad n L σ) H locs) (hm : a ∈ L) (he : ∀ σ, cel E ad n a σ = .inl (E.2 0, n a, .inl (σ.1 a))) {i x : Int32} (hin : inb i (n a) = true) (hdg : decode cc pc = .ok (.iastore, 1))
    (kk : ∀ (H1 : Heap) (locs1 : List Loc), Wo E A H0 (wl E ad n L (stI σ a i.toNatClampNeg x)) H1 locs1 → W p l e R s m args below meth c H1 locs1 cells slots Q (F0 m (pc + 1) ls rest)) : W p l e R s m args below meth c H locs cells slots Q (F0 m pc ls (.int x :: .int i :: .ref (ad a) :: rest)) := by
  obtain ⟨q, hq⟩ := wl_mem hm
  refine r_iast cx wo q (by rw [wl_at hq, he]) hin (wl_set wo.2.1 hq stI_1 (fun _ _ => rfl) ?_) hdg kk
  rw [he]
  show _ = Sum.inl (E.2 0, n a, Sum.inl _)
  simp [stI]
theorem g_zast (cx : Cx E p s m args meth c cc own ret nL) (wo : Wo E A H0 (wl E ad n L σ) H locs) (hm : a ∈ L) (he : ∀ σ, cel E ad n a σ = .inl (E.2 2, n a, .inl (σ.1 a))) {i x : Int32} (hin : inb i (n a) = true) (hdg : decode cc pc = .ok (.bastore, 1))
    (kk : ∀ (H1 : Heap) (locs1 : List Loc), Wo E A H0 (wl E ad n L (stI σ a i.toNatClampNeg (vp_nar .boolean x))) H1 locs1 → W p l e R s m args below meth c H1 locs1 cells slots Q (F0 m (pc + 1) ls rest)) : W p l e R s m args below meth c H locs cells slots Q (F0 m pc ls (.int x :: .int i :: .ref (ad a) :: rest)) := by
  obtain ⟨q, hq⟩ := wl_mem hm
  refine r_zast cx wo q (by rw [wl_at hq, he]) hin (wl_set wo.2.1 hq stI_1 (fun _ _ => rfl) ?_) hdg kk
  rw [he]
  simp [stI]
theorem g_bast (cx : Cx E p s m args meth c cc own ret nL) (wo : Wo E A H0 (wl E ad n L σ) H locs) (hm : a ∈ L) (he : ∀ σ, cel E ad n a σ = .inl (E.2 3, n a, .inl (σ.1 a))) {i x : Int32} (hin : inb i (n a) = true) (hdg : decode cc pc = .ok (.bastore, 1))
    (kk : ∀ (H1 : Heap) (locs1 : List Loc), Wo E A H0 (wl E ad n L (stI σ a i.toNatClampNeg (vp_nar .byte x))) H1 locs1 → W p l e R s m args below meth c H1 locs1 cells slots Q (F0 m (pc + 1) ls rest)) : W p l e R s m args below meth c H locs cells slots Q (F0 m pc ls (.int x :: .int i :: .ref (ad a) :: rest)) := by
  obtain ⟨q, hq⟩ := wl_mem hm
  refine r_bast cx wo q (by rw [wl_at hq, he]) hin (wl_set wo.2.1 hq stI_1 (fun _ _ => rfl) ?_) hdg kk
  rw [he]
  simp [stI]
theorem g_last (cx : Cx E p s m args meth c cc own ret nL) (wo : Wo E A H0 (wl E ad n L σ) H locs) (hm : a ∈ L) (he : ∀ σ, cel E ad n a σ = .inl (E.2 1, n a, .inr (.inl (σ.2 a)))) {i : Int32} {x : Int64} (hin : inb i (n a) = true) (hdg : decode cc pc = .ok (.lastore, 1))
    (kk : ∀ (H1 : Heap) (locs1 : List Loc), Wo E A H0 (wl E ad n L (stL σ a i.toNatClampNeg x)) H1 locs1 → W p l e R s m args below meth c H1 locs1 cells slots Q (F0 m (pc + 1) ls rest)) : W p l e R s m args below meth c H locs cells slots Q (F0 m pc ls (.long x :: .int i :: .ref (ad a) :: rest)) := by
  obtain ⟨q, hq⟩ := wl_mem hm
  refine r_last cx wo q (by rw [wl_at hq, he]) hin (wl_set (σ1 := stL σ a i.toNatClampNeg x) wo.2.1 hq (fun _ _ => rfl) stL_2 ?_) hdg kk
  rw [he]
  simp [stL]
theorem g_alen (cx : Cx E p s m args meth c cc own ret nL) (wo : Wo E A H0 (wl E ad n L σ) H locs) (hm : a ∈ L) (t0 : Nat) {cA : ClassId} {x : vp_A} (he : cel E ad n a σ = .inl (cA, x)) (hx : x.1 = n a) {ty : FieldType} (ht : (tyE E)[t0]? = some (cA, ty)) (hdg : decode cc pc = .ok (.arraylength, 1))
    (kk : W p l e R s m args below meth c H locs cells slots Q (F0 m (pc + 1) ls (.int (nI (n a)) :: rest))) : W p l e R s m args below meth c H locs cells slots Q (F0 m pc ls (.ref (ad a) :: rest)) := by
  obtain ⟨q, hq⟩ := wl_mem hm
  rw [← hx] at kk
  exact r_alen cx wo q t0 (by rw [wl_at hq, he]) ht hdg kk
-- calls
variable {y : MethodName} {bytes : ByteArray} {maxL k index : Nat} {ret1 : Option FieldType} {rm : Room} {C : String} {As : List Value} {st0 : List Value}
theorem Wo.DT {w : va_W} (wo : Wo E A H0 w H locs) : va_D (fun _ => True) w := wo.2.1.weaken (fun _ _ _ _ => trivial)
def MwV (y : MethodName) (bytes : ByteArray) (maxL : Nat) (ret1 : Option FieldType) (k : Nat) : Prop := Cond.instanceMethod y ∈ ltb ∧ Cond.selects y.cls y y ∈ ltb ∧ Cond.initialized y.cls ∈ ltb ∧ Cond.code y bytes maxL ret1 ∈ ltb ∧ (y.cls ≠ "java/lang/invoke/MethodHandle" ∧ y.cls ≠ "java/lang/invoke/VarHandle" ∧ (parseMethodDescriptor y.desc).map (fun d => d.parameters.length) = some k)
def MwS (y : MethodName) (bytes : ByteArray) (maxL : Nat) (ret1 : Option FieldType) (k : Nat) : Prop := Cond.static y ∈ ltb ∧ Cond.initialized y.cls ∈ ltb ∧ Cond.code y bytes maxL ret1 ∈ ltb ∧ (y.cls ≠ "java/lang/invoke/MethodHandle" ∧ y.cls ≠ "java/lang/invoke/VarHandle" ∧ (parseMethodDescriptor y.desc).map (fun d => d.parameters.length) = some k)
theorem call_Vi {r : Int32} (cx : Cx E p s m args meth c cc own ret nL) (wo : Wo E A H0 (wl E ad n L σ) H locs) (ct : CtI l E y bytes maxL ret1 rm (.ref (ad a) :: As) (wl E ad n L σ) r (wl E ad n L σ1)) (hm : a ∈ L) {ci : Nat} {q : vw_C} {fs : List Value} (he : cel E ad n a σ = .inr (ci, fs)) (hc : cls6[ci]? = some q) (hq : q.1 = y.cls) (mw : MwV y bytes maxL ret1 As.length) (hl : Cond.methodLink own index y ∈ ltb)
    (hR : rm.frames + 1 ≤ R.frames ∧ 8 + (maxL + 11) + rm.locals ≤ R.locals) (hrm : cells + rm.cells ≤ R.cells ∧ slots + rm.slots ≤ R.slots) (hsz : ls.size = nL) (hst : st0 = As.reverse ++ .ref (ad a) :: rest) (hW : (rest.map fun v => v.category).sum ≤ 8) (hdg : decode cc pc = .ok (.invokevirtual index, 3))
    (kk : ∀ (H1 : Heap) (locs1 : List Loc), Wo E A H0 (wl E ad n L σ1) H1 locs1 → W p l e R s m args below meth c H1 locs1 (cells + rm.cells) (slots + rm.slots) Q (F0 m (pc + 3) ls (.int r :: rest))) : W p l e R s m args below meth c H locs cells slots Q (F0 m pc ls st0) := by
  obtain ⟨q0, h0⟩ := wl_mem hm
  exact go_i (run_V cx (ct H.size) wo.1 wo.DT q0 hc (by rw [wl_at h0, he]) hq hl mw.1 mw.2.1 mw.2.2.1 mw.2.2.2.1 mw.2.2.2.2 hR hrm hsz hst hW hdg) wo kk
theorem call_Vv (cx : Cx E p s m args meth c cc own ret nL) (wo : Wo E A H0 (wl E ad n L σ) H locs) (ct : CtV l E y bytes maxL ret1 rm (.ref (ad a) :: As) (wl E ad n L σ) (wl E ad n L σ1)) (hm : a ∈ L) {ci : Nat} {q : vw_C} {fs : List Value} (he : cel E ad n a σ = .inr (ci, fs)) (hc : cls6[ci]? = some q) (hq : q.1 = y.cls) (mw : MwV y bytes maxL ret1 As.length) (hl : Cond.methodLink own index y ∈ ltb)
    (hR : rm.frames + 1 ≤ R.frames ∧ 8 + (maxL + 11) + rm.locals ≤ R.locals) (hrm : cells + rm.cells ≤ R.cells ∧ slots + rm.slots ≤ R.slots) (hsz : ls.size = nL) (hst : st0 = As.reverse ++ .ref (ad a) :: rest) (hW : (rest.map fun v => v.category).sum ≤ 8) (hdg : decode cc pc = .ok (.invokevirtual index, 3))
    (kk : ∀ (H1 : Heap) (locs1 : List Loc), Wo E A H0 (wl E ad n L σ1) H1 locs1 → W p l e R s m args below meth c H1 locs1 (cells + rm.cells) (slots + rm.slots) Q (F0 m (pc + 3) ls rest)) : W p l e R s m args below meth c H locs cells slots Q (F0 m pc ls st0) := by
  obtain ⟨q0, h0⟩ := wl_mem hm
  exact go_v (run_V cx (ct H.size) wo.1 wo.DT q0 hc (by rw [wl_at h0, he]) hq hl mw.1 mw.2.1 mw.2.2.1 mw.2.2.2.1 mw.2.2.2.2 hR hrm hsz hst hW hdg) wo kk
theorem call_Vl {r : Int64} (cx : Cx E p s m args meth c cc own ret nL) (wo : Wo E A H0 (wl E ad n L σ) H locs) (ct : CtL l E y bytes maxL ret1 rm (.ref (ad a) :: As) (wl E ad n L σ) r (wl E ad n L σ1)) (hm : a ∈ L) {ci : Nat} {q : vw_C} {fs : List Value} (he : cel E ad n a σ = .inr (ci, fs)) (hc : cls6[ci]? = some q) (hq : q.1 = y.cls) (mw : MwV y bytes maxL ret1 As.length) (hl : Cond.methodLink own index y ∈ ltb)
    (hR : rm.frames + 1 ≤ R.frames ∧ 8 + (maxL + 11) + rm.locals ≤ R.locals) (hrm : cells + rm.cells ≤ R.cells ∧ slots + rm.slots ≤ R.slots) (hsz : ls.size = nL) (hst : st0 = As.reverse ++ .ref (ad a) :: rest) (hW : (rest.map fun v => v.category).sum ≤ 8) (hdg : decode cc pc = .ok (.invokevirtual index, 3))
    (kk : ∀ (H1 : Heap) (locs1 : List Loc), Wo E A H0 (wl E ad n L σ1) H1 locs1 → W p l e R s m args below meth c H1 locs1 (cells + rm.cells) (slots + rm.slots) Q (F0 m (pc + 3) ls (.long r :: rest))) : W p l e R s m args below meth c H locs cells slots Q (F0 m pc ls st0) := by
  obtain ⟨q0, h0⟩ := wl_mem hm
  exact go_l (run_V cx (ct H.size) wo.1 wo.DT q0 hc (by rw [wl_at h0, he]) hq hl mw.1 mw.2.1 mw.2.2.1 mw.2.2.2.1 mw.2.2.2.2 hR hrm hsz hst hW hdg) wo kk
theorem call_Si {r : Int32} (cx : Cx E p s m args meth c cc own ret nL) (wo : Wo E A H0 (wl E ad n L σ) H locs) (ct : CtI l E y bytes maxL ret1 rm As (wl E ad n L σ) r (wl E ad n L σ1)) (mw : MwS y bytes maxL ret1 As.length) (hl : Cond.methodLink own index y ∈ ltb)
    (hR : rm.frames + 1 ≤ R.frames ∧ 8 + (maxL + 11) + rm.locals ≤ R.locals) (hrm : cells + rm.cells ≤ R.cells ∧ slots + rm.slots ≤ R.slots) (hsz : ls.size = nL) (hst : st0 = As.reverse ++ rest) (hW : (rest.map fun v => v.category).sum ≤ 8) (hdg : decode cc pc = .ok (.invokestatic index, 3))
    (kk : ∀ (H1 : Heap) (locs1 : List Loc), Wo E A H0 (wl E ad n L σ1) H1 locs1 → W p l e R s m args below meth c H1 locs1 (cells + rm.cells) (slots + rm.slots) Q (F0 m (pc + 3) ls (.int r :: rest))) : W p l e R s m args below meth c H locs cells slots Q (F0 m pc ls st0) :=
  go_i (run_S cx (ct H.size) wo.1 wo.DT hl mw.1 mw.2.1 mw.2.2.1 mw.2.2.2 hR hrm hsz hst hW hdg) wo kk
theorem call_Sl {r : Int64} (cx : Cx E p s m args meth c cc own ret nL) (wo : Wo E A H0 (wl E ad n L σ) H locs) (ct : CtL l E y bytes maxL ret1 rm As (wl E ad n L σ) r (wl E ad n L σ1)) (mw : MwS y bytes maxL ret1 As.length) (hl : Cond.methodLink own index y ∈ ltb)
    (hR : rm.frames + 1 ≤ R.frames ∧ 8 + (maxL + 11) + rm.locals ≤ R.locals) (hrm : cells + rm.cells ≤ R.cells ∧ slots + rm.slots ≤ R.slots) (hsz : ls.size = nL) (hst : st0 = As.reverse ++ rest) (hW : (rest.map fun v => v.category).sum ≤ 8) (hdg : decode cc pc = .ok (.invokestatic index, 3))
    (kk : ∀ (H1 : Heap) (locs1 : List Loc), Wo E A H0 (wl E ad n L σ1) H1 locs1 → W p l e R s m args below meth c H1 locs1 (cells + rm.cells) (slots + rm.slots) Q (F0 m (pc + 3) ls (.long r :: rest))) : W p l e R s m args below meth c H locs cells slots Q (F0 m pc ls st0) :=
  go_l (run_S cx (ct H.size) wo.1 wo.DT hl mw.1 mw.2.1 mw.2.2.1 mw.2.2.2 hR hrm hsz hst hW hdg) wo kk
theorem call_Sv (cx : Cx E p s m args meth c cc own ret nL) (wo : Wo E A H0 (wl E ad n L σ) H locs) (ct : CtV l E y bytes maxL ret1 rm As (wl E ad n L σ) (wl E ad n L σ1)) (mw : MwS y bytes maxL ret1 As.length) (hl : Cond.methodLink own index y ∈ ltb)
    (hR : rm.frames + 1 ≤ R.frames ∧ 8 + (maxL + 11) + rm.locals ≤ R.locals) (hrm : cells + rm.cells ≤ R.cells ∧ slots + rm.slots ≤ R.slots) (hsz : ls.size = nL) (hst : st0 = As.reverse ++ rest) (hW : (rest.map fun v => v.category).sum ≤ 8) (hdg : decode cc pc = .ok (.invokestatic index, 3))
    (kk : ∀ (H1 : Heap) (locs1 : List Loc), Wo E A H0 (wl E ad n L σ1) H1 locs1 → W p l e R s m args below meth c H1 locs1 (cells + rm.cells) (slots + rm.slots) Q (F0 m (pc + 3) ls rest)) : W p l e R s m args below meth c H locs cells slots Q (F0 m pc ls st0) :=
  go_v (run_S cx (ct H.size) wo.1 wo.DT hl mw.1 mw.2.1 mw.2.2.1 mw.2.2.2 hR hrm hsz hst hW hdg) wo kk
theorem call_SNv {host : String} (cx : Cx E p s m args meth c cc own ret nL) (wo : Wo E A H0 (wl E ad n L σ) H locs) (ct : CtV l E y bytes maxL ret1 rm As (wl E ad n L σ) (wl E ad n L σ1)) (mw : MwS y bytes maxL ret1 As.length) (hl : va_Nw (Cond.methodLinkNest own index y host) s)
    (hR : rm.frames + 1 ≤ R.frames ∧ 8 + (maxL + 11) + rm.locals ≤ R.locals) (hrm : cells + rm.cells ≤ R.cells ∧ slots + rm.slots ≤ R.slots) (hsz : ls.size = nL) (hst : st0 = As.reverse ++ rest) (hW : (rest.map fun v => v.category).sum ≤ 8) (hdg : decode cc pc = .ok (.invokestatic index, 3))
    (kk : ∀ (H1 : Heap) (locs1 : List Loc), Wo E A H0 (wl E ad n L σ1) H1 locs1 → W p l e R s m args below meth c H1 locs1 (cells + rm.cells) (slots + rm.slots) Q (F0 m (pc + 3) ls rest)) : W p l e R s m args below meth c H locs cells slots Q (F0 m pc ls st0) :=
  go_v (run_SN cx (ct H.size) wo.1 wo.DT hl mw.1 mw.2.1 mw.2.2.1 mw.2.2.2 hR hrm hsz hst hW hdg) wo kk
end GR

