def setA (f : Nat → Nat) (a v : Nat) : Nat → Nat := fun b => cond (Nat.beq b a) v (f b)
theorem setA_s (f : Nat → Nat) (a v : Nat) : setA f a v a = v := by simp [setA]
theorem setA_n (f : Nat → Nat) {a b : Nat} (v : Nat) (h : b ≠ a) : setA f a v b = f b := by unfold setA; rw [beq_ne h]; rfl
def zC (σ : HS) (a : Nat) : HS := (fun b => cond (Nat.beq b a) (fun _ => 0) (σ.1 b), fun b => cond (Nat.beq b a) (fun _ => 0) (σ.2 b))
def stC (σ : HS) (a : Nat) (f : Nat → Int32) : HS := (fun b => cond (Nat.beq b a) f (σ.1 b), σ.2)
def refs : Nat → List Nat
  | 0 => [1, 2, 3, 4, 5, 6, 7, 8]
  | 1 => [9]
  | 2 => [1, 10, 11, 12, 13, 14]
  | 3 => [1, 2, 15, 16]
  | 4 => []
  | 20 => [21, 22, 23, 24, 25, 26, 27, 28, 29]
  | _ => []
theorem cel_cong2 {E : EV} {ad ad1 n n1 : Nat → Nat} {σ σ1 : HS} (b : Nat) (hr : ∀ c ∈ refs b, ad1 c = ad c) (hn : n1 b = n b) (h1 : σ1.1 b = σ.1 b) (h2 : σ1.2 b = σ.2 b) : cel E ad1 n1 b σ1 = cel E ad n b σ := by
  match b, hr, hn, h1, h2 with
  | 0, hr, hn, h1, h2 => rw [cel_0, cel_0, hr 1 (by decide), hr 2 (by decide), hr 3 (by decide), hr 4 (by decide), hr 5 (by decide), hr 6 (by decide), hr 7 (by decide), hr 8 (by decide)]; (try rw [h1])
  | 1, hr, hn, h1, h2 => rw [cel_1, cel_1, hr 9 (by decide)]; (try rw [h1])
  | 2, hr, hn, h1, h2 => rw [cel_2, cel_2, hr 1 (by decide), hr 10 (by decide), hr 11 (by decide), hr 12 (by decide), hr 13 (by decide), hr 14 (by decide)]; (try rw [h1])
  | 3, hr, hn, h1, h2 => rw [cel_3, cel_3, hr 1 (by decide), hr 2 (by decide), hr 15 (by decide), hr 16 (by decide)]; (try rw [h1])
  | 4, hr, hn, h1, h2 => rw [cel_4, cel_4]; (try rw [h1])
  | 5, hr, hn, h1, h2 => rw [cel_5, cel_5, hn, h2]
  | 6, hr, hn, h1, h2 => rw [cel_6, cel_6, hn, h2]
  | 7, hr, hn, h1, h2 => rw [cel_7, cel_7, hn, h2]
  | 8, hr, hn, h1, h2 => rw [cel_8, cel_8, hn, h2]
  | 9, hr, hn, h1, h2 => rw [cel_9, cel_9, hn, h1]
  | 10, hr, hn, h1, h2 => rw [cel_10, cel_10, hn, h1]
  | 11, hr, hn, h1, h2 => rw [cel_11, cel_11, hn, h2]
  | 12, hr, hn, h1, h2 => rw [cel_12, cel_12, hn, h2]
  | 13, hr, hn, h1, h2 => rw [cel_13, cel_13, hn, h1]
  | 14, hr, hn, h1, h2 => rw [cel_14, cel_14, hn, h1]
  | 15, hr, hn, h1, h2 => rw [cel_15, cel_15, hn, h1]
  | 16, hr, hn, h1, h2 => rw [cel_16, cel_16, hn, h1]
  | 17, hr, hn, h1, h2 => rw [cel_17, cel_17, hn, h2]
  | 18, hr, hn, h1, h2 => rw [cel_18, cel_18, hn, h1]
  | 19, hr, hn, h1, h2 => rw [cel_19, cel_19, hn, h1]
  | 20, hr, hn, h1, h2 => rw [cel_20, cel_20, hr 21 (by decide), hr 22 (by decide), hr 23 (by decide), hr 24 (by decide), hr 25 (by decide), hr 26 (by decide), hr 27 (by decide), hr 28 (by decide), hr 29 (by decide)]; (try rw [h1])
  | 21, hr, hn, h1, h2 => rw [cel_21, cel_21, hn, h1]
  | 22, hr, hn, h1, h2 => rw [cel_22, cel_22, hn, h1]
  | 23, hr, hn, h1, h2 => rw [cel_23, cel_23, hn, h1]
  | 24, hr, hn, h1, h2 => rw [cel_24, cel_24, hn, h1]
  | 25, hr, hn, h1, h2 => rw [cel_25, cel_25, hn, h1]
  | 26, hr, hn, h1, h2 => rw [cel_26, cel_26, hn, h1]
  | 27, hr, hn, h1, h2 => rw [cel_27, cel_27, hn, h1]
  | 28, hr, hn, h1, h2 => rw [cel_28, cel_28, hn, h1]
  | 29, hr, hn, h1, h2 => rw [cel_29, cel_29, hn, h1]
  | 30, hr, hn, h1, h2 => rw [cel_30, cel_30, hn, h2]
  | b + 31, _, _, _, _ => rfl
/-- the cells of L don't lean on the cell a -/
def offC (a : Nat) (L : List Nat) : Bool := L.all (fun b => !(Nat.beq b a) && (refs b).all (fun c => !(Nat.beq c a)))
theorem offC_s {a : Nat} {L : List Nat} (h : offC a L = true) {b : Nat} (hb : b ∈ L) : b ≠ a ∧ ∀ c ∈ refs b, c ≠ a := by
  have h1 := List.all_eq_true.mp h b hb
  simp only [Bool.and_eq_true, Bool.not_eq_true', List.all_eq_true] at h1
  refine ⟨fun e => ?_, fun c hc e => ?_⟩
  · rw [e] at h1; simp at h1
  · have := h1.2 c hc; rw [e] at this; simp at this
theorem wl_same {E : EV} {ad ad1 n n1 : Nat → Nat} {L : List Nat} {σ σ1 : HS} {a : Nat} (hL : offC a L = true) (ha : ∀ b, b ≠ a → ad1 b = ad b) (hn : ∀ b, b ≠ a → n1 b = n b) (h1 : ∀ b, b ≠ a → σ1.1 b = σ.1 b) (h2 : ∀ b, b ≠ a → σ1.2 b = σ.2 b) : wl E ad1 n1 L σ1 = wl E ad n L σ := by
  unfold wl
  refine List.map_congr_left (fun b hb => ?_)
  obtain ⟨g1, g2⟩ := offC_s hL hb
  rw [ha b g1, cel_cong2 b (fun c hc => ha c (g2 c hc)) (hn b g1) (h1 b g1) (h2 b g1)]
theorem wl_grow {E : EV} {ad ad1 n n1 : Nat → Nat} {L : List Nat} {σ σ1 : HS} {a q : Nat} {e : va_E} (hL : offC a L = true) (hq : ad1 a = q) (ha : ∀ b, b ≠ a → ad1 b = ad b) (hn : ∀ b, b ≠ a → n1 b = n b) (h1 : ∀ b, b ≠ a → σ1.1 b = σ.1 b) (h2 : ∀ b, b ≠ a → σ1.2 b = σ.2 b) (he : cel E ad1 n1 a σ1 = e) : wl E ad n L σ ++ [(q, e)] = wl E ad1 n1 (L ++ [a]) σ1 := by
  rw [← wl_same (E := E) hL ha hn h1 h2]
  unfold wl
  rw [List.map_append, List.map_cons, List.map_nil, hq, he]
theorem zC_1 {σ : HS} {a : Nat} : ∀ b, b ≠ a → (zC σ a).1 b = σ.1 b := fun b h => by show cond (Nat.beq b a) _ _ = _; rw [beq_ne h]; rfl
theorem zC_2 {σ : HS} {a : Nat} : ∀ b, b ≠ a → (zC σ a).2 b = σ.2 b := fun b h => by show cond (Nat.beq b a) _ _ = _; rw [beq_ne h]; rfl
theorem stC_1 {σ : HS} {a : Nat} {f : Nat → Int32} : ∀ b, b ≠ a → (stC σ a f).1 b = σ.1 b := fun b h => by show cond (Nat.beq b a) _ _ = _; rw [beq_ne h]; rfl
def CxI (E : EV) (p : Program) (s : State) (m : MethodId) (args : Array Value) (meth : Method) (c : Code) (cc : ByteArray) (own : String) (nL : Nat) : Prop := Cx E p s m args meth c cc own none nL ∧ meth.name = "<init>"
set_option maxHeartbeats 1000000 in
theorem entC {l : Launch} {E : EV} {y : MethodName} {cc : ByteArray} {maxL : Nat} {rm : Room} {av : List Value} {w : va_W} {Qc : Array Value → State → Outcome → State → Prop} {mc ms sz : Nat} (hy : plainName y.cls = true) (hin : y.name = "<init>") (hlen : (lg_sl av).length ≤ maxL)
    (body : ∀ (p : Program) (e : Env) (s : State) (m : MethodId) (below : List Frame) (meth : Method) (c : Code), s.heap.size = sz → CxI E p s m av.toArray meth c cc y.cls maxL → Wo E (va_A w sz) s.heap w s.heap [] → ∀ ls : Array Slot, lv_has ls maxL (lv_args 0 av) →
      W p l e rm s m av.toArray below meth c s.heap [] 0 0 (MQ below Qc av.toArray s mc ms (va_A w sz)) (F0 m 0 ls [])) : Met l y (.code y cc maxL none :: ltb) rm (va_Pc av (preW E w sz)) Qc mc ms (va_A w sz) := by
  refine Met.ofW (cc := cc) (maxL := maxL) (ret := none) hy rfl ?_
  intro p e s m args below meth c s₁ B hml hv
  obtain ⟨rfl, hsz, hP, hK, hD0⟩ := hv
  have hts := atoms_spec (ws := .code y cc maxL none :: ltb) B.pre
  have hown : s.vm.findClass y.cls = some m.cls := findClass_of_methodNamed B.named
  rw [lg_entry_eq]
  have hl := lv_entry av hlen
  subst hsz
  exact body p e s m below meth c rfl ⟨⟨⟨B.exec, B.bytes, hml, hown, fun w h => hts w (List.mem_cons_of_mem _ h)⟩, B.returns, B.notSynchronized, hK⟩, (name_of_methodNamed B.named B.method).1.trans hin⟩ ⟨hP, hD0.self, va_S.rf, fun q h => Or.inr h⟩ _ hl
section CR
variable {p : Program} {l : Launch} {e : Env} {R : Room} {s : State} {m : MethodId} {args : Array Value} {below : List Frame} {meth : Method} {c : Code} {H : Heap} {locs : List Loc} {cells slots : Nat} {Q : State → Prop}
variable {E : EV} {A : Nat → Prop} {H0 : Heap} {w w' : va_W} {cc : ByteArray} {own : String} {ret : Option FieldType} {nL pc : Nat} {ls : Array Slot} {rest : List Value} {a : Nat}
theorem c_obj {idx : Nat} (cx : Cx E p s m args meth c cc own ret nL) (hl : Cond.methodLink own idx ⟨"java/lang/Object", "<init>", "()V"⟩ ∈ ltb) (hsz : ls.size = nL) (hR : 1 ≤ R.frames ∧ 20 ≤ R.locals) (hW : (rest.map fun v => v.category).sum ≤ 8) (hdg : decode cc pc = .ok (.invokespecial idx, 3))
    (kk : W p l e R s m args below meth c H locs cells slots Q (F0 m (pc + 3) ls rest)) : W p l e R s m args below meth c H locs cells slots Q (F0 m pc ls (.ref a :: rest)) := by
  have hts := cx.1.2.2.2.2
  refine W.objInit (g := F0 m pc ls (.ref a :: rest)) cx.1.1 cx.1.2.1 cx.1.2.2.2.1 (hts _ hl) (hts _ wi_OB_init) (hts _ wo_OB_init) rfl (hsz.trans cx.1.2.2.1.symm) rfl hdg hR.1 ?_ kk
  have h9 := lv_room (m := m) (pc := pc) (ls := ls) (rest := .ref a :: rest) hW
  omega
theorem r_putF (cx : Cx E p s m args meth c cc own ret nL) (hi : meth.name = "<init>") (wo : Wo E A H0 w H locs) (q0 : Nat) {ci N index : Nat} {C : String} {T : u_T} {fs : List Value} {v : Value} (he : w[q0]? = some (a, .inr (ci, fs))) (hc : cls6[ci]? = some (C, T, N)) (hin : ∀ w ∈ u_ws C T N, w ∈ ltb) (ty0 : Nat → FieldType) (hty : ∀ k, k < N → parseFieldDescriptor (T k).2.2.1 = some (ty0 k)) (hnm : ∀ a, a < N → ∀ b, b < N → a ≠ b → (T a).2.1 ≠ (T b).2.1) (k : Nat) (hk : k < N) (hl : Cond.fieldLink own index (T k).1 (T k).2.1 (T k).2.2.1 ∈ ltb) (hfin : (T k).2.2.2 = true) (hdecl : (T k).1 = own) (hn : narrow (ty0 k) v = v) (hfit : fits (ty0 k) v = true) (hlen : k < fs.length) (hw : w.set q0 (a, .inr (ci, fs.set k v)) = w') (hdg : decode cc pc = .ok (.putfield index, 3))
    (kk : ∀ (H1 : Heap) (locs1 : List Loc), Wo E A H0 w' H1 locs1 → W p l e R s m args below meth c H1 locs1 cells slots Q (F0 m (pc + 3) ls rest)) : W p l e R s m args below meth c H locs cells slots Q (F0 m pc ls (v :: .ref a :: rest)) := by
  subst hw
  exact va_putF cx.1.1 cx.1.2.1 cx.1.2.2.2.2 hin ty0 hty hnm cx.1.2.2.2.1 cx.2.2.2.1 wo.1 wo.2.1 wo.2.2.1 q0 he hc k hk (cx.1.2.2.2.2 _ hl) (fun _ h => h) hfin hi hdecl (hty k hk) hn hfit hlen hdg (fun H1 l1 a b c => kk H1 l1 ⟨a, b, c, wo.2.2.2⟩)
theorem RA_eq {ty : FieldType} (hp : refKind ty = false) {c1 c2 : ClassId} (h1 : va_RA s c1 ty) (h2 : va_RA s c2 ty) : c1 = c2 := by
  cases ty with
  | object C => cases hp
  | _ => exact Option.some.inj (h1.symm.trans h2)
theorem c_newa (cx : Cx E p s m args meth c cc own ret nL) (wo : Wo E A H0 w H locs) {x : Int32} {N B : Nat} (atype : ArrayType) (ty : FieldType) (hty : newarray.typeOf atype = ty) (harr : Cond.arrayClass ty ∈ ltb) (hp : refKind ty = false) (t0 : Nat) {cA : ClassId} (ht : (tyE E)[t0]? = some (cA, ty)) {a0 : vp_A} (ha : ∀ cA : ClassId, vp_cell cA a0 = arrV cA N (fun _ => defaultValue ty)) (hx0 : ¬ x < 0) (hN : x.toNatClampNeg = N) (hB : N ≤ B) (hcb : componentBytes ty ≤ 8) (hB2 : B ≤ 1000000) (hcells : cells + 1 ≤ R.cells) (hslots : slots + B ≤ R.slots) (hdg : decode cc pc = .ok (.newarray atype, 2))
    (kk : ∀ (q : Nat) (H1 : Heap), Wo E A H0 (w ++ [(q, .inl (cA, a0))]) H1 locs → W p l e R s m args below meth c H1 locs (cells + 1) (slots + B) Q (F0 m (pc + 2) ls (.ref q :: rest))) : W p l e R s m args below meth c H locs cells slots Q (F0 m pc ls (.int x :: rest)) := by
  have hts := cx.1.2.2.2.2
  refine va_newa cx.1.1 cx.1.2.1 (by rw [hty]; exact hts _ harr) hty cx.2.2.2.1 wo.1 wo.2.1 wo.2.2.1 wo.2.2.2 (N' := N) ha hx0 hN ?_ hcells (by omega) hdg (fun q cB H1 hK hP hD hS => ?_)
  · calc N * componentBytes ty ≤ 1000000 * 8 := Nat.mul_le_mul (by omega) hcb
      _ ≤ 536870912 := by decide
  · have e1 : cB = cA := by
      have h1 := (hK.2 4 (cB, ty) rfl).2
      have h2 := (cx.2.2.2.1.2 t0 _ ht).2
      exact RA_eq hp h1 h2
    subst e1
    refine W.widen (k := cells + 1) (n := slots + B) (Nat.le_refl _) (by omega) ?_
    exact kk q H1 ⟨hP, hD, hS, wo.2.2.2⟩
theorem c_new (cx : Cx E p s m args meth c cc own ret nL) (wo : Wo E A H0 w H locs) {C : String} {T : u_T} {N ci index : Nat} (hin : ∀ w ∈ u_ws C T N, w ∈ ltb) (ty : Nat → FieldType) (hty : ∀ k, k < N → parseFieldDescriptor (T k).2.2.1 = some (ty k)) (hcl : Cond.classLink own index C ∈ ltb) (hinst : Cond.instantiable C N ∈ ltb) (hini : Cond.initialized C ∈ ltb) (hc : cls6[ci]? = some (C, T, N)) {fs : List Value} (hfs : ∀ j, j < N → defaultValue (ty j) = vp_V fs j) (hcells : cells + 1 ≤ R.cells) (hslots : slots + N ≤ R.slots) (hdg : decode cc pc = .ok (.new index, 3))
    (kk : ∀ (q : Nat) (H1 : Heap), Wo E A H0 (w ++ [(q, .inr (ci, fs))]) H1 locs → W p l e R s m args below meth c H1 locs (cells + 1) (slots + N) Q (F0 m (pc + 3) ls (.ref q :: rest))) : W p l e R s m args below meth c H locs cells slots Q (F0 m pc ls rest) :=
  va_new cx.1.1 cx.1.2.1 cx.1.2.2.2.2 hin ty hty cx.1.2.2.2.1 (cx.1.2.2.2.2 _ hcl) (cx.1.2.2.2.2 _ hinst) (cx.1.2.2.2.2 _ hini) cx.2.2.2.1 wo.1 wo.2.1 wo.2.2.1 wo.2.2.2 hc hfs hcells hslots hdg (fun q H1 a b d => kk q H1 ⟨a, b, d, wo.2.2.2⟩)
theorem Wo.sub {is : List Nat} (wo : Wo E A H0 w H locs) (hn : va_nd is = true) (hs : is.map (fun i => w[i]?) = w'.map some) : Wo E A H0 w' H locs := by
  refine ⟨fun k q hk => ?_, wo.2.1.sub is hn hs, wo.2.2.1, wo.2.2.2⟩
  have h1 : (is.map (fun i => w[i]?))[k]? = some (some q) := by rw [hs, List.getElem?_map, hk]; rfl
  rw [List.getElem?_map] at h1
  cases hi : is[k]? with
  | none => rw [hi] at h1; cases h1
  | some i => rw [hi] at h1; exact wo.1 i q (Option.some.inj h1)
end CR

