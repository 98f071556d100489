/-- a loop that seeks -/
theorem lp_find {β : Type} {L : Nat → Int32 → Option β} {f : Nat → Bool} {e : Option β} {v : Nat → Option β} {N lo : Nat}
    (h0 : ∀ k, L (k + 1) (nI N) = e) (h1 : ∀ k i, lo ≤ i → i < N → f i = false → L (k + 1) (nI i) = L k (nI (i + 1))) (h2 : ∀ k i, lo ≤ i → i < N → f i = true → L (k + 1) (nI i) = v i) :
    ∀ m a k, lo ≤ a → a + m = N → m < k → L k (nI a) = match srch f m a with | none => e | some i => v i := by
  intro m
  induction m with
  | zero =>
    intro a k hlo ha hk
    obtain ⟨k, rfl⟩ : ∃ j, k = j + 1 := ⟨k - 1, by omega⟩
    have : a = N := by omega
    subst this
    exact h0 k
  | succ m ih =>
    intro a k hlo ha hk
    obtain ⟨k, rfl⟩ : ∃ j, k = j + 1 := ⟨k - 1, by omega⟩
    rw [srch]
    cases hf : f a with
    | true => rw [h2 k a hlo (by omega) hf]; rfl
    | false => rw [h1 k a hlo (by omega) hf, ih (a + 1) k (by omega) (by omega) (by omega)]; rfl
def rbr (D N : Nat) (hd : Nat → Nat → Nat) (pl : Nat → Nat → Option Nat) (live : Nat → Bool) (row : Nat) : Bool := (ffs D N hd pl live row).isSome && (frb N hd pl live row).isSome
/-- the first row where a lost position can be rebuilt -/
def rbs (D N R : Nat) (hd : Nat → Nat → Nat) (pl : Nat → Nat → Option Nat) (live : Nat → Bool) : Option Nat := srch (rbr D N hd pl live) R 0
def pm1 (b : Bool) : Int32 := if b = true then 1 else -1
section MRB
variable {D W R G : Nat} {hd : Nat → Nat → Nat} {F : Nat} {n : Nat → Nat} {σ : HS} {s : PS} {pl : Nat → Nat → Option Nat} {live : Nat → Bool}
theorem ffs_lt (ge : Geo D W R G hd) {row d : Nat} (h : ffs D (W * G) hd pl live row = some d) : d < D ∧ fre (W * G) pl live row d = true ∧ ∃ q, W * G ≤ q ∧ q < D ∧ hd row q = d := by
  obtain ⟨⟨_, _⟩, ⟨_, _, _⟩, ⟨_, _⟩, ⟨_, _⟩, ⟨_, _⟩, _, _, _, _⟩ := ge.num
  unfold ffs at h
  cases hs : srch (fun q => fre (W * G) pl live row (hd row q)) (D - W * G) (W * G) with
  | none => rw [hs] at h; cases h
  | some q =>
    rw [hs] at h
    cases h
    obtain ⟨h1, h2, h3, h4⟩ := srch_some hs
    exact ⟨ge.2.2.2.2.1 row q, h3, q, h1, by omega, rfl⟩
theorem frb_at {row p : Nat} (h : frb (W * G) hd pl live row = some p) : p < W * G ∧ pl row p = none ∧ live (hd row p) = false := by
  obtain ⟨h1, h2, h3, h4⟩ := srch_some h
  obtain ⟨h5, h6⟩ := Bool.and_eq_true_iff.mp h3
  refine ⟨by omega, of_decide_eq_true h5, ?_⟩
  revert h6
  cases live (hd row p) <;> simp
/-- the place of a position changes -/
theorem MR.place (gn : GN D W R G) (mr : MR D W R G hd live pl s σ) {row p : Nat} (hr : row < R) (hp : p < W * G) (x : Option Nat) : MR D W R G hd live (setP pl row p x) s (stI σ 26 (16 * row + p) (pI x)) := by
  obtain ⟨⟨_, _⟩, ⟨_, _, _⟩, ⟨_, _⟩, ⟨_, _⟩, ⟨_, _⟩, _, _, _, _⟩ := gn
  obtain ⟨m1, m2, m3, m4, m5, m6, m7, m8⟩ := mr
  refine ⟨m1.congr (fun j _ => by rw [stI_1 20 (by decide)]) (stI_1 21 (by decide)), fun d hd => ?_, m3.congr (stI_1 23 (by decide)) (stI_1 24 (by decide)) (stI_1 25 (by decide)), fun ho r q hr1 hq => ?_, ?_, ?_, ?_, m8⟩
  · rw [stI_1 22 (by decide)]; exact m2 d hd
  · rw [stI_s, upd_a]
    unfold setP
    by_cases e : r = row ∧ q = p
    · rw [if_pos (by rw [e.1, e.2]), if_pos e]
    · rw [if_neg (by omega), if_neg e]; exact m4 ho r q hr1 hq
  · rw [stI_1 20 (by decide)]; exact m5
  · rw [stI_1 20 (by decide)]; exact m6
  · rw [stI_1 20 (by decide)]; exact m7
theorem MR.anyp (mr : MR D W R G hd live pl s σ) (h : s.2.1 = false) (pl' : Nat → Nat → Option Nat) : MR D W R G hd live pl' s σ := by
  obtain ⟨m1, m2, m3, m4, m5, m6, m7, m8⟩ := mr
  exact ⟨m1, m2, m3, fun z => (by rw [h] at z; cases z), m5, m6, m7, m8⟩
theorem FG.stI {σ : HS} (a i : Nat) (v : Int32) (h : a ≠ 20) : FG [a] [] σ (stI σ a i v) := ⟨fun b e _ => stI_1 b (fun z => e (by simp [z])), rfl, fun j _ => by rw [stI_1 20 (fun z => h z.symm)]⟩
theorem e_MD_reb24 (cx : Ctx D W R G hd n F) (mr : MR D W R G hd live pl s σ) (on : s.2.1 = true) (lk : LK live s.1) (kw : KW D R s.1) (pw : PW D R (W * G) pl) : (rbs D (W * G) R hd pl live = none → D_MD_rebuild_L24 F n F σ (nI 0) = some (Sum.inl σ)) ∧ ∀ row d p (P : Nat → Int64), rbs D (W * G) R hd pl live = some row → ffs D (W * G) hd pl live row = some d → frb (W * G) hd pl live row = some p → ∃ τ, D_MD_rebuild_L24 F n F σ (nI 0) = some (Sum.inr (τ, pm1 (aput s d row (p + 1, P, zr)).2)) ∧ FG [23, 24, 25, 26] [12, 13, 14] σ τ ∧ MR D W R G hd live (setP pl row p (some d)) (aput s d row (p + 1, P, zr)).1 τ := by
  obtain ⟨ge, ln, hF⟩ := id cx
  have gn := ge.num
  have hh := ge.2.2.2.2.1
  obtain ⟨⟨_, _⟩, ⟨_, _, _⟩, ⟨_, _⟩, ⟨_, _⟩, ⟨_, _⟩, _, _, _, _⟩ := id gn
  have n26 : n 26 = 1024 := ln.2.2.2.2.2.2.1
  have n22 : n 22 = 16 := ln.2.2.1
  have mb := mr.mb cx lk kw (fun _ => pw)
  rw [epl_on on] at mb
  have i40 : ∀ row d, row < R → ffs D (W * G) hd pl live row = some d → D_MD_rebuild_L40 F n (nI d) (nI row) F σ (nI 0) = match srch (fun p => decide (pl row p = none) && !live (hd row p)) (W * G) 0 with | none => some (Sum.inl σ) | some p => ((D_MD_puts F n σ (nI d) (nI row) (nI (p + 1))).bind (fun (qx24 : HS × Int32) => (if qx24.2 = 0 then some (Sum.inr (qx24.1, (-1 : Int32))) else some (Sum.inr (stI qx24.1 26 (16 * row + p) (nI d), (1 : Int32)))))) := by
    intro row d hr hd1
    have hdl := (ffs_lt ge hd1).1
    have body : ∀ k p, p < W * G → D_MD_rebuild_L40 F n (nI d) (nI row) (k + 1) σ (nI p) = if (decide (pl row p = none) && !live (hd row p)) = true then ((D_MD_puts F n σ (nI d) (nI row) (nI (p + 1))).bind (fun (qx24 : HS × Int32) => (if qx24.2 = 0 then some (Sum.inr (qx24.1, (-1 : Int32))) else some (Sum.inr (stI qx24.1 26 (16 * row + p) (nI d), (1 : Int32)))))) else D_MD_rebuild_L40 F n (nI d) (nI row) k σ (nI (p + 1)) := by
      intro k p hp
      have hdp := hh row p
      rw [D_MD_rebuild_L40, mr.1.1.2.1, mr.1.1.2.2.2, pk_mul, if_neg (by rw [nI_leI (by omega) (by omega)]; omega), if_neg (nI_pos (by omega)), mb.2.2.2.2.2.1 row p hr hp, Option.bind_some, show (16 : Int32) = nI 16 from rfl, pk_mul, nI_add, e_MD_diskOf cx mr.1 (by omega) (by omega)]
      simp only [nm_q, nm2_q, nI_1, Option.bind_some]
      simp only [grd_in (show 16 * row + p < n 26 by omega) (show 16 * row + p < 2 ^ 31 by omega), nI_clamp (show 16 * row + p < 2 ^ 31 by omega)]
      rw [grd_in (by omega) (by omega), nI_clamp (by omega), mr.2.1 _ hdp]
      by_cases e : pl row p = none
      · rw [if_neg (fun z => (pI_nneg (mb.small gn hr hp)).mp z e), decide_eq_true e, Bool.true_and, z_if]
        cases live (hd row p) <;> rfl
      · rw [if_pos ((pI_nneg (mb.small gn hr hp)).mpr e), decide_eq_false e, Bool.false_and, if_neg (by decide)]
    exact lp_find (L := fun k x => D_MD_rebuild_L40 F n (nI d) (nI row) k σ x) (f := fun p => decide (pl row p = none) && !live (hd row p)) (N := W * G) (lo := 0) (e := some (Sum.inl σ)) (v := fun p => ((D_MD_puts F n σ (nI d) (nI row) (nI (p + 1))).bind (fun (qx24 : HS × Int32) => (if qx24.2 = 0 then some (Sum.inr (qx24.1, (-1 : Int32))) else some (Sum.inr (stI qx24.1 26 (16 * row + p) (nI d), (1 : Int32)))))))
      (fun k => by show D_MD_rebuild_L40 F n (nI d) (nI row) (k + 1) σ (nI (W * G)) = _; rw [D_MD_rebuild_L40, mr.1.1.2.1, mr.1.1.2.2.2, pk_mul, if_pos (Int32.le_refl _)])
      (fun k p _ hp hf => by show D_MD_rebuild_L40 F n (nI d) (nI row) (k + 1) σ (nI p) = _; rw [body k p hp, if_neg (by rw [hf]; decide)])
      (fun k p _ hp hf => by show D_MD_rebuild_L40 F n (nI d) (nI row) (k + 1) σ (nI p) = _; rw [body k p hp, if_pos hf])
      (W * G) 0 F (Nat.zero_le _) (by omega) (by omega)
  have i40n : ∀ row, D_MD_rebuild_L40 F n (-1) (nI row) F σ (nI 0) = some (Sum.inl σ) := by
    intro row
    obtain ⟨k, hk⟩ : ∃ k, F = k + 1 := ⟨F - 1, by omega⟩
    have : ∀ F1, D_MD_rebuild_L40 F1 n (-1) (nI row) F σ (nI 0) = some (Sum.inl σ) := by
      intro F1
      rw [hk, D_MD_rebuild_L40, if_pos (show (-1 : Int32) < 0 by decide)]
      split <;> rfl
    exact this F
  have hfs := fun row (hr : row < R) => e_MD_freeSpare cx mb hr
  have key := lp_find (L := fun k x => D_MD_rebuild_L24 F n k σ x) (f := rbr D (W * G) hd pl live) (N := R) (lo := 0) (e := some (Sum.inl σ)) (v := fun row => match ffs D (W * G) hd pl live row, frb (W * G) hd pl live row with | some d, some p => ((D_MD_puts F n σ (nI d) (nI row) (nI (p + 1))).bind (fun (qx24 : HS × Int32) => (if qx24.2 = 0 then some (Sum.inr (qx24.1, (-1 : Int32))) else some (Sum.inr (stI qx24.1 26 (16 * row + p) (nI d), (1 : Int32)))))) | _, _ => none)
    (fun k => by show D_MD_rebuild_L24 F n (k + 1) σ (nI R) = _; rw [D_MD_rebuild_L24, mr.1.1.2.2.1, if_pos (Int32.le_refl _)])
    (fun k row _ hr hf => by
      show D_MD_rebuild_L24 F n (k + 1) σ (nI row) = _
      rw [D_MD_rebuild_L24, mr.1.1.2.2.1, if_neg (by rw [nI_leI (by omega) (by omega)]; omega), hfs row hr, Option.bind_some]
      unfold rbr at hf
      cases h1 : ffs D (W * G) hd pl live row with
      | none => rw [show pI none = -1 from rfl, ← nI_0, i40n row, Option.bind_some]; simp only [nm_q, nI_1]
      | some d =>
        have h2 : frb (W * G) hd pl live row = none := by
          rw [h1] at hf
          cases h2 : frb (W * G) hd pl live row with
          | none => rfl
          | some p => rw [h2] at hf; cases hf
        have := i40 row d hr h1
        rw [show srch (fun p => decide (pl row p = none) && !live (hd row p)) (W * G) 0 = none from h2] at this
        rw [show pI (some d) = nI d from rfl, ← nI_0, this, Option.bind_some]; simp only [nm_q, nI_1])
    (fun k row _ hr hf => by
      show D_MD_rebuild_L24 F n (k + 1) σ (nI row) = _
      rw [D_MD_rebuild_L24, mr.1.1.2.2.1, if_neg (by rw [nI_leI (by omega) (by omega)]; omega), hfs row hr, Option.bind_some]
      unfold rbr at hf
      cases h1 : ffs D (W * G) hd pl live row with
      | none => rw [h1] at hf; cases hf
      | some d =>
        cases h2 : frb (W * G) hd pl live row with
        | none => rw [h1, h2] at hf; cases hf
        | some p =>
          have := i40 row d hr h1
          rw [show srch (fun p => decide (pl row p = none) && !live (hd row p)) (W * G) 0 = some p from h2] at this
          rw [show pI (some d) = nI d from rfl, ← nI_0, this]
          show Option.bind (Option.bind (D_MD_puts F n σ (nI d) (nI row) (nI (p + 1))) _) _ = Option.bind (D_MD_puts F n σ (nI d) (nI row) (nI (p + 1))) _
          cases D_MD_puts F n σ (nI d) (nI row) (nI (p + 1)) with
          | none => rfl
          | some q =>
            show Option.bind (if q.2 = 0 then _ else _) _ = (if q.2 = 0 then _ else _)
            by_cases e : q.2 = 0
            · rw [if_pos e]; rfl
            · rw [if_neg e]; rfl)
    R 0 F (Nat.zero_le _) (by omega) (by omega)
  have key : D_MD_rebuild_L24 F n F σ (nI 0) = match rbs D (W * G) R hd pl live with | none => some (Sum.inl σ) | some row => match ffs D (W * G) hd pl live row, frb (W * G) hd pl live row with | some d, some p => ((D_MD_puts F n σ (nI d) (nI row) (nI (p + 1))).bind (fun (qx24 : HS × Int32) => (if qx24.2 = 0 then some (Sum.inr (qx24.1, (-1 : Int32))) else some (Sum.inr (stI qx24.1 26 (16 * row + p) (nI d), (1 : Int32)))))) | _, _ => none := key
  refine ⟨fun h => by rw [key, h], fun row d p P h h1 h2 => ?_⟩
  rw [h] at key
  have key : D_MD_rebuild_L24 F n F σ (nI 0) = match ffs D (W * G) hd pl live row, frb (W * G) hd pl live row with | some d, some p => ((D_MD_puts F n σ (nI d) (nI row) (nI (p + 1))).bind (fun (qx24 : HS × Int32) => (if qx24.2 = 0 then some (Sum.inr (qx24.1, (-1 : Int32))) else some (Sum.inr (stI qx24.1 26 (16 * row + p) (nI d), (1 : Int32)))))) | _, _ => none := key
  rw [h1, h2] at key
  have key : D_MD_rebuild_L24 F n F σ (nI 0) = (D_MD_puts F n σ (nI d) (nI row) (nI (p + 1))).bind (fun (qx24 : HS × Int32) => (if qx24.2 = 0 then some (Sum.inr (qx24.1, (-1 : Int32))) else some (Sum.inr (stI qx24.1 26 (16 * row + p) (nI d), (1 : Int32))))) := key
  have hr : row < R := by obtain ⟨_, z, _⟩ := srch_some h; omega
  obtain ⟨τ, t1, t2, t3⟩ := e_MD_puts (t := p + 1) cx mr (ffs_lt ge h1).1 (show row ≤ R by omega) P
  rw [key, t1, Option.bind_some]
  show ∃ τ1, (if b2i (aput s d row (p + 1, P, zr)).2 = 0 then _ else _) = _ ∧ _
  rw [z_if]
  cases hb : (aput s d row (p + 1, P, zr)).2 with
  | false =>
    rw [if_neg (by decide)]
    exact ⟨τ, rfl, t2.fg.mono (by simp) (by simp), t3.anyp (by rw [aput_off hb]) _⟩
  | true =>
    rw [if_pos rfl]
    exact ⟨_, rfl, (t2.fg.mono (by simp) (by simp)).tr ((FG.stI 26 _ _ (by decide)).mono (by simp) (by simp)), t3.place gn hr (frb_at h2).1 (some d)⟩
/-- copying back, of the position that it takes -/
def aCpy (s : PS) (hm row p : Nat) (old : Option Nat) (P : Nat → Int64) : PS × Bool := andT (aput s hm row (p + 1, P, zr)) (fun s1 => match old with | none => (s1, true) | some d0 => aput s1 d0 row (0, zr, zr))
theorem fcb_at {K : Rk} {row p : Nat} (h : fcb R (W * G) hd live K = some (row, p)) : row < R ∧ p < W * G ∧ cbk hd live K row p = true := by
  unfold fcb at h
  cases h1 : srch (fun r => (srch (cbk hd live K r) (W * G) 0).isSome) R 0 with
  | none => rw [h1] at h; cases h
  | some r =>
    rw [h1] at h
    have h : (srch (cbk hd live K r) (W * G) 0).map (fun p => (r, p)) = some (row, p) := h
    cases h2 : srch (cbk hd live K r) (W * G) 0 with
    | none => rw [h2] at h; cases h
    | some q =>
      rw [h2] at h
      cases h
      obtain ⟨_, a2, _⟩ := srch_some h1
      obtain ⟨_, b2, b3, _⟩ := srch_some h2
      exact ⟨by omega, by omega, b3⟩
theorem e_MD_cpy24 (cx : Ctx D W R G hd n F) (mr : MR D W R G hd live pl s σ) (on : s.2.1 = true) (lk : LK live s.1) (kw : KW D R s.1) (pw : PW D R (W * G) pl) : (fcb R (W * G) hd live s.1 = none → D_MD_copyBack_L24 F n F σ (nI 0) = some (Sum.inl σ)) ∧ ∀ row p (P : Nat → Int64), fcb R (W * G) hd live s.1 = some (row, p) → ∃ τ, D_MD_copyBack_L24 F n F σ (nI 0) = some (Sum.inr (τ, pm1 (aCpy s (hd row p) row p (pl row p) P).2)) ∧ FG [23, 24, 25, 26] [12, 13, 14] σ τ ∧ MR D W R G hd live (setP pl row p (some (hd row p))) (aCpy s (hd row p) row p (pl row p) P).1 τ := by
  obtain ⟨ge, ln, hF⟩ := id cx
  have gn := ge.num
  have hh := ge.2.2.2.2.1
  obtain ⟨⟨_, _⟩, ⟨_, _, _⟩, ⟨_, _⟩, ⟨_, _⟩, ⟨_, _⟩, _, _, _, _⟩ := id gn
  have n26 : n 26 = 1024 := ln.2.2.2.2.2.2.1
  have n22 : n 22 = 16 := ln.2.2.1
  have n23 : n 23 = 1040 := ln.2.2.2.1
  have mb := mr.mb cx lk kw (fun _ => pw)
  rw [epl_on on] at mb
  -- what is done at the position
  have act : ∀ row p (P : Nat → Int64), row < R → p < W * G → ∃ τ, ((D_MD_puts F n σ (nI (hd row p)) (nI row) (nI (p + 1))).bind (fun (qx24 : HS × Int32) => (if qx24.2 = 0 then some (Sum.inr (qx24.1, (-1 : Int32))) else (if pI (pl row p) < 0 then some (Sum.inr (stI qx24.1 26 (16 * row + p) (nI (hd row p)), (1 : Int32))) else (D_MD_puts F n (stI qx24.1 26 (16 * row + p) (nI (hd row p))) (pI (pl row p)) (nI row) 0).bind (fun (qx30 : HS × Int32) => (if qx30.2 = 0 then some (Sum.inr (qx30.1, (-1 : Int32))) else some (Sum.inr (qx30.1, (1 : Int32)))))))) : Option (HS ⊕ (HS × Int32))) = some (Sum.inr (τ, pm1 (aCpy s (hd row p) row p (pl row p) P).2)) ∧ FG [23, 24, 25, 26] [12, 13, 14] σ τ ∧ MR D W R G hd live (setP pl row p (some (hd row p))) (aCpy s (hd row p) row p (pl row p) P).1 τ := by
    intro row p P hr hp
    obtain ⟨τ, t1, t2, t3⟩ := e_MD_puts (t := p + 1) cx mr (hh row p) (show row ≤ R by omega) P
    rw [t1, Option.bind_some]
    show ∃ τ1, (if b2i (aput s (hd row p) row (p + 1, P, zr)).2 = 0 then _ else _) = _ ∧ _
    rw [z_if]
    unfold aCpy andT
    cases hb : (aput s (hd row p) row (p + 1, P, zr)).2 with
    | false =>
      rw [if_neg (by decide), if_neg (by decide), hb]
      exact ⟨τ, rfl, t2.fg.mono (by simp) (by simp), t3.anyp (by rw [aput_off hb]) _⟩
    | true =>
      rw [if_pos rfl, if_pos rfl]
      have mr1 := t3.place gn hr hp (some (hd row p))
      have f1 : FG [23, 24, 25, 26] [12, 13, 14] σ (stI τ 26 (16 * row + p) (nI (hd row p))) := (t2.fg.mono (by simp) (by simp)).tr ((FG.stI 26 _ _ (by decide)).mono (by simp) (by simp))
      cases ho : pl row p with
      | none =>
        rw [if_pos (by decide)]
        exact ⟨_, rfl, f1, mr1⟩
      | some d0 =>
        have hd0 := pw.1 row p d0 hr hp ho
        rw [show pI (some d0) = nI d0 from rfl, if_neg (nI_pos (by omega))]
        obtain ⟨υ, u1, u2, u3⟩ := e_MD_puts (t := 0) cx mr1 hd0 (show row ≤ R by omega) zr
        rw [show (0 : Int32) = nI 0 from rfl] at *
        rw [show stI τ 26 (16 * row + p) (nI (hd row p)) = stI τ 26 (16 * row + p) (pI (some (hd row p))) from rfl, u1, Option.bind_some]
        show ∃ τ1, (if b2i (aput (aput s (hd row p) row (p + 1, P, zr)).1 d0 row (0, zr, zr)).2 = 0 then _ else _) = _ ∧ _
        rw [z_if]
        refine ⟨υ, ?_, f1.tr (u2.fg.mono (by simp) (by simp)), u3⟩
        show _ = some (Sum.inr (υ, pm1 (aput (aput s (hd row p) row (p + 1, P, zr)).1 d0 row (0, zr, zr)).2))
        cases (aput (aput s (hd row p) row (p + 1, P, zr)).1 d0 row (0, zr, zr)).2 <;> rfl
  have body : ∀ row k p, row < R → p < W * G → D_MD_copyBack_L34 F n (nI row) (k + 1) σ (nI p) = if cbk hd live s.1 row p = true then ((D_MD_puts F n σ (nI (hd row p)) (nI row) (nI (p + 1))).bind (fun (qx24 : HS × Int32) => (if qx24.2 = 0 then some (Sum.inr (qx24.1, (-1 : Int32))) else (if pI (pl row p) < 0 then some (Sum.inr (stI qx24.1 26 (16 * row + p) (nI (hd row p)), (1 : Int32))) else (D_MD_puts F n (stI qx24.1 26 (16 * row + p) (nI (hd row p))) (pI (pl row p)) (nI row) 0).bind (fun (qx30 : HS × Int32) => (if qx30.2 = 0 then some (Sum.inr (qx30.1, (-1 : Int32))) else some (Sum.inr (qx30.1, (1 : Int32)))))))) : Option (HS ⊕ (HS × Int32))) else D_MD_copyBack_L34 F n (nI row) k σ (nI (p + 1)) := by
    intro row k p hr hp
    have hdp := hh row p
    rw [D_MD_copyBack_L34, mr.1.1.2.1, mr.1.1.2.2.2, pk_mul, if_neg (by rw [nI_leI (by omega) (by omega)]; omega), e_MD_diskOf cx mr.1 (by omega) (by omega), Option.bind_some, grd_in (by omega) (by omega), nI_clamp (by omega), mr.2.1 _ hdp, mb.2.2.2.2.2.1 row p hr hp, show (16 : Int32) = nI 16 from rfl, pk_mul, nI_add]
    simp only [nm_q, nm2_q, nI_1, Option.bind_some, e_MD_at]
    simp only [grd_in (show 16 * row + p < n 26 by omega) (show 16 * row + p < 2 ^ 31 by omega), nI_clamp (show 16 * row + p < 2 ^ 31 by omega)]
    unfold cbk
    cases hl : live (hd row p) with
    | false => rw [if_pos (by rfl), Bool.false_and, if_neg (by decide)]
    | true =>
      have hc := mr.2.2.1 (hd row p) row hdp (by omega) hl
      rw [if_neg (by decide), grd_in (by omega) (by omega), nI_clamp (by omega), Bool.true_and]
      cases hk : s.1 (hd row p) row with
      | none =>
        rw [hk] at hc
        rw [show σ.1 23 (65 * hd row p + row) = nI 0 from hc, if_pos (by rfl), if_pos (by rfl)]
      | some v =>
        rw [hk] at hc
        rw [show σ.1 23 (65 * hd row p + row) = nI 1 from hc.1, if_neg (by decide), if_neg (by simp)]
  have i34 : ∀ row, row < R → D_MD_copyBack_L34 F n (nI row) F σ (nI 0) = match srch (cbk hd live s.1 row) (W * G) 0 with | none => some (Sum.inl σ) | some p => ((D_MD_puts F n σ (nI (hd row p)) (nI row) (nI (p + 1))).bind (fun (qx24 : HS × Int32) => (if qx24.2 = 0 then some (Sum.inr (qx24.1, (-1 : Int32))) else (if pI (pl row p) < 0 then some (Sum.inr (stI qx24.1 26 (16 * row + p) (nI (hd row p)), (1 : Int32))) else (D_MD_puts F n (stI qx24.1 26 (16 * row + p) (nI (hd row p))) (pI (pl row p)) (nI row) 0).bind (fun (qx30 : HS × Int32) => (if qx30.2 = 0 then some (Sum.inr (qx30.1, (-1 : Int32))) else some (Sum.inr (qx30.1, (1 : Int32)))))))) : Option (HS ⊕ (HS × Int32))) := by
    intro row hr
    exact lp_find (L := fun k x => D_MD_copyBack_L34 F n (nI row) k σ x) (f := cbk hd live s.1 row) (N := W * G) (lo := 0) (e := some (Sum.inl σ)) (v := fun p => ((D_MD_puts F n σ (nI (hd row p)) (nI row) (nI (p + 1))).bind (fun (qx24 : HS × Int32) => (if qx24.2 = 0 then some (Sum.inr (qx24.1, (-1 : Int32))) else (if pI (pl row p) < 0 then some (Sum.inr (stI qx24.1 26 (16 * row + p) (nI (hd row p)), (1 : Int32))) else (D_MD_puts F n (stI qx24.1 26 (16 * row + p) (nI (hd row p))) (pI (pl row p)) (nI row) 0).bind (fun (qx30 : HS × Int32) => (if qx30.2 = 0 then some (Sum.inr (qx30.1, (-1 : Int32))) else some (Sum.inr (qx30.1, (1 : Int32)))))))) : Option (HS ⊕ (HS × Int32))))
      (fun k => by show D_MD_copyBack_L34 F n (nI row) (k + 1) σ (nI (W * G)) = _; rw [D_MD_copyBack_L34, mr.1.1.2.1, mr.1.1.2.2.2, pk_mul, if_pos (Int32.le_refl _)])
      (fun k p _ hp hf => by show D_MD_copyBack_L34 F n (nI row) (k + 1) σ (nI p) = _; rw [body row k p hr hp, if_neg (by rw [hf]; decide)])
      (fun k p _ hp hf => by show D_MD_copyBack_L34 F n (nI row) (k + 1) σ (nI p) = _; rw [body row k p hr hp, if_pos hf])
      (W * G) 0 F (Nat.zero_le _) (by omega) (by omega)
  have key := lp_find (L := fun k x => D_MD_copyBack_L24 F n k σ x) (f := fun r => (srch (cbk hd live s.1 r) (W * G) 0).isSome) (N := R) (lo := 0) (e := some (Sum.inl σ)) (v := fun row => D_MD_copyBack_L34 F n (nI row) F σ (nI 0))
    (fun k => by show D_MD_copyBack_L24 F n (k + 1) σ (nI R) = _; rw [D_MD_copyBack_L24, mr.1.1.2.2.1, if_pos (Int32.le_refl _)])
    (fun k row _ hr hf => by
      show D_MD_copyBack_L24 F n (k + 1) σ (nI row) = _
      have := i34 row hr
      cases h2 : srch (cbk hd live s.1 row) (W * G) 0 with
      | some p => rw [h2] at hf; cases hf
      | none =>
        rw [h2] at this
        rw [D_MD_copyBack_L24, mr.1.1.2.2.1, if_neg (by rw [nI_leI (by omega) (by omega)]; omega), ← nI_0, this, Option.bind_some]; simp only [nm_q, nI_1])
    (fun k row _ hr hf => by
      show D_MD_copyBack_L24 F n (k + 1) σ (nI row) = D_MD_copyBack_L34 F n (nI row) F σ (nI 0)
      have := i34 row hr
      cases h2 : srch (cbk hd live s.1 row) (W * G) 0 with
      | none => rw [h2] at hf; cases hf
      | some p =>
        rw [h2] at this
        obtain ⟨_, b2, _⟩ := srch_some h2
        obtain ⟨τ, a1, _⟩ := act row p zr hr (by omega)
        have this : D_MD_copyBack_L34 F n (nI row) F σ (nI 0) = _ := this.trans a1
        rw [D_MD_copyBack_L24, mr.1.1.2.2.1, if_neg (by rw [nI_leI (by omega) (by omega)]; omega), ← nI_0, this, Option.bind_some])
    R 0 F (Nat.zero_le _) (by omega) (by omega)
  have key : D_MD_copyBack_L24 F n F σ (nI 0) = match srch (fun r => (srch (cbk hd live s.1 r) (W * G) 0).isSome) R 0 with | none => some (Sum.inl σ) | some row => D_MD_copyBack_L34 F n (nI row) F σ (nI 0) := key
  constructor
  · intro h
    unfold fcb at h
    cases h1 : srch (fun r => (srch (cbk hd live s.1 r) (W * G) 0).isSome) R 0 with
    | none => rw [key, h1]
    | some r =>
      rw [h1] at h
      have h : (srch (cbk hd live s.1 r) (W * G) 0).map (fun p => (r, p)) = none := h
      obtain ⟨_, _, a3, _⟩ := srch_some h1
      cases h2 : srch (cbk hd live s.1 r) (W * G) 0 with
      | none => rw [h2] at a3; cases a3
      | some q => rw [h2] at h; cases h
  · intro row p P h
    obtain ⟨hr, hp, _⟩ := fcb_at h
    unfold fcb at h
    cases h1 : srch (fun r => (srch (cbk hd live s.1 r) (W * G) 0).isSome) R 0 with
    | none => rw [h1] at h; cases h
    | some r =>
      rw [h1] at h key
      have h : (srch (cbk hd live s.1 r) (W * G) 0).map (fun p => (r, p)) = some (row, p) := h
      cases h2 : srch (cbk hd live s.1 r) (W * G) 0 with
      | none => rw [h2] at h; cases h
      | some q =>
        rw [h2] at h
        cases h
        have k2 := i34 row hr
        rw [h2] at k2
        obtain ⟨τ, a1, a2, a3⟩ := act row p P hr hp
        exact ⟨τ, (key.trans k2).trans a1, a2, a3⟩
theorem e_MD_scr69 (cx : Ctx D W R G hd n F) (mr : MR D W R G hd live pl s σ) (on : s.2.1 = true) (lk : LK live s.1) (kw : KW D R s.1) (pw : PW D R (W * G) pl) {row gi : Nat} (hr : row < R) (hg : gi < G) : (spc W s.1 pl row gi = none → D_MD_scrub_L69 F n (nI (W * gi)) (nI row) F σ (nI (W * gi)) = some (Sum.inl σ)) ∧ ∀ j d (P : Nat → Int64), spc W s.1 pl row gi = some j → pl row (W * gi + j) = some d → ∃ τ, D_MD_scrub_L69 F n (nI (W * gi)) (nI row) F σ (nI (W * gi)) = some (Sum.inr (τ, pm1 (aput s d row (W * gi + j + 1, P, zr)).2)) ∧ FG [23, 24, 25] [12, 13, 14] σ τ ∧ MR D W R G hd live pl (aput s d row (W * gi + j + 1, P, zr)).1 τ := by
  obtain ⟨ge, ln, hF⟩ := id cx
  have gn := ge.num
  obtain ⟨⟨_, _⟩, ⟨_, _, _⟩, ⟨_, _⟩, ⟨_, _⟩, ⟨_, _⟩, _, _, _, _⟩ := id gn
  have mb := mr.mb cx lk kw (fun _ => pw)
  rw [epl_on on] at mb
  have body : ∀ k j, j < W → D_MD_scrub_L69 F n (nI (W * gi)) (nI row) (k + 1) σ (nI (W * gi + j)) = if spo s.1 pl row (W * gi + j) = true then ((D_MD_puts F n σ (pI (pl row (W * gi + j))) (nI row) (nI (W * gi + j + 1))).bind (fun (q : HS × Int32) => (if q.2 = 0 then some (Sum.inr (q.1, (-1 : Int32))) else some (Sum.inr (q.1, (1 : Int32)))))) else D_MD_scrub_L69 F n (nI (W * gi)) (nI row) k σ (nI (W * gi + (j + 1))) := by
    intro k j hj
    have hp := pos_lt hg hj
    rw [D_MD_scrub_L69, mr.1.1.2.1, nI_add, if_neg (by rw [nI_leI (by omega) (by omega)]; omega), e_MD_isSpoilt cx mb hr hp, Option.bind_some, mb.2.2.2.2.2.1 row _ hr hp]
    simp only [nm_q, nm2_q, nI_1, Option.bind_some, z_if]
    cases spo s.1 pl row (W * gi + j) <;> rfl
  have key : ∀ m j k, j + m = W → m < k → D_MD_scrub_L69 F n (nI (W * gi)) (nI row) k σ (nI (W * gi + j)) = match srch (fun j => spo s.1 pl row (W * gi + j)) m j with | none => some (Sum.inl σ) | some j => ((D_MD_puts F n σ (pI (pl row (W * gi + j))) (nI row) (nI (W * gi + j + 1))).bind (fun (q : HS × Int32) => (if q.2 = 0 then some (Sum.inr (q.1, (-1 : Int32))) else some (Sum.inr (q.1, (1 : Int32)))))) := by
    intro m
    induction m with
    | zero =>
      intro j k hj hk
      obtain ⟨k, rfl⟩ : ∃ i, k = i + 1 := ⟨k - 1, by omega⟩
      have : j = W := by omega
      subst this
      rw [D_MD_scrub_L69, mr.1.1.2.1, nI_add, if_pos (Int32.le_refl _)]; rfl
    | succ m ih =>
      intro j k hj hk
      obtain ⟨k, rfl⟩ : ∃ i, k = i + 1 := ⟨k - 1, by omega⟩
      rw [body k j (by omega), srch]
      cases hf : spo s.1 pl row (W * gi + j) with
      | true => rw [if_pos rfl, if_pos rfl]
      | false => rw [if_neg (by decide), if_neg (by decide)]; exact ih (j + 1) k (by omega) (by omega)
  have k2 := key W 0 F (Nat.zero_add _) (by omega)
  rw [Nat.add_zero] at k2
  constructor
  · intro h
    rw [show srch (fun j => spo s.1 pl row (W * gi + j)) W 0 = none from h] at k2
    exact k2
  · intro j d P h hp
    rw [show srch (fun j => spo s.1 pl row (W * gi + j)) W 0 = some j from h] at k2
    obtain ⟨_, j2, _⟩ := srch_some h
    have hdd := pw.1 row _ d hr (pos_lt hg (show j < W by omega)) hp
    obtain ⟨τ, t1, t2, t3⟩ := e_MD_puts (t := W * gi + j + 1) cx mr hdd (show row ≤ R by omega) P
    have k2 : D_MD_scrub_L69 F n (nI (W * gi)) (nI row) F σ (nI (W * gi)) = (D_MD_puts F n σ (pI (pl row (W * gi + j))) (nI row) (nI (W * gi + j + 1))).bind (fun (q : HS × Int32) => (if q.2 = 0 then some (Sum.inr (q.1, (-1 : Int32))) else some (Sum.inr (q.1, (1 : Int32))))) := k2
    rw [k2, hp, show pI (some d) = nI d from rfl, t1, Option.bind_some]
    refine ⟨τ, ?_, t2.fg, t3⟩
    show (if b2i (aput s d row (W * gi + j + 1, P, zr)).2 = 0 then _ else _) = _
    cases (aput s d row (W * gi + j + 1, P, zr)).2 <;> rfl
end MRB
