/-- is the position without a valid place, or is its place on the disk x -/
def hrt (K : Rk) (pl : Nat → Nat → Option Nat) (x row p : Nat) : Bool := !isvo K row (pl row p) || decide (pl row p = some x)
def brk (W G R : Nat) (K : Rk) (pl : Nat → Nat → Option Nat) (x : Nat) : Bool := (srch (fun s => decide (1 < cnt (fun j => hrt K pl x (s / G) (W * (s % G) + j)) W 0)) (R * G) 0).isSome
def oav (W : Nat) (K : Rk) (pl : Nat → Nat → Option Nat) (row gi j0 : Nat) : Bool := allN (fun j => decide (j = j0) || isvo K row (pl row (W * gi + j))) W
theorem not_f {b : Bool} (h : (!b) = false) : b = true := by
  cases b
  · cases h
  · rfl
section MI
variable {D W R G : Nat} {hd : Nat → Nat → Nat} {F : Nat} {n : Nat → Nat} {σ : HS} {K : Rk} {pl : Nat → Nat → Option Nat} {live : Nat → Bool}
theorem st_dm {row gi : Nat} (hg : gi < G) : (row * G + gi) / G = row ∧ (row * G + gi) % G = gi := by
  constructor
  · rw [Nat.add_comm, Nat.add_mul_div_right _ _ (by omega), Nat.div_eq_of_lt hg, Nat.zero_add]
  · rw [Nat.add_comm, Nat.add_mul_mod_self_right, Nat.mod_eq_of_lt hg]
theorem st_of {s : Nat} (hG : 0 < G) (h : s < R * G) : s / G < R ∧ s % G < G ∧ s / G * G + s % G = s := ⟨Nat.div_lt_of_lt_mul (by rw [Nat.mul_comm]; exact h), Nat.mod_lt _ hG, Nat.div_add_mod' s G⟩
theorem e_SF_wouldBreak (cx : Ctx D W R G hd n F) (g : cGeo D W R G hd σ) (h : cK D R K σ) (c : cPl D R (W * G) pl σ) (pw : PW D R (W * G) pl) {x : Nat} (hx : x < D) : D_SF_wouldBreakWithout F n σ (nI x) = some (b2i (brk W G R K pl x)) := by
  obtain ⟨ge, ln, hF⟩ := id cx
  have gn := ge.num
  obtain ⟨⟨_, _⟩, ⟨_, _, _⟩, ⟨_, _⟩, ⟨_, _⟩, ⟨_, _⟩, _, _, _, _⟩ := id gn
  have inner : ∀ s, s < R * G → D_SF_wouldBreakWithout_L18 F n σ (nI s) (nI x) F (nI 0) (nI 0) = some (nI (cnt (fun j => hrt K pl x (s / G) (W * (s % G) + j)) W 0)) := by
    intro s hs
    obtain ⟨a1, a2, a3⟩ := st_of (by omega) hs
    have body : ∀ k j c1, j < W → D_SF_wouldBreakWithout_L18 F n σ (nI s) (nI x) (k + 1) (nI j) (nI c1) = if hrt K pl x (s / G) (W * (s % G) + j) = true then D_SF_wouldBreakWithout_L18 F n σ (nI s) (nI x) k (nI (j + 1)) (nI (c1 + 1)) else D_SF_wouldBreakWithout_L18 F n σ (nI s) (nI x) k (nI (j + 1)) (nI c1) := by
      intro k j c1 hj
      have hp := pos_lt a2 hj
      have e1 := e_SF_placeOf (F := F) cx g c a1 a2 hj
      rw [a3] at e1
      rw [D_SF_wouldBreakWithout_L18, g.1.2.1, if_neg (by rw [nI_leI (by omega) (by omega)]; omega), e1, Option.bind_some, e_RK_isValid_o gn ln.c h (fun d e => pw.1 _ _ d a1 hp e) (by omega), Option.bind_some]
      simp only [nm_q, nI_1]
      unfold hrt
      cases hv : isvo K (s / G) (pl (s / G) (W * (s % G) + j)) with
      | false => rw [if_pos (by rfl), if_pos (by rfl)]
      | true =>
        cases hpl : pl (s / G) (W * (s % G) + j) with
        | none => rw [hpl] at hv; cases hv
        | some d =>
          have hd1 := pw.1 _ _ d a1 hp hpl
          rw [if_neg (by decide), show pc_ R (s / G) (some d) = nI (d * (R + 1) + s / G) from rfl, e_LA_diskOf gn g d (s / G) hd1 (by omega), Option.bind_some]
          by_cases e : d = x
          · rw [if_pos (by rw [e]), if_pos (by simp [e])]
          · rw [if_neg (by rw [nI_eq (by omega) (by omega)]; exact e), if_neg (by simp [e])]
    have := lp_cnt (L := fun k y c => D_SF_wouldBreakWithout_L18 F n σ (nI s) (nI x) k y c) (f := fun j => hrt K pl x (s / G) (W * (s % G) + j)) (N := W) (lo := 0)
      (fun k c => by show D_SF_wouldBreakWithout_L18 F n σ (nI s) (nI x) (k + 1) (nI W) c = _; rw [D_SF_wouldBreakWithout_L18, g.1.2.1, if_pos (Int32.le_refl _)])
      (fun k i c _ hi hf => by show D_SF_wouldBreakWithout_L18 F n σ (nI s) (nI x) (k + 1) (nI i) (nI c) = _; rw [body k i c hi, if_neg (by rw [hf]; decide)])
      (fun k i c _ hi hf => by show D_SF_wouldBreakWithout_L18 F n σ (nI s) (nI x) (k + 1) (nI i) (nI c) = _; rw [body k i c hi, if_pos hf])
      W 0 F 0 (Nat.zero_le _) (by omega) (by omega)
    have this : D_SF_wouldBreakWithout_L18 F n σ (nI s) (nI x) F (nI 0) (nI 0) = _ := this
    rw [this, Nat.zero_add]
  have key := lp_srch (L := fun k y => D_SF_wouldBreakWithout_L2 F n σ (nI x) k y) (f := fun s => decide (1 < cnt (fun j => hrt K pl x (s / G) (W * (s % G) + j)) W 0)) (v := fun _ => (1 : Int32)) (N := R * G) (lo := 0)
    (fun k => by show D_SF_wouldBreakWithout_L2 F n σ (nI x) (k + 1) (nI (R * G)) = _; rw [D_SF_wouldBreakWithout_L2, g.1.2.2.2.2.1, if_pos (Int32.le_refl _)])
    (fun k s _ hs hf => by
      have hle := cnt_le (f := fun j => hrt K pl x (s / G) (W * (s % G) + j)) (m := W) (a := 0)
      have hf : ¬ 1 < cnt (fun j => hrt K pl x (s / G) (W * (s % G) + j)) W 0 := of_decide_eq_false hf
      show D_SF_wouldBreakWithout_L2 F n σ (nI x) (k + 1) (nI s) = _
      rw [D_SF_wouldBreakWithout_L2, g.1.2.2.2.2.1, if_neg (by rw [nI_leI (by omega) (by omega)]; omega), ← nI_0, inner s hs, Option.bind_some, if_pos (by rw [show (1 : Int32) = nI 1 from rfl, nI_leI (by omega) (by omega)]; omega), nm_q, nI_1])
    (fun k s _ hs hf => by
      have hle := cnt_le (f := fun j => hrt K pl x (s / G) (W * (s % G) + j)) (m := W) (a := 0)
      have hf : 1 < cnt (fun j => hrt K pl x (s / G) (W * (s % G) + j)) W 0 := of_decide_eq_true hf
      show D_SF_wouldBreakWithout_L2 F n σ (nI x) (k + 1) (nI s) = _
      rw [D_SF_wouldBreakWithout_L2, g.1.2.2.2.2.1, if_neg (by rw [nI_leI (by omega) (by omega)]; omega), ← nI_0, inner s hs, Option.bind_some, if_neg (by rw [show (1 : Int32) = nI 1 from rfl, nI_leI (by omega) (by omega)]; omega)])
    (R * G) 0 F (Nat.zero_le _) (by omega) (by omega)
  have key : D_SF_wouldBreakWithout_L2 F n σ (nI x) F (nI 0) = _ := key
  rw [D_SF_wouldBreakWithout, ← nI_0, key, Option.bind_some]
  unfold brk
  cases srch (fun s => decide (1 < cnt (fun j => hrt K pl x (s / G) (W * (s % G) + j)) W 0)) (R * G) 0 <;> rfl
theorem e_SF_othersAreValid (cx : Ctx D W R G hd n F) (g : cGeo D W R G hd σ) (h : cK D R K σ) (c : cPl D R (W * G) pl σ) (pw : PW D R (W * G) pl) {row gi j0 : Nat} (hr : row < R) (hg : gi < G) (hj0 : j0 < W) (τ : HS) (hτ1 : ∀ a, a ≠ 14 → τ.1 a = σ.1 a) (hτ2 : ∀ j, j < W → j ≠ j0 → ∀ d, pl row (W * gi + j) = some d → τ.1 14 (d * (R + 1) + row) = σ.1 14 (d * (R + 1) + row)) : D_SF_othersAreValid F n τ (nI (row * D + (W * gi + j0))) = some (b2i (oav W K pl row gi j0)) := by
  obtain ⟨ge, ln, hF⟩ := id cx
  have gn := ge.num
  obtain ⟨⟨_, _⟩, ⟨_, _, _⟩, ⟨_, _⟩, ⟨_, _⟩, ⟨_, _⟩, _, _, _, _⟩ := id gn
  have hp0 := pos_lt hg hj0
  have g1 : cGeo D W R G hd τ := g.congr (hτ1 1 (by decide)) (hτ1 9 (by decide))
  have c1 : cPl D R (W * G) pl τ := c.congr (hτ1 15 (by decide)) (hτ1 16 (by decide))
  have body : ∀ k j, j < W → D_SF_othersAreValid_L21 F n τ (nI j0) (nI (row * G + gi)) (k + 1) (nI j) = if (decide (j = j0) || isvo K row (pl row (W * gi + j))) = true then D_SF_othersAreValid_L21 F n τ (nI j0) (nI (row * G + gi)) k (nI (j + 1)) else some (Sum.inr 0) := by
    intro k j hj
    have hp := pos_lt hg hj
    rw [D_SF_othersAreValid_L21, g1.1.2.1, if_neg (by rw [nI_leI (by omega) (by omega)]; omega)]
    by_cases e : j = j0
    · rw [if_pos (by rw [e]), nm_q, nI_1, if_pos (by simp [e])]
    · have hv : D_RK_isValid F n τ (pc_ R row (pl row (W * gi + j))) = some (b2i (isvo K row (pl row (W * gi + j)))) := by
        cases hpl : pl row (W * gi + j) with
        | none => exact e_RK_isValid_m1
        | some d =>
          have hd1 := pw.1 _ _ d hr hp hpl
          have i2 := idx_c gn hd1 (show row ≤ R by omega)
          rw [show pc_ R row (some d) = nI (d * (R + 1) + row) from rfl, D_RK_isValid, if_neg (nI_m1 (by omega)), grd_in (by rw [ln.1.2.2.2.2.2.2.1]; exact i2.1) (by omega), nI_clamp (by omega), hτ2 j hj e d hpl, e_valid h hd1 (by omega)]
          show _ = some (b2i (isv (K d row)))
          cases isv (K d row) <;> rfl
      rw [if_neg (by rw [nI_eq (by omega) (by omega)]; exact e), e_SF_placeOf cx g1 c1 hr hg hj, Option.bind_some, hv, Option.bind_some, nm_q, nI_1, z_if, show decide (j = j0) = false from decide_eq_false e, Bool.false_or]
  have key := lp_srch (L := fun k y => D_SF_othersAreValid_L21 F n τ (nI j0) (nI (row * G + gi)) k y) (f := fun j => !(decide (j = j0) || isvo K row (pl row (W * gi + j)))) (v := fun _ => (0 : Int32)) (N := W) (lo := 0)
    (fun k => by show D_SF_othersAreValid_L21 F n τ (nI j0) (nI (row * G + gi)) (k + 1) (nI W) = _; rw [D_SF_othersAreValid_L21, g1.1.2.1, if_pos (Int32.le_refl _)])
    (fun k j _ hj hf => by
      show D_SF_othersAreValid_L21 F n τ (nI j0) (nI (row * G + gi)) (k + 1) (nI j) = _
      rw [body k j hj, if_pos (not_f hf)])
    (fun k j _ hj hf => by
      show D_SF_othersAreValid_L21 F n τ (nI j0) (nI (row * G + gi)) (k + 1) (nI j) = _
      rw [body k j hj, if_neg (by simpa using hf)])
    W 0 F (Nat.zero_le _) (by omega) (by omega)
  have key : D_SF_othersAreValid_L21 F n τ (nI j0) (nI (row * G + gi)) F (nI 0) = _ := key
  rw [D_SF_othersAreValid, e_LA_stripeOfSlot gn g1 row gi j0 hr hj0 (by omega), Option.bind_some, e_LA_columnOfSlot gn g1 row gi j0 hr hj0 (by omega), Option.bind_some, ← nI_0, key, Option.bind_some]
  cases hs : srch (fun j => !(decide (j = j0) || isvo K row (pl row (W * gi + j)))) W 0 with
  | none =>
    have : oav W K pl row gi j0 = true := allN_iff.mpr (fun j hj => not_f (srch_none hs j (by omega) (by omega)))
    rw [this]; rfl
  | some j =>
    obtain ⟨_, h2, h3, _⟩ := srch_some hs
    have : oav W K pl row gi j0 = false := by
      cases ho : oav W K pl row gi j0 with
      | false => rfl
      | true =>
        have := allN_iff.mp ho j (by omega)
        rw [this] at h3; cases h3
    rw [this]; rfl
/-- the first column of the stripe that is placed and not valid -/
def spc (W : Nat) (K : Rk) (pl : Nat → Nat → Option Nat) (row gi : Nat) : Option Nat := srch (fun j => spo K pl row (W * gi + j)) W 0
theorem e_SF_spoiltColumn (cx : Ctx D W R G hd n F) (g : cGeo D W R G hd σ) (h : cK D R K σ) (c : cPl D R (W * G) pl σ) (pw : PW D R (W * G) pl) {row gi : Nat} (hr : row < R) (hg : gi < G) : D_SF_spoiltColumn F n σ (nI (row * G + gi)) = some (match spc W K pl row gi with | none => -1 | some j => nI j) := by
  obtain ⟨ge, ln, hF⟩ := id cx
  have gn := ge.num
  obtain ⟨⟨_, _⟩, ⟨_, _, _⟩, ⟨_, _⟩, ⟨_, _⟩, ⟨_, _⟩, _, _, _, _⟩ := id gn
  have body : ∀ k j, j < W → D_SF_spoiltColumn_L2 F n σ (nI (row * G + gi)) (k + 1) (nI j) = if spo K pl row (W * gi + j) = true then some (Sum.inr (nI j)) else D_SF_spoiltColumn_L2 F n σ (nI (row * G + gi)) k (nI (j + 1)) := by
    intro k j hj
    have hp := pos_lt hg hj
    rw [D_SF_spoiltColumn_L2, g.1.2.1, if_neg (by rw [nI_leI (by omega) (by omega)]; omega), e_SF_placeOf cx g c hr hg hj, Option.bind_some]
    simp only [nm_q, nI_1]
    unfold spo
    cases hpl : pl row (W * gi + j) with
    | none => rw [if_pos (by rfl)]; rfl
    | some d =>
      have hd1 := pw.1 _ _ d hr hp hpl
      have i2 := idx_c gn hd1 (show row ≤ R by omega)
      rw [show pc_ R row (some d) = nI (d * (R + 1) + row) from rfl, if_neg (nI_m1 (by omega)), e_RK_isValid gn ln.c h hd1 (by omega), Option.bind_some]
      show _ = if (!isv (K d row)) = true then _ else _
      cases isv (K d row) <;> rfl
  have key := lp_srch (L := fun k y => D_SF_spoiltColumn_L2 F n σ (nI (row * G + gi)) k y) (f := fun j => spo K pl row (W * gi + j)) (v := fun j => nI j) (N := W) (lo := 0)
    (fun k => by show D_SF_spoiltColumn_L2 F n σ (nI (row * G + gi)) (k + 1) (nI W) = _; rw [D_SF_spoiltColumn_L2, g.1.2.1, if_pos (Int32.le_refl _)])
    (fun k j _ hj hf => by
      show D_SF_spoiltColumn_L2 F n σ (nI (row * G + gi)) (k + 1) (nI j) = _
      rw [body k j hj, if_neg (by rw [hf]; decide)])
    (fun k j _ hj hf => by
      show D_SF_spoiltColumn_L2 F n σ (nI (row * G + gi)) (k + 1) (nI j) = _
      rw [body k j hj, if_pos hf])
    W 0 F (Nat.zero_le _) (by omega) (by omega)
  have key : D_SF_spoiltColumn_L2 F n σ (nI (row * G + gi)) F (nI 0) = _ := key
  rw [D_SF_spoiltColumn, ← nI_0, key, Option.bind_some]
  unfold spc
  cases srch (fun j => spo K pl row (W * gi + j)) W 0 <;> rfl
end MI
