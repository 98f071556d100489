section MJ
variable {D W R G : Nat} {hd : Nat → Nat → Nat} {F : Nat} {n : Nat → Nat} {σ : HS} {s : PS} {pl : Nat → Nat → Option Nat} {live : Nat → Bool}
/-- no column of the stripe is without a place, and their sum isn't 0 -/
def hol (W : Nat) (K : Rk) (pl : Nat → Nat → Option Nat) (row gi : Nat) : Bool := allN (fun j => decide (pl row (W * gi + j) ≠ none)) W && !(allN (fun i => decide (xorN (fun j => rwo K row (pl row (W * gi + j)) i) W = 0)) 8)
theorem e_SF_isHole (cx : Ctx D W R G hd n F) (cr : CRs D W R G hd live pl s σ) (pw : PW D R (W * G) pl) (pk : PK R (W * G) s.1 pl) {row gi : Nat} (hr : row < R) (hg : gi < G) : ∃ τ, D_SF_isHole F n σ (nI (row * G + gi)) = some (τ, b2i (hol W s.1 pl row gi)) ∧ SumOnly σ τ := by
  obtain ⟨ge, ln, hF⟩ := id cx
  have gn := ge.num
  obtain ⟨⟨_, _⟩, ⟨_, _, _⟩, ⟨_, _⟩, ⟨_, _⟩, ⟨_, _⟩, _, _, _, _⟩ := id gn
  obtain ⟨τ1, e1, a1, a2, a3⟩ := e_fillJ_7 (F := F) (σ := σ) ln.1.1.2.2.1 (by omega) 0
  have f1 : SumOnly σ τ1 := ⟨a1, a2⟩
  obtain ⟨r, e2, τ, q1, q2⟩ := lp (L := D_SF_isHole_L10 F n (nI (row * G + gi))) (N := W) (I := fun m τ => SumOnly σ τ ∧ (∀ j, j < m → pl row (W * gi + j) ≠ none) ∧ ∀ i, i < 8 → τ.2 7 i = xorN (fun j => rwo s.1 row (pl row (W * gi + j)) i) m)
    (Q := fun r => ∃ τ, SumOnly σ τ ∧ ((r = Sum.inl τ ∧ (∀ j, j < W → pl row (W * gi + j) ≠ none) ∧ ∀ i, i < 8 → τ.2 7 i = xorN (fun j => rwo s.1 row (pl row (W * gi + j)) i) W) ∨ (r = Sum.inr (τ, 0) ∧ ∃ j, j < W ∧ pl row (W * gi + j) = none)))
    (fun k τ j hj ⟨q1, q2, q3⟩ => by
      have c1 := cr.congr q1.fr
      have hp := pos_lt hg hj
      have hst : D_SF_isHole_L10 F n (nI (row * G + gi)) (k + 1) τ (nI j) = if pc_ R row (pl row (W * gi + j)) = -1 then some (Sum.inr (τ, 0)) else (D_RK_addTo_7 F n τ (pc_ R row (pl row (W * gi + j)))).bind (fun υ => D_SF_isHole_L10 F n (nI (row * G + gi)) k υ (nI (j + 1))) := by
        rw [D_SF_isHole_L10, c1.1.1.2.1, if_neg (by rw [nI_leI (by omega) (by omega)]; omega), e_SF_placeOf cx c1.1 c1.2.2.2.1 hr hg hj, Option.bind_some]
        simp only [nm_q, nI_1]
      rw [hst]
      cases hpl : pl row (W * gi + j) with
      | none =>
        rw [if_pos (by rfl)]
        exact Or.inr ⟨_, rfl, τ, q1, Or.inr ⟨rfl, j, hj, hpl⟩⟩
      | some d =>
        have hd1 := pw.1 row _ d hr hp hpl
        have i2 := idx_c gn hd1 (show row ≤ R by omega)
        obtain ⟨υ, u1, u2, u3⟩ := e_addTo_c cx c1.2.2.1 hd1 (show row ≤ R by omega) (pk row _ d hr hp hpl)
        rw [show pc_ R row (some d) = nI (d * (R + 1) + row) from rfl, if_neg (nI_m1 (by omega)), u1, Option.bind_some]
        refine Or.inl ⟨υ, ⟨q1.tr u2, fun j1 hj1 => ?_, fun i hi => ?_⟩, rfl⟩
        · by_cases e : j1 = j
          · rw [e, hpl]; exact fun z => by cases z
          · exact q2 j1 (by omega)
        · rw [u3 i hi, q3 i hi, xorN, hpl]; rfl)
    (fun k τ q => ⟨Sum.inl τ, by rw [D_SF_isHole_L10, (cr.congr q.1.fr).1.1.2.1, if_pos (Int32.le_refl _)], τ, q.1, Or.inl ⟨rfl, q.2⟩⟩)
    W 0 F τ1 (Nat.zero_add _) (by omega) ⟨f1, fun j h => by omega, fun i hi => a3 i hi⟩
  rw [D_SF_isHole, e1, Option.bind_some, ← nI_0, e2, Option.bind_some]
  refine ⟨τ, ?_, q1⟩
  unfold hol
  rcases q2 with ⟨rfl, h1, h2⟩ | ⟨rfl, j, hj, h1⟩
  · have key := lp_srch (L := fun k y => D_SF_isHole_L55 F n τ k y) (f := fun i => decide (¬ τ.2 7 i = 0)) (v := fun _ => (τ, (1 : Int32))) (N := 8) (lo := 0)
      (fun k => by show D_SF_isHole_L55 F n τ (k + 1) (nI 8) = _; rw [D_SF_isHole_L55, if_pos (by decide)])
      (fun k i _ hi hf => by
        have hf : τ.2 7 i = 0 := by simpa using hf
        show D_SF_isHole_L55 F n τ (k + 1) (nI i) = _
        rw [D_SF_isHole_L55, if_neg (by rw [show (8 : Int32) = nI 8 from rfl, nI_leI (by omega) (by omega)]; omega), grd_in (by rw [ln.1.1.2.2.1]; omega) (by omega), nI_clamp (by omega), if_pos ((lcmp0 _ _).mpr hf), nm_q, nI_1])
      (fun k i _ hi hf => by
        have hf : ¬ τ.2 7 i = 0 := by simpa using hf
        show D_SF_isHole_L55 F n τ (k + 1) (nI i) = _
        rw [D_SF_isHole_L55, if_neg (by rw [show (8 : Int32) = nI 8 from rfl, nI_leI (by omega) (by omega)]; omega), grd_in (by rw [ln.1.1.2.2.1]; omega) (by omega), nI_clamp (by omega), if_neg (fun e => hf ((lcmp0 _ _).mp e))])
      8 0 F (Nat.le_refl _) rfl (by omega)
    have key : D_SF_isHole_L55 F n τ F (nI 0) = _ := key
    have hA : allN (fun j => decide (pl row (W * gi + j) ≠ none)) W = true := allN_iff.mpr (fun j hj => decide_eq_true (h1 j hj))
    rw [hA, Bool.true_and]
    show (D_SF_isHole_L55 F n τ F (nI 0)).bind _ = _
    rw [key, Option.bind_some]
    cases hs : srch (fun i => decide (¬ τ.2 7 i = 0)) 8 0 with
    | none =>
      have : allN (fun i => decide (xorN (fun j => rwo s.1 row (pl row (W * gi + j)) i) W = 0)) 8 = true := allN_iff.mpr (fun i hi => decide_eq_true (by rw [← h2 i hi]; simpa using srch_none hs i (by omega) (by omega)))
      rw [this]; rfl
    | some i =>
      obtain ⟨_, g2, g3, _⟩ := srch_some hs
      have : allN (fun i => decide (xorN (fun j => rwo s.1 row (pl row (W * gi + j)) i) W = 0)) 8 = false := by
        cases ho : allN (fun i => decide (xorN (fun j => rwo s.1 row (pl row (W * gi + j)) i) W = 0)) 8 with
        | false => rfl
        | true =>
          have := of_decide_eq_true (allN_iff.mp ho i (by omega))
          rw [← h2 i (by omega)] at this
          exact absurd this (of_decide_eq_true g3)
      rw [this]; rfl
  · have : allN (fun j => decide (pl row (W * gi + j) ≠ none)) W = false := by
      cases ho : allN (fun j => decide (pl row (W * gi + j) ≠ none)) W with
      | false => rfl
      | true => exact absurd h1 (of_decide_eq_true (allN_iff.mp ho j hj))
    rw [this]; rfl
/-- a disk is taken out -/
def rmK (K : Rk) (x : Nat) : Rk := fun d o => if d = x then none else K d o
def rmL (live : Nat → Bool) (x : Nat) : Nat → Bool := fun d => if d = x then false else live d
def rmP (pl : Nat → Nat → Option Nat) (x : Nat) : Nat → Nat → Option Nat := fun row p => if pl row p = some x then none else pl row p
theorem e_RK_removeDisk (cx : Ctx D W R G hd n F) (g : cGeo D W R G hd σ) (lv : cLive D live σ) {K : Rk} (h : cK D R K σ) {x : Nat} (hx : x < D) : ∃ τ, D_RK_removeDisk F n σ (nI x) = some τ ∧ Fr [10, 13, 14] [] σ τ ∧ cLive D (rmL live x) τ ∧ cK D R (rmK K x) τ := by
  obtain ⟨ge, ln, hF⟩ := id cx
  have gn := ge.num
  obtain ⟨⟨_, _⟩, ⟨_, _, _⟩, ⟨_, _⟩, ⟨_, _⟩, ⟨_, _⟩, _, _, _, _⟩ := id gn
  have n13 : n 13 = D * (R + 1) := ln.1.2.2.2.2.2.1
  have n14 : n 14 = D * (R + 1) := ln.1.2.2.2.2.2.2.1
  have i0 := idx_c gn hx (Nat.le_refl R)
  obtain ⟨τ, e1, q0, q1, q2⟩ := lp (L := D_RK_removeDisk_L19 F n (nI x)) (N := x * (R + 1) + R + 1) (I := fun c τ => x * (R + 1) ≤ c ∧ (∀ a, a ≠ 13 → a ≠ 14 → τ.1 a = (stI σ 10 x 0).1 a) ∧ τ.2 = σ.2 ∧ ∀ i, τ.1 13 i = (if x * (R + 1) ≤ i ∧ i < c then nI 0 else σ.1 13 i) ∧ τ.1 14 i = (if x * (R + 1) ≤ i ∧ i < c then nI 0 else σ.1 14 i))
    (Q := fun τ => (∀ a, a ≠ 13 → a ≠ 14 → τ.1 a = (stI σ 10 x 0).1 a) ∧ τ.2 = σ.2 ∧ ∀ i, τ.1 13 i = (if x * (R + 1) ≤ i ∧ i < x * (R + 1) + R + 1 then nI 0 else σ.1 13 i) ∧ τ.1 14 i = (if x * (R + 1) ≤ i ∧ i < x * (R + 1) + R + 1 then nI 0 else σ.1 14 i))
    (fun k τ c hc ⟨hlo, q1, q2, q3⟩ => by
      have gg : cGeo D W R G hd τ := g.congr (by rw [q1 1 (by decide) (by decide), stI_1 1 (by decide)]) (by rw [q1 9 (by decide) (by decide), stI_1 9 (by decide)])
      refine Or.inl ⟨stI (stI τ 13 c (nI 0)) 14 c (nI 0), ⟨by omega, fun a z1 z2 => by rw [stI_1 a z2, stI_1 a z1]; exact q1 a z1 z2, q2, fun i => ⟨?_, ?_⟩⟩, ?_⟩
      · rw [stI_1 13 (by decide), stI_s, upd_a, (q3 i).1]
        by_cases e : i = c
        · rw [if_pos e, if_pos (by omega)]
        · rw [if_neg e]
          by_cases e2 : x * (R + 1) ≤ i ∧ i < c
          · rw [if_pos e2, if_pos (by omega)]
          · rw [if_neg e2, if_neg (by omega)]
      · rw [stI_s, stI_1 14 (by decide), upd_a, (q3 i).2]
        by_cases e : i = c
        · rw [if_pos e, if_pos (by omega)]
        · rw [if_neg e]
          by_cases e2 : x * (R + 1) ≤ i ∧ i < c
          · rw [if_pos e2, if_pos (by omega)]
          · rw [if_neg e2, if_neg (by omega)]
      · rw [D_RK_removeDisk_L19, e_LA_logOf gg, Option.bind_some, if_neg (by rw [nI_ltI (by omega) (by omega)]; omega), grd_in (by omega) (by omega), nm_q, grd_in (by omega) (by omega), nm_q, nm_q, nI_1, nI_clamp (by omega)]
        rfl)
    (fun k τ ⟨hlo, q1, q2, q3⟩ => by
      have gg : cGeo D W R G hd τ := g.congr (by rw [q1 1 (by decide) (by decide), stI_1 1 (by decide)]) (by rw [q1 9 (by decide) (by decide), stI_1 9 (by decide)])
      exact ⟨τ, by rw [D_RK_removeDisk_L19, e_LA_logOf gg, Option.bind_some, if_pos (by rw [nI_ltI (by omega) (by omega)]; omega)], q1, q2, q3⟩)
    (R + 1) (x * (R + 1)) F (stI σ 10 x 0) (by omega) (by omega) ⟨Nat.le_refl _, fun _ _ _ => rfl, rfl, fun i => ⟨by rw [if_neg (by omega), stI_1 13 (by decide)], by rw [if_neg (by omega), stI_1 14 (by decide)]⟩⟩
  have g0 : cGeo D W R G hd (stI σ 10 x 0) := g.congr (stI_1 1 (by decide)) (stI_1 9 (by decide))
  have e0 := e_LA_cell (F := F) (n := n) g0 x 0
  rw [Nat.add_zero] at e0
  refine ⟨τ, ?_, ⟨fun a z => ?_, fun a _ => by rw [q1]⟩, fun d hd1 => ?_, fun d o hd1 ho => ?_⟩
  · rw [D_RK_removeDisk, grd_in (by rw [ln.1.2.2.1]; omega) (by omega), nm_q, nI_clamp (by omega), show vp_nar .boolean (0 : Int32) = 0 from rfl, ← nI_0, nI_0, show D_LA_cell F n (stI σ 10 x 0) (nI x) 0 = D_LA_cell F n (stI σ 10 x 0) (nI x) (nI 0) from rfl, e0, Option.bind_some, e1]; rfl
  · simp only [List.mem_cons, List.not_mem_nil, or_false, not_or] at z
    rw [q0 a z.2.1 z.2.2, stI_1 a z.1]
  · rw [q0 10 (by decide) (by decide), stI_s, upd_a]
    unfold rmL
    by_cases e : d = x
    · rw [if_pos e, if_pos e]; rfl
    · rw [if_neg e, if_neg e]; exact lv d hd1
  · unfold rmK
    by_cases e : d = x
    · rw [if_pos e, e]
      exact ⟨by rw [(q2 _).1, if_pos (by omega)], by rw [(q2 _).2, if_pos (by omega)]⟩
    · rw [if_neg e]
      have hne : ¬ (x * (R + 1) ≤ d * (R + 1) + o ∧ d * (R + 1) + o < x * (R + 1) + R + 1) := fun z => by
        rcases Nat.lt_or_gt_of_ne e with y | y
        · have : (d + 1) * (R + 1) ≤ x * (R + 1) := Nat.mul_le_mul_right _ y
          rw [Nat.add_mul] at this; omega
        · have : (x + 1) * (R + 1) ≤ d * (R + 1) := Nat.mul_le_mul_right _ y
          rw [Nat.add_mul] at this; omega
      exact (h d o hd1 ho).congr (by rw [(q2 _).1, if_neg hne]) (by rw [(q2 _).2, if_neg hne]) (fun _ _ => by rw [q1]) (fun _ _ => by rw [q1])
theorem rmP_m {pl : Nat → Nat → Option Nat} {x row p d : Nat} (h : rmP pl x row p = some d) : pl row p = some d ∧ d ≠ x := by
  unfold rmP at h
  split at h
  · cases h
  · rename_i z
    exact ⟨h, fun e => z (by rw [h, e])⟩
/-- the places of the first rows are dropped -/
def rmPn (pl : Nat → Nat → Option Nat) (x m : Nat) : Nat → Nat → Option Nat := fun row p => if row < m then rmP pl x row p else pl row p
theorem e_PL_dropDisk (cx : Ctx D W R G hd n F) (g : cGeo D W R G hd σ) (c : cPl D R (W * G) pl σ) (pw : PW D R (W * G) pl) {x : Nat} (hx : x < D) : ∃ τ, D_PL_dropDisk F n σ (nI x) = some τ ∧ PlOnly σ τ ∧ cPl D R (W * G) (rmP pl x) τ := by
  obtain ⟨ge, ln, hF⟩ := id cx
  have gn := ge.num
  obtain ⟨⟨_, _⟩, ⟨_, _, _⟩, ⟨_, _⟩, ⟨_, _⟩, ⟨_, _⟩, _, _, _, _⟩ := id gn
  have n15 : n 15 = R * D := ln.1.2.2.2.2.2.2.2.1
  have n16 : n 16 = D * (R + 1) := ln.1.2.2.2.2.2.2.2.2
  have pwn : ∀ m, PW D R (W * G) (rmPn pl x m) := by
    intro m
    have key : ∀ row p d, rmPn pl x m row p = some d → pl row p = some d := by
      intro row p d e
      unfold rmPn at e
      split at e
      · exact (rmP_m e).1
      · exact e
    exact ⟨fun row p d hr hp e => pw.1 row p d hr hp (key _ _ _ e), fun row p q d hr hp hq e1 e2 => pw.2 row p q d hr hp hq (key _ _ _ e1) (key _ _ _ e2)⟩
  obtain ⟨τ, e1, q1, q2⟩ := lp (L := D_PL_dropDisk_L2 F n (nI x)) (N := R) (I := fun m τ => PlOnly σ τ ∧ cPl D R (W * G) (rmPn pl x m) τ) (Q := fun τ => PlOnly σ τ ∧ cPl D R (W * G) (rmPn pl x R) τ)
    (fun k τ m hm ⟨q1, q2⟩ => by
      have gg := q1.geo g
      have i1 := idx_c gn hx (show m ≤ R by omega)
      have hst : D_PL_dropDisk_L2 F n (nI x) (k + 1) τ (nI m) = if τ.1 16 (x * (R + 1) + m) = -1 then D_PL_dropDisk_L2 F n (nI x) k τ (nI (m + 1)) else grd (inb (τ.1 16 (x * (R + 1) + m)) (n 15)) (D_PL_dropDisk_L2 F n (nI x) k (stI (stI τ 15 (τ.1 16 (x * (R + 1) + m)).toNatClampNeg (-1)) 16 (x * (R + 1) + m) (-1)) (nI (m + 1))) := by
        rw [D_PL_dropDisk_L2, gg.1.2.2.1, if_neg (by rw [nI_leI (by omega) (by omega)]; omega), e_LA_cell gg, Option.bind_some, grd_in (by omega) (by omega), nI_clamp (by omega)]
        simp only [nm_q, nI_1]
        rw [grd_in (by omega) (by omega), grd_in (by omega) (by omega)]
      rw [hst]
      have hstep : ∀ row p, ¬ (row = m ∧ pl row p = some x) → rmPn pl x (m + 1) row p = rmPn pl x m row p := by
        intro row p hne
        unfold rmPn rmP
        by_cases e : row < m
        · rw [if_pos e, if_pos (by omega)]
        · rw [if_neg e]
          by_cases e2 : row = m
          · rw [if_pos (by omega), if_neg (fun z => hne ⟨e2, z⟩)]
          · rw [if_neg (by omega)]
      cases hh : held (W * G) (rmPn pl x m) m x with
      | false =>
        rw [if_pos ((hold_m1 gn q2 hx hm).mpr hh)]
        refine Or.inl ⟨τ, ⟨q1, q2.ext (fun row p hr hp => (hstep row p (fun z => ?_)).symm)⟩, rfl⟩
        have := held_no.mp hh p hp
        unfold rmPn at this
        rw [if_neg (by omega)] at this
        exact this (by rw [← z.1]; exact z.2)
      | true =>
        rw [if_neg (fun z => by rw [(hold_m1 gn q2 hx hm).mp z] at hh; cases hh)]
        obtain ⟨p, hp, hpl⟩ := held_iff.mp hh
        have i2 := lt2 hm (show p < D by omega)
        rw [(q2.2 x m hx (by omega)).1 p hm hp hpl, grd_in (by omega) (by omega), nI_clamp (by omega)]
        refine Or.inl ⟨stI (stI τ 15 (m * D + p) (-1)) 16 (x * (R + 1) + m) (-1), ⟨q1.tr ⟨rfl, fun a z1 z2 => (stI_1 a z2).trans (stI_1 a z1)⟩, ?_⟩, rfl⟩
        have k1 := q2.clr (τ := stI (stI τ 15 (m * D + p) (-1)) 16 (x * (R + 1) + m) (-1)) (pwn m) (by omega) hm hp hpl ((stI_1 15 (by decide)).trans stI_s) (stI_s.trans (by rw [stI_1 16 (by decide)]))
        refine k1.ext (fun row q hr hq => ?_)
        have hplx : pl m p = some x := by
          unfold rmPn at hpl
          rw [if_neg (by omega)] at hpl
          exact hpl
        by_cases e : row = m ∧ q = p
        · rw [e.1, e.2, setP_at]
          unfold rmPn rmP
          rw [if_pos (by omega), if_pos hplx]
        · rw [setP_ne e]
          refine (hstep row q (fun z => e ⟨z.1, ?_⟩)).symm
          exact pw.2 m q p x hm hq hp (by rw [← z.1]; exact z.2) hplx)
    (fun k τ q => ⟨τ, by rw [D_PL_dropDisk_L2, (q.1.geo g).1.2.2.1, if_pos (Int32.le_refl _)], q⟩) R 0 F σ (Nat.zero_add _) (by omega) ⟨PlOnly.rf, c.ext (fun row p _ _ => by unfold rmPn; rw [if_neg (by omega)])⟩
  refine ⟨τ, by rw [D_PL_dropDisk, ← nI_0, e1]; rfl, q1, q2.ext (fun row p hr _ => by unfold rmPn; rw [if_pos hr])⟩
end MJ
