def dmx (dm : Nat → Int64) (at_ m : Nat) (mask : Int64) : Nat → Int64 := fun i => dm i ^^^ msk at_ mask m i
theorem dmx_dmx (dm : Nat → Int64) (at_ m : Nat) (mask : Int64) : dmx (dmx dm at_ m mask) at_ m mask = dm := by
  funext i
  show (dm i ^^^ msk at_ mask m i) ^^^ msk at_ mask m i = dm i
  rw [Int64.xor_assoc, Int64.xor_self, Int64.xor_zero]
def alw (W : Nat) (K : Rk) (pl : Nat → Nat → Option Nat) (row gi j0 : Nat) (dm : Nat → Int64) : Bool := if cok dm = true then z9 dm else oav W K pl row gi j0
section SP
variable {D W R G : Nat} {hd : Nat → Nat → Nat} {F : Nat} {n : Nat → Nat} {σ : HS} {K : Rk} {pl : Nat → Nat → Option Nat}
set_option maxHeartbeats 1000000 in
theorem e_SF_spoilPlace (cx : Ctx D W R G hd n F) (g : cGeo D W R G hd σ) (h : cK D R K σ) (c : cPl D R (W * G) pl σ) (pw : PW D R (W * G) pl) {row gi j0 d t : Nat} {P dm : Nat → Int64} (hr : row < R) (hg : gi < G) (hj0 : j0 < W) (hp : pl row (W * gi + j0) = some d) (hk : K d row = some (t, P, dm)) (hv : vOK (t, P, dm)) {at_ m : Nat} (hm : m ≤ 8) (hat : at_ + m ≤ 70) (mask : Int64) :
    ∃ τ, D_SF_spoilPlace F n σ (nI (d * (R + 1) + row)) (nI at_) (nI m) mask = some (τ, b2i (alw W K pl row gi j0 (dmx dm at_ m mask))) ∧ Fr [14] [11, 12] σ τ ∧ cK D R (if alw W K pl row gi j0 (dmx dm at_ m mask) = true then setK K d row (some (t, P, dmx dm at_ m mask)) else K) τ := by
  obtain ⟨ge, ln, hF⟩ := id cx
  have gn := ge.num
  obtain ⟨⟨_, _⟩, ⟨_, _, _⟩, ⟨_, _⟩, ⟨_, _⟩, ⟨_, _⟩, _, _, _, _⟩ := id gn
  have hpp := pos_lt hg hj0
  have hd1 := pw.1 row _ d hr hpp hp
  have i1 := idx_c gn hd1 (show row ≤ R by omega)
  have n11 : n 11 = D * (R + 1) * 9 := ln.1.2.2.2.1
  have n12 : n 12 = D * (R + 1) * 9 := ln.1.2.2.2.2.1
  have n14 : n 14 = D * (R + 1) := ln.1.2.2.2.2.2.2.1
  have n16 : n 16 = D * (R + 1) := ln.1.2.2.2.2.2.2.2.2
  obtain ⟨v1, v2, v3⟩ := hv
  have c0 : cellD (t, P, dm) (z9 dm) σ (d * (R + 1) + row) := by
    have := h d row hd1 (by omega)
    rw [hk] at this
    exact this
  have hdm' : ∀ i, 48 ≤ i → i < 64 → gb (dmx dm at_ m mask 8) i = false := by
    intro i g1 g2
    show gb (dm 8 ^^^ msk at_ mask m 8) i = false
    rw [gb_xor, v2 i g1 g2, msk_top hm hat i g1 g2]; rfl
  obtain ⟨τ1, e1, f1, c1⟩ := e_damage (n := n) (F := F) (mask := mask) c0 v1 v2 hm hat (by omega) (by omega) (by omega) (by omega) (by omega)
  have c1 : cellD (t, P, dmx dm at_ m mask) (cok (dmx dm at_ m mask)) τ1 (d * (R + 1) + row) := c1
  obtain ⟨τ2, e2, f2, c2⟩ := e_damage (n := n) (F := F) (mask := mask) c1 v1 hdm' hm hat (by omega) (by omega) (by omega) (by omega) (by omega)
  have c2 : cellD (t, P, dmx (dmx dm at_ m mask) at_ m mask) (cok (dmx (dmx dm at_ m mask) at_ m mask)) τ2 (d * (R + 1) + row) := c2
  rw [dmx_dmx] at c2
  have toFr : ∀ τ, FrC (d * (R + 1) + row) σ τ → Fr [14] [11, 12] σ τ := fun τ f => ⟨fun a z => f.1 a (by simpa using z), fun a z => by
    simp only [List.mem_cons, List.not_mem_nil, or_false, not_or] at z
    exact f.2.2.1 a z.1 z.2⟩
  have hcz : cok dm = z9 dm := by
    cases hz : z9 dm with
    | true => exact cok_z hz
    | false =>
      cases hc : cok dm with
      | false => rfl
      | true => exact absurd (v3 hc) (by show ¬ z9 dm = true; rw [hz]; decide)
  have setK_self : setK K d row (some (t, P, dm)) = K := by
    funext d1 o1
    unfold setK
    split
    · rename_i z; rw [z.1, z.2, hk]
    · rfl
  have hbad : ∀ al : Bool, al = false → ∃ τ, (if b2i al = 0 then (D_RK_damage F n τ1 (nI (d * (R + 1) + row)) (nI at_) (nI m) mask).bind (fun (σ9 : HS) => grd (isB (b2i al)) (some (σ9, b2i al))) else grd (isB (b2i al)) (some (τ1, b2i al))) = some (τ, b2i al) ∧ Fr [14] [11, 12] σ τ ∧ cK D R K τ := by
    intro al ha
    subst ha
    rw [if_pos (by rfl), e2, Option.bind_some, isB_b2i]
    refine ⟨τ2, rfl, toFr _ (f1.tr f2), ?_⟩
    have := h.dmg (show row ≤ R by omega) (f1.tr f2) (v := (t, P, dm)) (by rw [hcz] at c2; exact c2)
    rw [setK_self] at this
    exact this
  have hgood : ∀ al : Bool, al = true → cok (dmx dm at_ m mask) = z9 (dmx dm at_ m mask) → ∃ τ, (if b2i al = 0 then (D_RK_damage F n τ1 (nI (d * (R + 1) + row)) (nI at_) (nI m) mask).bind (fun (σ9 : HS) => grd (isB (b2i al)) (some (σ9, b2i al))) else grd (isB (b2i al)) (some (τ1, b2i al))) = some (τ, b2i al) ∧ Fr [14] [11, 12] σ τ ∧ cK D R (setK K d row (some (t, P, dmx dm at_ m mask))) τ := by
    intro al ha hq
    subst ha
    rw [if_neg (by decide), isB_b2i]
    exact ⟨τ1, rfl, toFr _ f1, h.dmg (show row ≤ R by omega) f1 (v := (t, P, dmx dm at_ m mask)) (by rw [hq] at c1; exact c1)⟩
  have hval : D_RK_isValid F n τ1 (nI (d * (R + 1) + row)) = some (b2i (cok (dmx dm at_ m mask))) := by
    rw [D_RK_isValid, if_neg (nI_m1 (by omega)), grd_in (by omega) (by omega), nI_clamp (by omega), c1.2.1]
    cases cok (dmx dm at_ m mask) <;> rfl
  have hoth := e_SF_othersAreValid (F := F) cx g h c pw hr hg hj0 τ1 f1.1 (fun j hj hne d' hd' => f1.2.1 _ (fun z => by
    obtain ⟨z1, _⟩ := cell_inj (show row ≤ R by omega) (show row ≤ R by omega) z
    subst z1
    have := pw.2 row _ _ d' hr (pos_lt hg hj) hpp hd' hp
    omega))
  have has : D_RK_isAsWritten F n τ1 (nI (d * (R + 1) + row)) = some (b2i (z9 (dmx dm at_ m mask))) := by
    rw [e_RK_isAsWritten gn ln.c _ i1.1 (by omega)]
    have : z9 (fun i => τ1.2 12 ((d * (R + 1) + row) * 9 + i)) = z9 (dmx dm at_ m mask) := by
      have w12 : ∀ i, i < 9 → τ1.2 12 ((d * (R + 1) + row) * 9 + i) = dmx dm at_ m mask i := c1.2.2.1
      refine Bool.eq_iff_iff.mpr ?_
      rw [z9_iff, z9_iff]
      exact ⟨fun z i hi => (w12 i hi).symm.trans (z i hi), fun z i hi => (w12 i hi).trans (z i hi)⟩
    rw [this]
  have h16 : τ1.1 16 (d * (R + 1) + row) = nI (row * D + (W * gi + j0)) := by
    rw [f1.1 16 (by decide)]
    exact (c.2 d row hd1 (by omega)).1 _ hr hpp hp
  rw [D_SF_spoilPlace, e1, Option.bind_some, hval, Option.bind_some]
  simp only [jn_q]
  rw [grd_in (by omega) (by omega), nI_clamp (by omega), h16, hoth, Option.bind_some, has, Option.bind_some]
  unfold alw
  cases hc : cok (dmx dm at_ m mask) with
  | true =>
    rw [if_neg (by decide), if_pos rfl]
    cases hz : z9 (dmx dm at_ m mask) with
    | true => rw [if_pos rfl]; exact hgood true rfl (by rw [hc, hz])
    | false => rw [if_neg (show ¬ (false = true) by decide)]; exact hbad false rfl
  | false =>
    have hz : z9 (dmx dm at_ m mask) = false := by
      cases hz : z9 (dmx dm at_ m mask) with
      | false => rfl
      | true => rw [cok_z hz] at hc; cases hc
    rw [if_pos (show b2i false = 0 by rfl), if_neg (show ¬ (false = true) by decide)]
    cases ho : oav W K pl row gi j0 with
    | true => rw [if_pos rfl]; exact hgood true rfl (by rw [hc, hz])
    | false => rw [if_neg (show ¬ (false = true) by decide)]; exact hbad false rfl
end SP
