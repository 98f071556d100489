section CLR
variable {D W R G : Nat} {hd : Nat → Nat → Nat} {F : Nat} {n : Nat → Nat} {σ : HS} {s : PS} {pl : Nat → Nat → Option Nat} {live : Nat → Bool}
/-- tags stay small -/
def TS (R D : Nat) (K : Rk) : Prop := ∀ d o v, d < D → o ≤ R → K d o = some v → v.1 < 65536
theorem TS.put {R D : Nat} {s : PS} {d o t : Nat} {P : Nat → Int64} (h : TS R D s.1) (ht : t < 65536) : TS R D (aput s d o (t, P, zr)).1.1 := by
  unfold aput
  split
  · exact h
  · intro d1 o1 v hd ho e
    have e : setK s.1 d o (some (t, P, zr)) d1 o1 = some v := e
    unfold setK at e
    split at e
    · cases e; exact ht
    · exact h d1 o1 v hd ho e
theorem e_clr1 (cx : Ctx D W R G hd n F) (cr : CRs D W R G hd live pl s σ) (ts : TS R D s.1) {row : Nat} (hr : row < R) : ∃ r τ, D_SF_clearFreeSpares_L21 F n (nI row) F σ (nI (W * G)) = some r ∧ ((r = Sum.inl τ ∧ (aClr1 (W * G) hd pl row (D - W * G) (W * G) s).2 = true) ∨ (r = Sum.inr (τ, 0) ∧ (aClr1 (W * G) hd pl row (D - W * G) (W * G) s).2 = false)) ∧ Fr [4, 13, 14] [7, 11, 12] σ τ ∧ CRs D W R G hd live pl (aClr1 (W * G) hd pl row (D - W * G) (W * G) s).1 τ ∧ TS R D (aClr1 (W * G) hd pl row (D - W * G) (W * G) s).1.1 := by
  obtain ⟨ge, ln, hF⟩ := id cx
  have gn := ge.num
  have hh := ge.2.2.2.2.1
  obtain ⟨⟨_, _⟩, ⟨_, _, _⟩, ⟨_, _⟩, ⟨_, _⟩, ⟨_, _⟩, _, _, _, _⟩ := id gn
  have n9 : n 9 = R * D := ln.1.2.1
  have n16 : n 16 = D * (R + 1) := ln.1.2.2.2.2.2.2.2.2
  obtain ⟨r, e1, τ, q⟩ := lp (L := D_SF_clearFreeSpares_L21 F n (nI row)) (N := D) (I := fun q τ => ∃ s1 : PS, CRs D W R G hd live pl s1 τ ∧ Fr [4, 13, 14] [7, 11, 12] σ τ ∧ TS R D s1.1 ∧ aClr1 (W * G) hd pl row (D - W * G) (W * G) s = aClr1 (W * G) hd pl row (D - q) q s1)
    (Q := fun r => ∃ τ, ((r = Sum.inl τ ∧ (aClr1 (W * G) hd pl row (D - W * G) (W * G) s).2 = true) ∨ (r = Sum.inr (τ, 0) ∧ (aClr1 (W * G) hd pl row (D - W * G) (W * G) s).2 = false)) ∧ Fr [4, 13, 14] [7, 11, 12] σ τ ∧ CRs D W R G hd live pl (aClr1 (W * G) hd pl row (D - W * G) (W * G) s).1 τ ∧ TS R D (aClr1 (W * G) hd pl row (D - W * G) (W * G) s).1.1)
    (fun k τ q hq ⟨s1, c1, fr1, t1, ea⟩ => by
      obtain ⟨m, hm⟩ : ∃ m, D - q = m + 1 := ⟨D - q - 1, by omega⟩
      have hm2 : D - (q + 1) = m := by omega
      rw [hm, aClr1] at ea
      have i1 := lt2 hr hq
      have hdq := hh row q
      have i2 := idx_c gn hdq (show row ≤ R by omega)
      have hst : D_SF_clearFreeSpares_L21 F n (nI row) (k + 1) τ (nI q) = if stl (W * G) s1.1 pl row (hd row q) = true then (D_SF_putCell_8 F n τ (nI (hd row q * (R + 1) + row)) 0).bind (fun x => if x.2 = 0 then some (Sum.inr (x.1, 0)) else D_SF_clearFreeSpares_L21 F n (nI row) k x.1 (nI (q + 1))) else D_SF_clearFreeSpares_L21 F n (nI row) k τ (nI (q + 1)) := by
        rw [D_SF_clearFreeSpares_L21, c1.1.1.1, if_neg (by rw [nI_leI (by omega) (by omega)]; omega), e_LA_slot c1.1, Option.bind_some, grd_in (by omega) (by omega), nm_q, nI_clamp (by omega), c1.1.2 row q hr hq, grd_in (by omega) (by omega), nI_clamp (by omega)]
        simp only [nm_q, jn_q, nm2_q, nI_1]
        unfold stl
        cases hh1 : held (W * G) pl row (hd row q) with
        | true => rw [if_neg (fun z => by rw [(hold_m1 gn c1.2.2.2.1 hdq hr).mp z] at hh1; cases hh1)]; rfl
        | false =>
          rw [if_pos ((hold_m1 gn c1.2.2.2.1 hdq hr).mpr hh1), e_RK_isValid gn ln.c c1.2.2.1 hdq (by omega), Option.bind_some]
          cases hv : isv (s1.1 (hd row q) row) with
          | false =>
            have : vt (s1.1 (hd row q) row) = 0 := by
              cases hk : s1.1 (hd row q) row with
              | none => rfl
              | some v =>
                rw [hk] at hv
                show (if z9 v.2.2 = true then v.1 else 0) = 0
                rw [if_neg (by rw [show z9 v.2.2 = false from hv]; decide)]
            rw [if_pos (by rfl), this]; rfl
          | true =>
            obtain ⟨v, hk⟩ : ∃ v, s1.1 (hd row q) row = some v := by
              cases hk : s1.1 (hd row q) row with
              | none => rw [hk] at hv; cases hv
              | some v => exact ⟨v, rfl⟩
            have hz : z9 v.2.2 = true := by rw [hk] at hv; exact hv
            have hvt : vt (s1.1 (hd row q) row) = v.1 := by rw [hk]; show (if z9 v.2.2 = true then v.1 else 0) = v.1; rw [if_pos hz]
            have hlt := t1 _ _ v hdq (show row ≤ R by omega) hk
            rw [if_neg (by decide), e_RK_tag gn ln.c c1.2.2.1 hdq (by omega) hk hz hlt, Option.bind_some, hvt]
            by_cases e0 : v.1 = 0
            · rw [e0, if_pos (by decide)]; rfl
            · rw [if_neg (by rw [← nI_0, nI_leI (by omega) (by omega)]; omega), if_neg (by decide), if_pos (by simp; omega)]
      rw [hst]
      cases hs : stl (W * G) s1.1 pl row (hd row q) with
      | false =>
        rw [hs, if_neg (by decide)] at ea
        rw [if_neg (by decide)]
        exact Or.inl ⟨τ, ⟨s1, c1, fr1, t1, by rw [hm2]; exact ea⟩, rfl⟩
      | true =>
        rw [hs, if_pos rfl] at ea
        rw [if_pos rfl]
        obtain ⟨υ, u1, u2, u3⟩ := e_put (b := 8) (t := 0) cx c1 (Or.inr (Or.inr rfl)) (P := zr) (fun i hi => c1.2.2.2.2.2 i hi) hdq (show row ≤ R by omega)
        have fA := fr1.tr (u2.mono (B1 := [7, 11, 12]) (A1 := [4, 13, 14]) (by simp) (by simp))
        rw [G_put_8, ← nI_0, u1, Option.bind_some, nI_0]
        unfold andT at ea
        cases hb : (aput s1 (hd row q) row (0, zr, zr)).2 with
        | false =>
          rw [hb, if_neg (by decide)] at ea
          exact Or.inr ⟨Sum.inr (υ, 0), by rw [if_pos (by rfl)], υ, Or.inr ⟨rfl, by rw [ea, hb]⟩, fA, by rw [ea]; exact u3, by rw [ea]; exact t1.put (by omega)⟩
        | true =>
          rw [hb, if_pos rfl] at ea
          exact Or.inl ⟨υ, ⟨_, u3, fA, t1.put (by omega), by rw [hm2]; exact ea⟩, by rw [if_neg (by simp [b2i])]⟩)
    (fun k τ ⟨s1, c1, fr1, t1, ea⟩ => by
      rw [Nat.sub_self, aClr1] at ea
      exact ⟨Sum.inl τ, by rw [D_SF_clearFreeSpares_L21, c1.1.1.1, if_pos (Int32.le_refl _)], τ, Or.inl ⟨rfl, by rw [ea]⟩, fr1, by rw [ea]; exact c1, by rw [ea]; exact t1⟩)
    (D - W * G) (W * G) F σ (by omega) (by omega) ⟨s, cr, Fr.rf, ts, rfl⟩
  exact ⟨r, τ, e1, q⟩
theorem e_SF_clearFreeSpares (cx : Ctx D W R G hd n F) (cr : CRs D W R G hd live pl s σ) (ts : TS R D s.1) : ∃ τ, D_SF_clearFreeSpares F n σ = some (τ, b2i (aClr D (W * G) hd pl R 0 s).2) ∧ Fr [4, 13, 14] [7, 11, 12] σ τ ∧ CRs D W R G hd live pl (aClr D (W * G) hd pl R 0 s).1 τ := by
  obtain ⟨ge, ln, hF⟩ := id cx
  obtain ⟨⟨_, _⟩, ⟨_, _, _⟩, ⟨_, _⟩, ⟨_, _⟩, ⟨_, _⟩, _, _, _, _⟩ := ge.num
  obtain ⟨r, e1, τ, h1, h2, h3⟩ := lp (L := D_SF_clearFreeSpares_L2 F n) (N := R) (I := fun row τ => ∃ s1 : PS, CRs D W R G hd live pl s1 τ ∧ Fr [4, 13, 14] [7, 11, 12] σ τ ∧ TS R D s1.1 ∧ aClr D (W * G) hd pl R 0 s = aClr D (W * G) hd pl (R - row) row s1)
    (Q := fun r => ∃ τ, ((r = Sum.inl τ ∧ (aClr D (W * G) hd pl R 0 s).2 = true) ∨ (r = Sum.inr (τ, 0) ∧ (aClr D (W * G) hd pl R 0 s).2 = false)) ∧ Fr [4, 13, 14] [7, 11, 12] σ τ ∧ CRs D W R G hd live pl (aClr D (W * G) hd pl R 0 s).1 τ)
    (fun k τ row hr ⟨s1, c1, fr1, t1, ea⟩ => by
      obtain ⟨m, hm⟩ : ∃ m, R - row = m + 1 := ⟨R - row - 1, by omega⟩
      have hm2 : R - (row + 1) = m := by omega
      rw [hm, aClr] at ea
      obtain ⟨r, υ, u1, u2, u3, u4, u5⟩ := e_clr1 cx c1 t1 hr
      have hst : D_SF_clearFreeSpares_L2 F n (k + 1) τ (nI row) = (some r).bind (fun q => match q with | Sum.inl υ => D_SF_clearFreeSpares_L2 F n k υ (nI (row + 1)) | Sum.inr z => some (Sum.inr z)) := by
        rw [D_SF_clearFreeSpares_L2, c1.1.1.2.2.1, if_neg (by rw [nI_leI (by omega) (by omega)]; omega), nm_q, c1.1.1.2.2.2.2.2.2.1, u1]
        simp only [nm_q, nI_1]
        cases r <;> rfl
      rw [hst]
      unfold andT at ea
      rcases u2 with ⟨rfl, hb⟩ | ⟨rfl, hb⟩
      · rw [hb, if_pos rfl] at ea
        exact Or.inl ⟨υ, ⟨_, u4, fr1.tr u3, u5, by rw [hm2]; exact ea⟩, rfl⟩
      · rw [hb, if_neg (by decide)] at ea
        exact Or.inr ⟨Sum.inr (υ, 0), rfl, υ, Or.inr ⟨rfl, by rw [ea, hb]⟩, fr1.tr u3, by rw [ea]; exact u4⟩)
    (fun k τ ⟨s1, c1, fr1, t1, ea⟩ => by
      rw [Nat.sub_self, aClr] at ea
      exact ⟨Sum.inl τ, by rw [D_SF_clearFreeSpares_L2, c1.1.1.2.2.1, if_pos (Int32.le_refl _)], τ, Or.inl ⟨rfl, by rw [ea]⟩, fr1, by rw [ea]; exact c1⟩)
    R 0 F σ (by omega) (by omega) ⟨s, cr, Fr.rf, ts, rfl⟩
  refine ⟨τ, ?_, h2, h3⟩
  rw [D_SF_clearFreeSpares, ← nI_0, e1, Option.bind_some]
  rcases h1 with ⟨rfl, h⟩ | ⟨rfl, h⟩ <;> rw [h] <;> rfl
end CLR
