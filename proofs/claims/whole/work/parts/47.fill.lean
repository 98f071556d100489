section FL
variable {D W R G : Nat} {hd : Nat → Nat → Nat} {F : Nat} {n : Nat → Nat} {σ : HS}
theorem e_fillJ_7 (hn : n 7 = 8) (hF : 100 ≤ F) (v : Int64) : ∃ τ, D_AR_fillJ_7 F n σ v = some τ ∧ τ.1 = σ.1 ∧ (∀ a, a ≠ 7 → τ.2 a = σ.2 a) ∧ ∀ i, i < 8 → τ.2 7 i = v := by
  obtain ⟨τ, e1, q⟩ := lp (L := D_AR_fillJ_7_L6 F n (nI 8) v) (N := 8) (I := fun m τ => τ.1 = σ.1 ∧ (∀ a, a ≠ 7 → τ.2 a = σ.2 a) ∧ ∀ i, i < m → τ.2 7 i = v) (Q := fun τ => τ.1 = σ.1 ∧ (∀ a, a ≠ 7 → τ.2 a = σ.2 a) ∧ ∀ i, i < 8 → τ.2 7 i = v)
    (fun k τ i hi ⟨q1, q2, q3⟩ => by
      refine Or.inl ⟨stL τ 7 i v, ⟨q1, fun a h => by rw [stL_2 a h]; exact q2 a h, fun j hj => ?_⟩, ?_⟩
      · rw [stL_s, updL_a]
        by_cases e : j = i
        · rw [if_pos e]
        · rw [if_neg e]; exact q3 j (by omega)
      · rw [D_AR_fillJ_7_L6, if_neg (by rw [nI_leI (by omega) (by omega)]; omega), grd_in (by omega) (by omega), nI_clamp (by omega), nm_q, nm_q, nI_1])
    (fun k τ h => ⟨τ, by rw [D_AR_fillJ_7_L6, if_pos (by decide)], h⟩) 8 0 F σ rfl (by omega) ⟨rfl, fun _ _ => rfl, fun i h => by omega⟩
  refine ⟨τ, ?_, q⟩
  rw [D_AR_fillJ_7, nm_q, hn, ← nI_0, e1]; rfl
theorem e_fillJ_5 (hn : n 5 = 8) (hF : 100 ≤ F) (v : Int64) : ∃ τ, D_AR_fillJ_5 F n σ v = some τ ∧ τ.1 = σ.1 ∧ (∀ a, a ≠ 5 → τ.2 a = σ.2 a) ∧ ∀ i, i < 8 → τ.2 5 i = v := by
  obtain ⟨τ, e1, q⟩ := lp (L := D_AR_fillJ_5_L6 F n (nI 8) v) (N := 8) (I := fun m τ => τ.1 = σ.1 ∧ (∀ a, a ≠ 5 → τ.2 a = σ.2 a) ∧ ∀ i, i < m → τ.2 5 i = v) (Q := fun τ => τ.1 = σ.1 ∧ (∀ a, a ≠ 5 → τ.2 a = σ.2 a) ∧ ∀ i, i < 8 → τ.2 5 i = v)
    (fun k τ i hi ⟨q1, q2, q3⟩ => by
      refine Or.inl ⟨stL τ 5 i v, ⟨q1, fun a h => by rw [stL_2 a h]; exact q2 a h, fun j hj => ?_⟩, ?_⟩
      · rw [stL_s, updL_a]
        by_cases e : j = i
        · rw [if_pos e]
        · rw [if_neg e]; exact q3 j (by omega)
      · rw [D_AR_fillJ_5_L6, if_neg (by rw [nI_leI (by omega) (by omega)]; omega), grd_in (by omega) (by omega), nI_clamp (by omega), nm_q, nm_q, nI_1])
    (fun k τ h => ⟨τ, by rw [D_AR_fillJ_5_L6, if_pos (by decide)], h⟩) 8 0 F σ rfl (by omega) ⟨rfl, fun _ _ => rfl, fun i h => by omega⟩
  refine ⟨τ, ?_, q⟩
  rw [D_AR_fillJ_5, nm_q, hn, ← nI_0, e1]; rfl
theorem e_fillI_15 {M : Nat} (hn : n 15 = M) (hM : M < 2000) (hF : 2000 ≤ F) (v : Int32) : ∃ τ, D_AR_fillI_15 F n σ v = some τ ∧ τ.2 = σ.2 ∧ (∀ a, a ≠ 15 → τ.1 a = σ.1 a) ∧ ∀ i, i < M → τ.1 15 i = v := by
  obtain ⟨τ, e1, q⟩ := lp (L := D_AR_fillI_15_L5 F n (nI M) v) (N := M) (I := fun m τ => τ.2 = σ.2 ∧ (∀ a, a ≠ 15 → τ.1 a = σ.1 a) ∧ ∀ i, i < m → τ.1 15 i = v) (Q := fun τ => τ.2 = σ.2 ∧ (∀ a, a ≠ 15 → τ.1 a = σ.1 a) ∧ ∀ i, i < M → τ.1 15 i = v)
    (fun k τ i hi ⟨q1, q2, q3⟩ => by
      refine Or.inl ⟨stI τ 15 i v, ⟨q1, fun a h => by rw [stI_1 a h]; exact q2 a h, fun j hj => ?_⟩, ?_⟩
      · rw [stI_s, upd_a]
        by_cases e : j = i
        · rw [if_pos e]
        · rw [if_neg e]; exact q3 j (by omega)
      · rw [D_AR_fillI_15_L5, if_neg (by rw [nI_leI (by omega) (by omega)]; omega), grd_in (by omega) (by omega), nI_clamp (by omega), nm_q, nm_q, nI_1])
    (fun k τ h => ⟨τ, by rw [D_AR_fillI_15_L5, if_pos (Int32.le_refl _)], h⟩) M 0 F σ (Nat.zero_add _) (by omega) ⟨rfl, fun _ _ => rfl, fun i h => by omega⟩
  refine ⟨τ, ?_, q⟩
  rw [D_AR_fillI_15, nm_q, hn, ← nI_0, e1]; rfl
theorem e_fillI_16 {M : Nat} (hn : n 16 = M) (hM : M < 2000) (hF : 2000 ≤ F) (v : Int32) : ∃ τ, D_AR_fillI_16 F n σ v = some τ ∧ τ.2 = σ.2 ∧ (∀ a, a ≠ 16 → τ.1 a = σ.1 a) ∧ ∀ i, i < M → τ.1 16 i = v := by
  obtain ⟨τ, e1, q⟩ := lp (L := D_AR_fillI_16_L5 F n (nI M) v) (N := M) (I := fun m τ => τ.2 = σ.2 ∧ (∀ a, a ≠ 16 → τ.1 a = σ.1 a) ∧ ∀ i, i < m → τ.1 16 i = v) (Q := fun τ => τ.2 = σ.2 ∧ (∀ a, a ≠ 16 → τ.1 a = σ.1 a) ∧ ∀ i, i < M → τ.1 16 i = v)
    (fun k τ i hi ⟨q1, q2, q3⟩ => by
      refine Or.inl ⟨stI τ 16 i v, ⟨q1, fun a h => by rw [stI_1 a h]; exact q2 a h, fun j hj => ?_⟩, ?_⟩
      · rw [stI_s, upd_a]
        by_cases e : j = i
        · rw [if_pos e]
        · rw [if_neg e]; exact q3 j (by omega)
      · rw [D_AR_fillI_16_L5, if_neg (by rw [nI_leI (by omega) (by omega)]; omega), grd_in (by omega) (by omega), nI_clamp (by omega), nm_q, nm_q, nI_1])
    (fun k τ h => ⟨τ, by rw [D_AR_fillI_16_L5, if_pos (Int32.le_refl _)], h⟩) M 0 F σ (Nat.zero_add _) (by omega) ⟨rfl, fun _ _ => rfl, fun i h => by omega⟩
  refine ⟨τ, ?_, q⟩
  rw [D_AR_fillI_16, nm_q, hn, ← nI_0, e1]; rfl
/-- only the sum changes -/
def SumOnly (σ τ : HS) : Prop := τ.1 = σ.1 ∧ ∀ a, a ≠ 7 → τ.2 a = σ.2 a
theorem SumOnly.rf : SumOnly σ σ := ⟨rfl, fun _ _ => rfl⟩
theorem SumOnly.tr {τ υ : HS} (h : SumOnly σ τ) (h2 : SumOnly τ υ) : SumOnly σ υ := ⟨h2.1.trans h.1, fun a e => (h2.2 a e).trans (h.2 a e)⟩
theorem e_addTo (h7 : n 7 = 8) {c : Nat} (h11 : c * 9 + 9 ≤ n 11) (hc : c < 100000) (hF : 100 ≤ F) : ∃ τ, D_RK_addTo_7 F n σ (nI c) = some τ ∧ SumOnly σ τ ∧ ∀ i, i < 8 → τ.2 7 i = σ.2 7 i ^^^ σ.2 11 (c * 9 + i) := by
  obtain ⟨τ, e1, q⟩ := lp (L := D_RK_addTo_7_L2 F n (nI c)) (N := 8) (I := fun m τ => SumOnly σ τ ∧ ∀ i, τ.2 7 i = if i < m then σ.2 7 i ^^^ σ.2 11 (c * 9 + i) else σ.2 7 i) (Q := fun τ => SumOnly σ τ ∧ ∀ i, i < 8 → τ.2 7 i = σ.2 7 i ^^^ σ.2 11 (c * 9 + i))
    (fun k τ i hi ⟨⟨q1, q2⟩, q3⟩ => by
      refine Or.inl ⟨stL τ 7 i (σ.2 7 i ^^^ σ.2 11 (c * 9 + i)), ⟨⟨q1, fun a h => by rw [stL_2 a h]; exact q2 a h⟩, fun j => ?_⟩, ?_⟩
      · rw [stL_s, updL_a, q3]
        by_cases e : j = i
        · rw [if_pos e, if_pos (by omega), e]
        · rw [if_neg e]
          by_cases e2 : j < i
          · rw [if_pos e2, if_pos (by omega)]
          · rw [if_neg e2, if_neg (by omega)]
      · rw [D_RK_addTo_7_L2, if_neg (by rw [show (8 : Int32) = nI 8 from rfl, nI_leI (by omega) (by omega)]; omega), grd_in (by omega) (by omega), show (9 : Int32) = nI 9 from rfl, pk_mul, nI_add, grd_in (by omega) (by omega), grd_in (by omega) (by omega), nI_clamp (by omega), nI_clamp (by omega), q3, if_neg (by omega), q2 11 (by decide), nm_q, nm_q, nI_1])
    (fun k τ h => ⟨τ, by rw [D_RK_addTo_7_L2, if_pos (by decide)], h.1, fun i hi => by rw [h.2, if_pos hi]⟩) 8 0 F σ rfl (by omega) ⟨SumOnly.rf, fun i => by rw [if_neg (by omega)]⟩
  exact ⟨τ, by rw [D_RK_addTo_7, ← nI_0, e1]; rfl, q⟩
theorem e_addFresh (h7 : n 7 = 8) (h6 : n 6 = 8) (hF : 100 ≤ F) : ∃ τ, D_SF_addFresh F n σ = some τ ∧ SumOnly σ τ ∧ ∀ i, i < 8 → τ.2 7 i = σ.2 7 i ^^^ σ.2 6 i := by
  obtain ⟨τ, e1, q⟩ := lp (L := D_SF_addFresh_L2 F n) (N := 8) (I := fun m τ => SumOnly σ τ ∧ ∀ i, τ.2 7 i = if i < m then σ.2 7 i ^^^ σ.2 6 i else σ.2 7 i) (Q := fun τ => SumOnly σ τ ∧ ∀ i, i < 8 → τ.2 7 i = σ.2 7 i ^^^ σ.2 6 i)
    (fun k τ i hi ⟨⟨q1, q2⟩, q3⟩ => by
      refine Or.inl ⟨stL τ 7 i (σ.2 7 i ^^^ σ.2 6 i), ⟨⟨q1, fun a h => by rw [stL_2 a h]; exact q2 a h⟩, fun j => ?_⟩, ?_⟩
      · rw [stL_s, updL_a, q3]
        by_cases e : j = i
        · rw [if_pos e, if_pos (by omega), e]
        · rw [if_neg e]
          by_cases e2 : j < i
          · rw [if_pos e2, if_pos (by omega)]
          · rw [if_neg e2, if_neg (by omega)]
      · rw [D_SF_addFresh_L2, if_neg (by rw [show (8 : Int32) = nI 8 from rfl, nI_leI (by omega) (by omega)]; omega), grd_in (by omega) (by omega), grd_in (by omega) (by omega), grd_in (by omega) (by omega), nI_clamp (by omega), q3, if_neg (by omega), q2 6 (by decide), nm_q, nm_q, nI_1])
    (fun k τ h => ⟨τ, by rw [D_SF_addFresh_L2, if_pos (by decide)], h.1, fun i hi => by rw [h.2, if_pos hi]⟩) 8 0 F σ rfl (by omega) ⟨SumOnly.rf, fun i => by rw [if_neg (by omega)]⟩
  exact ⟨τ, by rw [D_SF_addFresh, ← nI_0, e1]; rfl, q⟩
theorem e_takeTape (h5 : n 5 = 8) (h6 : n 6 = 8) (hF : 100 ≤ F) : ∃ τ, D_SF_takeTape F n σ = some τ ∧ (∀ a, a ≠ 0 → τ.1 a = σ.1 a) ∧ τ.1 0 = upd (σ.1 0) 5 (nI 0) ∧ (∀ a, a ≠ 5 → a ≠ 6 → τ.2 a = σ.2 a) ∧ (∀ i, i < 8 → τ.2 5 i = 0) ∧ ∀ i, i < 8 → τ.2 6 i = σ.2 5 i := by
  have hok : cpok (0 : Int32) (0 : Int32) (8 : Int32) (n 5) (n 6) = true := by rw [h5, h6]; decide
  obtain ⟨τ, e1, q1, q2, q3⟩ := e_fillJ_5 (σ := cpL σ 5 ((0 : Int32)).toNatClampNeg 6 ((0 : Int32)).toNatClampNeg ((8 : Int32)).toNatClampNeg) h5 hF 0
  refine ⟨stF τ 0 5 (nI 0), ?_, fun a h => ?_, ?_, fun a h1 h2 => ?_, q3, fun i hi => ?_⟩
  · rw [D_SF_takeTape, grd_t hok, nm_q, e1]; rfl
  · rw [stF_1 a h, q1]; rfl
  · rw [stF_s, q1]; rfl
  · rw [stF_2, q2 a h1]
    show cond (Nat.beq a 6) _ _ = _
    rw [beq_ne h2]; rfl
  · rw [stF_2, q2 6 (by decide)]
    show va_cpy (σ.2 5) (σ.2 6) 0 0 8 i = _
    rw [pk_cpy_in (Nat.zero_le _) (by omega), show 0 + (i - 0) = i by omega]
end FL
