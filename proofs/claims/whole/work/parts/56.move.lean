section MV
variable {D W R G : Nat} {hd : Nat → Nat → Nat} {F : Nat} {n : Nat → Nat} {σ : HS} {s : PS} {pl : Nat → Nat → Option Nat} {live : Nat → Bool}
theorem z_if {α : Type} (b : Bool) (x y : α) : (if b2i b = 0 then x else y) = (if b = true then y else x) := by cases b <;> rfl
/-- the sum is as a block: only its eight words count -/
theorem e_SF_moveTo (cx : Ctx D W R G hd n F) (cr : CRs D W R G hd live pl s σ) (pw : PW D R (W * G) pl) (pk : PK R (W * G) s.1 pl) {row gi j d : Nat} (hr : row < R) (hg : gi < G) (hj : j < W) (hd1 : d < D) (hfree : ∀ q, q < W * G → pl row q ≠ some d) : ∃ τ, D_SF_moveTo F n σ (nI (row * D + (W * gi + j))) (nI (d * (R + 1) + row)) = some (τ, b2i (aput s d row (W * gi + j + 1, rdv W s.1 pl row gi j, zr)).2) ∧ Fr [4, 13, 14, 15, 16] [7, 11, 12] σ τ ∧ CRs D W R G hd live (if (aput s d row (W * gi + j + 1, rdv W s.1 pl row gi j, zr)).2 = true then setP pl row (W * gi + j) (some d) else pl) (aput s d row (W * gi + j + 1, rdv W s.1 pl row gi j, zr)).1 τ := by
  obtain ⟨ge, ln, hF⟩ := id cx
  have gn := ge.num
  obtain ⟨⟨_, _⟩, ⟨_, _, _⟩, ⟨_, _⟩, ⟨_, _⟩, ⟨_, _⟩, _, _, _, _⟩ := id gn
  have hp := pos_lt hg hj
  obtain ⟨τ1, e1, a1, a2, a3⟩ := e_fillJ_7 (F := F) (σ := σ) ln.1.1.2.2.1 (by omega) 0
  have f1 : SumOnly σ τ1 := ⟨a1, a2⟩
  have cr1 := cr.congr f1.fr
  obtain ⟨τ2, e2, f2, b3⟩ := e_SF_addRead cx cr1 pw pk hr hg hj
  have cr2 := cr1.congr f2.fr
  have hP : ∀ i, i < 8 → τ2.2 7 i = rdv W s.1 pl row gi j i := fun i hi => by rw [b3 i hi, a3 i hi]; exact Int64.zero_xor
  obtain ⟨τ3, e3, f3, cr3⟩ := e_put (b := 7) (t := W * gi + j + 1) cx cr2 (Or.inr (Or.inl rfl)) hP hd1 (show row ≤ R by omega)
  have fA : Fr [4, 13, 14, 15, 16] [7, 11, 12] σ τ3 := ((f1.fr.mono (by simp) (by simp)).tr (f2.fr.mono (by simp) (by simp))).tr (f3.mono (by simp) (by simp))
  rw [D_SF_moveTo, e1, Option.bind_some, e_LA_stripeOfSlot gn cr1.1 row gi j hr hj (by omega), Option.bind_some, e_LA_columnOfSlot gn cr1.1 row gi j hr hj (by omega), Option.bind_some, e2, Option.bind_some, e_LA_tagOf gn cr2.1 row _ hr (by omega), Option.bind_some, G_put_7, e3, Option.bind_some, nm2_q]
  simp only [z_if]
  cases hb : (aput s d row (W * gi + j + 1, rdv W s.1 pl row gi j, zr)).2 with
  | false =>
    refine ⟨τ3, ?_, fA, ?_⟩
    · rw [if_neg (by decide)]; rfl
    · rw [if_neg (by decide)]; exact cr3
  | true =>
    obtain ⟨τ4, e4, f4, c4⟩ := e_move cx cr3.2.2.2.1 pw hr hp hd1 hfree
    rw [if_pos rfl, e4]
    refine ⟨τ4, rfl, fA.tr (f4.fr.mono (by simp) (by simp)), ?_⟩
    · rw [if_pos rfl]
      have g4 := f4.fr
      exact ⟨f4.geo cr3.1, fun x hx => by rw [g4.1 10 (by decide)]; exact cr3.2.1 x hx, f4.cK cr3.2.2.1, c4, by unfold cPow; rw [g4.1 4 (by decide)]; exact cr3.2.2.2.2.1, fun i hi => by rw [g4.2 8 (by decide)]; exact cr3.2.2.2.2.2 i hi⟩
end MV
