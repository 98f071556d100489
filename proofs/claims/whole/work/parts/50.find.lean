/-- only the places change -/
def PlOnly (σ τ : HS) : Prop := τ.2 = σ.2 ∧ ∀ a, a ≠ 15 → a ≠ 16 → τ.1 a = σ.1 a
theorem PlOnly.rf {σ : HS} : PlOnly σ σ := ⟨rfl, fun _ _ _ => rfl⟩
theorem PlOnly.tr {σ τ υ : HS} (h : PlOnly σ τ) (h2 : PlOnly τ υ) : PlOnly σ υ := ⟨h2.1.trans h.1, fun a e e1 => (h2.2 a e e1).trans (h.2 a e e1)⟩
theorem PlOnly.geo {D W R G : Nat} {hd : Nat → Nat → Nat} {σ τ : HS} (h : PlOnly σ τ) (g : cGeo D W R G hd σ) : cGeo D W R G hd τ := g.congr (h.2 1 (by decide) (by decide)) (h.2 9 (by decide) (by decide))
theorem PlOnly.cK {D R : Nat} {K : Rk} {σ τ : HS} (h : PlOnly σ τ) (g : cK D R K σ) : cK D R K τ := g.congr (h.2 13 (by decide) (by decide)) (h.2 14 (by decide) (by decide)) (by rw [h.1]) (by rw [h.1])
/-- the places found so far: rows before row, and the first m positions of row -/
def plD (f : Nat → Nat → Option Nat) (row m : Nat) : Nat → Nat → Option Nat := fun r q => if r < row ∨ r = row ∧ q < m then f r q else none
theorem plD_step (f : Nat → Nat → Option Nat) (row m : Nat) : plD f row (m + 1) = setP (plD f row m) row m (f row m) := by
  funext r q
  unfold plD setP
  by_cases e : r = row ∧ q = m
  · rw [if_pos e, if_pos (by omega), e.1, e.2]
  · rw [if_neg e]
    show _ = (if r < row ∨ r = row ∧ q < m then f r q else none)
    by_cases e2 : r < row ∨ r = row ∧ q < m
    · rw [if_pos e2, if_pos (by omega)]
    · rw [if_neg e2, if_neg (by omega)]
theorem plD_none {f : Nat → Nat → Option Nat} {row m : Nat} : plD f row m row m = none := if_neg (by omega)
theorem cPl.ext {D R N : Nat} {pl pl' : Nat → Nat → Option Nat} {σ : HS} (h : cPl D R N pl σ) (e : ∀ row p, row < R → p < N → pl row p = pl' row p) : cPl D R N pl' σ := by
  refine ⟨fun row p hr hp => by rw [← e row p hr hp]; exact h.1 row p hr hp, fun d o hd ho => ⟨fun p ho1 hp h1 => (h.2 d o hd ho).1 p ho1 hp (by rw [e o p ho1 hp]; exact h1), fun h1 => ?_⟩⟩
  by_cases z : o = R
  · exact (h.2 d o hd ho).2 (Or.inl z)
  · exact (h.2 d o hd ho).2 (h1.imp id (fun h1 p hp => by rw [e o p (by omega) hp]; exact h1 p hp))
section FI
variable {D W R G : Nat} {hd : Nat → Nat → Nat} {F : Nat} {n : Nat → Nat} {σ : HS} {K : Rk}
theorem e_PL_find (ge : Geo D W R G hd) (ln : LenC D W R G n) (g : cGeo D W R G hd σ) (h : cK D R K σ) (kw : KW D R K) (hF : 2000 ≤ F) : ∃ τ, D_PL_find F n σ = some τ ∧ PlOnly σ τ ∧ cPl D R (W * G) (fnd D (W * G) hd K) τ := by
  have gn := ge.num
  obtain ⟨⟨_, _⟩, ⟨_, _, _⟩, ⟨_, _⟩, ⟨_, _⟩, ⟨_, _⟩, _, _, _, _⟩ := id gn
  have n15 : n 15 = R * D := ln.1.2.2.2.2.2.2.2.1
  have n16 : n 16 = D * (R + 1) := ln.1.2.2.2.2.2.2.2.2
  obtain ⟨τ1, e1, a1, a2, a3⟩ := e_fillI_15 (σ := σ) n15 (by omega) hF (-1)
  obtain ⟨τ2, e2, b1, b2, b3⟩ := e_fillI_16 (σ := τ1) n16 (by omega) hF (-1)
  have hPl0 : PlOnly σ τ2 := ⟨b1.trans a1, fun a z1 z2 => (b2 a z2).trans (a2 a z1)⟩
  have hc0 : cPl D R (W * G) (plD (fnd D (W * G) hd K) 0 0) τ2 := by
    refine ⟨fun row p hr hp => ?_, fun d o hd1 ho => ⟨fun p _ _ z => ?_, fun _ => b3 _ (idx_c gn hd1 ho).1⟩⟩
    · rw [b2 15 (by decide), a3 _ (lt2 hr (show p < D by omega))]
      unfold plD
      rw [if_neg (by omega)]; rfl
    · unfold plD at z
      rw [if_neg (by omega)] at z; cases z
  have inner : ∀ (τ : HS) (row : Nat), row < R → PlOnly σ τ → cPl D R (W * G) (plD (fnd D (W * G) hd K) row 0) τ → ∃ υ, D_PL_find_L31 F n (nI row) F τ (nI 0) = some υ ∧ PlOnly σ υ ∧ cPl D R (W * G) (plD (fnd D (W * G) hd K) row (W * G)) υ := by
    intro τ row hr hp0 hc
    refine lp (L := D_PL_find_L31 F n (nI row)) (N := W * G) (I := fun m υ => PlOnly σ υ ∧ cPl D R (W * G) (plD (fnd D (W * G) hd K) row m) υ) (Q := fun υ => PlOnly σ υ ∧ cPl D R (W * G) (plD (fnd D (W * G) hd K) row (W * G)) υ)
      (fun k υ p hp ⟨q1, q2⟩ => ?_) (fun k υ q => ⟨υ, by rw [D_PL_find_L31, (q.1.geo g).1.2.2.2.2.2.2.1, if_pos (Int32.le_refl _)], q⟩) (W * G) 0 F τ (Nat.zero_add _) (by omega) ⟨hp0, hc⟩
    have gg := q1.geo g
    have i1 := lt2 hr (show p < D by omega)
    have hfd := e_PL_found (F := F) ge ln gg (q1.cK h) kw (by omega) hr hp
    have hstep : D_PL_find_L31 F n (nI row) (k + 1) υ (nI p) = (if pc_ R row (fnd D (W * G) hd K row p) = (-1 : Int32) then D_PL_find_L31 F n (nI row) k (stI υ 15 (row * D + p) (pc_ R row (fnd D (W * G) hd K row p))) (nI (p + 1)) else
        grd (inb (pc_ R row (fnd D (W * G) hd K row p)) (n 16)) (D_PL_find_L31 F n (nI row) k (stI (stI υ 15 (row * D + p) (pc_ R row (fnd D (W * G) hd K row p))) 16 (pc_ R row (fnd D (W * G) hd K row p)).toNatClampNeg (nI (row * D + p))) (nI (p + 1)))) := by
      rw [D_PL_find_L31, gg.1.2.2.2.2.2.2.1, if_neg (by rw [nI_leI (by omega) (by omega)]; omega), e_LA_slot gg, Option.bind_some, hfd, Option.bind_some, grd_in (by omega) (by omega), nm_q, nI_clamp (by omega), stI_s, upd_s, grd_in (by omega) (by omega)]
      simp only [nm_q, nI_1]
      rw [grd_in (by omega) (by omega)]
    rw [hstep, plD_step]
    cases hf : fnd D (W * G) hd K row p with
    | none =>
      rw [if_pos (by rfl)]
      refine Or.inl ⟨stI υ 15 (row * D + p) (pc_ R row none), ⟨q1.tr ⟨rfl, fun a z1 z2 => stI_1 a z1⟩, ?_⟩, rfl⟩
      have e : setP (plD (fnd D (W * G) hd K) row p) row p none = plD (fnd D (W * G) hd K) row p := by
        funext r q
        unfold setP
        by_cases z : r = row ∧ q = p
        · rw [if_pos z, z.1, z.2, plD_none]
        · rw [if_neg z]
      rw [e]
      exact q2.skip (by omega) hp plD_none stI_s (stI_1 16 (by decide))
    | some d =>
      have hd1 := fnd_lt ge hf
      have i2 := idx_c gn hd1 (show row ≤ R by omega)
      have ec : pc_ R row (some d) = nI (d * (R + 1) + row) := rfl
      rw [ec, if_neg (nI_m1 (by omega)), grd_in (by omega) (by omega), nI_clamp (by omega)]
      refine Or.inl ⟨stI (stI υ 15 (row * D + p) (nI (d * (R + 1) + row))) 16 (d * (R + 1) + row) (nI (row * D + p)), ⟨q1.tr ⟨rfl, fun a z1 z2 => (stI_1 a z2).trans (stI_1 a z1)⟩, ?_⟩, rfl⟩
      refine q2.set (by omega) hr hp (fun q hq z => ?_) plD_none ((stI_1 15 (by decide)).trans stI_s) (stI_s.trans (by rw [stI_1 16 (by decide)]))
      unfold plD at z
      split at z
      · rename_i hz
        have := fnd_inj ge hp hq hf z
        omega
      · cases z
  obtain ⟨τ, e3, q1, q2⟩ := lp (L := D_PL_find_L18 F n) (N := R) (I := fun row υ => PlOnly σ υ ∧ cPl D R (W * G) (plD (fnd D (W * G) hd K) row 0) υ) (Q := fun υ => PlOnly σ υ ∧ cPl D R (W * G) (plD (fnd D (W * G) hd K) R 0) υ)
    (fun k υ row hr ⟨q1, q2⟩ => by
      obtain ⟨υ2, z1, z2, z3⟩ := inner υ row hr q1 q2
      refine Or.inl ⟨υ2, ⟨z2, z3.ext (fun r q hr1 hq => ?_)⟩, ?_⟩
      · unfold plD
        by_cases z : r < row + 1
        · rw [if_pos (by omega), if_pos (by omega)]
        · rw [if_neg (by omega), if_neg (by omega)]
      · rw [D_PL_find_L18, (q1.geo g).1.2.2.1, if_neg (by rw [nI_leI (by omega) (by omega)]; omega), ← nI_0, z1, Option.bind_some, nm_q, nI_1])
    (fun k υ q => ⟨υ, by rw [D_PL_find_L18, (q.1.geo g).1.2.2.1, if_pos (Int32.le_refl _)], q⟩) R 0 F τ2 (Nat.zero_add _) (by omega) ⟨hPl0, hc0⟩
  refine ⟨τ, ?_, q1, q2.ext (fun r q hr hq => if_pos (Or.inl hr))⟩
  rw [D_PL_find, e1, Option.bind_some, e2, Option.bind_some, ← nI_0, e3]; rfl
end FI
