/-- all but the arrays A (ints), B (longs) stays -/
def Fr (A B : List Nat) (σ τ : HS) : Prop := (∀ a, a ∉ A → τ.1 a = σ.1 a) ∧ ∀ a, a ∉ B → τ.2 a = σ.2 a
theorem Fr.rf {A B : List Nat} {σ : HS} : Fr A B σ σ := ⟨fun _ _ => rfl, fun _ _ => rfl⟩
theorem Fr.tr {A B : List Nat} {σ τ υ : HS} (h : Fr A B σ τ) (h2 : Fr A B τ υ) : Fr A B σ υ := ⟨fun a e => (h2.1 a e).trans (h.1 a e), fun a e => (h2.2 a e).trans (h.2 a e)⟩
theorem Fr.mono {A B A1 B1 : List Nat} {σ τ : HS} (h : Fr A B σ τ) (hA : A ⊆ A1) (hB : B ⊆ B1) : Fr A1 B1 σ τ := ⟨fun a e => h.1 a (fun z => e (hA z)), fun a e => h.2 a (fun z => e (hB z))⟩
theorem SumOnly.fr {σ τ : HS} (h : SumOnly σ τ) : Fr [] [7] σ τ := ⟨fun a _ => by rw [h.1], fun a e => h.2 a (by simpa using e)⟩
theorem PlOnly.fr {σ τ : HS} (h : PlOnly σ τ) : Fr [15, 16] [] σ τ := ⟨fun a e => h.2 a (fun z => e (by simp [z])) (fun z => e (by simp [z])), fun a _ => by rw [h.1]⟩
def cPow (on : Bool) (lf : Nat) (wr : Int32) (σ : HS) : Prop := σ.1 4 0 = b2i on ∧ σ.1 4 1 = nI lf ∧ σ.1 4 2 = wr ∧ lf < 2 ^ 31
/-- the class's core -/
def CR (D W R G : Nat) (hd : Nat → Nat → Nat) (live : Nat → Bool) (K : Rk) (pl : Nat → Nat → Option Nat) (on : Bool) (lf : Nat) (wr : Int32) (σ : HS) : Prop := cGeo D W R G hd σ ∧ cLive D live σ ∧ cK D R K σ ∧ cPl D R (W * G) pl σ ∧ cPow on lf wr σ ∧ ∀ i, i < 8 → σ.2 8 i = 0
theorem CR.congr {D W R G : Nat} {hd : Nat → Nat → Nat} {live : Nat → Bool} {K : Rk} {pl : Nat → Nat → Option Nat} {on : Bool} {lf : Nat} {wr : Int32} {σ τ : HS} (h : CR D W R G hd live K pl on lf wr σ) (f : Fr [] [7] σ τ) : CR D W R G hd live K pl on lf wr τ := by
  obtain ⟨h1, h2, h3, h4, h5, h6⟩ := h
  have e : τ.1 = σ.1 := funext (fun a => f.1 a (by simp))
  refine ⟨h1.congr (by rw [e]) (by rw [e]), fun d hd => by rw [e]; exact h2 d hd, h3.congr (by rw [e]) (by rw [e]) (f.2 11 (by decide)) (f.2 12 (by decide)), h4.congr (by rw [e]) (by rw [e]), by unfold cPow at *; rw [e]; exact h5, fun i hi => by rw [f.2 8 (by decide)]; exact h6 i hi⟩
/-- xor of the first m -/
def xorN (f : Nat → Int64) : Nat → Int64
  | 0 => 0
  | m + 1 => xorN f m ^^^ f m
theorem xorN_congr {f g : Nat → Int64} : ∀ {m : Nat}, (∀ j, j < m → f j = g j) → xorN f m = xorN g m := by
  intro m
  induction m with
  | zero => intro _; rfl
  | succ m ih => intro h; rw [xorN, xorN, ih (fun j hj => h j (by omega)), h m (by omega)]
/-- word i of a cell, of a place -/
def rw_ (c : Option CellV) (i : Nat) : Int64 := match c with
  | none => 0
  | some v => wds v i
def rwo (K : Rk) (row : Nat) (p : Option Nat) (i : Nat) : Int64 := match p with
  | none => 0
  | some d => rw_ (K d row) i
/-- every place is a written cell -/
def PK (R N : Nat) (K : Rk) (pl : Nat → Nat → Option Nat) : Prop := ∀ row p d, row < R → p < N → pl row p = some d → (K d row).isSome = true
def oth (W : Nat) (K : Rk) (pl : Nat → Nat → Option Nat) (row gi j0 i : Nat) : Int64 := xorN (fun j => if j = j0 then 0 else rwo K row (pl row (W * gi + j)) i) W
def rdv (W : Nat) (K : Rk) (pl : Nat → Nat → Option Nat) (row gi j0 i : Nat) : Int64 := if isvo K row (pl row (W * gi + j0)) = true then rwo K row (pl row (W * gi + j0)) i else oth W K pl row gi j0 i
theorem pos_lt {W G gi j : Nat} (hg : gi < G) (hj : j < W) : W * gi + j < W * G := by
  have : W * (gi + 1) ≤ W * G := Nat.mul_le_mul_left W hg
  rw [Nat.mul_add] at this
  omega
section S1
variable {D W R G : Nat} {hd : Nat → Nat → Nat} {F : Nat} {n : Nat → Nat} {σ : HS} {K : Rk} {pl : Nat → Nat → Option Nat} {live : Nat → Bool} {on : Bool} {lf : Nat} {wr : Int32}
theorem e_SF_placeOf (cx : Ctx D W R G hd n F) (g : cGeo D W R G hd σ) (c : cPl D R (W * G) pl σ) {row gi j : Nat} (hr : row < R) (hg : gi < G) (hj : j < W) : D_SF_placeOf F n σ (nI (row * G + gi)) (nI j) = some (pc_ R row (pl row (W * gi + j))) := by
  obtain ⟨ge, ln, hF⟩ := id cx
  have gn := ge.num
  obtain ⟨⟨_, _⟩, ⟨_, _, _⟩, ⟨_, _⟩, ⟨_, _⟩, ⟨_, _⟩, _, _, _, _⟩ := id gn
  have hp := pos_lt hg hj
  have i1 := lt2 hr (show W * gi + j < D by omega)
  rw [D_SF_placeOf, e_LA_slotOf gn g row gi j hr hg, Option.bind_some, grd_in (by rw [ln.1.2.2.2.2.2.2.2.1]; omega) (by omega), nI_clamp (by omega), c.1 row _ hr hp]
theorem e_addTo_c (cx : Ctx D W R G hd n F) (h : cK D R K σ) {d o : Nat} (hd1 : d < D) (ho : o ≤ R) (hs : (K d o).isSome = true) : ∃ τ, D_RK_addTo_7 F n σ (nI (d * (R + 1) + o)) = some τ ∧ SumOnly σ τ ∧ ∀ i, i < 8 → τ.2 7 i = σ.2 7 i ^^^ rw_ (K d o) i := by
  obtain ⟨ge, ln, hF⟩ := id cx
  have gn := ge.num
  have i1 := idx_c gn hd1 ho
  obtain ⟨τ, e1, e2, e3⟩ := e_addTo (F := F) (σ := σ) (c := d * (R + 1) + o) ln.1.1.2.2.1 (by rw [ln.1.2.2.2.1]; omega) (by omega) (by omega)
  refine ⟨τ, e1, e2, fun i hi => ?_⟩
  rw [e3 i hi]
  have := h d o hd1 ho
  cases hk : K d o with
  | none => rw [hk] at hs; cases hs
  | some v => rw [hk] at this; rw [this.2.2.2 i (by omega)]; rfl
theorem e_SF_addOthers (cx : Ctx D W R G hd n F) (cr : CR D W R G hd live K pl on lf wr σ) (pw : PW D R (W * G) pl) (pk : PK R (W * G) K pl) {row gi j0 : Nat} (hr : row < R) (hg : gi < G) (hj : j0 < W) : ∃ τ, D_SF_addOthers F n σ (nI (row * G + gi)) (nI j0) = some τ ∧ SumOnly σ τ ∧ ∀ i, i < 8 → τ.2 7 i = σ.2 7 i ^^^ oth W K pl row gi j0 i := by
  obtain ⟨ge, ln, hF⟩ := id cx
  have gn := ge.num
  obtain ⟨⟨_, _⟩, ⟨_, _, _⟩, ⟨_, _⟩, ⟨_, _⟩, ⟨_, _⟩, _, _, _, _⟩ := id gn
  obtain ⟨τ, e1, e2, e3⟩ := lp (L := D_SF_addOthers_L2 F n (nI (row * G + gi)) (nI j0)) (N := W) (I := fun m τ => SumOnly σ τ ∧ ∀ i, i < 8 → τ.2 7 i = σ.2 7 i ^^^ xorN (fun j => if j = j0 then 0 else rwo K row (pl row (W * gi + j)) i) m) (Q := fun τ => SumOnly σ τ ∧ ∀ i, i < 8 → τ.2 7 i = σ.2 7 i ^^^ oth W K pl row gi j0 i)
    (fun k τ j hj1 ⟨q1, q2⟩ => by
      have cr1 := cr.congr q1.fr
      have hp := pos_lt hg hj1
      have hst : D_SF_addOthers_L2 F n (nI (row * G + gi)) (nI j0) (k + 1) τ (nI j) = if nI j = nI j0 then D_SF_addOthers_L2 F n (nI (row * G + gi)) (nI j0) k τ (nI (j + 1)) else if pc_ R row (pl row (W * gi + j)) = -1 then D_SF_addOthers_L2 F n (nI (row * G + gi)) (nI j0) k τ (nI (j + 1)) else (D_RK_addTo_7 F n τ (pc_ R row (pl row (W * gi + j)))).bind (fun υ => D_SF_addOthers_L2 F n (nI (row * G + gi)) (nI j0) k υ (nI (j + 1))) := by
        rw [D_SF_addOthers_L2, cr1.1.1.2.1, if_neg (by rw [nI_leI (by omega) (by omega)]; omega), e_SF_placeOf cx cr1.1 cr1.2.2.2.1 hr hg hj1, Option.bind_some]
        simp only [nm_q, nI_1]
      rw [hst]
      by_cases ej : j = j0
      · rw [if_pos (by rw [ej])]
        refine Or.inl ⟨τ, ⟨q1, fun i hi => ?_⟩, rfl⟩
        rw [q2 i hi, xorN, if_pos ej, Int64.xor_zero]
      · rw [if_neg (by rw [nI_eq (by omega) (by omega)]; exact ej)]
        cases hpl : pl row (W * gi + j) with
        | none =>
          rw [if_pos (by rfl)]
          refine Or.inl ⟨τ, ⟨q1, fun i hi => ?_⟩, rfl⟩
          rw [q2 i hi, xorN, if_neg ej, hpl]
          exact congrArg _ Int64.xor_zero.symm
        | some d =>
          have hd1 := pw.1 row _ d hr hp hpl
          have i2 := idx_c gn hd1 (show row ≤ R by omega)
          obtain ⟨υ, f1, f2, f3⟩ := e_addTo_c cx cr1.2.2.1 hd1 (show row ≤ R by omega) (pk row _ d hr hp hpl)
          rw [show pc_ R row (some d) = nI (d * (R + 1) + row) from rfl, if_neg (nI_m1 (by omega)), f1, Option.bind_some]
          refine Or.inl ⟨υ, ⟨q1.tr f2, fun i hi => ?_⟩, rfl⟩
          rw [f3 i hi, q2 i hi, xorN, if_neg ej, hpl, Int64.xor_assoc]
          rfl)
    (fun k τ q => ⟨τ, by rw [D_SF_addOthers_L2, (cr.congr q.1.fr).1.1.2.1, if_pos (Int32.le_refl _)], q⟩) W 0 F σ (Nat.zero_add _) (by omega) ⟨SumOnly.rf, fun i _ => Int64.xor_zero.symm⟩
  exact ⟨τ, by rw [D_SF_addOthers, ← nI_0, e1]; rfl, e2, e3⟩
theorem e_SF_addRead (cx : Ctx D W R G hd n F) (cr : CR D W R G hd live K pl on lf wr σ) (pw : PW D R (W * G) pl) (pk : PK R (W * G) K pl) {row gi j0 : Nat} (hr : row < R) (hg : gi < G) (hj : j0 < W) : ∃ τ, D_SF_addRead F n σ (nI (row * G + gi)) (nI j0) = some τ ∧ SumOnly σ τ ∧ ∀ i, i < 8 → τ.2 7 i = σ.2 7 i ^^^ rdv W K pl row gi j0 i := by
  obtain ⟨ge, ln, hF⟩ := id cx
  have gn := ge.num
  have hp := pos_lt hg hj
  rw [D_SF_addRead, e_SF_placeOf cx cr.1 cr.2.2.2.1 hr hg hj, Option.bind_some, e_RK_isValid_o gn ln.c cr.2.2.1 (fun d e => pw.1 row _ d hr hp e) (by omega), Option.bind_some]
  unfold rdv
  cases hv : isvo K row (pl row (W * gi + j0)) with
  | false =>
    obtain ⟨τ, e1, e2, e3⟩ := e_SF_addOthers cx cr pw pk hr hg hj
    rw [if_pos (by rfl), e1]
    exact ⟨τ, rfl, e2, fun i hi => by rw [e3 i hi, if_neg (by decide)]⟩
  | true =>
    cases hpl : pl row (W * gi + j0) with
    | none => rw [hpl] at hv; cases hv
    | some d =>
      obtain ⟨τ, e1, e2, e3⟩ := e_addTo_c cx cr.2.2.1 (pw.1 row _ d hr hp hpl) (show row ≤ R by omega) (pk row _ d hr hp hpl)
      rw [if_neg (by decide), show pc_ R row (some d) = nI (d * (R + 1) + row) from rfl, e1]
      exact ⟨τ, rfl, e2, fun i hi => by rw [e3 i hi, if_pos rfl]; rfl⟩
end S1
