def andT (a : PS × Bool) (f : PS → PS × Bool) : PS × Bool := if a.2 = true then f a.1 else a
/-- the sum of the other data, as they are read -/
def otd (W : Nat) (K : Rk) (pl : Nat → Nat → Option Nat) (row gi j i : Nat) : Int64 := xorN (fun j1 => if j1 = j then 0 else rdv W K pl row gi j1 i) (W - 1)
def aWriteL (W G : Nat) (s : PS) (dq dd R row gi j : Nat) (Po : Nat → Int64) (P : Nat → Int64) : PS × Bool :=
  andT (aput s dq R (1 + 8 * (row * G + gi) + j, Po, zr)) (fun s1 => andT (aput s1 dd row (W * gi + j + 1, P, zr)) (fun s2 => andT (aput s2 dq row (W * gi + (W - 1) + 1, fun i => Po i ^^^ P i, zr)) (fun s3 => aput s3 dq R (0, zr, zr))))
def aWrite (W G : Nat) (s : PS) (pl : Nat → Nat → Option Nat) (R row gi j : Nat) (P : Nat → Int64) : PS × Bool := match pl row (W * gi + (W - 1)), pl row (W * gi + j) with
  | none, none => (s, false)
  | none, some dd => aput s dd row (W * gi + j + 1, P, zr)
  | some dq, none => aput s dq row (W * gi + (W - 1) + 1, fun i => otd W s.1 pl row gi j i ^^^ P i, zr)
  | some dq, some dd => aWriteL W G s dq dd R row gi j (otd W s.1 pl row gi j) P
section WR
variable {D W R G : Nat} {hd : Nat → Nat → Nat} {F : Nat} {n : Nat → Nat} {σ : HS} {s : PS} {pl : Nat → Nat → Option Nat} {live : Nat → Bool}
theorem e_SF_writeLogged (cx : Ctx D W R G hd n F) (cr : CRs D W R G hd live pl s σ) {row gi j dq dd : Nat} (hr : row < R) (hg : gi < G) (hj : j < W - 1) (hq : pl row (W * gi + (W - 1)) = some dq) (hp : pl row (W * gi + j) = some dd) (hdq : dq < D) (hdd : dd < D) {Po P : Nat → Int64} (hPo : ∀ i, i < 8 → σ.2 7 i = Po i) (hP : ∀ i, i < 8 → σ.2 6 i = P i) : ∃ τ, D_SF_writeLogged F n σ (nI (row * G + gi)) (nI j) = some (τ, b2i (aWriteL W G s dq dd R row gi j Po P).2) ∧ Fr [4, 13, 14] [7, 11, 12] σ τ ∧ CRs D W R G hd live pl (aWriteL W G s dq dd R row gi j Po P).1 τ := by
  obtain ⟨ge, ln, hF⟩ := id cx
  have gn := ge.num
  obtain ⟨⟨_, _⟩, ⟨_, _, _⟩, ⟨_, _⟩, ⟨_, _⟩, ⟨_, _⟩, _, _, _, _⟩ := id gn
  have et : (1 : Int32) + (8 : Int32) * nI (row * G + gi) + nI j = nI (1 + 8 * (row * G + gi) + j) := by
    rw [show (8 : Int32) = nI 8 from rfl, show (1 : Int32) = nI 1 from rfl, pk_mul, nI_add, nI_add]
  obtain ⟨τ1, e1, f1, cr1⟩ := e_put (b := 7) (t := 1 + 8 * (row * G + gi) + j) cx cr (Or.inr (Or.inl rfl)) hPo hdq (Nat.le_refl R)
  rw [D_SF_writeLogged, cr.1.1.2.2.2.2.2.2.2.1, e_SF_placeOf cx cr.1 cr.2.2.2.1 hr hg (show W - 1 < W by omega), Option.bind_some, hq, show pc_ R row (some dq) = nI (dq * (R + 1) + row) from rfl, e_LA_diskOf gn cr.1 dq row hdq (by omega), Option.bind_some, e_LA_logOf cr.1 dq, Option.bind_some, et, G_put_7, e1, Option.bind_some, nm2_q]
  simp only [z_if]
  unfold aWriteL andT
  cases b1 : (aput s dq R (1 + 8 * (row * G + gi) + j, Po, zr)).2 with
  | false => rw [if_neg (by decide), if_neg (by decide), b1]; exact ⟨τ1, rfl, f1.mono (by simp) (by simp), cr1⟩
  | true =>
    rw [if_pos rfl, if_pos rfl]
    obtain ⟨τ2, e2, f2, cr2⟩ := e_putColumn_6 cx cr1 hr hg (show j < W by omega) hp hdd (P := P) (fun i hi => by rw [f1.2 6 (by decide)]; exact hP i hi)
    rw [e2, Option.bind_some, nm2_q]
    simp only [z_if]
    cases b2 : (aput (aput s dq R (1 + 8 * (row * G + gi) + j, Po, zr)).1 dd row (W * gi + j + 1, P, zr)).2 with
    | false => rw [if_neg (by decide), if_neg (by decide), b2]; exact ⟨τ2, rfl, (f1.tr f2).mono (by simp) (by simp), cr2⟩
    | true =>
      rw [if_pos rfl, if_pos rfl]
      obtain ⟨τ3, e3, f3, g3⟩ := e_addFresh (F := F) (σ := τ2) ln.1.1.2.2.1 ln.1.1.2.1 (by omega)
      have cr3 := cr2.congr f3.fr
      obtain ⟨τ4, e4, f4, cr4⟩ := e_putColumn_7 cx cr3 hr hg (show W - 1 < W by omega) hq hdq (P := fun i => Po i ^^^ P i) (fun i hi => by
        rw [g3 i hi, f2.2 7 (by decide), f1.2 7 (by decide), f2.2 6 (by decide), f1.2 6 (by decide), hPo i hi, hP i hi])
      rw [e3, Option.bind_some, cr3.1.1.2.2.2.2.2.2.2.1, e4, Option.bind_some, nm2_q]
      simp only [z_if]
      have fA : Fr [4, 13, 14] [7, 11, 12] σ τ4 := (((f1.mono (by simp) (by simp)).tr (f2.mono (by simp) (by simp))).tr (f3.fr.mono (by simp) (by simp))).tr (f4.mono (by simp) (by simp))
      cases b3 : (aput (aput (aput s dq R (1 + 8 * (row * G + gi) + j, Po, zr)).1 dd row (W * gi + j + 1, P, zr)).1 dq row (W * gi + (W - 1) + 1, fun i => Po i ^^^ P i, zr)).2 with
      | false => rw [if_neg (by decide), if_neg (by decide), b3]; exact ⟨τ4, rfl, fA, cr4⟩
      | true =>
        rw [if_pos rfl, if_pos rfl]
        obtain ⟨τ5, e5, f5, cr5⟩ := e_put (b := 8) (t := 0) cx cr4 (Or.inr (Or.inr rfl)) (P := zr) (fun i hi => cr4.2.2.2.2.2 i hi) hdq (Nat.le_refl R)
        rw [G_put_8, ← nI_0, e5, Option.bind_some, nm2_q, nI_0]
        simp only [z_if]
        refine ⟨τ5, ?_, fA.tr (f5.mono (by simp) (by simp)), cr5⟩
        cases (aput (aput (aput (aput s dq R (1 + 8 * (row * G + gi) + j, Po, zr)).1 dd row (W * gi + j + 1, P, zr)).1 dq row (W * gi + (W - 1) + 1, fun i => Po i ^^^ P i, zr)).1 dq R (0, zr, zr)).2 <;> rfl
theorem e_SF_writeFresh (cx : Ctx D W R G hd n F) (cr : CRs D W R G hd live pl s σ) (pw : PW D R (W * G) pl) (pk : PK R (W * G) s.1 pl) {row gi j : Nat} (hr : row < R) (hg : gi < G) (hj : j < W - 1) (hne : pl row (W * gi + (W - 1)) = none → pl row (W * gi + j) ≠ none) {P : Nat → Int64} (hP : ∀ i, i < 8 → σ.2 6 i = P i) : ∃ τ, D_SF_writeFresh F n σ (nI (row * G + gi)) (nI j) = some (τ, b2i (aWrite W G s pl R row gi j P).2) ∧ Fr [4, 13, 14] [7, 11, 12] σ τ ∧ CRs D W R G hd live pl (aWrite W G s pl R row gi j P).1 τ := by
  obtain ⟨ge, ln, hF⟩ := id cx
  have gn := ge.num
  obtain ⟨⟨_, _⟩, ⟨_, _, _⟩, ⟨_, _⟩, ⟨_, _⟩, ⟨_, _⟩, _, _, _, _⟩ := id gn
  obtain ⟨τ1, e1, a1, a2, a3⟩ := e_fillJ_7 (F := F) (σ := σ) ln.1.1.2.2.1 (by omega) 0
  have f1 : SumOnly σ τ1 := ⟨a1, a2⟩
  have cr1 := cr.congr f1.fr
  have hqq := pos_lt hg (show W - 1 < W by omega)
  have hpp := pos_lt hg (show j < W by omega)
  have hb : ∀ d, pl row (W * gi + (W - 1)) = some d → d * (R + 1) + row < 2 ^ 31 := fun d e => by have := idx_c gn (pw.1 row _ d hr hqq e) (show row ≤ R by omega); omega
  have hb2 : ∀ d, pl row (W * gi + j) = some d → d * (R + 1) + row < 2 ^ 31 := fun d e => by have := idx_c gn (pw.1 row _ d hr hpp e) (show row ≤ R by omega); omega
  rw [D_SF_writeFresh, e1, Option.bind_some, cr1.1.1.2.2.2.2.2.2.2.1, e_SF_placeOf cx cr1.1 cr1.2.2.2.1 hr hg (show W - 1 < W by omega), Option.bind_some]
  unfold aWrite
  cases hq : pl row (W * gi + (W - 1)) with
  | none =>
    rw [if_pos (by rfl)]
    cases hp : pl row (W * gi + j) with
    | none => exact absurd hp (hne hq)
    | some dd =>
      obtain ⟨τ2, e2, f2, cr2⟩ := e_putColumn_6 cx cr1 hr hg (show j < W by omega) hp (pw.1 row _ dd hr hpp hp) (P := P) (fun i hi => by rw [f1.2 6 (by decide)]; exact hP i hi)
      rw [e2, Option.bind_some, nm2_q, isB_g]
      exact ⟨τ2, rfl, (f1.fr.mono (by simp) (by simp)).tr (f2.mono (by simp) (by simp)), cr2⟩
  | some dq =>
    rw [if_neg (by rw [pc_m1 (by rw [← hq]; exact hb)]; exact fun z => by cases z)]
    obtain ⟨τ2, e2, f2, g2⟩ := lp (L := D_SF_writeFresh_L37 F n (nI (row * G + gi)) (nI j)) (N := W - 1) (I := fun m τ => SumOnly σ τ ∧ ∀ i, i < 8 → τ.2 7 i = xorN (fun j1 => if j1 = j then 0 else rdv W s.1 pl row gi j1 i) m) (Q := fun τ => SumOnly σ τ ∧ ∀ i, i < 8 → τ.2 7 i = otd W s.1 pl row gi j i)
      (fun k τ j1 hj1 ⟨q1, q2⟩ => by
        have c1 := cr.congr q1.fr
        have hst : D_SF_writeFresh_L37 F n (nI (row * G + gi)) (nI j) (k + 1) τ (nI j1) = if nI j1 = nI j then D_SF_writeFresh_L37 F n (nI (row * G + gi)) (nI j) k τ (nI (j1 + 1)) else (D_SF_addRead F n τ (nI (row * G + gi)) (nI j1)).bind (fun υ => D_SF_writeFresh_L37 F n (nI (row * G + gi)) (nI j) k υ (nI (j1 + 1))) := by
          rw [D_SF_writeFresh_L37, c1.1.1.2.2.2.2.2.2.2.1, if_neg (by rw [nI_leI (by omega) (by omega)]; omega)]
          simp only [nm_q, nI_1]
        rw [hst]
        by_cases e : j1 = j
        · rw [if_pos (by rw [e])]
          refine Or.inl ⟨τ, ⟨q1, fun i hi => ?_⟩, rfl⟩
          rw [q2 i hi, xorN, if_pos e, Int64.xor_zero]
        · rw [if_neg (by rw [nI_eq (by omega) (by omega)]; exact e)]
          obtain ⟨υ, u1, u2, u3⟩ := e_SF_addRead cx c1 pw pk hr hg (show j1 < W by omega)
          rw [u1, Option.bind_some]
          refine Or.inl ⟨υ, ⟨q1.tr u2, fun i hi => ?_⟩, rfl⟩
          rw [u3 i hi, q2 i hi, xorN, if_neg e])
      (fun k τ q => ⟨τ, by rw [D_SF_writeFresh_L37, (cr.congr q.1.fr).1.1.2.2.2.2.2.2.2.1, if_pos (Int32.le_refl _)], q⟩) (W - 1) 0 F τ1 (Nat.zero_add _) (by omega) ⟨f1, fun i hi => a3 i hi⟩
    have cr2 := cr.congr f2.fr
    rw [← nI_0, e2, Option.bind_some, e_SF_placeOf cx cr2.1 cr2.2.2.2.1 hr hg (show j < W by omega), Option.bind_some]
    cases hp : pl row (W * gi + j) with
    | none =>
      rw [if_pos (by rfl)]
      obtain ⟨τ3, e3, f3, g3⟩ := e_addFresh (F := F) (σ := τ2) ln.1.1.2.2.1 ln.1.1.2.1 (by omega)
      have cr3 := cr2.congr f3.fr
      obtain ⟨τ4, e4, f4, cr4⟩ := e_putColumn_7 cx cr3 hr hg (show W - 1 < W by omega) hq (pw.1 row _ dq hr hqq hq) (P := fun i => otd W s.1 pl row gi j i ^^^ P i) (fun i hi => by
        rw [g3 i hi, f2.2 6 (by decide), g2 i hi, hP i hi])
      rw [e3, Option.bind_some, cr3.1.1.2.2.2.2.2.2.2.1, e4, Option.bind_some, nm2_q, isB_g]
      exact ⟨τ4, rfl, ((f2.fr.mono (by simp) (by simp)).tr (f3.fr.mono (by simp) (by simp))).tr (f4.mono (by simp) (by simp)), cr4⟩
    | some dd =>
      rw [if_neg (by rw [pc_m1 (by rw [← hp]; exact hb2)]; exact fun z => by cases z)]
      obtain ⟨τ3, e3, f3, cr3⟩ := e_SF_writeLogged cx cr2 hr hg hj hq hp (pw.1 row _ dq hr hqq hq) (pw.1 row _ dd hr hpp hp) (Po := otd W s.1 pl row gi j) (P := P) g2 (fun i hi => by rw [f2.2 6 (by decide)]; exact hP i hi)
      rw [e3, Option.bind_some, nm2_q, isB_g]
      exact ⟨τ3, rfl, (f2.fr.mono (by simp) (by simp)).tr f3, cr3⟩
end WR
