/-- the tag that a valid cell bears, else 0 -/
def vt (c : Option CellV) : Nat := match c with
  | none => 0
  | some v => if z9 v.2.2 = true then v.1 else 0
def aCan (W : Nat) (K : Rk) (pl : Nat → Nat → Option Nat) (row gi j d : Nat) : Bool := decide (pl row (W * gi + (W - 1)) = some d) && isvo K row (pl row (W * gi + j))
def aRep (W : Nat) (s : PS) (pl : Nat → Nat → Option Nat) (R row gi j d : Nat) : PS × Bool :=
  if aCan W s.1 pl row gi j d = true then andT (aput s d row (W * gi + (W - 1) + 1, fun i => rw_ (s.1 d R) i ^^^ rwo s.1 row (pl row (W * gi + j)) i, zr)) (fun s1 => aput s1 d R (0, zr, zr)) else aput s d R (0, zr, zr)
def aReps (W G R : Nat) (pl : Nat → Nat → Option Nat) : Nat → Nat → PS → PS × Bool
  | 0, _, s => (s, true)
  | m + 1, d, s => if vt (s.1 d R) = 0 then aReps W G R pl m (d + 1) s else andT (aRep W s pl R ((vt (s.1 d R) - 1) / 8 / G) ((vt (s.1 d R) - 1) / 8 % G) ((vt (s.1 d R) - 1) % 8) d) (aReps W G R pl m (d + 1))
/-- log tags are tags of stripes and columns -/
def LT (W G R : Nat) (K : Rk) : Prop := ∀ d, vt (K d R) = 0 ∨ ∃ row gi j, row < R ∧ gi < G ∧ j < W - 1 ∧ vt (K d R) = 1 + 8 * (row * G + gi) + j
def stl (N : Nat) (K : Rk) (pl : Nat → Nat → Option Nat) (row d : Nat) : Bool := !(held N pl row d) && decide (0 < vt (K d row))
def aClr1 (N : Nat) (hd : Nat → Nat → Nat) (pl : Nat → Nat → Option Nat) (row : Nat) : Nat → Nat → PS → PS × Bool
  | 0, _, s => (s, true)
  | m + 1, q, s => if stl N s.1 pl row (hd row q) = true then andT (aput s (hd row q) row (0, zr, zr)) (aClr1 N hd pl row m (q + 1)) else aClr1 N hd pl row m (q + 1) s
def aClr (D N : Nat) (hd : Nat → Nat → Nat) (pl : Nat → Nat → Option Nat) : Nat → Nat → PS → PS × Bool
  | 0, _, s => (s, true)
  | m + 1, row, s => andT (aClr1 N hd pl row (D - N) N s) (aClr D N hd pl m (row + 1))
theorem vt_setK {K : Rk} {d o d1 o1 t : Nat} {P : Nat → Int64} : vt (setK K d o (some (t, P, zr)) d1 o1) = if d1 = d ∧ o1 = o then t else vt (K d1 o1) := by
  unfold setK
  by_cases e : d1 = d ∧ o1 = o
  · rw [if_pos e, if_pos e]
    show (if z9 zr = true then t else 0) = t
    rw [if_pos z9_zr]
  · rw [if_neg e, if_neg e]
theorem LT.put {W G R : Nat} {s : PS} {d o t : Nat} {P : Nat → Int64} (h : LT W G R s.1) (ho : o < R ∨ t = 0) : LT W G R (aput s d o (t, P, zr)).1.1 := by
  unfold aput
  split
  · exact h
  · intro d1
    show vt (setK s.1 d o (some (t, P, zr)) d1 R) = 0 ∨ ∃ row gi j, row < R ∧ gi < G ∧ j < W - 1 ∧ vt (setK s.1 d o (some (t, P, zr)) d1 R) = 1 + 8 * (row * G + gi) + j
    rw [vt_setK]
    by_cases e : d1 = d ∧ R = o
    · rw [if_pos e]
      exact Or.inl (by omega)
    · rw [if_neg e]; exact h d1
theorem vt_pos {c : Option CellV} (h : 0 < vt c) : ∃ v, c = some v ∧ z9 v.2.2 = true ∧ vt c = v.1 := by
  cases c with
  | none => exact absurd h (by decide)
  | some v =>
    unfold vt at *
    by_cases e : z9 v.2.2 = true
    · refine ⟨v, rfl, e, ?_⟩
      show (if z9 v.2.2 = true then v.1 else 0) = v.1
      rw [if_pos e]
    · rw [show (match some v with | none => 0 | some v => if z9 v.2.2 = true then v.1 else 0) = (if z9 v.2.2 = true then v.1 else 0) from rfl, if_neg e] at h
      omega
section OP
variable {D W R G : Nat} {hd : Nat → Nat → Nat} {F : Nat} {n : Nat → Nat} {σ : HS} {s : PS} {pl : Nat → Nat → Option Nat} {live : Nat → Bool}
theorem e_SF_canReplay (cx : Ctx D W R G hd n F) (cr : CRs D W R G hd live pl s σ) (pw : PW D R (W * G) pl) {row gi j d : Nat} (hr : row < R) (hg : gi < G) (hj : j < W - 1) (hd1 : d < D) : D_SF_canReplay F n σ (nI d) (nI (row * G + gi)) (nI j) = some (b2i (aCan W s.1 pl row gi j d)) := by
  obtain ⟨ge, ln, hF⟩ := id cx
  have gn := ge.num
  obtain ⟨⟨_, _⟩, ⟨_, _, _⟩, ⟨_, _⟩, ⟨_, _⟩, ⟨_, _⟩, _, _, _, _⟩ := id gn
  have i1 := lt2 hr hg
  have hqq := pos_lt hg (show W - 1 < W by omega)
  have hpp := pos_lt hg (show j < W by omega)
  rw [D_SF_canReplay, cr.1.1.2.2.2.2.1, if_neg (by rw [nI_leI (by omega) (by omega)]; omega), cr.1.1.2.2.2.2.2.2.2.1, if_pos (by rw [nI_ltI (by omega) (by omega)]; omega), e_SF_placeOf cx cr.1 cr.2.2.2.1 hr hg (show W - 1 < W by omega), Option.bind_some]
  unfold aCan
  cases hq : pl row (W * gi + (W - 1)) with
  | none => rw [if_pos (by rfl)]; rfl
  | some dq =>
    have hdq := pw.1 row _ dq hr hqq hq
    have i2 := idx_c gn hdq (show row ≤ R by omega)
    rw [show pc_ R row (some dq) = nI (dq * (R + 1) + row) from rfl, if_neg (nI_m1 (by omega)), e_LA_diskOf gn cr.1 dq row hdq (by omega), Option.bind_some, e_SF_placeOf cx cr.1 cr.2.2.2.1 hr hg (show j < W by omega), Option.bind_some, e_RK_isValid_o gn ln.c cr.2.2.1 (fun d e => pw.1 row _ d hr hpp e) (by omega), Option.bind_some]
    by_cases e : dq = d
    · rw [if_pos (by rw [e]), e]
      cases isvo s.1 row (pl row (W * gi + j)) <;> simp [b2i] <;> rfl
    · rw [if_neg (by rw [nI_eq (by omega) (by omega)]; exact e)]
      simp [e, b2i]
theorem e_SF_replayLog (cx : Ctx D W R G hd n F) (cr : CRs D W R G hd live pl s σ) (pw : PW D R (W * G) pl) {row gi j d : Nat} (hr : row < R) (hg : gi < G) (hj : j < W - 1) (hd1 : d < D) (hl : (s.1 d R).isSome = true) : ∃ τ, D_SF_replayLog F n σ (nI d) (nI (d * (R + 1) + R)) (nI (8 * (row * G + gi) + j)) = some (τ, b2i (aRep W s pl R row gi j d).2) ∧ Fr [4, 13, 14] [7, 11, 12] σ τ ∧ CRs D W R G hd live pl (aRep W s pl R row gi j d).1 τ := by
  obtain ⟨ge, ln, hF⟩ := id cx
  have gn := ge.num
  obtain ⟨⟨_, _⟩, ⟨_, _, _⟩, ⟨_, _⟩, ⟨_, _⟩, ⟨_, _⟩, _, _, _, _⟩ := id gn
  have i1 := lt2 hr hg
  have hqq := pos_lt hg (show W - 1 < W by omega)
  have hpp := pos_lt hg (show j < W by omega)
  have d1 : nI (8 * (row * G + gi) + j) / (8 : Int32) = nI (row * G + gi) := by
    rw [show (8 : Int32) = nI 8 from rfl, pk_div (by omega) (by omega) (by omega)]
    congr 1; omega
  have d2 : nI (8 * (row * G + gi) + j) - nI (8 * (row * G + gi) + j) / (8 : Int32) * (8 : Int32) = nI j := by
    rw [show (8 : Int32) = nI 8 from rfl, pk_rem (by omega) (by omega) (by omega)]
    congr 1; omega
  rw [D_SF_replayLog]
  simp only [nm_q]
  rw [d2, d1, e_SF_canReplay cx cr pw hr hg hj hd1, Option.bind_some, z_if]
  unfold aRep
  cases hc : aCan W s.1 pl row gi j d with
  | false =>
    rw [if_neg (by decide), if_neg (by decide)]
    obtain ⟨τ5, e5, f5, cr5⟩ := e_put (b := 8) (t := 0) cx cr (Or.inr (Or.inr rfl)) (P := zr) (fun i hi => cr.2.2.2.2.2 i hi) hd1 (Nat.le_refl R)
    rw [G_put_8, ← nI_0, e5, Option.bind_some, nm2_q, isB_g]
    exact ⟨τ5, rfl, f5.mono (by simp) (by simp), cr5⟩
  | true =>
    rw [if_pos rfl, if_pos rfl]
    obtain ⟨c1, c2⟩ := Bool.and_eq_true_iff.mp hc
    have hq : pl row (W * gi + (W - 1)) = some d := of_decide_eq_true c1
    obtain ⟨dd, hp⟩ : ∃ dd, pl row (W * gi + j) = some dd := by
      cases hp : pl row (W * gi + j) with
      | none => rw [hp] at c2; cases c2
      | some dd => exact ⟨dd, rfl⟩
    have hdd := pw.1 row _ dd hr hpp hp
    have hs : (s.1 dd row).isSome = true := by
      rw [hp] at c2
      cases hk : s.1 dd row with
      | none => exact absurd c2 (by show ¬ isv (s.1 dd row) = true; rw [hk]; decide)
      | some v => rfl
    obtain ⟨τ1, e1, a1, a2, a3⟩ := e_fillJ_7 (F := F) (σ := σ) ln.1.1.2.2.1 (by omega) 0
    have f1 : SumOnly σ τ1 := ⟨a1, a2⟩
    have cr1 := cr.congr f1.fr
    obtain ⟨τ2, e2, f2, g2⟩ := e_addTo_c cx cr1.2.2.1 hd1 (Nat.le_refl R) hl
    have cr2 := cr1.congr f2.fr
    obtain ⟨τ3, e3, f3, g3⟩ := e_addTo_c cx cr2.2.2.1 hdd (show row ≤ R by omega) hs
    have cr3 := cr2.congr f3.fr
    obtain ⟨τ4, e4, f4, cr4⟩ := e_putColumn_7 cx cr3 hr hg (show W - 1 < W by omega) hq hd1 (P := fun i => rw_ (s.1 d R) i ^^^ rwo s.1 row (pl row (W * gi + j)) i) (fun i hi => by
      rw [g3 i hi, g2 i hi, a3 i hi, Int64.zero_xor, hp]; rfl)
    rw [e1, Option.bind_some, e2, Option.bind_some, e_SF_placeOf cx cr2.1 cr2.2.2.2.1 hr hg (show j < W by omega), Option.bind_some, hp, show pc_ R row (some dd) = nI (dd * (R + 1) + row) from rfl, e3, Option.bind_some, cr3.1.1.2.2.2.2.2.2.2.1, e4, Option.bind_some, nm2_q]
    simp only [z_if]
    have fA : Fr [4, 13, 14] [7, 11, 12] σ τ4 := (((f1.fr.mono (by simp) (by simp)).tr (f2.fr.mono (by simp) (by simp))).tr (f3.fr.mono (by simp) (by simp))).tr (f4.mono (by simp) (by simp))
    rw [← hp]
    unfold andT
    cases b1 : (aput s d row (W * gi + (W - 1) + 1, fun i => rw_ (s.1 d R) i ^^^ rwo s.1 row (pl row (W * gi + j)) i, zr)).2 with
    | false => rw [if_neg (by decide), if_neg (by decide), b1]; exact ⟨τ4, rfl, fA, cr4⟩
    | true =>
      rw [if_pos rfl, if_pos rfl]
      obtain ⟨τ5, e5, f5, cr5⟩ := e_put (b := 8) (t := 0) cx cr4 (Or.inr (Or.inr rfl)) (P := zr) (fun i hi => cr4.2.2.2.2.2 i hi) hd1 (Nat.le_refl R)
      rw [G_put_8, ← nI_0, e5, Option.bind_some, nm2_q, isB_g]
      exact ⟨τ5, rfl, fA.tr (f5.mono (by simp) (by simp)), cr5⟩
theorem LT.rep {row gi j d : Nat} (h : LT W G R s.1) (hr : row < R) : LT W G R (aRep W s pl R row gi j d).1.1 := by
  unfold aRep
  split
  · unfold andT
    split
    · exact LT.put (LT.put h (Or.inl hr)) (Or.inr rfl)
    · exact LT.put h (Or.inl hr)
  · exact LT.put h (Or.inr rfl)
theorem e_SF_replayLogs (cx : Ctx D W R G hd n F) (cr : CRs D W R G hd live pl s σ) (pw : PW D R (W * G) pl) (lt : LT W G R s.1) : ∃ τ, D_SF_replayLogs F n σ = some (τ, b2i (aReps W G R pl D 0 s).2) ∧ Fr [4, 13, 14] [7, 11, 12] σ τ ∧ CRs D W R G hd live pl (aReps W G R pl D 0 s).1 τ := by
  obtain ⟨ge, ln, hF⟩ := id cx
  have gn := ge.num
  obtain ⟨⟨_, _⟩, ⟨_, _, _⟩, ⟨_, _⟩, ⟨_, _⟩, ⟨_, _⟩, _, _, _, _⟩ := id gn
  obtain ⟨r, e1, q⟩ := lp (L := D_SF_replayLogs_L2 F n) (N := D) (I := fun d τ => ∃ s1 : PS, CRs D W R G hd live pl s1 τ ∧ Fr [4, 13, 14] [7, 11, 12] σ τ ∧ LT W G R s1.1 ∧ aReps W G R pl D 0 s = aReps W G R pl (D - d) d s1)
    (Q := fun r => ∃ τ, ((r = Sum.inl τ ∧ (aReps W G R pl D 0 s).2 = true) ∨ (r = Sum.inr (τ, 0) ∧ (aReps W G R pl D 0 s).2 = false)) ∧ Fr [4, 13, 14] [7, 11, 12] σ τ ∧ CRs D W R G hd live pl (aReps W G R pl D 0 s).1 τ)
    (fun k τ d hd1 ⟨s1, c1, fr1, l1, ea⟩ => by
      obtain ⟨m, hm⟩ : ∃ m, D - d = m + 1 := ⟨D - d - 1, by omega⟩
      have hm2 : D - (d + 1) = m := by omega
      rw [hm, aReps] at ea
      have i2 := idx_c gn hd1 (Nat.le_refl R)
      have hst : D_SF_replayLogs_L2 F n (k + 1) τ (nI d) = if nI (vt (s1.1 d R)) ≤ 0 then D_SF_replayLogs_L2 F n k τ (nI (d + 1)) else (D_SF_replayLog F n τ (nI d) (nI (d * (R + 1) + R)) (nI (vt (s1.1 d R)) - 1)).bind (fun q => if q.2 = 0 then some (Sum.inr (q.1, 0)) else D_SF_replayLogs_L2 F n k q.1 (nI (d + 1))) := by
        rw [D_SF_replayLogs_L2, c1.1.1.1, if_neg (by rw [nI_leI (by omega) (by omega)]; omega), e_LA_logOf c1.1, Option.bind_some, e_RK_isValid gn ln.c c1.2.2.1 hd1 (Nat.le_refl R), Option.bind_some]
        simp only [nm_q, jn_q, nm2_q, nI_1]
        cases hv : isv (s1.1 d R) with
        | false =>
          have : vt (s1.1 d R) = 0 := by
            cases hk : s1.1 d R with
            | none => rfl
            | some v =>
              rw [hk] at hv
              show (if z9 v.2.2 = true then v.1 else 0) = 0
              rw [if_neg (by rw [show z9 v.2.2 = false from hv]; decide)]
          rw [if_pos (by rfl), this]; rfl
        | true =>
          obtain ⟨v, hk⟩ : ∃ v, s1.1 d R = some v := by
            cases hk : s1.1 d R with
            | none => rw [hk] at hv; cases hv
            | some v => exact ⟨v, rfl⟩
          have hz : z9 v.2.2 = true := by rw [hk] at hv; exact hv
          have hvt : vt (s1.1 d R) = v.1 := by rw [hk]; show (if z9 v.2.2 = true then v.1 else 0) = v.1; rw [if_pos hz]
          have hlt : v.1 < 65536 := by
            rcases l1 d with z | ⟨row, gi, j, a1, a2, a3, a4⟩
            · omega
            · have := lt2 a1 a2
              omega
          rw [if_neg (by decide), e_RK_tag gn ln.c c1.2.2.1 hd1 (Nat.le_refl R) hk hz hlt, Option.bind_some, hvt]
      rw [hst]
      rcases l1 d with z | ⟨row, gi, j, a1, a2, a3, a4⟩
      · rw [if_pos z] at ea
        rw [z, if_pos (by decide)]
        exact Or.inl ⟨τ, ⟨s1, c1, fr1, l1, by rw [hm2]; exact ea⟩, rfl⟩
      · have i3 := lt2 a1 a2
        have e8 : (vt (s1.1 d R) - 1) / 8 = row * G + gi := by omega
        have e9 : (vt (s1.1 d R) - 1) % 8 = j := by omega
        have e10 : (row * G + gi) / G = row := by rw [Nat.add_comm, Nat.add_mul_div_right _ _ (by omega), Nat.div_eq_of_lt a2, Nat.zero_add]
        have e11 : (row * G + gi) % G = gi := by rw [Nat.add_comm, Nat.add_mul_mod_self_right, Nat.mod_eq_of_lt a2]
        rw [if_neg (by omega), e8, e9, e10, e11] at ea
        obtain ⟨v, hk, hz, hvt⟩ := vt_pos (c := s1.1 d R) (by omega)
        obtain ⟨υ, u1, u2, u3⟩ := e_SF_replayLog (j := j) cx c1 pw a1 a2 a3 hd1 (by rw [hk]; rfl)
        rw [if_neg (by rw [← nI_0, nI_leI (by omega) (by omega)]; omega), nI_sub1 (by omega), show vt (s1.1 d R) - 1 = 8 * (row * G + gi) + j by omega, u1, Option.bind_some]
        have fA := fr1.tr u2
        unfold andT at ea
        cases hb : (aRep W s1 pl R row gi j d).2 with
        | false =>
          rw [hb, if_neg (by decide)] at ea
          refine Or.inr ⟨Sum.inr (υ, 0), by rw [if_pos (by rfl)], υ, Or.inr ⟨rfl, by rw [ea, hb]⟩, fA, by rw [ea]; exact u3⟩
        | true =>
          rw [hb, if_pos rfl] at ea
          refine Or.inl ⟨υ, ⟨(aRep W s1 pl R row gi j d).1, u3, fA, l1.rep a1, by rw [hm2]; exact ea⟩, by rw [if_neg (by simp [b2i])]⟩)
    (fun k τ ⟨s1, c1, fr1, l1, ea⟩ => by
      rw [Nat.sub_self, aReps] at ea
      exact ⟨Sum.inl τ, by rw [D_SF_replayLogs_L2, c1.1.1.1, if_pos (Int32.le_refl _)], τ, Or.inl ⟨rfl, by rw [ea]⟩, fr1, by rw [ea]; exact c1⟩)
    D 0 F σ (Nat.zero_add _) (by omega) ⟨s, cr, Fr.rf, lt, rfl⟩
  obtain ⟨τ, h1, h2, h3⟩ := q
  refine ⟨τ, ?_, h2, h3⟩
  rw [D_SF_replayLogs, ← nI_0, e1, Option.bind_some]
  rcases h1 with ⟨rfl, h⟩ | ⟨rfl, h⟩ <;> rw [h] <;> rfl
end OP
