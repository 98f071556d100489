section MO2
variable {D W R G : Nat} {hd : Nat → Nat → Nat} {F : Nat} {n : Nat → Nat} {σ : HS} {s : PS} {pl : Nat → Nat → Option Nat} {live : Nat → Bool}
theorem vt_nv {c : Option CellV} (h : isv c = false) : vt c = 0 := by
  cases c with
  | none => rfl
  | some v =>
    show (if z9 v.2.2 = true then v.1 else 0) = 0
    rw [if_neg (by rw [show z9 v.2.2 = false from h]; decide)]
theorem isv_some {c : Option CellV} (h : isv c = true) : ∃ v, c = some v ∧ z9 v.2.2 = true ∧ vt c = v.1 := by
  cases c with
  | none => cases h
  | some v => exact ⟨v, rfl, h, if_pos h⟩
set_option maxHeartbeats 1000000 in
theorem e_MD_opens2 (cx : Ctx D W R G hd n F) (mr : MR D W R G hd live pl s σ) (on : s.2.1 = true) (lk : LK live s.1) (kw : KW D R s.1) (pw : PW D R (W * G) pl) (lt : LT W G R s.1) {dp : Bool} (h20 : σ.1 20 20 = b2i dp) : ∃ r τ, D_MD_opens_L2 F n F σ (nI 0) = some r ∧ ((r = Sum.inl τ ∧ (rReps W G R pl D 0 (s, dp)).2 = true ∧ (rReps W G R pl D 0 (s, dp)).1.1.2.1 = true) ∨ (r = Sum.inr (τ, 0) ∧ (rReps W G R pl D 0 (s, dp)).2 = false)) ∧ FG [23, 24, 25] [12, 13, 14, 20] σ τ ∧ MR D W R G hd live pl (rReps W G R pl D 0 (s, dp)).1.1 τ ∧ τ.1 20 20 = b2i (rReps W G R pl D 0 (s, dp)).1.2 ∧ LK live (rReps W G R pl D 0 (s, dp)).1.1.1 ∧ KW D R (rReps W G R pl D 0 (s, dp)).1.1.1 := by
  obtain ⟨ge, ln, hF⟩ := id cx
  have gn := ge.num
  obtain ⟨⟨_, _⟩, ⟨_, _, _⟩, ⟨_, _⟩, ⟨_, _⟩, ⟨_, _⟩, _, _, _, _⟩ := id gn
  have n24 : n 24 = 1040 := ln.2.2.2.2.1
  obtain ⟨r, e1, τ, q⟩ := lp (L := D_MD_opens_L2 F n) (N := D) (I := fun d τ => ∃ x : PS × Bool, MR D W R G hd live pl x.1 τ ∧ FG [23, 24, 25] [12, 13, 14, 20] σ τ ∧ LT W G R x.1.1 ∧ LK live x.1.1 ∧ KW D R x.1.1 ∧ x.1.2.1 = true ∧ τ.1 20 20 = b2i x.2 ∧ rReps W G R pl D 0 (s, dp) = rReps W G R pl (D - d) d x)
    (Q := fun r => ∃ τ, ((r = Sum.inl τ ∧ (rReps W G R pl D 0 (s, dp)).2 = true ∧ (rReps W G R pl D 0 (s, dp)).1.1.2.1 = true) ∨ (r = Sum.inr (τ, 0) ∧ (rReps W G R pl D 0 (s, dp)).2 = false)) ∧ FG [23, 24, 25] [12, 13, 14, 20] σ τ ∧ MR D W R G hd live pl (rReps W G R pl D 0 (s, dp)).1.1 τ ∧ τ.1 20 20 = b2i (rReps W G R pl D 0 (s, dp)).1.2 ∧ LK live (rReps W G R pl D 0 (s, dp)).1.1.1 ∧ KW D R (rReps W G R pl D 0 (s, dp)).1.1.1)
    (fun k τ d hd1 ⟨x, m1, fr1, l1, k1, w1, o1, h1, ea⟩ => by
      obtain ⟨m, hm⟩ : ∃ m, D - d = m + 1 := ⟨D - d - 1, by omega⟩
      have hm2 : D - (d + 1) = m := by omega
      rw [hm, rReps] at ea
      have hst : D_MD_opens_L2 F n (k + 1) τ (nI d) = if nI (vt (x.1.1 d R)) ≤ 0 then D_MD_opens_L2 F n k τ (nI (d + 1)) else (D_MD_unlogs F n τ (nI d)).bind (fun q => if q.2 = 0 then some (Sum.inr (q.1, 0)) else D_MD_opens_L2 F n k q.1 (nI (d + 1))) := by
        rw [D_MD_opens_L2, m1.1.1.1, if_neg (by rw [nI_leI (by omega) (by omega)]; omega), m1.1.1.2.2.1, e_MD_isValid cx m1.2.1 m1.2.2.1 k1 w1.k0 hd1 (Nat.le_refl R), Option.bind_some]
        simp only [nm_q, jn_q, nm2_q, nI_1]
        cases hv : isv (x.1.1 d R) with
        | false => rw [if_pos (by rfl), vt_nv hv]; rfl
        | true =>
          obtain ⟨v, hk, hz, hvt⟩ := isv_some hv
          rw [if_neg (by decide), e_MD_at, Option.bind_some, grd_in (by omega) (by omega), nI_clamp (by omega), m_tag m1.2.2.1 hd1 (Nat.le_refl R) (k1.alive (by rw [hk]; rfl)) hk, hvt]
      rw [hst]
      rcases l1 d with z | ⟨row, gi, j, a1, a2, a3, a4⟩
      · rw [if_pos z] at ea
        rw [z, if_pos (by decide)]
        exact Or.inl ⟨τ, ⟨x, m1, fr1, l1, k1, w1, o1, h1, by rw [hm2]; exact ea⟩, rfl⟩
      · have i3 := lt2 a1 a2
        have e8 : (vt (x.1.1 d R) - 1) / 8 = row * G + gi := by omega
        have e9 : (vt (x.1.1 d R) - 1) % 8 = j := by omega
        rw [if_neg (by omega), e8, e9, (st_dm a2).1, (st_dm a2).2] at ea
        obtain ⟨v, hk, hz, hvt⟩ := vt_pos (c := x.1.1 d R) (by omega)
        have hlive := k1.alive (d := d) (o := R) (by rw [hk]; rfl)
        obtain ⟨υ, u1, u2, u3, u4⟩ := e_MD_unlogs cx m1 o1 k1 w1 pw h1 a1 a2 a3 hd1 a4
        have hqq := pos_lt a2 (show W - 1 < W by omega)
        rw [if_neg (by rw [← nI_0, nI_leI (by omega) (by omega)]; omega), u1, Option.bind_some]
        have fA := fr1.tr u2
        have kA : LK live (rRep W R pl row gi j d x).1.1.1 := k1.rep hlive
        have wA : KW D R (rRep W R pl row gi j d x).1.1.1 := w1.rep (by omega)
        have lA : LT W G R (rRep W R pl row gi j d x).1.1.1 := l1.rep a1
        cases hb : (rRep W R pl row gi j d x).2 with
        | false =>
          rw [hb, if_neg (by decide)] at ea
          refine Or.inr ⟨Sum.inr (υ, 0), ?_, υ, Or.inr ⟨rfl, by rw [ea, hb]⟩, fA, by rw [ea]; exact u3, by rw [ea]; exact u4, by rw [ea]; exact kA, by rw [ea]; exact wA⟩
          rw [if_pos (by rfl)]
        | true =>
          rw [hb, if_pos rfl] at ea
          refine Or.inl ⟨υ, ⟨(rRep W R pl row gi j d x).1, u3, fA, lA, kA, wA, (aRep_on hb).trans o1, u4, by rw [hm2]; exact ea⟩, ?_⟩
          rw [if_neg (by simp [b2i])])
    (fun k τ ⟨x, m1, fr1, l1, k1, w1, o1, h1, ea⟩ => by
      rw [Nat.sub_self, rReps] at ea
      exact ⟨Sum.inl τ, by rw [D_MD_opens_L2, m1.1.1.1, if_pos (Int32.le_refl _)], τ, Or.inl ⟨rfl, by rw [ea], by rw [ea]; exact o1⟩, fr1, by rw [ea]; exact m1, by rw [ea]; exact h1, by rw [ea]; exact k1, by rw [ea]; exact w1⟩)
    D 0 F σ (Nat.zero_add _) (by omega) ⟨(s, dp), mr, FG.rf, lt, lk, kw, on, h20, rfl⟩
  exact ⟨r, τ, e1, q⟩
theorem e_MD_opens74 (cx : Ctx D W R G hd n F) (mr : MR D W R G hd live pl s σ) (on : s.2.1 = true) (lk : LK live s.1) (kw : KW D R s.1) (pw : PW D R (W * G) pl) {row : Nat} (hr : row < R) : ∃ r τ, D_MD_opens_L74 F n (nI row) F σ (nI (W * G)) = some r ∧ ((r = Sum.inl τ ∧ (aClr1 (W * G) hd pl row (D - W * G) (W * G) s).2 = true ∧ (aClr1 (W * G) hd pl row (D - W * G) (W * G) s).1.2.1 = true) ∨ (r = Sum.inr (τ, 0) ∧ (aClr1 (W * G) hd pl row (D - W * G) (W * G) s).2 = false)) ∧ FG [23, 24, 25] [12, 13, 14] σ τ ∧ MR D W R G hd live pl (aClr1 (W * G) hd pl row (D - W * G) (W * G) s).1 τ ∧ LK live (aClr1 (W * G) hd pl row (D - W * G) (W * G) s).1.1 ∧ KW D R (aClr1 (W * G) hd pl row (D - W * G) (W * G) s).1.1 := by
  obtain ⟨ge, ln, hF⟩ := id cx
  have gn := ge.num
  have hh := ge.2.2.2.2.1
  obtain ⟨⟨_, _⟩, ⟨_, _, _⟩, ⟨_, _⟩, ⟨_, _⟩, ⟨_, _⟩, _, _, _, _⟩ := id gn
  have n24 : n 24 = 1040 := ln.2.2.2.2.1
  obtain ⟨r, e1, τ, q⟩ := lp (L := D_MD_opens_L74 F n (nI row)) (N := D) (I := fun q τ => ∃ s1 : PS, MR D W R G hd live pl s1 τ ∧ FG [23, 24, 25] [12, 13, 14] σ τ ∧ LK live s1.1 ∧ KW D R s1.1 ∧ s1.2.1 = true ∧ aClr1 (W * G) hd pl row (D - W * G) (W * G) s = aClr1 (W * G) hd pl row (D - q) q s1)
    (Q := fun r => ∃ τ, ((r = Sum.inl τ ∧ (aClr1 (W * G) hd pl row (D - W * G) (W * G) s).2 = true ∧ (aClr1 (W * G) hd pl row (D - W * G) (W * G) s).1.2.1 = true) ∨ (r = Sum.inr (τ, 0) ∧ (aClr1 (W * G) hd pl row (D - W * G) (W * G) s).2 = false)) ∧ FG [23, 24, 25] [12, 13, 14] σ τ ∧ MR D W R G hd live pl (aClr1 (W * G) hd pl row (D - W * G) (W * G) s).1 τ ∧ LK live (aClr1 (W * G) hd pl row (D - W * G) (W * G) s).1.1 ∧ KW D R (aClr1 (W * G) hd pl row (D - W * G) (W * G) s).1.1)
    (fun k τ q hq ⟨s1, m1, fr1, k1, w1, o1, ea⟩ => by
      obtain ⟨m, hm⟩ : ∃ m, D - q = m + 1 := ⟨D - q - 1, by omega⟩
      have hm2 : D - (q + 1) = m := by omega
      rw [hm, aClr1] at ea
      have hdq := hh row q
      have mb := m1.mb cx k1 w1 (fun _ => pw)
      rw [epl_on o1] at mb
      have hst : D_MD_opens_L74 F n (nI row) (k + 1) τ (nI q) = if stl (W * G) s1.1 pl row (hd row q) = true then (D_MD_puts F n τ (nI (hd row q)) (nI row) 0).bind (fun x => if x.2 = 0 then some (Sum.inr (x.1, 0)) else D_MD_opens_L74 F n (nI row) k x.1 (nI (q + 1))) else D_MD_opens_L74 F n (nI row) k τ (nI (q + 1)) := by
        rw [D_MD_opens_L74, m1.1.1.1, if_neg (by rw [nI_leI (by omega) (by omega)]; omega), e_MD_diskOf cx m1.1 (by omega) hq, Option.bind_some, e_MD_holder cx mb hr hdq, Option.bind_some]
        simp only [nm_q, jn_q, nm2_q, nI_1]
        unfold stl
        cases hh1 : held (W * G) pl row (hd row q) with
        | true => rw [if_pos ((hold_neg gn).mpr hh1)]; rfl
        | false =>
          rw [if_neg (fun z => by rw [(hold_neg gn).mp z] at hh1; cases hh1), e_MD_isValid cx m1.2.1 m1.2.2.1 k1 w1.k0 hdq (by omega), Option.bind_some]
          cases hv : isv (s1.1 (hd row q) row) with
          | false => rw [if_pos (by rfl), vt_nv hv]; rfl
          | true =>
            obtain ⟨v, hk, hz, hvt⟩ := isv_some hv
            have hlt := (w1 _ _ v hdq (show row ≤ R by omega) hk).1
            rw [if_neg (by decide), e_MD_at, Option.bind_some, grd_in (by omega) (by omega), nI_clamp (by omega), m_tag m1.2.2.1 hdq (by omega) (k1.alive (by rw [hk]; rfl)) hk, hvt]
            by_cases e0 : v.1 = 0
            · rw [e0, if_pos (by decide)]; rfl
            · rw [if_neg (by rw [← nI_0, nI_leI (by omega) (by omega)]; omega), if_pos (by simp; omega)]
      rw [hst]
      cases hs : stl (W * G) s1.1 pl row (hd row q) with
      | false =>
        rw [hs, if_neg (by decide)] at ea
        rw [if_neg (by decide)]
        exact Or.inl ⟨τ, ⟨s1, m1, fr1, k1, w1, o1, by rw [hm2]; exact ea⟩, rfl⟩
      | true =>
        rw [hs, if_pos rfl] at ea
        rw [if_pos rfl]
        have hlive : live (hd row q) = true := by
          obtain ⟨_, hv⟩ := Bool.and_eq_true_iff.mp hs
          obtain ⟨v, hk, _⟩ := vt_pos (of_decide_eq_true hv)
          exact k1.alive (by rw [hk]; rfl)
        obtain ⟨υ, u1, u2, u3⟩ := e_MD_puts (t := 0) cx m1 hdq (show row ≤ R by omega) zr
        have fA := fr1.tr u2.fg
        have kA := k1.put (o := row) (c := (0, zr, zr)) hlive
        have wA := w1.put (d := hd row q) (o := row) (t := 0) (P := zr) (by omega)
        rw [← nI_0, u1, Option.bind_some, nI_0]
        unfold andT at ea
        cases hb : (aput s1 (hd row q) row (0, zr, zr)).2 with
        | false =>
          rw [hb, if_neg (by decide)] at ea
          exact Or.inr ⟨Sum.inr (υ, 0), by rw [if_pos (by rfl)], υ, Or.inr ⟨rfl, by rw [ea, hb]⟩, fA, by rw [ea]; exact u3, by rw [ea]; exact kA, by rw [ea]; exact wA⟩
        | true =>
          rw [hb, if_pos rfl] at ea
          exact Or.inl ⟨υ, ⟨_, u3, fA, kA, wA, (aput_on hb).trans o1, by rw [hm2]; exact ea⟩, by rw [if_neg (by simp [b2i])]⟩)
    (fun k τ ⟨s1, m1, fr1, k1, w1, o1, ea⟩ => by
      rw [Nat.sub_self, aClr1] at ea
      exact ⟨Sum.inl τ, by rw [D_MD_opens_L74, m1.1.1.1, if_pos (Int32.le_refl _)], τ, Or.inl ⟨rfl, by rw [ea], by rw [ea]; exact o1⟩, fr1, by rw [ea]; exact m1, by rw [ea]; exact k1, by rw [ea]; exact w1⟩)
    (D - W * G) (W * G) F σ (by omega) (by omega) ⟨s, mr, FG.rf, lk, kw, on, rfl⟩
  exact ⟨r, τ, e1, q⟩
theorem e_MD_opens56 (cx : Ctx D W R G hd n F) (mr : MR D W R G hd live pl s σ) (on : s.2.1 = true) (lk : LK live s.1) (kw : KW D R s.1) (pw : PW D R (W * G) pl) : ∃ r τ, D_MD_opens_L56 F n F σ (nI 0) = some r ∧ ((r = Sum.inl τ ∧ (aClr D (W * G) hd pl R 0 s).2 = true) ∨ (r = Sum.inr (τ, 0) ∧ (aClr D (W * G) hd pl R 0 s).2 = false)) ∧ FG [23, 24, 25] [12, 13, 14] σ τ ∧ MR D W R G hd live pl (aClr D (W * G) hd pl R 0 s).1 τ := by
  obtain ⟨ge, ln, hF⟩ := id cx
  obtain ⟨⟨_, _⟩, ⟨_, _, _⟩, ⟨_, _⟩, ⟨_, _⟩, ⟨_, _⟩, _, _, _, _⟩ := ge.num
  obtain ⟨r, e1, τ, q⟩ := lp (L := D_MD_opens_L56 F n) (N := R) (I := fun row τ => ∃ s1 : PS, MR D W R G hd live pl s1 τ ∧ FG [23, 24, 25] [12, 13, 14] σ τ ∧ LK live s1.1 ∧ KW D R s1.1 ∧ s1.2.1 = true ∧ aClr D (W * G) hd pl R 0 s = aClr D (W * G) hd pl (R - row) row s1)
    (Q := fun r => ∃ τ, ((r = Sum.inl τ ∧ (aClr D (W * G) hd pl R 0 s).2 = true) ∨ (r = Sum.inr (τ, 0) ∧ (aClr D (W * G) hd pl R 0 s).2 = false)) ∧ FG [23, 24, 25] [12, 13, 14] σ τ ∧ MR D W R G hd live pl (aClr D (W * G) hd pl R 0 s).1 τ)
    (fun k τ row hr ⟨s1, m1, fr1, k1, w1, o1, ea⟩ => by
      obtain ⟨m, hm⟩ : ∃ m, R - row = m + 1 := ⟨R - row - 1, by omega⟩
      have hm2 : R - (row + 1) = m := by omega
      rw [hm, aClr] at ea
      obtain ⟨r, υ, u1, u2, u3, u4, u5, u6⟩ := e_MD_opens74 cx m1 o1 k1 w1 pw hr
      have hst : D_MD_opens_L56 F n (k + 1) τ (nI row) = (some r).bind (fun q => match q with | Sum.inl υ => D_MD_opens_L56 F n k υ (nI (row + 1)) | Sum.inr z => some (Sum.inr z)) := by
        rw [D_MD_opens_L56, m1.1.1.2.2.1, if_neg (by rw [nI_leI (by omega) (by omega)]; omega), nm_q, m1.1.1.2.1, m1.1.1.2.2.2, pk_mul, u1]
        simp only [nm_q, nI_1]
        cases r <;> rfl
      rw [hst]
      unfold andT at ea
      rcases u2 with ⟨rfl, hb, hb2⟩ | ⟨rfl, hb⟩
      · rw [hb, if_pos rfl] at ea
        exact Or.inl ⟨υ, ⟨_, u4, fr1.tr u3, u5, u6, hb2, by rw [hm2]; exact ea⟩, rfl⟩
      · rw [hb, if_neg (by decide)] at ea
        exact Or.inr ⟨Sum.inr (υ, 0), rfl, υ, Or.inr ⟨rfl, by rw [ea, hb]⟩, fr1.tr u3, by rw [ea]; exact u4⟩)
    (fun k τ ⟨s1, m1, fr1, k1, w1, o1, ea⟩ => by
      rw [Nat.sub_self, aClr] at ea
      exact ⟨Sum.inl τ, by rw [D_MD_opens_L56, m1.1.1.2.2.1, if_pos (Int32.le_refl _)], τ, Or.inl ⟨rfl, by rw [ea]⟩, fr1, by rw [ea]; exact m1⟩)
    R 0 F σ (by omega) (by omega) ⟨s, mr, FG.rf, lk, kw, on, rfl⟩
  exact ⟨r, τ, e1, q⟩
theorem e_MD_opens (cx : Ctx D W R G hd n F) (mr : MR D W R G hd live pl s σ) (on : s.2.1 = true) (lk : LK live s.1) (kw : KW D R s.1) (pw : PW D R (W * G) pl) (lt : LT W G R s.1) {dp : Bool} (h20 : σ.1 20 20 = b2i dp) : ∃ τ, D_MD_opens F n σ = some (τ, b2i (rOpen D W G R hd pl (s, dp)).2) ∧ FG [23, 24, 25] [12, 13, 14, 20] σ τ ∧ MR D W R G hd live pl (rOpen D W G R hd pl (s, dp)).1.1 τ ∧ τ.1 20 20 = b2i (rOpen D W G R hd pl (s, dp)).1.2 := by
  obtain ⟨r, τ, t1, t2, t3, t4, t5, t6, t7⟩ := e_MD_opens2 cx mr on lk kw pw lt h20
  rw [D_MD_opens, ← nI_0, t1, Option.bind_some]
  unfold rOpen
  rcases t2 with ⟨rfl, hb, hb2⟩ | ⟨rfl, hb⟩
  · obtain ⟨r2, υ, u1, u2, u3, u4⟩ := e_MD_opens56 cx t4 hb2 t6 t7 pw
    rw [if_pos hb]
    refine ⟨υ, ?_, t3.tr (u3.mono (by simp) (by simp)), u4, by rw [u3.2.2 20 (by decide)]; exact t5⟩
    show (D_MD_opens_L56 F n F τ (nI 0)).bind _ = _
    rw [u1, Option.bind_some]
    rcases u2 with ⟨rfl, h⟩ | ⟨rfl, h⟩
    · show some (υ, (1 : Int32)) = some (υ, b2i _)
      rw [h]; rfl
    · show some (υ, (0 : Int32)) = some (υ, b2i _)
      rw [h]; rfl
  · rw [if_neg (by rw [hb]; decide)]
    refine ⟨τ, ?_, t3, t4, t5⟩
    rw [hb]; rfl
theorem e_MD_open16 (cx : Ctx D W R G hd n F) {K : Rk} (g : mGeo D W R G hd σ) (lv : mLive D live σ) (mk : mK D R live K σ) (lk : LK live K) (kw : KW D R K) : ∃ τ, D_MD_open_L16 F n F σ (nI 0) = some τ ∧ FG [26] [] σ τ ∧ ∀ row p, row < R → p < W * G → τ.1 26 (16 * row + p) = pI (fnd D (W * G) hd K row p) := by
  obtain ⟨ge, ln, hF⟩ := id cx
  obtain ⟨⟨_, _⟩, ⟨_, _, _⟩, ⟨_, _⟩, ⟨_, _⟩, ⟨_, _⟩, _, _, _, _⟩ := ge.num
  have n26 : n 26 = 1024 := ln.2.2.2.2.2.2.1
  have inner : ∀ row τ, row < R → FG [26] [] σ τ → ∃ υ, D_MD_open_L26 F n (nI row) F τ (nI 0) = some υ ∧ FG [26] [] σ υ ∧ (∀ i, i < 16 * row → υ.1 26 i = τ.1 26 i) ∧ ∀ p, p < W * G → υ.1 26 (16 * row + p) = pI (fnd D (W * G) hd K row p) := by
    intro row τ hr f0
    exact lp (L := D_MD_open_L26 F n (nI row)) (N := W * G) (I := fun m υ => FG [26] [] σ υ ∧ (∀ i, i < 16 * row → υ.1 26 i = τ.1 26 i) ∧ ∀ p, p < m → υ.1 26 (16 * row + p) = pI (fnd D (W * G) hd K row p)) (Q := fun υ => FG [26] [] σ υ ∧ (∀ i, i < 16 * row → υ.1 26 i = τ.1 26 i) ∧ ∀ p, p < W * G → υ.1 26 (16 * row + p) = pI (fnd D (W * G) hd K row p))
      (fun k υ p hp ⟨f1, f2, f3⟩ => by
        have g1 : mGeo D W R G hd υ := g.congr (fun j _ => f1.2.2 j (by simp)) (f1.1 21 (by decide) (by decide))
        have lv1 : mLive D live υ := fun d hd => by rw [f1.1 22 (by decide) (by decide)]; exact lv d hd
        have mk1 : mK D R live K υ := mk.congr (f1.1 23 (by decide) (by decide)) (f1.1 24 (by decide) (by decide)) (f1.1 25 (by decide) (by decide))
        refine Or.inl ⟨stI υ 26 (16 * row + p) (pI (fnd D (W * G) hd K row p)), ⟨⟨fun a e e2 => ?_, f1.2.1, fun j e => ?_⟩, fun i hi => ?_, fun q hq => ?_⟩, ?_⟩
        · rw [stI_1 a (fun z => e (by simp [z]))]; exact f1.1 a e e2
        · rw [stI_1 20 (by decide)]; exact f1.2.2 j e
        · rw [stI_s, upd_n (by omega)]; exact f2 i hi
        · rw [stI_s, upd_a]
          by_cases e : q = p
          · rw [if_pos (by omega), e]
          · rw [if_neg (by omega)]; exact f3 q (by omega)
        · rw [D_MD_open_L26, g1.1.2.1, g1.1.2.2.2, pk_mul, if_neg (by rw [nI_leI (by omega) (by omega)]; omega), e_MD_found cx g1 lv1 mk1 lk kw.k0 hr hp, Option.bind_some, show (16 : Int32) = nI 16 from rfl, pk_mul, nI_add, grd_in (by omega) (by omega), nI_clamp (by omega), nm_q, nm_q, nI_1])
      (fun k υ ⟨f1, f2, f3⟩ => by
        have g1 : mGeo D W R G hd υ := g.congr (fun j _ => f1.2.2 j (by simp)) (f1.1 21 (by decide) (by decide))
        exact ⟨υ, by rw [D_MD_open_L26, g1.1.2.1, g1.1.2.2.2, pk_mul, if_pos (Int32.le_refl _)], f1, f2, f3⟩)
      (W * G) 0 F τ (Nat.zero_add _) (by omega) ⟨f0, fun _ _ => rfl, fun p h => by omega⟩
  exact lp (L := D_MD_open_L16 F n) (N := R) (I := fun m υ => FG [26] [] σ υ ∧ ∀ row p, row < m → p < W * G → υ.1 26 (16 * row + p) = pI (fnd D (W * G) hd K row p)) (Q := fun υ => FG [26] [] σ υ ∧ ∀ row p, row < R → p < W * G → υ.1 26 (16 * row + p) = pI (fnd D (W * G) hd K row p))
    (fun k υ row hr ⟨f1, f2⟩ => by
      have g1 : mGeo D W R G hd υ := g.congr (fun j _ => f1.2.2 j (by simp)) (f1.1 21 (by decide) (by decide))
      obtain ⟨ω, w1, w2, w3, w4⟩ := inner row υ hr f1
      refine Or.inl ⟨ω, ⟨w2, fun r p hr1 hp => ?_⟩, ?_⟩
      · by_cases e : r = row
        · rw [e]; exact w4 p hp
        · rw [w3 _ (by omega)]; exact f2 r p (by omega) hp
      · rw [D_MD_open_L16, g1.1.2.2.1, if_neg (by rw [nI_leI (by omega) (by omega)]; omega), ← nI_0, w1, Option.bind_some, nm_q, nI_1])
    (fun k υ ⟨f1, f2⟩ => by
      have g1 : mGeo D W R G hd υ := g.congr (fun j _ => f1.2.2 j (by simp)) (f1.1 21 (by decide) (by decide))
      exact ⟨υ, by rw [D_MD_open_L16, g1.1.2.2.1, if_pos (Int32.le_refl _)], f1, f2⟩)
    R 0 F σ (Nat.zero_add _) (by omega) ⟨FG.rf, fun _ p h => by omega⟩
end MO2
