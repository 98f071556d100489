section J8
variable {D W R G : Nat} {hd : Nat → Nat → Nat} {F : Nat} {n : Nat → Nat} {σ τ : HS} {live : Nat → Bool} {pl : Nat → Nat → Option Nat} {s : PS} {tb : Nat} {tp : Nat → Int64} {nx : Nat} {V : Nat → Nat → Int64} {ol : Nat → Int64} {cb : Nat} {dp : Bool}
theorem pm_i {b : Bool} {τ : HS} : (if b2i b = 0 then (some (Sum.inr (τ, Sum.inl (-1 : Int32))) : Option (HS ⊕ (HS × (Int32 ⊕ Nat)))) else some (Sum.inr (τ, Sum.inl (1 : Int32)))) = some (Sum.inr (τ, Sum.inl (pm1 b))) := by cases b <;> rfl
theorem pm_j {b : Bool} {τ : HS} : (if b2i b = 0 then (some (τ, Sum.inl (-1 : Int32)) : Option (HS × (Int32 ⊕ Nat))) else some (τ, Sum.inl (1 : Int32))) = some (τ, Sum.inl (pm1 b)) := by cases b <;> rfl
theorem aput_on2 {s : PS} {d o : Nat} {c : CellV} (h : s.2.1 = true) : (aput s d o c).1.2.1 = (aput s d o c).2 := by
  cases hb : (aput s d o c).2 with
  | true => rw [aput_on hb, h]
  | false => rw [aput_off hb]
/-- a moved position -/
theorem CR.mv {s1 : PS} {b : Bool} {pl' : Nat → Nat → Option Nat} (h : CRs D W R G hd live (if b = true then pl' else pl) s1 σ) (hb : s1.2.1 = b) (x : CX tb tp nx σ) : CI D W R G hd live pl' s1 tb tp nx σ := by
  refine ⟨⟨h.1, h.2.1, h.2.2.1, h.2.2.2.2.1, h.2.2.2.2.2⟩, fun z => ?_, x⟩
  rw [hb] at z
  have := h.2.2.2.1
  rw [z, if_pos rfl] at this
  exact this
theorem e_SF_reb22 (cx : Ctx D W R G hd n F) (cr : CRs D W R G hd live pl s σ) (pw : PW D R (W * G) pl) (pk : PK R (W * G) s.1 pl) : (rbs D (W * G) R hd pl live = none → D_SF_rebuild_L22 F n F σ (nI 0) = some (Sum.inl σ)) ∧ ∀ row d p, rbs D (W * G) R hd pl live = some row → ffs D (W * G) hd pl live row = some d → frb (W * G) hd pl live row = some p → ∃ τ, D_SF_rebuild_L22 F n F σ (nI 0) = some (Sum.inr (τ, Sum.inl (pm1 (aput s d row (p + 1, rdv W s.1 pl row (p / W) (p % W), zr)).2))) ∧ Fr [4, 13, 14, 15, 16] [7, 11, 12] σ τ ∧ CRs D W R G hd live (if (aput s d row (p + 1, rdv W s.1 pl row (p / W) (p % W), zr)).2 = true then setP pl row p (some d) else pl) (aput s d row (p + 1, rdv W s.1 pl row (p / W) (p % W), zr)).1 τ := by
  obtain ⟨ge, ln, hF⟩ := id cx
  have gn := ge.num
  obtain ⟨⟨_, _⟩, ⟨_, _, _⟩, ⟨_, _⟩, ⟨_, _⟩, ⟨_, _⟩, _, _, _, _⟩ := id gn
  have hfs := fun row (hr : row < R) => e_PL_firstFreeSpare (F := F) cx cr.1 cr.2.2.2.1 cr.2.1 hr
  have hfr := fun row (hr : row < R) => e_PL_firstToRebuild (F := F) cx cr.1 cr.2.2.2.1 pw cr.2.1 hr
  have key := lp_find (L := fun k x => D_SF_rebuild_L22 F n k σ x) (f := rbr D (W * G) hd pl live) (N := R) (lo := 0) (e := some (Sum.inl σ)) (v := fun row => match ffs D (W * G) hd pl live row, frb (W * G) hd pl live row with | some d, some p => ((D_SF_moveTo F n σ (nI (row * D + p)) (nI (d * (R + 1) + row))).bind (fun (q : HS × Int32) => (if q.2 = 0 then some (Sum.inr (q.1, Sum.inl (-1 : Int32))) else some (Sum.inr (q.1, Sum.inl (1 : Int32)))))) | _, _ => none)
    (fun k => by show D_SF_rebuild_L22 F n (k + 1) σ (nI R) = _; rw [D_SF_rebuild_L22, cr.1.1.2.2.1, if_pos (Int32.le_refl _)])
    (fun k row _ hr hf => by
      show D_SF_rebuild_L22 F n (k + 1) σ (nI row) = _
      rw [D_SF_rebuild_L22, cr.1.1.2.2.1, if_neg (by rw [nI_leI (by omega) (by omega)]; omega), hfs row hr, Option.bind_some]
      simp only [jn_q, nm_q, nI_1]
      unfold rbr at hf
      cases h1 : ffs D (W * G) hd pl live row with
      | none => rw [if_pos (by rfl), if_pos trivial]
      | some d =>
        have h2 : frb (W * G) hd pl live row = none := by
          rw [h1] at hf
          cases h2 : frb (W * G) hd pl live row with
          | none => rfl
          | some p => rw [h2] at hf; cases hf
        have i2 := idx_c gn (ffs_lt ge h1).1 (show row ≤ R by omega)
        rw [show pc_ R row (some d) = nI (d * (R + 1) + row) from rfl, if_neg (nI_m1 (by omega)), hfr row hr, h2, Option.bind_some, show si D row none = -1 from rfl, if_pos rfl])
    (fun k row _ hr hf => by
      show D_SF_rebuild_L22 F n (k + 1) σ (nI row) = _
      rw [D_SF_rebuild_L22, cr.1.1.2.2.1, if_neg (by rw [nI_leI (by omega) (by omega)]; omega), hfs row hr, Option.bind_some]
      simp only [jn_q, nm_q, nm2_q, nI_1]
      unfold rbr at hf
      cases h1 : ffs D (W * G) hd pl live row with
      | none => rw [h1] at hf; cases hf
      | some d =>
        cases h2 : frb (W * G) hd pl live row with
        | none => rw [h1, h2] at hf; cases hf
        | some p =>
          have i2 := idx_c gn (ffs_lt ge h1).1 (show row ≤ R by omega)
          have hp := (frb_at h2).1
          have i3 := lt2 hr (show p < D by omega)
          rw [show pc_ R row (some d) = nI (d * (R + 1) + row) from rfl, if_neg (nI_m1 (by omega)), hfr row hr, h2, Option.bind_some, show si D row (some p) = nI (row * D + p) from rfl, if_neg (nI_m1 (by omega))])
    R 0 F (Nat.zero_le _) (by omega) (by omega)
  have key : D_SF_rebuild_L22 F n F σ (nI 0) = match rbs D (W * G) R hd pl live with | none => some (Sum.inl σ) | some row => match ffs D (W * G) hd pl live row, frb (W * G) hd pl live row with | some d, some p => ((D_SF_moveTo F n σ (nI (row * D + p)) (nI (d * (R + 1) + row))).bind (fun (q : HS × Int32) => (if q.2 = 0 then some (Sum.inr (q.1, Sum.inl (-1 : Int32))) else some (Sum.inr (q.1, Sum.inl (1 : Int32)))))) | _, _ => none := key
  refine ⟨fun h => by rw [key, h], fun row d p h h1 h2 => ?_⟩
  rw [h] at key
  have key : D_SF_rebuild_L22 F n F σ (nI 0) = match ffs D (W * G) hd pl live row, frb (W * G) hd pl live row with | some d, some p => ((D_SF_moveTo F n σ (nI (row * D + p)) (nI (d * (R + 1) + row))).bind (fun (q : HS × Int32) => (if q.2 = 0 then some (Sum.inr (q.1, Sum.inl (-1 : Int32))) else some (Sum.inr (q.1, Sum.inl (1 : Int32)))))) | _, _ => none := key
  rw [h1, h2] at key
  have key : D_SF_rebuild_L22 F n F σ (nI 0) = (D_SF_moveTo F n σ (nI (row * D + p)) (nI (d * (R + 1) + row))).bind (fun (q : HS × Int32) => (if q.2 = 0 then some (Sum.inr (q.1, Sum.inl (-1 : Int32))) else some (Sum.inr (q.1, Sum.inl (1 : Int32))))) := key
  have hr : row < R := by obtain ⟨_, z, _⟩ := srch_some h; omega
  obtain ⟨d1, d2, q, d3, d4, d5⟩ := ffs_lt ge h1
  obtain ⟨p1, p2, p3⟩ := frb_at h2
  obtain ⟨f1, f2⟩ := Bool.and_eq_true_iff.mp d2
  have f1 : held (W * G) pl row d = false := by
    revert f1
    cases held (W * G) pl row d <;> simp
  have hpW := Nat.div_add_mod p W
  obtain ⟨τ, t1, t2, t3⟩ := e_SF_moveTo cx cr pw pk hr (Nat.div_lt_of_lt_mul p1) (Nat.mod_lt p (show 0 < W by omega)) d1 (fun q1 hq1 => held_no.mp f1 q1 hq1)
  rw [hpW] at t1 t3
  refine ⟨τ, ?_, t2, t3⟩
  rw [key, t1, Option.bind_some]
  exact pm_i
theorem rbs_some (ge : Geo D W R G hd) {row : Nat} (h : rbs D (W * G) R hd pl live = some row) : row < R ∧ ∃ d p, ffs D (W * G) hd pl live row = some d ∧ frb (W * G) hd pl live row = some p := by
  obtain ⟨_, z, f, _⟩ := srch_some h
  obtain ⟨f1, f2⟩ := Bool.and_eq_true_iff.mp f
  obtain ⟨d, hd1⟩ := Option.isSome_iff_exists.mp f1
  obtain ⟨p, hp⟩ := Option.isSome_iff_exists.mp f2
  exact ⟨by omega, d, p, hd1, hp⟩
theorem j_rebuild (cx : Ctx D W R G hd n F) (ji : JI D W R G hd σ) : ∃ τ c, D_LW_rebuild_0_30 F n σ = some (τ, c) ∧ ∃ υ r, D_MD_rebuild F n τ = some (υ, r) ∧ υ.1 20 0 = c ∧ (c = 0 → υ.2 30 0 = r.toInt64) ∧ JI D W R G hd υ := by
  obtain ⟨ge, ln, hF⟩ := id cx
  have ji0 := ji
  obtain ⟨live, pl, s, tb, tp, nx, V, ol, cb, dp, ci, mr, mx, gi, hz, hnx⟩ := ji
  obtain ⟨⟨a1, a2, a3, a4, a5⟩, b1, b2⟩ := id ci
  cases hs : s.2.1 with
  | false =>
    refine ⟨σ, 1, ?_, stF σ 20 0 1, 0, ?_, thr_s, fun z => absurd z (by decide), ji0.thr 1⟩
    · rw [D_LW_rebuild_0_30, D_SF_rebuild, a4.1, if_pos (on_i.mpr hs)]; rfl
    · rw [D_MD_rebuild]
      simp only [jn_q, f_1, f_0, Option.bind_some, nm2_q]
      rw [mr.2.2.2.2.1, if_pos (on_i.mpr hs)]; rfl
  | true =>
    have hn : ¬ b2i s.2.1 = 0 := fun z => by rw [on_i.mp z] at hs; cases hs
    obtain ⟨lk, kw, lv⟩ := gi.base
    have pw := gi.pw hs
    have cr := ci.cr hs
    obtain ⟨gon, hdp⟩ := gi.1 hs
    subst hdp
    obtain ⟨c1, c2⟩ := e_SF_reb22 cx cr pw gon.pk
    cases hrb : rbs D (W * G) R hd pl live with
    | none =>
      have c1 : D_SF_rebuild_L22 F n F σ 0 = some (Sum.inl σ) := c1 hrb
      have hi : Hi σ (stL σ 30 0 ((0 : Int32)).toInt64) := Hi.out
      have mr1 := (mr.hi hi).thr 0
      obtain ⟨d1, _⟩ := e_MD_reb24 cx mr1 hs lk kw pw
      have d1 : D_MD_rebuild_L24 F n F (stF (stL σ 30 0 ((0 : Int32)).toInt64) 20 0 0) 0 = some (Sum.inl _) := d1 hrb
      refine ⟨stL σ 30 0 ((0 : Int32)).toInt64, 0, ?_, stF (stL σ 30 0 ((0 : Int32)).toInt64) 20 0 0, 0, ?_, thr_s, fun _ => by rw [stF_2, out_s], (ji0.out _).thr 0⟩
      · rw [D_LW_rebuild_0_30, D_SF_rebuild, a4.1, if_neg hn, c1]
        simp only [Option.bind_some, nm_q, nm2_q, xc_l, in30 ln]; rfl
      · rw [D_MD_rebuild]
        simp only [jn_q, f_1, f_0, Option.bind_some, nm2_q]
        rw [(mr.hi hi).2.2.2.2.1, if_neg hn, if_pos trivial, d1]; rfl
    | some row =>
      obtain ⟨hr, d, p, h1, h2⟩ := rbs_some ge hrb
      obtain ⟨τ1, t1, t2, t3⟩ := c2 row d p hrb h1 h2
      have t1 : D_SF_rebuild_L22 F n F σ 0 = _ := t1
      obtain ⟨K, onx, lf, wr⟩ := s
      have hs : onx = true := hs
      subst hs
      have gr := gon.reb ge (ol := ol) (cb := cb) (lf := lf) (wr := wr) hr h1 h2
      have hon := aput_on2 (s := (K, true, lf, wr)) (d := d) (o := row) (c := (p + 1, rdv W K pl row (p / W) (p % W), zr)) rfl
      have t1 : D_SF_rebuild_L22 F n F σ 0 = some (Sum.inr (τ1, Sum.inl (pm1 (aput (K, true, lf, wr) d row (p + 1, rdv W K pl row (p / W) (p % W), zr)).2))) := t1
      have t3 : CRs D W R G hd live (if (aput (K, true, lf, wr) d row (p + 1, rdv W K pl row (p / W) (p % W), zr)).2 = true then setP pl row p (some d) else pl) (aput (K, true, lf, wr) d row (p + 1, rdv W K pl row (p / W) (p % W), zr)).1 τ1 := t3
      have hi : Hi σ (stL τ1 30 0 (pm1 (aput (K, true, lf, wr) d row (p + 1, rdv W K pl row (p / W) (p % W), zr)).2).toInt64) := fun a h => by
        show τ1.1 a = _
        rw [t2.1 a (by simp; omega)]
      have mr1 := (mr.hi hi).thr 0
      have mx1 := (mx.hi hi).thr 0
      obtain ⟨_, d2⟩ := e_MD_reb24 cx mr1 rfl lk kw pw
      obtain ⟨υ, u1, u2, u3⟩ := d2 row d p (rdv W K pl row (p / W) (p % W)) hrb h1 h2
      have u1 : D_MD_rebuild_L24 F n F (stF (stL τ1 30 0 (pm1 (aput (K, true, lf, wr) d row (p + 1, rdv W K pl row (p / W) (p % W), zr)).2).toInt64) 20 0 0) 0 = _ := u1
      have ciA := CR.mv t3 hon (b2.fr t2 (by decide) (by decide))
      refine ⟨stL τ1 30 0 (pm1 (aput (K, true, lf, wr) d row (p + 1, rdv W K pl row (p / W) (p % W), zr)).2).toInt64, 0, ?_, υ, pm1 (aput (K, true, lf, wr) d row (p + 1, rdv W K pl row (p / W) (p % W), zr)).2, ?_, ?_, fun _ => ?_, live, _, _, tb, tp, nx, V, ol, cb, false, ((ciA.lo Lo.out).lo Lo.thr).lo (u2.lo (by decide)), u3, mx1.same u2 (by decide) (by decide), gr, hz, hnx⟩
      · rw [D_LW_rebuild_0_30, D_SF_rebuild, a4.1, if_neg hn, t1]
        simp only [Option.bind_some, nm_q, nm2_q, xc_l, in30 ln]; rfl
      · rw [D_MD_rebuild]
        simp only [jn_q, f_1, f_0, Option.bind_some, nm2_q]
        rw [(mr.hi hi).2.2.2.2.1, if_neg hn, if_pos trivial, u1]; rfl
      · rw [u2.2.2 0 (by decide)]; exact thr_s
      · rw [u2.2.1, stF_2, out_s]
theorem j_copyBack (cx : Ctx D W R G hd n F) (ji : JI D W R G hd σ) : ∃ τ c, D_LW_copyBack_0_30 F n σ = some (τ, c) ∧ ∃ υ r, D_MD_copyBack F n τ = some (υ, r) ∧ υ.1 20 0 = c ∧ (c = 0 → υ.2 30 0 = r.toInt64) ∧ JI D W R G hd υ := by
  obtain ⟨ge, ln, hF⟩ := id cx
  have gn := ge.num
  obtain ⟨⟨_, _⟩, ⟨_, _, _⟩, ⟨_, _⟩, ⟨_, _⟩, ⟨_, _⟩, _, _, _, _⟩ := id gn
  have n15 : n 15 = R * D := ln.1.2.2.2.2.2.2.2.1
  have n9 : n 9 = R * D := ln.1.2.1
  have ji0 := ji
  obtain ⟨live, pl, s, tb, tp, nx, V, ol, cb, dp, ci, mr, mx, gi, hz, hnx⟩ := ji
  obtain ⟨⟨a1, a2, a3, a4, a5⟩, b1, b2⟩ := id ci
  cases hs : s.2.1 with
  | false =>
    refine ⟨σ, 1, ?_, stF σ 20 0 1, 0, ?_, thr_s, fun z => absurd z (by decide), ji0.thr 1⟩
    · rw [D_LW_copyBack_0_30, D_SF_copyBack, a4.1, if_pos (on_i.mpr hs)]; rfl
    · rw [D_MD_copyBack]
      simp only [jn_q, f_1, f_0, Option.bind_some, nm2_q]
      rw [mr.2.2.2.2.1, if_pos (on_i.mpr hs)]; rfl
  | true =>
    have hn : ¬ b2i s.2.1 = 0 := fun z => by rw [on_i.mp z] at hs; cases hs
    obtain ⟨lk, kw, lv⟩ := gi.base
    have pw := gi.pw hs
    have cr := ci.cr hs
    obtain ⟨gon, hdp⟩ := gi.1 hs
    subst hdp
    have ef := e_PL_firstToCopyBack (F := F) cx a1 a3 a2
    cases hfc : fcb R (W * G) hd live s.1 with
    | none =>
      rw [hfc] at ef
      have ef : D_PL_firstToCopyBack F n σ = some (-1) := ef
      have hi : Hi σ (stL σ 30 0 ((0 : Int32)).toInt64) := Hi.out
      have mr1 := (mr.hi hi).thr 0
      obtain ⟨d1, _⟩ := e_MD_cpy24 cx mr1 hs lk kw pw
      have d1 : D_MD_copyBack_L24 F n F (stF (stL σ 30 0 ((0 : Int32)).toInt64) 20 0 0) 0 = some (Sum.inl _) := d1 hfc
      refine ⟨stL σ 30 0 ((0 : Int32)).toInt64, 0, ?_, stF (stL σ 30 0 ((0 : Int32)).toInt64) 20 0 0, 0, ?_, thr_s, fun _ => by rw [stF_2, out_s], (ji0.out _).thr 0⟩
      · rw [D_LW_copyBack_0_30, D_SF_copyBack, a4.1, if_neg hn, ef, Option.bind_some, if_pos rfl]
        simp only [Option.bind_some, nm_q, nm2_q, xc_l, in30 ln]; rfl
      · rw [D_MD_copyBack]
        simp only [jn_q, f_1, f_0, Option.bind_some, nm2_q]
        rw [(mr.hi hi).2.2.2.2.1, if_neg hn, if_pos trivial, d1]; rfl
    | some q =>
      obtain ⟨row, p⟩ := q
      rw [hfc] at ef
      have ef : D_PL_firstToCopyBack F n σ = some (nI (row * D + p)) := ef
      obtain ⟨hr, hp, hc⟩ := fcb_at hfc
      obtain ⟨hc1, hc2⟩ := Bool.and_eq_true_iff.mp hc
      have hkn : s.1 (hd row p) row = none := by
        revert hc2
        cases s.1 (hd row p) row <;> simp
      have hfree : ∀ q, q < W * G → pl row q ≠ some (hd row p) := fun q hq e => by
        obtain ⟨v, k1, _⟩ := gon.1.2.2.2.1 row q _ hr hq e
        rw [hkn] at k1; cases k1
      have i1 := lt2 hr (show p < D by omega)
      have hpW := Nat.div_add_mod p W
      obtain ⟨τ1, t1, t2, t3⟩ := e_SF_moveTo cx cr pw gon.pk hr (Nat.div_lt_of_lt_mul hp) (Nat.mod_lt p (show 0 < W by omega)) (ge.2.2.2.2.1 row p) hfree
      rw [hpW] at t1 t3
      obtain ⟨K, onx, lf, wr⟩ := s
      have hs : onx = true := hs
      subst hs
      have hkn : K (hd row p) row = none := hkn
      have hfc : fcb R (W * G) hd live K = some (row, p) := hfc
      have gr := gon.cpy ge (ol := ol) (cb := cb) (lf := lf) (wr := wr) hfc
      have t1 : D_SF_moveTo F n σ (nI (row * D + p)) (nI (hd row p * (R + 1) + row)) = some (τ1, b2i (aput (K, true, lf, wr) (hd row p) row (p + 1, rdv W K pl row (p / W) (p % W), zr)).2) := t1
      have t3 : CRs D W R G hd live (if (aput (K, true, lf, wr) (hd row p) row (p + 1, rdv W K pl row (p / W) (p % W), zr)).2 = true then setP pl row p (some (hd row p)) else pl) (aput (K, true, lf, wr) (hd row p) row (p + 1, rdv W K pl row (p / W) (p % W), zr)).1 τ1 := t3
      have hon := aput_on2 (s := (K, true, lf, wr)) (d := hd row p) (o := row) (c := (p + 1, rdv W K pl row (p / W) (p % W), zr)) rfl
      -- the class
      have hcl : ∃ τ2, D_SF_copyBack F n σ = some (τ2, Sum.inl (pm1 (aCpy (K, true, lf, wr) (hd row p) row p (pl row p) (rdv W K pl row (p / W) (p % W))).2)) ∧ Fr [4, 13, 14, 15, 16] [7, 11, 12] σ τ2 ∧ CI D W R G hd live (setP pl row p (some (hd row p))) (aCpy (K, true, lf, wr) (hd row p) row p (pl row p) (rdv W K pl row (p / W) (p % W))).1 tb tp nx τ2 := by
        rw [D_SF_copyBack, a4.1, if_neg hn, ef, Option.bind_some, if_neg (nI_m1 (by omega)), grd_in (by omega) (by omega), nm_q, grd_in (by omega) (by omega), nI_clamp (by omega), cr.2.2.2.1.1 row p hr hp, a1.2 row p hr (by omega), t1, Option.bind_some, nm2_q]
        dsimp only
        rw [z_if]
        unfold aCpy andT
        cases hb : (aput (K, true, lf, wr) (hd row p) row (p + 1, rdv W K pl row (p / W) (p % W), zr)).2 with
        | false =>
          rw [if_neg (by decide), if_neg (by decide), hb]
          exact ⟨τ1, rfl, t2, CR.mv t3 hon (b2.fr t2 (by decide) (by decide))⟩
        | true =>
          rw [if_pos rfl, if_pos rfl]
          cases ho : pl row p with
          | none =>
            rw [if_pos (by rfl)]
            exact ⟨τ1, rfl, t2, CR.mv t3 hon (b2.fr t2 (by decide) (by decide))⟩
          | some d0 =>
            have hd0 := pw.1 row p d0 hr hp ho
            have i2 := idx_c gn hd0 (show row ≤ R by omega)
            rw [hb, if_pos rfl] at t3
            obtain ⟨τ2, w1, w2, w3⟩ := e_put (b := 8) (t := 0) cx t3 (Or.inr (Or.inr rfl)) (P := zr) (fun i hi => t3.2.2.2.2.2 i hi) hd0 (show row ≤ R by omega)
            have w1 : G_put 8 F n τ1 (nI (d0 * (R + 1) + row)) 0 = _ := w1
            rw [show pc_ R row (some d0) = nI (d0 * (R + 1) + row) from rfl, if_neg (nI_m1 (by omega)), G_put_8, w1, Option.bind_some, nm2_q]
            have fA : Fr [4, 13, 14, 15, 16] [7, 11, 12] σ τ2 := t2.tr (w2.mono (by simp) (by simp))
            exact ⟨τ2, pm_j, fA, CR.ci w3 (b2.fr fA (by decide) (by decide))⟩
      obtain ⟨τ2, e1, e2, e3⟩ := hcl
      have hi : Hi σ (stL τ2 30 0 (pm1 (aCpy (K, true, lf, wr) (hd row p) row p (pl row p) (rdv W K pl row (p / W) (p % W))).2).toInt64) := fun a h => by
        show τ2.1 a = _
        rw [e2.1 a (by simp; omega)]
      have mr1 := (mr.hi hi).thr 0
      have mx1 := (mx.hi hi).thr 0
      obtain ⟨_, d2⟩ := e_MD_cpy24 cx mr1 rfl lk kw pw
      obtain ⟨υ, u1, u2, u3⟩ := d2 row p (rdv W K pl row (p / W) (p % W)) hfc
      have u1 : D_MD_copyBack_L24 F n F (stF (stL τ2 30 0 (pm1 (aCpy (K, true, lf, wr) (hd row p) row p (pl row p) (rdv W K pl row (p / W) (p % W))).2).toInt64) 20 0 0) 0 = _ := u1
      refine ⟨stL τ2 30 0 (pm1 (aCpy (K, true, lf, wr) (hd row p) row p (pl row p) (rdv W K pl row (p / W) (p % W))).2).toInt64, 0, ?_, υ, pm1 (aCpy (K, true, lf, wr) (hd row p) row p (pl row p) (rdv W K pl row (p / W) (p % W))).2, ?_, ?_, fun _ => ?_, live, _, _, tb, tp, nx, V, ol, cb, false, ((e3.lo Lo.out).lo Lo.thr).lo (u2.lo (by decide)), u3, mx1.same u2 (by decide) (by decide), gr, hz, hnx⟩
      · rw [D_LW_copyBack_0_30, e1]
        simp only [Option.bind_some, nm_q, nm2_q, xc_l, in30 ln]; rfl
      · rw [D_MD_copyBack]
        simp only [jn_q, f_1, f_0, Option.bind_some, nm2_q]
        rw [(mr.hi hi).2.2.2.2.1, if_neg hn, if_pos trivial, u1]; rfl
      · rw [u2.2.2 0 (by decide)]; exact thr_s
      · rw [u2.2.1, stF_2, out_s]
end J8
