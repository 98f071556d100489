section J6
variable {D W R G : Nat} {hd : Nat → Nat → Nat} {F : Nat} {n : Nat → Nat} {σ τ : HS} {live : Nat → Bool} {pl : Nat → Nat → Option Nat} {s : PS} {tb : Nat} {tp : Nat → Int64} {nx : Nat} {V : Nat → Nat → Int64} {ol : Nat → Int64} {cb : Nat} {dp : Bool}
/-- the reference loses a disk -/
theorem MR.fail (cx : Ctx D W R G hd n F) (mr : MR D W R G hd live pl s σ) (pw : s.2.1 = true → PW D R (W * G) pl) {x : Nat} (hx : x < D) : ∃ τ, D_MD_fail_L123 F n (nI x) F (stI σ 22 x (nI 0)) 0 = some τ ∧ FG [22, 26] [] σ τ ∧ MR D W R G hd (rmL live x) (rmP pl x) (rmK s.1 x, s.2) τ := by
  obtain ⟨m1, m2, m3, m4, m5, m6, m7, m8⟩ := mr
  have g1 : mGeo D W R G hd (stI σ 22 x (nI 0)) := m1.congr (fun j _ => by rw [stI_1 20 (by decide)]) (stI_1 21 (by decide))
  have hm : ∀ τ, FG [26] [] (stI σ 22 x (nI 0)) τ → (s.2.1 = true → ∀ row p, row < R → p < W * G → τ.1 26 (16 * row + p) = pI (rmP pl x row p)) → FG [22, 26] [] σ τ ∧ MR D W R G hd (rmL live x) (rmP pl x) (rmK s.1 x, s.2) τ := by
    intro τ f h26
    have f0 : FG [22, 26] [] σ τ := ((FG.stI 22 x _ (by decide)).mono (by simp) (by simp)).tr (f.mono (by simp) (by simp))
    refine ⟨f0, m1.congr (fun j _ => f0.2.2 j (by simp)) (f0.1 21 (by decide) (by decide)), fun d hd1 => ?_, fun d o hd1 ho hl => ?_, h26, by rw [f0.2.2 12 (by simp)]; exact m5, by rw [f0.2.2 13 (by simp)]; exact m6, by rw [f0.2.2 14 (by simp)]; exact m7, m8⟩
    · rw [f.1 22 (by decide) (by decide), stI_s, upd_a]
      unfold rmL
      by_cases e : d = x
      · rw [if_pos e, if_pos e]; rfl
      · rw [if_neg e, if_neg e]; exact m2 d hd1
    · have hne : d ≠ x := fun e => by
        unfold rmL at hl
        rw [if_pos e] at hl; cases hl
      have hl2 : live d = true := by
        unfold rmL at hl
        rw [if_neg hne] at hl; exact hl
      have := m3 d o hd1 ho hl2
      show mCell (rmK s.1 x d o) τ (65 * d + o)
      rw [rmK_ne hne]
      unfold mCell at *
      rw [f0.1 23 (by decide) (by decide), f0.1 24 (by decide) (by decide), f0.1 25 (by decide) (by decide)]
      exact this
  cases hs : s.2.1 with
  | true =>
    obtain ⟨τ, t1, t2, t3⟩ := e_MD_fail123 (pl := pl) cx g1 (by rw [stI_1 20 (by decide), m5, hs]; rfl) (fun row p hr hp => by rw [stI_1 26 (by decide)]; exact m4 hs row p hr hp) (pw hs) hx
    obtain ⟨q1, q2⟩ := hm τ t2 (fun _ => t3)
    exact ⟨τ, t1, q1, q2⟩
  | false =>
    have t1 := e_MD_fail123_off (x := nI x) cx g1 (by rw [stI_1 20 (by decide), m5, hs]; rfl)
    obtain ⟨q1, q2⟩ := hm _ FG.rf (fun z => by rw [hs] at z; cases z)
    exact ⟨_, t1, q1, q2⟩
theorem j_fail (cx : Ctx D W R G hd n F) (ji : JI D W R G hd σ) (p1 : Int32) : ∃ τ c, D_LW_fail_0_30 F n σ p1 = some (τ, c) ∧ ∃ υ r, D_MD_fail F n τ p1 = some (υ, r) ∧ υ.1 20 0 = c ∧ (c = 0 → (r = 0 → υ.2 30 0 = 0) ∧ (¬ r = 0 → υ.2 30 0 = 1)) ∧ JI D W R G hd υ := by
  obtain ⟨ge, ln, hF⟩ := id cx
  have gn := ge.num
  have h768 := nb768 gn
  obtain ⟨⟨_, _⟩, ⟨_, _, _⟩, ⟨_, _⟩, ⟨_, _⟩, ⟨_, _⟩, _, _, _, _⟩ := id gn
  have ji0 := ji
  obtain ⟨live, pl, s, tb, tp, nx, V, ol, cb, dp, ci, mr, mx, gi, hz, hnx⟩ := ji
  obtain ⟨⟨a1, a2, a3, a4, a5⟩, b1, b2⟩ := id ci
  have n10 : n 10 = D := ln.1.2.2.1
  have n22 : n 22 = 16 := ln.2.2.1
  rcases idx_c2 p1 (show D < 2 ^ 31 by omega) with hb | ⟨x, hx, rfl, e1, e2⟩
  · refine ⟨σ, 1, ?_, stF σ 20 0 1, 0, ?_, thr_s, fun z => absurd z (by decide), ji0.thr 1⟩
    · rw [D_LW_fail_0_30, D_SF_fail, a1.1.1]
      rcases hb with z | ⟨z1, z2⟩
      · rw [if_pos z]; rfl
      · rw [if_neg z1, if_neg z2]; rfl
    · rw [D_MD_fail]
      simp only [jn_q, f_1, f_0, Option.bind_some, nm2_q]
      rw [mr.1.1.1]
      rcases hb with z | ⟨z1, z2⟩
      · rw [if_pos z]; rfl
      · rw [if_neg z1, if_neg z2]; rfl
  · cases hl : live x with
    | false =>
      have hn : b2i (live x) = 0 := by rw [hl]; rfl
      refine ⟨stL σ 30 0 0, 0, ?_, stF (stL σ 30 0 0) 20 0 0, 0, ?_, thr_s, fun _ => ⟨fun _ => by rw [stF_2, out_s], fun z => absurd rfl z⟩, (ji0.out 0).thr 0⟩
      · rw [D_LW_fail_0_30, D_SF_fail, a1.1.1, if_neg e1, if_pos e2, grd_in (by omega) (by omega), nI_clamp (by omega), a2 x hx, if_pos hn]
        simp only [Option.bind_some, nm2_q, xc_l, in30 ln]; rfl
      · rw [D_MD_fail]
        simp only [jn_q, f_1, f_0, Option.bind_some, nm2_q]
        rw [show (stL σ 30 0 0).1 20 1 = nI D from mr.1.1.1, if_neg e1, if_pos e2, if_pos trivial, grd_in (by omega) (by omega), nI_clamp (by omega), stF_1 22 (by decide), show (stL σ 30 0 0).1 22 x = b2i (live x) from mr.2.1 x hx, if_pos hn]
    | true =>
      have hn : ¬ b2i (live x) = 0 := by rw [hl]; decide
      obtain ⟨lk, kw, lv⟩ := gi.base
      obtain ⟨τ1, t1, t2, t3, t4⟩ := ci.find cx kw
      have epw := epl_PW (D := D) (W := W) (R := R) (G := G) (hd := hd) (s := s) (pl := pl) ge gi.pw
      have wb := e_SF_wouldBreak cx t3.1.1 t3.1.2.2.1 t4 epw hx
      cases hbk : brk W G R s.1 (epl D (W * G) hd s.1 pl s.2.1) x with
      | true =>
        have hi : Hi σ (stL τ1 30 0 0) := fun a h => t2.hi a h
        have mr1 := (mr.hi hi).thr 0
        refine ⟨stL τ1 30 0 0, 0, ?_, stF (stL τ1 30 0 0) 20 0 0, 0, ?_, thr_s, fun _ => ⟨fun _ => by rw [stF_2, out_s], fun z => absurd rfl z⟩, live, pl, s, tb, tp, nx, V, ol, cb, dp, (t3.lo Lo.out).lo Lo.thr, mr1, (mx.hi hi).thr 0, gi, hz, hnx⟩
        · rw [D_LW_fail_0_30, D_SF_fail, a1.1.1, if_neg e1, if_pos e2, grd_in (by omega) (by omega), nI_clamp (by omega), a2 x hx, if_neg hn, t1, Option.bind_some, wb, hbk, Option.bind_some, if_neg (by decide)]
          simp only [Option.bind_some, nm2_q, xc_l, in30 ln]; rfl
        · rw [D_MD_fail]
          simp only [jn_q, f_1, f_0, Option.bind_some, nm2_q]
          rw [(mr.hi hi).1.1.1, if_neg e1, if_pos e2, if_pos trivial, grd_in (by omega) (by omega), nI_clamp (by omega), mr1.2.1 x hx, if_neg hn, e_MD_isNeeded cx (mr1.mb cx lk kw gi.pw) hx, hbk, Option.bind_some, if_neg (by decide)]
      | false =>
        obtain ⟨τ2, d1, d2, d3, d4⟩ := e_RK_removeDisk cx t3.1.1 t3.1.2.1 t3.1.2.2.1 hx
        have g2 : cGeo D W R G hd τ2 := t3.1.1.congr (d2.1 1 (by decide)) (d2.1 9 (by decide))
        obtain ⟨τ3, r1, r2, r3⟩ := e_PL_dropDisk cx g2 (t4.congr (d2.1 15 (by decide)) (d2.1 16 (by decide))) epw hx
        have hfr : Fr [10, 13, 14, 15, 16] [] τ1 τ3 := (d2.mono (by simp) (by simp)).tr (r2.fr.mono (by simp) (by simp))
        have ciA : CI D W R G hd (rmL live x) (rmP pl x) (rmK s.1 x, s.2) tb tp nx τ3 := by
          refine ⟨⟨r2.geo g2, fun d hd1 => by rw [r2.2 10 (by decide) (by decide)]; exact d3 d hd1, r2.cK d4, t3.1.2.2.2.1.congr (hfr.1 4 (by decide)), fun i hi => by rw [hfr.2 8 (by decide)]; exact t3.1.2.2.2.2 i hi⟩, fun z => ?_, t3.2.2.fr hfr (by decide) (by decide)⟩
          have z : s.2.1 = true := z
          rw [epl_on z] at r3
          exact r3
        have hi : Hi σ (stL τ3 30 0 1) := fun a h => by
          show τ3.1 a = _
          rw [hfr.1 a (by simp; omega), t2.hi a h]
        have mr1 := (mr.hi hi).thr 0
        have mx1 := (mx.hi hi).thr 0
        have eW : D_LW_fail_0_30 F n σ (nI x) = some (stL τ3 30 0 1, 0) := by
          rw [D_LW_fail_0_30, D_SF_fail, a1.1.1, if_neg e1, if_pos e2, grd_in (by omega) (by omega), nI_clamp (by omega), a2 x hx, if_neg hn, t1, Option.bind_some, wb, hbk, Option.bind_some, if_pos (by rfl), d1, Option.bind_some, r1]
          simp only [Option.bind_some, nm2_q, xc_l, in30 ln]
          rw [if_neg (by decide)]; rfl
        generalize hσ1 : stF (stL τ3 30 0 1) 20 0 0 = σ1 at *
        obtain ⟨τ4, u1, u2, u3⟩ := mr1.fail cx gi.pw hx
        -- what is taken back
        have eM : D_MD_fail F n (stL τ3 30 0 1) (nI x) = (if tks D W G hd s.1 cb dp x = true then (D_MD_fail_L193 F n F τ4 0).bind (fun σ14 => some (stF σ14 20 20 0, (1 : Int32))) else some (τ4, (1 : Int32))) := by
          rw [D_MD_fail]
          simp only [jn_q, f_1, f_0, Option.bind_some, nm2_q, nm_q]
          rw [(mr.hi hi).1.1.1, hσ1, if_neg e1, if_pos e2, if_pos trivial, grd_in (by omega) (by omega), nI_clamp (by omega), mr1.2.1 x hx, if_neg hn, e_MD_isNeeded cx (mr1.mb cx lk kw gi.pw) hx, hbk, Option.bind_some, if_pos (by rfl)]
          simp only [show vp_nar .boolean (0 : Int32) = nI 0 from rfl, u1, Option.bind_some]
          rw [mr1.1.1.2.1, nI_sub1 (a := W) (by omega), mr1.1.1.2.2.2, mr1.2.2.2.2.1, mx1.1.2.2.1]
          simp only [grd_z (show 0 < W - 1 by omega) (show W - 1 < 2 ^ 31 by omega), grd_z (show 0 < G by omega) (show G < 2 ^ 31 by omega), grd_in (show x < n 22 by omega) (show x < 2 ^ 31 by omega)]
          cases hs : s.2.1 with
          | true =>
            have hdp := (gi.1 hs).2
            rw [if_neg (by decide), show tks D W G hd s.1 cb dp x = false from by unfold tks; rw [hdp]; rfl, if_pos trivial, if_neg (by decide)]
          | false =>
            rw [if_pos (by rfl)]
            cases hdp : dp with
            | false => rw [if_pos (by rfl), show tks D W G hd s.1 cb false x = false from rfl, if_pos trivial, if_neg (by decide)]
            | true =>
              rw [if_neg (by decide)]
              obtain ⟨a, b, c, gx⟩ := gi.2 hs
              obtain ⟨ha1, ha2, ha3⟩ := gx.1.2.2.2.2.2.2
              have hcb := (gx.2 hdp).1
              obtain ⟨q1, q2, q3⟩ := blk_dec (W := W) (row := a) ha2 ha3
              have i1 := lt2 (lt2 ha1 ha2) ha3
              have i1 : blk W G a b c < R * G * (W - 1) := i1
              have ia := lt2 ha1 ha2
              have hpc := pos_lt ha2 (show c < W by omega)
              have q0 : blk W G a b c / (W - 1) = a * G + b := by unfold blk; rw [Nat.add_comm, Nat.add_mul_div_right _ _ (by omega), Nat.div_eq_of_lt ha3, Nat.zero_add]
              rw [mx1.1.2.2.2 hdp, hcb]
              rw [pk_rem (a := blk W G a b c) (d := W - 1) (by omega) (by omega) (by omega), pk_div (a := blk W G a b c) (d := W - 1) (by omega) (by omega) (by omega), q0, q3, pk_rem (a := a * G + b) (d := G) (by omega) (by omega) (by omega), pk_div (a := a * G + b) (d := G) (by omega) (by omega) (by omega), (st_dm ha2).1, (st_dm ha2).2, pk_mul, nI_add, e_MD_found cx mr1.1 mr1.2.1 mr1.2.2.1 lk kw.k0 ha1 hpc, Option.bind_some]
              have htk : tks D W G hd s.1 (blk W G a b c) true x = decide (fnd D (W * G) hd s.1 a (W * b + c) = some x) := by
                unfold tks
                rw [q1, q2, q3, Bool.true_and]
              rw [htk]
              by_cases e : fnd D (W * G) hd s.1 a (W * b + c) = some x
              · rw [if_pos ((pI_eq (fun e1 h1 => by have := fnd_lt ge h1; omega) (by omega)).mpr e), decide_eq_true e, if_pos rfl, if_neg (by decide)]
              · rw [if_neg (fun z => e ((pI_eq (fun e1 h1 => by have := fnd_lt ge h1; omega) (by omega)).mp z)), decide_eq_false e, if_pos trivial, if_neg (by decide)]
        have gi2 : GIs D W R G hd (rmL live x) (rmP pl x) (rmK s.1 x, s.2) (if tks D W G hd s.1 cb dp x = true then setV V cb ol else V) ol cb (dp && !tks D W G hd s.1 cb dp x) := by
          refine ⟨fun z => ?_, fun z => ?_⟩
          · have z : s.2.1 = true := z
            obtain ⟨g, hdp⟩ := gi.1 z
            rw [show tks D W G hd s.1 cb dp x = false from by unfold tks; rw [hdp]; rfl, hdp]
            rw [epl_on z] at hbk
            exact ⟨g.fail ge hbk, rfl⟩
          · have z : s.2.1 = false := z
            obtain ⟨a, b, c, gx⟩ := gi.2 z
            rw [epl_off z] at hbk
            exact ⟨a, b, c, gx.fail ge hbk⟩
        have mx4 := mx1.same u2 (by decide) (by decide)
        have ci4 : CI D W R G hd (rmL live x) (rmP pl x) (rmK s.1 x, s.2) tb tp nx τ4 := by
          refine CI.lo (σ := σ1) ?_ (u2.lo (by decide))
          rw [← hσ1]
          exact (ciA.lo Lo.out).lo Lo.thr
        have hout : τ4.2 30 0 = 1 := by rw [u2.2.1, ← hσ1, stF_2, out_s]
        have hthr : τ4.1 20 0 = 0 := by rw [u2.2.2 0 (by simp), ← hσ1]; exact thr_s
        cases htk : tks D W G hd s.1 cb dp x with
        | false =>
          rw [htk, if_neg (by decide)] at eM
          rw [htk, if_neg (by decide), Bool.not_false, Bool.and_true] at gi2
          exact ⟨_, 0, eW, τ4, 1, eM, hthr, fun _ => ⟨fun z => absurd z (by decide), fun _ => hout⟩, rmL live x, rmP pl x, (rmK s.1 x, s.2), tb, tp, nx, V, ol, cb, dp, ci4, u3, mx4, gi2, hz, hnx⟩
        | true =>
          rw [htk, if_pos rfl] at eM
          rw [htk, if_pos rfl, Bool.not_true, Bool.and_false] at gi2
          have hdp : dp = true := (Bool.and_eq_true_iff.mp htk).1
          have hs : s.2.1 = false := by
            cases hs : s.2.1 with
            | false => rfl
            | true => have := (gi.1 hs).2; rw [hdp] at this; cases this
          obtain ⟨a, b, c, gx⟩ := gi.2 hs
          obtain ⟨ha1, ha2, ha3⟩ := gx.1.2.2.2.2.2.2
          have hcb : cb < R * G * (W - 1) := by
            rw [(gx.2 hdp).1]
            exact lt2 (lt2 ha1 ha2) ha3
          subst hdp
          obtain ⟨τ5, v1, v2, v3⟩ := e_MD_fail193 cx mx4 hcb
          have v1 : D_MD_fail_L193 F n F τ4 0 = some τ5 := v1
          rw [v1, Option.bind_some] at eM
          have f20 : FG [28] [20] τ4 (stF τ5 20 20 0) := (v2.mono (by simp) (by simp)).tr ((FG.st 20 _).mono (by simp) (by simp))
          refine ⟨_, 0, eW, stF τ5 20 20 0, 1, eM, by rw [f20.2.2 0 (by decide)]; exact hthr, fun _ => ⟨fun z => absurd z (by decide), fun _ => by rw [f20.2.1]; exact hout⟩, rmL live x, rmP pl x, (rmK s.1 x, s.2), tb, tp, nx, setV V cb ol, ol, cb, false, ci4.lo (f20.lo (by decide)), u3.congr (f20.mono (by simp) (by simp)), ?_, gi2, hz, hnx⟩
          obtain ⟨⟨y1, y2, y3, y4⟩, y5, y6, y7⟩ := mx4
          exact ⟨⟨by rw [f20.2.2 15 (by decide)]; exact y1, by rw [f20.2.2 17 (by decide)]; exact y2, by rw [stF_s, upd_s]; rfl, fun z => (by cases z)⟩, fun k hk => by rw [f20.1 27 (by decide) (by decide)]; exact y5 k hk, v3, fun z => (by cases z)⟩
end J6
