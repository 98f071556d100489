section J5
variable {D W R G : Nat} {hd : Nat → Nat → Nat} {F : Nat} {n : Nat → Nat} {σ τ : HS} {live : Nat → Bool} {pl : Nat → Nat → Option Nat} {s : PS} {tb : Nat} {tp : Nat → Int64} {nx : Nat} {V : Nat → Nat → Int64} {ol : Nat → Int64} {cb : Nat} {dp : Bool}
theorem CR.same (h : CRs D W R G hd live pl s σ) (h1 : ∀ a, a ∈ [1, 4, 9, 10, 13, 14, 15, 16] → τ.1 a = σ.1 a) (h2 : ∀ a, a ∈ [8, 11, 12] → τ.2 a = σ.2 a) : CRs D W R G hd live pl s τ := by
  obtain ⟨c1, c2, c3, c4, c5, c6⟩ := h
  exact ⟨c1.congr (h1 1 (by simp)) (h1 9 (by simp)), fun d hd => by rw [h1 10 (by simp)]; exact c2 d hd, c3.congr (h1 13 (by simp)) (h1 14 (by simp)) (h2 11 (by simp)) (h2 12 (by simp)), c4.congr (h1 15 (by simp)) (h1 16 (by simp)), c5.congr (h1 4 (by simp)), fun i hi => by rw [h2 8 (by simp)]; exact c6 i hi⟩
/-- the wrapper of a truth -/
def bout (σ : HS) (b : Bool) : HS := stL σ 30 0 (if b = true then 1 else 0)
theorem j_write (cx : Ctx D W R G hd n F) (ji : JI D W R G hd σ) (p1 : Int32) : ∃ τ c, D_LW_write_0_30 F n σ p1 = some (τ, c) ∧ ∃ υ r, D_MD_write F n τ p1 = some (υ, r) ∧ υ.1 20 0 = c ∧ (c = 0 → (r = 0 → υ.2 30 0 = 0) ∧ (¬ r = 0 → υ.2 30 0 = 1)) ∧ JI D W R G hd υ := by
  obtain ⟨ge, ln, hF⟩ := id cx
  have gn := ge.num
  have h768 := nb768 gn
  obtain ⟨⟨_, _⟩, ⟨_, _, _⟩, ⟨_, _⟩, ⟨_, _⟩, ⟨_, _⟩, _, _, _, _⟩ := id gn
  have ji0 := ji
  obtain ⟨live, pl, s, tb, tp, nx, V, ol, cb, dp, ci, mr, mx, gi, hz, hnx⟩ := ji
  obtain ⟨⟨a1, a2, a3, a4, a5⟩, b1, b2⟩ := id ci
  rcases idx_c2 p1 (show R * G * (W - 1) < 2 ^ 31 by omega) with hb | ⟨b, hb, rfl, e1, e2⟩
  · refine ⟨σ, 1, ?_, stF σ 20 0 1, 0, ?_, thr_s, fun z => absurd z (by decide), ji0.thr 1⟩
    · rw [D_LW_write_0_30, D_SF_write, a1.1.2.2.2.2.2.1]
      rcases hb with z | ⟨z1, z⟩
      · rw [if_pos z]; rfl
      · rw [if_neg z1, if_neg z]; rfl
    · rw [D_MD_write]
      simp only [jn_q, f_1, f_0, Option.bind_some, nm2_q, e_MD_blocks gn mr.1]
      rcases hb with z | ⟨z1, z⟩
      · rw [if_pos z]; rfl
      · rw [if_neg z1, if_neg z]; rfl
  cases hs : s.2.1 with
  | false =>
    refine ⟨σ, 2, ?_, stF (stF σ 20 0 0) 20 0 2, 0, ?_, thr_s, fun z => absurd z (by decide), (ji0.thr 0).thr 2⟩
    · rw [D_LW_write_0_30, D_SF_write, a1.1.2.2.2.2.2.1, if_neg e1, if_pos e2, a4.1, if_pos (on_i.mpr hs)]; rfl
    · rw [D_MD_write]
      simp only [jn_q, f_1, f_0, Option.bind_some, nm2_q, e_MD_blocks gn mr.1]
      rw [if_neg e1, if_pos e2, if_pos trivial, (mr.thr 0).2.2.2.2.1, if_pos (on_i.mpr hs)]
      rfl
  | true =>
    have hn : ¬ b2i s.2.1 = 0 := fun z => by rw [on_i.mp z] at hs; cases hs
    obtain ⟨gon, hdp⟩ := gi.1 hs
    subst hdp
    obtain ⟨lk, kw, lv⟩ := gi.base
    have cr := ci.cr hs
    have pw := gi.pw hs
    obtain ⟨k1, k2, k3⟩ := st_of (G := G) (R := R) (show 0 < G by omega) (show b / (W - 1) < R * G from Nat.div_lt_of_lt_mul (by rw [Nat.mul_comm]; exact hb))
    have hj : b % (W - 1) < W - 1 := Nat.mod_lt _ (by omega)
    have hbe : (b / (W - 1) / G * G + b / (W - 1) % G) * (W - 1) + b % (W - 1) = b := by rw [k3, Nat.div_add_mod']
    have eS := e_LA_stripeOfBlock (F := F) (n := n) gn a1 b hb
    have eC := e_LA_columnOfBlock (F := F) (n := n) gn a1 b hb
    rw [← k3] at eS
    generalize b / (W - 1) / G = row at *
    generalize b / (W - 1) % G = gi' at *
    generalize b % (W - 1) = j at *
    have hne : pl row (W * gi' + (W - 1)) = none → pl row (W * gi' + j) ≠ none := fun z1 z2 => by
      have := gon.1.2.2.2.2.2.1.others k1 k2 (show W - 1 < W by omega) (show j < W by omega) (by rw [z1]; rfl) (by omega)
      rw [z2] at this; cases this
    -- the class
    obtain ⟨τ1, c1, c2, c3, c4, c5, c6⟩ := e_takeTape (F := F) (σ := σ) ln.1.1.1 ln.1.1.2.1 (by omega)
    have cr1 : CRs D W R G hd live pl s τ1 := cr.same (fun a h => c2 a (fun z => by rw [z] at h; simp at h)) (fun a h => c4 a (fun z => by rw [z] at h; simp at h) (fun z => by rw [z] at h; simp at h))
    have cx1 : CX 0 zr nx τ1 := ⟨by rw [c3, upd_s], by rw [c3, upd_n (by decide)]; exact b2.2.1, by rw [c3, upd_n (by decide)]; exact b2.2.2.1, c5⟩
    obtain ⟨τ2, d1, d2, d3⟩ := e_SF_writeFresh cx cr1 pw gon.pk k1 k2 hj hne (P := tp) (fun i hi => by rw [c6 i hi]; exact b2.2.2.2 i hi)
    have ci2 : CI D W R G hd live pl (aWrite W G s pl R row gi' j tp).1 0 zr nx τ2 := CR.ci d3 (cx1.fr d2 (by decide) (by decide))
    have hi : Hi σ (bout τ2 (aWrite W G s pl R row gi' j tp).2) := fun a h => by
      show τ2.1 a = _
      rw [d2.1 a (by simp; omega), c2 a (by omega)]
    have eW : D_LW_write_0_30 F n σ (nI b) = some (bout τ2 (aWrite W G s pl R row gi' j tp).2, 0) := by
      rw [D_LW_write_0_30, D_SF_write, a1.1.2.2.2.2.2.1, if_neg e1, if_pos e2, a4.1, if_neg hn, c1, Option.bind_some]
      have eS1 := e_LA_stripeOfBlock (F := F) (n := n) gn cr1.1 b hb
      have eC1 := e_LA_columnOfBlock (F := F) (n := n) gn cr1.1 b hb
      have hd1 : b / (W - 1) = row * G + gi' := by
        rw [← hbe, Nat.add_comm, Nat.add_mul_div_right _ _ (by omega), Nat.div_eq_of_lt hj, Nat.zero_add]
      have hd2 : b % (W - 1) = j := by
        rw [← hbe, Nat.add_comm, Nat.add_mul_mod_self_right, Nat.mod_eq_of_lt hj]
      rw [hd1] at eS1
      rw [hd2] at eC1
      rw [eS1, Option.bind_some, eC1, Option.bind_some, d1]
      simp only [Option.bind_some, nm_q, nm2_q, xc_l, in30 ln, isB_g]
      unfold bout
      cases (aWrite W G s pl R row gi' j tp).2
      · rw [if_pos (by rfl)]; rfl
      · rw [if_neg (by decide)]; rfl
    -- the reference
    have mr1 := ((mr.hi hi).thr 0).thr 0
    have mx1 := ((mx.hi hi).thr 0).thr 0
    obtain ⟨υ, u1, u2, u3, u4⟩ := e_MD_writes cx mr1 hs lk kw pw mx1 hz k1 k2 hj hne tp
    rw [hbe] at u1
    have gw := gon.write ge (s := s) hs (P := tp) k1 k2 hj hne
    have f17 : FG [] [17] υ (stF υ 20 17 0) := FG.st 17 0
    refine ⟨_, 0, eW, stF υ 20 17 0, b2i (aWrite W G s pl R row gi' j tp).2, ?_, ?_, fun _ => ?_, live, pl, (aWrite W G s pl R row gi' j tp).1, 0, zr, nx, _, _, _, _, ?_, ?_, ?_, gw, ⟨by omega, fun k _ _ => byR_zr k⟩, hnx⟩
    · rw [D_MD_write]
      simp only [jn_q, f_1, f_0, Option.bind_some, nm2_q, e_MD_blocks gn (mr.hi hi).1]
      rw [if_neg e1, if_pos e2, if_pos trivial, ((mr.hi hi).thr 0).2.2.2.2.1, if_neg hn, if_pos trivial, u1]
      simp only [Option.bind_some, nm_q, isB_g]
    · rw [f17.2.2 0 (by decide), u2.2.2 0 (by decide)]; exact thr_s
    · rw [stF_2, u2.2.1, stF_2, stF_2]
      unfold bout
      rw [out_s]
      cases (aWrite W G s pl R row gi' j tp).2
      · exact ⟨fun _ => rfl, fun z => absurd rfl z⟩
      · exact ⟨fun z => absurd z (by decide), fun _ => rfl⟩
    · have l1 : Lo τ2 (bout τ2 (aWrite W G s pl R row gi' j tp).2) := Lo.out
      exact ((((ci2.lo l1).lo Lo.thr).lo Lo.thr).lo (u2.lo (by decide))).lo (f17.lo (by decide))
    · exact u3.congr (f17.mono (by simp) (by simp))
    · obtain ⟨⟨y1, y2, y3, y4⟩, y5, y6, y7⟩ := u4
      exact ⟨⟨by rw [f17.2.2 15 (by decide)]; exact y1, by rw [stF_s, upd_s]; rfl, by rw [f17.2.2 20 (by decide)]; exact y3, fun z => by rw [f17.2.2 19 (by decide)]; exact y4 z⟩, fun k hk => by omega, fun b k hb hk => by rw [f17.1 28 (by decide) (by decide)]; exact y6 b k hb hk, fun z k hk => by rw [f17.1 29 (by decide) (by decide)]; exact y7 z k hk⟩
theorem GOX.lt {K : Rk} {a b c : Nat} (h : GOX D W R G hd live K V ol cb dp a b c) : LT W G R K := by
  obtain ⟨gb, _⟩ := h
  obtain ⟨ha1, ha2, ha3⟩ := gb.2.2.2.2.2.2
  intro d
  rcases Nat.eq_zero_or_pos (vt (K d R)) with z | z
  · exact Or.inl z
  · obtain ⟨v, k1, k2, k3⟩ := vt_pos z
    rcases (gb.2.2.2.2.1 d v k1).2 with y | y
    · omega
    · exact Or.inr ⟨a, b, c, ha1, ha2, ha3, by rw [k3]; exact y.1⟩
theorem j_open (cx : Ctx D W R G hd n F) (ji : JI D W R G hd σ) : ∃ τ c, D_LW_open_0_30 F n σ = some (τ, c) ∧ ∃ υ r, D_MD_open F n τ = some (υ, r) ∧ υ.1 20 0 = c ∧ (c = 0 → (r = 0 → υ.2 30 0 = 0) ∧ (¬ r = 0 → υ.2 30 0 = 1)) ∧ JI D W R G hd υ := by
  obtain ⟨ge, ln, hF⟩ := id cx
  have gn := ge.num
  obtain ⟨⟨_, _⟩, ⟨_, _, _⟩, ⟨_, _⟩, ⟨_, _⟩, ⟨_, _⟩, _, _, _, _⟩ := id gn
  have ji0 := ji
  obtain ⟨live, pl, s, tb, tp, nx, V, ol, cb, dp, ci, mr, mx, gi, hz, hnx⟩ := ji
  obtain ⟨⟨a1, a2, a3, a4, a5⟩, b1, b2⟩ := id ci
  cases hs : s.2.1 with
  | true =>
    have hn : ¬ b2i s.2.1 = 0 := fun z => by rw [on_i.mp z] at hs; cases hs
    refine ⟨σ, 1, ?_, stF σ 20 0 1, 0, ?_, thr_s, fun z => absurd z (by decide), ji0.thr 1⟩
    · rw [D_LW_open_0_30, D_SF_open, a4.1, if_neg hn]; rfl
    · rw [D_MD_open, mr.2.2.2.2.1, hs, e_fails true 1, Option.bind_some, nm2_q, if_neg (show ¬ b2i true = 0 by decide)]; rfl
  | false =>
    have h0 : b2i s.2.1 = 0 := on_i.mpr hs
    obtain ⟨lk, kw, lv⟩ := gi.base
    have gof := gi.2 hs
    obtain ⟨x, y, z, gx⟩ := id gof
    obtain ⟨K, onx, lf, wr⟩ := s
    have hs : onx = false := hs
    subst hs
    have lk : LK live K := lk
    have kw : KW D R K := kw
    have a3 : cK D R K σ := a3
    -- the class
    have g1 : ∀ a, a ≠ 0 → a ≠ 4 → (stF (stF σ 4 0 1) 0 6 0).1 a = σ.1 a := fun a h h4 => by rw [stF_1 a h, stF_1 a h4]
    obtain ⟨τ1, t1, t2, t3⟩ := e_PL_find (σ := stF (stF σ 4 0 1) 0 6 0) ge ln.c (a1.congr (g1 1 (by decide) (by decide)) (g1 9 (by decide) (by decide))) (a3.congr (g1 13 (by decide) (by decide)) (g1 14 (by decide) (by decide)) rfl rfl) kw (show 2000 ≤ F by omega)
    have cr1 : CRs D W R G hd live (fnd D (W * G) hd K) (K, true, lf, wr) τ1 := by
      refine ⟨t2.geo (a1.congr (g1 1 (by decide) (by decide)) (g1 9 (by decide) (by decide))), fun d hd => ?_, t2.cK (a3.congr (g1 13 (by decide) (by decide)) (g1 14 (by decide) (by decide)) rfl rfl), t3, ⟨?_, ?_, ?_, a4.2.2.2⟩, fun i hi => by rw [t2.1]; exact a5 i hi⟩
      · rw [t2.2 10 (by decide) (by decide), g1 10 (by decide) (by decide)]; exact a2 d hd
      · rw [t2.2 4 (by decide) (by decide), stF_1 4 (by decide), stF_s, upd_s]; rfl
      · rw [t2.2 4 (by decide) (by decide), stF_1 4 (by decide), stF_s, upd_n (by decide)]; exact a4.2.1
      · rw [t2.2 4 (by decide) (by decide), stF_1 4 (by decide), stF_s, upd_n (by decide)]; exact a4.2.2.1
    have cx1 : CX tb tp 0 τ1 := by
      refine CX.fr (σ := stF (stF σ 4 0 1) 0 6 0) ⟨?_, ?_, ?_, b2.2.2.2⟩ t2.fr (by decide) (by decide)
      · rw [stF_s, upd_n (by decide), stF_1 0 (by decide)]; exact b2.1
      · rw [stF_s, upd_s]; rfl
      · rw [stF_s, upd_n (by decide), stF_1 0 (by decide)]; exact b2.2.2.1
    have lt := gx.lt
    obtain ⟨τ2, d1, d2, d3⟩ := e_SF_replayLogs cx cr1 (fnd_PW ge) lt
    have era := rReps_a (W := W) (G := G) (R := R) (pl := fnd D (W * G) hd K) D 0 ((K, true, lf, wr), dp)
    have era : aReps W G R (fnd D (W * G) hd K) D 0 (K, true, lf, wr) = _ := era
    -- the class's end
    have hcl : ∃ τ3, D_SF_open F n σ = some (τ3, Sum.inl (b2i (rOpen D W G R hd (fnd D (W * G) hd K) ((K, true, lf, wr), dp)).2)) ∧ Fr [4, 13, 14] [7, 11, 12] τ1 τ3 ∧ CRs D W R G hd live (fnd D (W * G) hd K) (rOpen D W G R hd (fnd D (W * G) hd K) ((K, true, lf, wr), dp)).1.1 τ3 := by
      rw [D_SF_open, a4.1, if_pos h0]
      simp only [nm_q]
      rw [t1, Option.bind_some, d1, Option.bind_some, nm2_q]
      rw [era] at d3 ⊢
      unfold rOpen
      cases hb : (rReps W G R (fnd D (W * G) hd K) D 0 ((K, true, lf, wr), dp)).2 with
      | false =>
        rw [if_pos (by rfl), if_neg (by decide), hb]
        exact ⟨τ2, rfl, d2, d3⟩
      | true =>
        rw [if_neg (show ¬ b2i true = 0 by decide), if_pos rfl]
        have kw2 : KW D R (rReps W G R (fnd D (W * G) hd K) D 0 ((K, true, lf, wr), dp)).1.1.1 := by
          obtain ⟨r1, _⟩ := GOX.reps (pl := fnd D (W * G) hd K) ge D 0 K lf wr dp (by omega) gx (fun _ _ _ _ => rfl) (fun d1 h1 => by omega)
          obtain ⟨K2, lf2, wr2, dp2, q1, q2, _⟩ := r1 hb
          rw [q1]
          exact q2.1.1.2.2.1
        obtain ⟨τ3, w1, w2, w3⟩ := e_SF_clearFreeSpares cx d3 (fun d o v h1 h2 e => (kw2 d o v h1 h2 e).1)
        rw [w1, Option.bind_some, nm2_q]
        refine ⟨τ3, ?_, d2.tr w2, w3⟩
        dsimp only
        cases (aClr D (W * G) hd (fnd D (W * G) hd K) R 0 (rReps W G R (fnd D (W * G) hd K) D 0 ((K, true, lf, wr), dp)).1.1).2 <;> rfl
    obtain ⟨τ3, e1, e2, e3⟩ := hcl
    have ci3 := CR.ci e3 (cx1.fr e2 (by decide) (by decide))
    have hi : Hi σ (bout τ3 (rOpen D W G R hd (fnd D (W * G) hd K) ((K, true, lf, wr), dp)).2) := fun a h => by
      show τ3.1 a = _
      rw [e2.1 a (by simp; omega), t2.2 a (by omega) (by omega), g1 a (by omega) (by omega)]
    have eW : D_LW_open_0_30 F n σ = some (bout τ3 (rOpen D W G R hd (fnd D (W * G) hd K) ((K, true, lf, wr), dp)).2, 0) := by
      rw [D_LW_open_0_30, e1]
      simp only [Option.bind_some, nm_q, nm2_q, xc_l, in30 ln]
      unfold bout
      cases (rOpen D W G R hd (fnd D (W * G) hd K) ((K, true, lf, wr), dp)).2
      · rw [if_pos (by rfl)]; rfl
      · rw [if_neg (by decide)]; rfl
    -- the reference
    have mr1 := (mr.hi hi).thr 0
    have mx1 := (mx.hi hi).thr 0
    generalize hσ1 : stF (bout τ3 (rOpen D W G R hd (fnd D (W * G) hd K) ((K, true, lf, wr), dp)).2) 20 0 0 = σ1 at *
    obtain ⟨τ4, f1, f2, f3⟩ := e_MD_open16 cx mr1.1 mr1.2.1 mr1.2.2.1 lk kw
    have f1 : D_MD_open_L16 F n F σ1 0 = some τ4 := f1
    have mr2 : MR D W R G hd live (fnd D (W * G) hd K) (K, true, lf, wr) (stF (stF τ4 20 12 1) 20 15 0) := by
      obtain ⟨m1, m2, m3, m4, m5, m6, m7, m8⟩ := mr1
      have f : FG [26] [12, 15] σ1 (stF (stF τ4 20 12 1) 20 15 0) := ((f2.mono (by simp) (by simp)).tr ((FG.st 12 _).mono (by simp) (by simp))).tr ((FG.st 15 _).mono (by simp) (by simp))
      refine ⟨m1.congr (fun j hj => f.2.2 j (by simp; omega)) (f.1 21 (by decide) (by decide)), fun d hd => by rw [f.1 22 (by decide) (by decide)]; exact m2 d hd, m3.congr (f.1 23 (by decide) (by decide)) (f.1 24 (by decide) (by decide)) (f.1 25 (by decide) (by decide)), fun ho row p hr hp => ?_, ?_, by rw [f.2.2 13 (by decide)]; exact m6, by rw [f.2.2 14 (by decide)]; exact m7, m8⟩
      · rw [stF_1 26 (by decide), stF_1 26 (by decide)]; exact f3 row p hr hp
      · rw [stF_s, upd_n (by decide), stF_s, upd_s]; rfl
    have h20 : (stF (stF τ4 20 12 1) 20 15 0).1 20 20 = b2i dp := by
      rw [stF_s, upd_n (by decide), stF_s, upd_n (by decide), f2.2.2 20 (by simp)]; exact mx1.1.2.2.1
    obtain ⟨υ, u1, u2, u3, u4⟩ := e_MD_opens cx mr2 rfl lk kw (fnd_PW ge) lt h20
    have mx2 : MX W R G tb tp 0 V ol cb dp (stF (stF τ4 20 12 1) 20 15 0) := by
      have h := (mx1.same f2 (by decide) (by decide)).same (FG.st 12 1) (by decide) (by decide)
      obtain ⟨⟨y1, y2, y3, y4⟩, y5, y6, y7⟩ := h
      exact ⟨⟨by rw [stF_s, upd_s]; rfl, by rw [stF_s, upd_n (by decide)]; exact y2, by rw [stF_s, upd_n (by decide)]; exact y3, fun z => by rw [stF_s, upd_n (by decide)]; exact y4 z⟩, y5, y6, y7⟩
    have mx3 : MX W R G tb tp 0 V ol cb (rOpen D W G R hd (fnd D (W * G) hd K) ((K, true, lf, wr), dp)).1.2 υ := by
      refine mx2.congr u2 (by decide) (by decide) u4 ?_
      -- dp only falls
      have mono : ∀ m d (x : PS × Bool), (rReps W G R (fnd D (W * G) hd K) m d x).1.2 = true → x.2 = true := by
        intro m
        induction m with
        | zero => intro d x h; exact h
        | succ m ih =>
          intro d x h
          have hr : ∀ a b c, (rRep W R (fnd D (W * G) hd K) a b c d x).1.2 = true → x.2 = true := fun a b c h => by
            have h : (if aCan W x.1.1 (fnd D (W * G) hd K) a b c d = true ∧ x.1.2.2.1 ≠ 1 then false else x.2) = true := h
            split at h
            · cases h
            · exact h
          rw [rReps] at h
          split at h
          · exact ih _ _ h
          · split at h
            · exact hr _ _ _ (ih _ _ h)
            · exact hr _ _ _ h
      intro h
      unfold rOpen at h
      split at h
      · exact mono _ _ _ h
      · exact mono _ _ _ h
    obtain ⟨go, hon⟩ := gof.opn ge (lf := lf) (wr := wr)
    have go : GIs D W R G hd live (fnd D (W * G) hd K) (rOpen D W G R hd (fnd D (W * G) hd K) ((K, true, lf, wr), dp)).1.1 V ol cb (if (rOpen D W G R hd (fnd D (W * G) hd K) ((K, true, lf, wr), dp)).2 = true then false else (rOpen D W G R hd (fnd D (W * G) hd K) ((K, true, lf, wr), dp)).1.2) := go
    have hfr : FG [23, 24, 25, 26] [12, 13, 14, 15, 20] σ1 υ := (((f2.mono (by simp) (by simp)).tr ((FG.st 12 _).mono (by simp) (by simp))).tr ((FG.st 15 _).mono (by simp) (by simp))).tr (u2.mono (by simp) (by simp))
    have ciU : CI D W R G hd live (fnd D (W * G) hd K) (rOpen D W G R hd (fnd D (W * G) hd K) ((K, true, lf, wr), dp)).1.1 tb tp 0 υ := by
      refine CI.lo (σ := σ1) ?_ (hfr.lo (by decide))
      rw [← hσ1]
      exact (ci3.lo (Lo.out : Lo τ3 (bout τ3 _))).lo Lo.thr
    have hout : υ.2 30 0 = if (rOpen D W G R hd (fnd D (W * G) hd K) ((K, true, lf, wr), dp)).2 = true then 1 else 0 := by
      rw [hfr.2.1, ← hσ1, stF_2]
      unfold bout
      rw [out_s]
    have hthr : υ.1 20 0 = 0 := by rw [hfr.2.2 0 (by decide), ← hσ1]; exact thr_s
    have hmd : D_MD_open F n (bout τ3 (rOpen D W G R hd (fnd D (W * G) hd K) ((K, true, lf, wr), dp)).2) = (if b2i (rOpen D W G R hd (fnd D (W * G) hd K) ((K, true, lf, wr), dp)).2 = 0 then some (υ, (0 : Int32)) else some (stF υ 20 20 0, (1 : Int32))) := by
      rw [D_MD_open, show (bout τ3 (rOpen D W G R hd (fnd D (W * G) hd K) ((K, true, lf, wr), dp)).2).1 20 12 = b2i false from (by rw [hi 20 (by omega)]; exact mr.2.2.2.2.1), e_fails false 1, Option.bind_some, nm2_q, if_pos (by rfl)]
      dsimp only
      rw [show (if false = true then (1 : Int32) else 0) = 0 from rfl, hσ1, f1]
      simp only [Option.bind_some, nm_q]
      rw [u1]
      rfl
    cases hb : (rOpen D W G R hd (fnd D (W * G) hd K) ((K, true, lf, wr), dp)).2 with
    | false =>
      rw [hb] at eW hmd hout go
      rw [if_pos (by rfl)] at hmd
      rw [if_neg (by decide)] at hout go
      exact ⟨_, 0, eW, υ, 0, hmd, hthr, fun _ => ⟨fun _ => hout, fun z => absurd rfl z⟩, live, _, _, tb, tp, 0, V, ol, cb, _, ciU, u3, mx3, go, hz, by omega⟩
    | true =>
      rw [hb] at eW hmd hout go
      rw [if_neg (by decide)] at hmd
      rw [if_pos rfl] at hout go
      exact ⟨_, 0, eW, stF υ 20 20 0, 1, hmd, by rw [stF_s, upd_n (by decide)]; exact hthr, fun _ => ⟨fun z => absurd z (by decide), fun _ => by rw [stF_2]; exact hout⟩, live, _, _, tb, tp, 0, V, ol, cb, false, ciU.lo ((FG.st 20 _).lo (by decide)), u3.congr ((FG.st 20 _).mono (by simp) (by simp)), mx3.congr (FG.st 20 0) (by decide) (by decide) (by rw [stF_s, upd_s]; rfl) (fun z => (by cases z)), go, hz, by omega⟩
end J5
