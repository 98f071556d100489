section J3
variable {D W R G : Nat} {hd : Nat → Nat → Nat} {F : Nat} {n : Nat → Nat} {σ τ : HS} {live : Nat → Bool} {pl : Nat → Nat → Option Nat} {s : PS} {tb : Nat} {tp : Nat → Int64} {nx : Nat} {V : Nat → Nat → Int64} {ol : Nat → Int64} {cb : Nat} {dp : Bool}
/-- places are found, if the power is off -/
theorem CI.find (cx : Ctx D W R G hd n F) (ci : CI D W R G hd live pl s tb tp nx σ) (kw : KW D R s.1) : ∃ τ, D_SF_findPlacesIfOff F n σ = some τ ∧ PlOnly σ τ ∧ CI D W R G hd live pl s tb tp nx τ ∧ cPl D R (W * G) (epl D (W * G) hd s.1 pl s.2.1) τ := by
  obtain ⟨ge, ln, hF⟩ := id cx
  obtain ⟨⟨a1, a2, a3, a4, a5⟩, b1, b2⟩ := id ci
  rw [D_SF_findPlacesIfOff, a4.1]
  cases hs : s.2.1 with
  | true => rw [if_neg (by decide)]; exact ⟨σ, rfl, PlOnly.rf, ci, by rw [epl_on rfl]; exact b1 hs⟩
  | false =>
    obtain ⟨τ, t1, t2, t3⟩ := e_PL_find ge ln.c a1 a3 kw (show 2000 ≤ F by omega)
    rw [if_pos (by rfl), t1]
    refine ⟨τ, rfl, t2, ⟨⟨t2.geo a1, fun d hd => by rw [t2.2 10 (by decide) (by decide)]; exact a2 d hd, t2.cK a3, a4.congr (t2.2 4 (by decide) (by decide)), fun i hi => by rw [t2.1]; exact a5 i hi⟩, fun z => (by rw [hs] at z; cases z), b2.fr t2.fr (by decide) (by decide)⟩, by rw [epl_off rfl]; exact t3⟩
theorem PlOnly.hi (h : PlOnly σ τ) : Hi σ τ := fun a e => h.2 a (by omega) (by omega)
theorem j_place (cx : Ctx D W R G hd n F) (ji : JI D W R G hd σ) (p1 p2 : Int32) : ∃ τ c, D_LW_place_0_30 F n σ p1 p2 = some (τ, c) ∧ ∃ υ r, D_MD_place F n τ p1 p2 = some (υ, r) ∧ υ.1 20 0 = c ∧ (c = 0 → υ.2 30 0 = r.toInt64) ∧ JI D W R G hd υ := by
  obtain ⟨ge, ln, hF⟩ := id cx
  have gn := ge.num
  obtain ⟨⟨_, _⟩, ⟨_, _, _⟩, ⟨_, _⟩, ⟨_, _⟩, ⟨_, _⟩, _, _, _, _⟩ := id gn
  have ji0 := ji
  obtain ⟨live, pl, s, tb, tp, nx, V, ol, cb, dp, ci, mr, mx, gi, hz, hnx⟩ := ji
  obtain ⟨⟨a1, a2, a3, a4, a5⟩, b1, b2⟩ := id ci
  have n15 : n 15 = R * D := ln.1.2.2.2.2.2.2.2.1
  have m3 := mr.1.1.2.2.1
  have m24 : (σ.1 20 2) * (σ.1 20 4) = nI (W * G) := by rw [mr.1.1.2.1, mr.1.1.2.2.2, pk_mul]
  have bad : (p1 < 0 ∨ (¬ p1 < 0 ∧ (¬ p1 < nI R ∨ (p1 < nI R ∧ (p2 < 0 ∨ (¬ p2 < 0 ∧ ¬ p2 < nI (W * G))))))) → ∃ τ c, D_LW_place_0_30 F n σ p1 p2 = some (τ, c) ∧ ∃ υ r, D_MD_place F n τ p1 p2 = some (υ, r) ∧ υ.1 20 0 = c ∧ (c = 0 → υ.2 30 0 = r.toInt64) ∧ JI D W R G hd υ := by
    intro hb
    refine ⟨σ, 1, ?_, stF σ 20 0 1, 0, ?_, thr_s, fun z => absurd z (by decide), ji0.thr 1⟩
    · rw [D_LW_place_0_30, D_SF_place, a1.1.2.2.1, a1.1.2.2.2.2.2.2.1]
      rcases hb with z | ⟨z1, z | ⟨z2, z | ⟨z3, z4⟩⟩⟩
      · rw [if_pos z]; rfl
      · rw [if_neg z1, if_neg z]; rfl
      · rw [if_neg z1, if_pos z2, if_pos z]; rfl
      · rw [if_neg z1, if_pos z2, if_neg z3, if_neg z4]; rfl
    · rw [D_MD_place]
      simp only [jn_q, f_1, f_0, Option.bind_some, nm2_q]
      rw [m3, m24]
      have hle : ∀ {x y : Int32}, ¬ x < y → y ≤ x := fun {x y} h => by rw [Int32.lt_iff_toInt_lt] at h; rw [Int32.le_iff_toInt_le]; omega
      have hnl : ∀ {x y : Int32}, x < y → ¬ y ≤ x := fun {x y} h => by rw [Int32.lt_iff_toInt_lt] at h; rw [Int32.le_iff_toInt_le]; omega
      rcases hb with z | ⟨z1, z | ⟨z2, z | ⟨z3, z4⟩⟩⟩
      · rw [if_pos z]; rfl
      · rw [if_neg z1, if_pos (hle z)]; rfl
      · rw [if_neg z1, if_neg (hnl z2), if_pos z]; rfl
      · rw [if_neg z1, if_neg (hnl z2), if_neg z3, if_neg z4]; rfl
  rcases idx_c2 p1 (show R < 2 ^ 31 by omega) with hb | ⟨row, hr, rfl, e1, e2⟩
  · exact bad (hb.imp id (fun z => ⟨z.1, Or.inl z.2⟩))
  rcases idx_c2 p2 (show W * G < 2 ^ 31 by omega) with hb | ⟨p, hp, rfl, e3, e4⟩
  · exact bad (Or.inr ⟨e1, Or.inr ⟨e2, hb⟩⟩)
  obtain ⟨lk, kw, lv⟩ := gi.base
  obtain ⟨τ, t1, t2, t3, t4⟩ := ci.find cx kw
  have hi : Hi σ (stL τ 30 0 (pI (epl D (W * G) hd s.1 pl s.2.1 row p)).toInt64) := fun a h => t2.hi a h
  have mr1 := (mr.hi hi).thr 0
  have mx1 := (mx.hi hi).thr 0
  have epw := epl_PW (D := D) (W := W) (R := R) (G := G) (hd := hd) (s := s) (pl := pl) ge gi.pw
  have i1 := lt2 hr (show p < D by omega)
  refine ⟨stL τ 30 0 (pI (epl D (W * G) hd s.1 pl s.2.1 row p)).toInt64, 0, ?_, stF (stL τ 30 0 (pI (epl D (W * G) hd s.1 pl s.2.1 row p)).toInt64) 20 0 0, pI (epl D (W * G) hd s.1 pl s.2.1 row p), ?_, thr_s, fun _ => by rw [stF_2, out_s], live, pl, s, tb, tp, nx, V, ol, cb, dp, (t3.lo Lo.out).lo Lo.thr, mr1, mx1, gi, hz, hnx⟩
  · have e : D_SF_place F n σ (nI row) (nI p) = some (τ, Sum.inl (pI (epl D (W * G) hd s.1 pl s.2.1 row p))) := by
      rw [D_SF_place, a1.1.2.2.1, a1.1.2.2.2.2.2.2.1, if_neg e1, if_pos e2, if_neg e3, if_pos e4, t1, Option.bind_some, e_LA_slot t3.1.1, Option.bind_some, grd_in (by omega) (by omega), nm_q, nI_clamp (by omega), t4.1 row p hr hp]
      cases he : epl D (W * G) hd s.1 pl s.2.1 row p with
      | none => rw [if_pos (by rfl)]; rfl
      | some d =>
        have hdd := epw.1 row p d hr hp he
        have i2 := idx_c gn hdd (show row ≤ R by omega)
        rw [show pc_ R row (some d) = nI (d * (R + 1) + row) from rfl, if_neg (nI_m1 (by omega)), e_LA_diskOf gn t3.1.1 d row hdd (by omega)]; rfl
    rw [D_LW_place_0_30, e]
    simp only [Option.bind_some, nm_q, nm2_q, xc_l, in30 ln]; rfl
  · rw [D_MD_place]
    simp only [jn_q, f_1, f_0, Option.bind_some, nm2_q]
    have hnl : ¬ nI R ≤ nI row := by rw [nI_leI (by omega) (by omega)]; omega
    rw [show (stL τ 30 0 (pI (epl D (W * G) hd s.1 pl s.2.1 row p)).toInt64).1 20 3 = nI R from (by rw [hi 20 (by omega)]; exact m3), show (stL τ 30 0 (pI (epl D (W * G) hd s.1 pl s.2.1 row p)).toInt64).1 20 2 * (stL τ 30 0 (pI (epl D (W * G) hd s.1 pl s.2.1 row p)).toInt64).1 20 4 = nI (W * G) from (by rw [hi 20 (by omega)]; exact m24), if_neg e1, if_neg hnl, if_neg e3, if_pos e4, if_pos trivial, e_MD_placeOf cx mr1 lk kw hr hp, Option.bind_some]
theorem j_read (cx : Ctx D W R G hd n F) (ji : JI D W R G hd σ) (p1 p2 : Int32) : ∃ τ c, D_LW_read_0_30 F n σ p1 p2 = some (τ, c) ∧ ∃ υ r, D_MD_read F n τ p1 p2 = some (υ, r) ∧ υ.1 20 0 = c ∧ (c = 0 → υ.2 30 0 = r) ∧ JI D W R G hd υ := by
  obtain ⟨ge, ln, hF⟩ := id cx
  have gn := ge.num
  have h768 := nb768 gn
  obtain ⟨⟨_, _⟩, ⟨_, _, _⟩, ⟨_, _⟩, ⟨_, _⟩, ⟨_, _⟩, _, _, _, _⟩ := id gn
  have ji0 := ji
  obtain ⟨live, pl, s, tb, tp, nx, V, ol, cb, dp, ci, mr, mx, gi, hz, hnx⟩ := ji
  obtain ⟨⟨a1, a2, a3, a4, a5⟩, b1, b2⟩ := id ci
  have hle : ∀ {x y : Int32}, ¬ x < y → y ≤ x := fun {x y} h => by rw [Int32.lt_iff_toInt_lt] at h; rw [Int32.le_iff_toInt_le]; omega
  have hnl : ∀ {x y : Int32}, x < y → ¬ y ≤ x := fun {x y} h => by rw [Int32.lt_iff_toInt_lt] at h; rw [Int32.le_iff_toInt_le]; omega
  have h78 : ∀ x : Int32, x < 8 ↔ x ≤ 7 := fun x => by
    rw [Int32.lt_iff_toInt_lt, Int32.le_iff_toInt_le]
    have h1 : (8 : Int32).toInt = 8 := rfl
    have h2 : (7 : Int32).toInt = 7 := rfl
    omega
  have bad : (p1 < 0 ∨ (¬ p1 < 0 ∧ (¬ p1 < nI (R * G * (W - 1)) ∨ (p1 < nI (R * G * (W - 1)) ∧ (p2 < 0 ∨ (¬ p2 < 0 ∧ ¬ p2 < 8)))))) → ∃ τ c, D_LW_read_0_30 F n σ p1 p2 = some (τ, c) ∧ ∃ υ r, D_MD_read F n τ p1 p2 = some (υ, r) ∧ υ.1 20 0 = c ∧ (c = 0 → υ.2 30 0 = r) ∧ JI D W R G hd υ := by
    intro hb
    refine ⟨σ, 1, ?_, stF σ 20 0 1, 0, ?_, thr_s, fun z => absurd z (by decide), ji0.thr 1⟩
    · rw [D_LW_read_0_30, D_SF_read, a1.1.2.2.2.2.2.1]
      rcases hb with z | ⟨z1, z | ⟨z2, z | ⟨z3, z4⟩⟩⟩
      · rw [if_pos z]; rfl
      · rw [if_neg z1, if_neg z]; rfl
      · rw [if_neg z1, if_pos z2, if_pos z]; rfl
      · rw [if_neg z1, if_pos z2, if_neg z3, if_neg z4]; rfl
    · rw [D_MD_read]
      simp only [jn_q, f_1, f_0, Option.bind_some, nm2_q, e_MD_blocks gn mr.1]
      rcases hb with z | ⟨z1, z | ⟨z2, z | ⟨z3, z4⟩⟩⟩
      · rw [if_pos z]; rfl
      · rw [if_neg z1, if_pos (hle z)]; rfl
      · rw [if_neg z1, if_neg (hnl z2), if_pos z]; rfl
      · rw [if_neg z1, if_neg (hnl z2), if_neg z3, if_neg (fun y => z4 ((h78 p2).mpr y))]; rfl
  rcases idx_c2 p1 (show R * G * (W - 1) < 2 ^ 31 by omega) with hb | ⟨b, hb, rfl, e1, e2⟩
  · exact bad (hb.imp id (fun z => ⟨z.1, Or.inl z.2⟩))
  rcases idx_c2 p2 (show 8 < 2 ^ 31 by omega) with hq | ⟨q, hq, rfl, e3, e4⟩
  · exact bad (Or.inr ⟨e1, Or.inr ⟨e2, hq⟩⟩)
  have e4 : nI q < 8 := e4
  cases hs : s.2.1 with
  | false =>
    refine ⟨σ, 2, ?_, stF (stF σ 20 0 0) 20 0 2, 0, ?_, thr_s, fun z => absurd z (by decide), (ji0.thr 0).thr 2⟩
    · rw [D_LW_read_0_30, D_SF_read, a1.1.2.2.2.2.2.1, if_neg e1, if_pos e2, if_neg e3, if_pos e4, a4.1, if_pos (on_i.mpr hs)]; rfl
    · rw [D_MD_read]
      simp only [jn_q, f_1, f_0, Option.bind_some, nm2_q, e_MD_blocks gn mr.1]
      rw [if_neg e1, if_neg (hnl e2), if_neg e3, if_pos ((h78 _).mp e4), if_pos trivial, (mr.thr 0).2.2.2.2.1, if_pos (on_i.mpr hs)]
      rfl
  | true =>
    have hn : ¬ b2i s.2.1 = 0 := fun z => by rw [on_i.mp z] at hs; cases hs
    obtain ⟨gon, hdp⟩ := gi.1 hs
    have cr := ci.cr hs
    have pw := gi.pw hs
    -- the class
    obtain ⟨τ1, c1, c2, c3, c4⟩ := e_fillJ_7 (F := F) (σ := σ) ln.1.1.2.2.1 (by omega) 0
    have so1 : SumOnly σ τ1 := ⟨c2, c3⟩
    have cr1 := cr.congr so1.fr
    have hG : 0 < G := by omega
    obtain ⟨k1, k2, k3⟩ := st_of (G := G) (R := R) hG (show b / (W - 1) < R * G from Nat.div_lt_of_lt_mul (by rw [Nat.mul_comm]; exact hb))
    have hj : b % (W - 1) < W - 1 := Nat.mod_lt _ (by omega)
    obtain ⟨τ2, d1, d2, d3⟩ := e_SF_addRead cx cr1 pw gon.pk k1 k2 (show b % (W - 1) < W by omega)
    rw [k3] at d1
    have hval : τ2.2 7 q = V b q := by
      rw [d3 q hq, c4 q hq, Int64.zero_xor, gon.1.rd ge (idl_SX (by omega) V) k1 k2 (show b % (W - 1) < W by omega) hq, idl_d hj]
      unfold blk
      rw [k3, Nat.div_add_mod']
    have so2 : SumOnly σ τ2 := so1.tr d2
    have n7 : n 7 = 8 := ln.1.1.2.2.1
    have hi : Hi σ (stL τ2 30 0 (V b q)) := fun a h => by show τ2.1 a = _; rw [so2.1]
    have ci2 : CI D W R G hd live pl s tb tp nx τ2 := CR.ci (cr.congr so2.fr) (ci.2.2.fr so2.fr (by decide) (by decide))
    have mr1 := ((mr.hi hi).thr 0).thr 0
    have mx1 := ((mx.hi hi).thr 0).thr 0
    refine ⟨stL τ2 30 0 (V b q), 0, ?_, stF (stF (stL τ2 30 0 (V b q)) 20 0 0) 20 0 0, V b q, ?_, thr_s, fun _ => by rw [stF_2, stF_2, out_s], live, pl, s, tb, tp, nx, V, ol, cb, dp, ((ci2.lo Lo.out).lo Lo.thr).lo Lo.thr, mr1, mx1, gi, hz, hnx⟩
    · have e : D_SF_read F n σ (nI b) (nI q) = some (τ2, Sum.inl (V b q)) := by
        rw [D_SF_read, a1.1.2.2.2.2.2.1, if_neg e1, if_pos e2, if_neg e3, if_pos e4, a4.1, if_neg hn, c1, Option.bind_some, e_LA_stripeOfBlock gn cr1.1 b hb, Option.bind_some, e_LA_columnOfBlock gn cr1.1 b hb, Option.bind_some, d1, Option.bind_some, grd_in (by omega) (by omega), nI_clamp (by omega), hval]
      rw [D_LW_read_0_30, e]
      simp only [Option.bind_some, nm_q, nm2_q, xc_l, in30 ln]; rfl
    · have rd := e_MD_read63 ln.2.2.2.2.2.2.2.2.1 (show 100 ≤ F by omega) mx1 h768 hb hq
      have rd : D_MD_read_L63 F n (stF (stF (stL τ2 30 0 (V b q)) 20 0 0) 20 0 0) (nI b) (nI q) F 7 0 = some (V b q) := rd
      rw [D_MD_read]
      simp only [jn_q, f_1, f_0, Option.bind_some, nm2_q, e_MD_blocks gn (mr.hi hi).1]
      rw [if_neg e1, if_neg (hnl e2), if_neg e3, if_pos ((h78 _).mp e4), if_pos trivial, ((mr.hi hi).thr 0).2.2.2.2.1, if_neg hn, if_pos trivial, rd, Option.bind_some]
end J3
