theorem xc_l {α β : Type} {v : α} {f : α → β} {g : Nat → β} : xc (Sum.inl v) f g = f v := rfl
theorem xc_r {α β : Type} {k : Nat} {f : α → β} {g : Nat → β} : xc (Sum.inr k) f g = g k := rfl
/-- the class's fields -/
def CX (tb : Nat) (tp : Nat → Int64) (nx : Nat) (σ : HS) : Prop := σ.1 0 5 = nI tb ∧ σ.1 0 6 = nI nx ∧ σ.1 0 7 = nI 0 ∧ ∀ i, i < 8 → σ.2 5 i = tp i
def CI (D W R G : Nat) (hd : Nat → Nat → Nat) (live : Nat → Bool) (pl : Nat → Nat → Option Nat) (s : PS) (tb : Nat) (tp : Nat → Int64) (nx : Nat) (σ : HS) : Prop := (cGeo D W R G hd σ ∧ cLive D live σ ∧ cK D R s.1 σ ∧ cPow s.2.1 s.2.2.1 s.2.2.2 σ ∧ ∀ i, i < 8 → σ.2 8 i = 0) ∧ (s.2.1 = true → cPl D R (W * G) pl σ) ∧ CX tb tp nx σ
/-- the two, held together -/
def JI (D W R G : Nat) (hd : Nat → Nat → Nat) (σ : HS) : Prop := ∃ (live : Nat → Bool) (pl : Nat → Nat → Option Nat) (s : PS) (tb : Nat) (tp : Nat → Int64) (nx : Nat) (V : Nat → Nat → Int64) (ol : Nat → Int64) (cb : Nat) (dp : Bool), CI D W R G hd live pl s tb tp nx σ ∧ MR D W R G hd live pl s σ ∧ MX W R G tb tp nx V ol cb dp σ ∧ GIs D W R G hd live pl s V ol cb dp ∧ zt tb tp ∧ nx < R * G
/-- cells up to 19 stay; cells from 20 on stay -/
def Lo (σ τ : HS) : Prop := (∀ a, a < 20 → τ.1 a = σ.1 a) ∧ ∀ a, a < 20 → τ.2 a = σ.2 a
def Hi (σ τ : HS) : Prop := ∀ a, 20 ≤ a → τ.1 a = σ.1 a
theorem FG.lo {A J : List Nat} {σ τ : HS} (f : FG A J σ τ) (hA : ∀ a ∈ A, 20 ≤ a) : Lo σ τ := ⟨fun a h => f.1 a (fun z => by have := hA a z; omega) (by omega), fun a _ => by rw [f.2.1]⟩
theorem Fr.hi {A B : List Nat} {σ τ : HS} (f : Fr A B σ τ) (hA : ∀ a ∈ A, a < 20) : Hi σ τ := fun a h => f.1 a (fun z => by have := hA a z; omega)
theorem Hi.tr {σ τ υ : HS} (h : Hi σ τ) (h2 : Hi τ υ) : Hi σ υ := fun a e => (h2 a e).trans (h a e)
theorem Hi.rf {σ : HS} : Hi σ σ := fun _ _ => rfl
section JO
variable {D W R G : Nat} {hd : Nat → Nat → Nat} {F : Nat} {n : Nat → Nat} {σ τ : HS} {live : Nat → Bool} {pl : Nat → Nat → Option Nat} {s : PS} {tb : Nat} {tp : Nat → Int64} {nx : Nat} {V : Nat → Nat → Int64} {ol : Nat → Int64} {cb : Nat} {dp : Bool}
theorem CX.lo (h : CX tb tp nx σ) (f : Lo σ τ) : CX tb tp nx τ := ⟨by rw [f.1 0 (by omega)]; exact h.1, by rw [f.1 0 (by omega)]; exact h.2.1, by rw [f.1 0 (by omega)]; exact h.2.2.1, fun i hi => by rw [f.2 5 (by omega)]; exact h.2.2.2 i hi⟩
theorem CX.fr {A B : List Nat} (h : CX tb tp nx σ) (f : Fr A B σ τ) (h0 : 0 ∉ A) (h5 : 5 ∉ B) : CX tb tp nx τ := ⟨by rw [f.1 0 h0]; exact h.1, by rw [f.1 0 h0]; exact h.2.1, by rw [f.1 0 h0]; exact h.2.2.1, fun i hi => by rw [f.2 5 h5]; exact h.2.2.2 i hi⟩
theorem cPow.congr {on : Bool} {lf : Nat} {wr : Int32} (h : cPow on lf wr σ) (e : τ.1 4 = σ.1 4) : cPow on lf wr τ := ⟨by rw [e]; exact h.1, by rw [e]; exact h.2.1, by rw [e]; exact h.2.2.1, h.2.2.2⟩
theorem CI.lo (h : CI D W R G hd live pl s tb tp nx σ) (f : Lo σ τ) : CI D W R G hd live pl s tb tp nx τ := by
  obtain ⟨⟨a1, a2, a3, a4, a5⟩, b1, b2⟩ := h
  exact ⟨⟨a1.congr (f.1 1 (by omega)) (f.1 9 (by omega)), fun d hd => by rw [f.1 10 (by omega)]; exact a2 d hd, a3.congr (f.1 13 (by omega)) (f.1 14 (by omega)) (f.2 11 (by omega)) (f.2 12 (by omega)), a4.congr (f.1 4 (by omega)), fun i hi => by rw [f.2 8 (by omega)]; exact a5 i hi⟩, fun z => (b1 z).congr (f.1 15 (by omega)) (f.1 16 (by omega)), b2.lo f⟩
theorem CI.cr (h : CI D W R G hd live pl s tb tp nx σ) (on : s.2.1 = true) : CRs D W R G hd live pl s σ := ⟨h.1.1, h.1.2.1, h.1.2.2.1, h.2.1 on, h.1.2.2.2.1, h.1.2.2.2.2⟩
theorem CR.ci (h : CRs D W R G hd live pl s σ) (x : CX tb tp nx σ) : CI D W R G hd live pl s tb tp nx σ := ⟨⟨h.1, h.2.1, h.2.2.1, h.2.2.2.2.1, h.2.2.2.2.2⟩, fun _ => h.2.2.2.1, x⟩
theorem MR.hi (h : MR D W R G hd live pl s σ) (f : Hi σ τ) : MR D W R G hd live pl s τ := by
  obtain ⟨m1, m2, m3, m4, m5, m6, m7, m8⟩ := h
  refine ⟨m1.congr (fun j _ => by rw [f 20 (by omega)]) (f 21 (by omega)), fun d hd => by rw [f 22 (by omega)]; exact m2 d hd, m3.congr (f 23 (by omega)) (f 24 (by omega)) (f 25 (by omega)), fun ho row p hr hp => by rw [f 26 (by omega)]; exact m4 ho row p hr hp, by rw [f 20 (by omega)]; exact m5, by rw [f 20 (by omega)]; exact m6, by rw [f 20 (by omega)]; exact m7, m8⟩
theorem MX.hi (h : MX W R G tb tp nx V ol cb dp σ) (f : Hi σ τ) : MX W R G tb tp nx V ol cb dp τ := by
  unfold MX at *
  rw [f 20 (by omega), f 27 (by omega), f 28 (by omega), f 29 (by omega)]
  exact h
theorem Lo.thr {v : Int32} : Lo σ (stF σ 20 0 v) := ⟨fun a h => stF_1 a (by omega), fun _ _ => rfl⟩
theorem MR.thr (h : MR D W R G hd live pl s σ) (v : Int32) : MR D W R G hd live pl s (stF σ 20 0 v) := h.congr ((FG.st 0 v).mono (by simp) (by simp))
theorem MX.thr (h : MX W R G tb tp nx V ol cb dp σ) (v : Int32) : MX W R G tb tp nx V ol cb dp (stF σ 20 0 v) := h.same (FG.st 0 v) (by decide) (by decide)
theorem JI.thr (h : JI D W R G hd σ) (v : Int32) : JI D W R G hd (stF σ 20 0 v) := by
  obtain ⟨live, pl, s, tb, tp, nx, V, ol, cb, dp, h1, h2, h3, h4⟩ := h
  exact ⟨live, pl, s, tb, tp, nx, V, ol, cb, dp, h1.lo Lo.thr, h2.thr v, h3.thr v, h4⟩
/-- the out cell changes -/
theorem Lo.out {v : Int64} : Lo σ (stL σ 30 0 v) := ⟨fun _ _ => rfl, fun a h => stL_2 a (by omega)⟩
theorem Hi.out {v : Int64} : Hi σ (stL σ 30 0 v) := fun _ _ => rfl
theorem JI.out (h : JI D W R G hd σ) (v : Int64) : JI D W R G hd (stL σ 30 0 v) := by
  obtain ⟨live, pl, s, tb, tp, nx, V, ol, cb, dp, h1, h2, h3, h4⟩ := h
  exact ⟨live, pl, s, tb, tp, nx, V, ol, cb, dp, h1.lo Lo.out, h2.hi Hi.out, h3.hi Hi.out, h4⟩
theorem f_1 (c : Int32) : D_MD_fails F n σ 1 c = some (stF σ 20 0 c, 1) := e_fails true c
theorem f_0 (c : Int32) : D_MD_fails F n σ 0 c = some (stF σ 20 0 0, 0) := e_fails false c
theorem thr_s {v : Int32} : (stF σ 20 0 v).1 20 0 = v := by rw [stF_s, upd_s]
theorem GIs.base (h : GIs D W R G hd live pl s V ol cb dp) : LK live s.1 ∧ KW D R s.1 ∧ LV D live := by
  cases hs : s.2.1 with
  | true => obtain ⟨g, _⟩ := h.1 hs; exact ⟨g.1.1.2.1, g.1.1.2.2.1, g.1.1.1⟩
  | false => obtain ⟨a, b, c, g, _⟩ := h.2 hs; exact ⟨g.1.2.1, g.1.2.2.1, g.1.1⟩
theorem GIs.pw (h : GIs D W R G hd live pl s V ol cb dp) (on : s.2.1 = true) : PW D R (W * G) pl := (h.1 on).1.1.1.2.2.2
theorem out_s {v : Int64} : (stL σ 30 0 v).2 30 0 = v := by rw [stL_s, updL_s]
theorem in30 (ln : Len D W R G n) {α : Type} {k : Option α} : grd (inb (0 : Int32) (n 30)) k = k := by rw [ln.2.2.2.2.2.2.2.2.2.2]; exact grd_t (by decide)
theorem j_feed (cx : Ctx D W R G hd n F) (ji : JI D W R G hd σ) (p1 : Int32) (p2 : Int64) : ∃ τ c, D_LW_feed_0_30 F n σ p1 p2 = some (τ, c) ∧ ∃ υ r, D_MD_feed F n τ p1 p2 = some (υ, r) ∧ υ.1 20 0 = c ∧ (c = 0 → υ.2 30 0 = r.toInt64) ∧ JI D W R G hd υ := by
  obtain ⟨ge, ln, hF⟩ := id cx
  have bad : (p1 < 1 ∨ ¬ p1 ≤ 8) → ∃ τ c, D_LW_feed_0_30 F n σ p1 p2 = some (τ, c) ∧ ∃ υ r, D_MD_feed F n τ p1 p2 = some (υ, r) ∧ υ.1 20 0 = c ∧ (c = 0 → υ.2 30 0 = r.toInt64) ∧ JI D W R G hd υ := by
    intro hb
    refine ⟨σ, 1, ?_, stF σ 20 0 1, 0, ?_, thr_s, fun z => absurd z (by decide), ji.thr 1⟩
    · rw [D_LW_feed_0_30, D_SF_feed]
      by_cases e : p1 < 1
      · rw [if_pos e]; rfl
      · rw [if_neg e, if_neg (hb.resolve_left e)]; rfl
    · rw [D_MD_feed]
      simp only [jn_q, f_1, f_0, Option.bind_some, nm2_q]
      by_cases e : p1 < 1
      · rw [if_pos e]; rfl
      · rw [if_neg e, if_neg (hb.resolve_left e)]; rfl
  by_cases e1 : p1 < 1
  · exact bad (Or.inl e1)
  by_cases e2 : p1 ≤ 8
  case neg => exact bad (Or.inr e2)
  obtain ⟨m, hm, rfl⟩ := nI_of (x := p1) (fun z => e1 (by
    have := Int32.lt_iff_toInt_lt.mp z
    rw [Int32.lt_iff_toInt_lt]
    have h0 : (0 : Int32).toInt = 0 := rfl
    have h1 : (1 : Int32).toInt = 1 := rfl
    omega))
  have m1 : 1 ≤ m := by
    rcases Nat.lt_or_ge 0 m with z | z
    · exact z
    · exact absurd (show nI m < 1 from by rw [show m = 0 by omega]; decide) e1
  have m8 : m ≤ 8 := (nI_leI (a := m) (b := 8) hm (by omega)).mp e2
  obtain ⟨live, pl, s, tb, tp, nx, V, ol, cb, dp, ci, mr, mx, gi, hz, hnx⟩ := id ji
  have h64 := hz.1
  obtain ⟨⟨x1, x2, x3, x4⟩, x5, x6, x7⟩ := id mx
  obtain ⟨c1, c2, c3, c4⟩ := id ci.2.2
  by_cases e3 : tb + m ≤ 64
  case neg =>
    have hle : ¬ nI tb + nI m ≤ (64 : Int32) := by rw [nI_add, show (64 : Int32) = nI 64 from rfl, nI_leI (by omega) (by omega)]; exact e3
    refine ⟨σ, 2, ?_, stF (stF σ 20 0 0) 20 0 2, 0, ?_, thr_s, fun z => absurd z (by decide), (ji.thr 0).thr 2⟩
    · rw [D_LW_feed_0_30, D_SF_feed, if_neg e1, if_pos e2, c1, if_neg hle]; rfl
    · rw [D_MD_feed]
      simp only [jn_q, f_1, f_0, Option.bind_some, nm2_q]
      rw [if_neg e1, if_pos e2, if_pos trivial, stF_s, upd_n (by decide), x2, if_neg hle]
      rfl
  have hle : nI tb + nI m ≤ (64 : Int32) := by rw [nI_add, show (64 : Int32) = nI 64 from rfl, nI_leI (by omega) (by omega)]; exact e3
  -- the class
  obtain ⟨τ, t1, t2, t3, t4⟩ := e_xb (b := 5) (f := 0) (at_ := tb) (m := m) (F := F) (n := n) (σ := σ) (v := p2) m8 (by omega) (by rw [ln.1.1.1]; omega) (by omega) (by omega)
  have t1 : D_SF_xorBytes_5_L3 F n 0 (nI tb) (nI m) p2 F σ 0 = some τ := (G_xb_5 F σ (nI 0)).trans t1
  have hc1 : D_LW_feed_0_30 F n σ (nI m) p2 = some (stL (stF τ 0 5 (nI (tb + m))) 30 0 (nI (tb + m)).toInt64, 0) := by
    rw [D_LW_feed_0_30, D_SF_feed, if_neg e1, if_pos e2, c1, if_pos hle, D_SF_xorBytes_5, t1]
    simp only [Option.bind_some, nm_q, nm2_q, xc_l, in30 ln]
    rw [t2, c1, nI_add, stF_s, upd_s]; rfl
  have cxA : CX (tb + m) (tpx tb tp m p2) nx (stF τ 0 5 (nI (tb + m))) := by
    refine ⟨by rw [stF_s, upd_s], by rw [stF_s, upd_n (by decide), t2]; exact c2, by rw [stF_s, upd_n (by decide), t2]; exact c3, fun i hi => ?_⟩
    rw [stF_2, t4, c4 i hi, if_pos (by omega), Nat.sub_zero]
    rfl
  have ciA : CI D W R G hd live pl s (tb + m) (tpx tb tp m p2) nx (stF τ 0 5 (nI (tb + m))) := by
    obtain ⟨⟨a1, a2, a3, a4, a5⟩, b1, b2⟩ := id ci
    have g1 : ∀ a, a ≠ 0 → (stF τ 0 5 (nI (tb + m))).1 a = σ.1 a := fun a h => by rw [stF_1 a h, t2]
    have g2 : ∀ a, a ≠ 5 → (stF τ 0 5 (nI (tb + m))).2 a = σ.2 a := fun a h => t3 a h
    exact ⟨⟨a1.congr (g1 1 (by decide)) (g1 9 (by decide)), fun d hd => by rw [g1 10 (by decide)]; exact a2 d hd, a3.congr (g1 13 (by decide)) (g1 14 (by decide)) (g2 11 (by decide)) (g2 12 (by decide)), a4.congr (g1 4 (by decide)), fun i hi => by rw [g2 8 (by decide)]; exact a5 i hi⟩, fun z => (b1 z).congr (g1 15 (by decide)) (g1 16 (by decide)), cxA⟩
  have hiA : Hi σ (stL (stF τ 0 5 (nI (tb + m))) 30 0 (nI (tb + m)).toInt64) := fun a h => by
    show (stF τ 0 5 (nI (tb + m))).1 a = _
    rw [stF_1 a (by omega), t2]
  -- the reference
  have mr1 := (mr.hi hiA).thr 0
  have mx1 := (mx.hi hiA).thr 0
  have mr2 := mr1.thr 0
  have mx2 := mx1.thr 0
  obtain ⟨υ, u1, u2, u3⟩ := e_MD_feed53 ln.2.2.2.2.2.2.2.1 (show 100 ≤ F by omega) mx2 hz p2 m8 e3
  have u1 : D_MD_feed_L53 F n (nI m) p2 F (stF (stF (stL (stF τ 0 5 (nI (tb + m))) 30 0 (nI (tb + m)).toInt64) 20 0 0) 20 0 0) 0 = some υ := u1
  have u17 : υ.1 20 17 = nI tb := by rw [u2.2.2 17 (by simp)]; exact mx2.1.2.1
  have fA : FG [27] [17] υ (stF υ 20 17 (nI (tb + m))) := (FG.st 17 _).mono (by simp) (by simp)
  refine ⟨_, 0, hc1, stF υ 20 17 (nI (tb + m)), nI (tb + m), ?_, ?_, fun _ => ?_, live, pl, s, tb + m, tpx tb tp m p2, nx, V, ol, cb, dp, ?_, ?_, ?_, gi, hz.feed m8 e3, hnx⟩
  · rw [D_MD_feed]
    simp only [jn_q, f_1, f_0, Option.bind_some, nm2_q]
    rw [if_neg e1, if_pos e2, if_pos trivial, mx1.1.2.1, if_pos hle, if_pos trivial, u1, Option.bind_some, nm_q, u17, nI_add, stF_s, upd_s]
  · rw [stF_s, upd_n (by decide), u2.2.2 0 (by simp)]; exact thr_s
  · rw [stF_2, u2.2.1, stF_2, stF_2, out_s]
  · exact (((((ciA.lo Lo.out).lo Lo.thr).lo Lo.thr).lo (u2.lo (by decide))).lo (fA.lo (by decide)))
  · exact (mr2.congr (u2.mono (by simp) (by simp))).congr ((FG.st 17 _).mono (by simp) (by simp))
  · obtain ⟨⟨y1, y2, y3, y4⟩, y5, y6, y7⟩ := mx2
    refine ⟨⟨?_, by rw [stF_s, upd_s], ?_, fun z => ?_⟩, u3, fun b k hb hk => ?_, fun z k hk => ?_⟩
    · rw [stF_s, upd_n (by decide), u2.2.2 15 (by simp)]; exact y1
    · rw [stF_s, upd_n (by decide), u2.2.2 20 (by simp)]; exact y3
    · rw [stF_s, upd_n (by decide), u2.2.2 19 (by simp)]; exact y4 z
    · rw [stF_1 28 (by decide), u2.1 28 (by decide) (by decide)]; exact y6 b k hb hk
    · rw [stF_1 29 (by decide), u2.1 29 (by decide) (by decide)]; exact y7 z k hk
end JO
