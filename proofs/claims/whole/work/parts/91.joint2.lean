section J2
variable {D W R G : Nat} {hd : Nat → Nat → Nat} {F : Nat} {n : Nat → Nat} {σ τ : HS} {live : Nat → Bool} {pl : Nat → Nat → Option Nat} {s : PS} {tb : Nat} {tp : Nat → Int64} {nx : Nat} {V : Nat → Nat → Int64} {ol : Nat → Int64} {cb : Nat} {dp : Bool}
theorem j_lose (cx : Ctx D W R G hd n F) (ji : JI D W R G hd σ) (p1 : Int32) : ∃ τ c, D_LW_lose_0 F n σ p1 = some (τ, c) ∧ ∃ υ, D_MD_lose F n τ p1 = some υ ∧ υ.1 20 0 = c ∧ JI D W R G hd υ := by
  by_cases e : 0 ≤ p1
  case neg =>
    refine ⟨σ, 1, ?_, stF σ 20 0 1, ?_, thr_s, ji.thr 1⟩
    · rw [D_LW_lose_0, D_SF_lose, if_neg e]; rfl
    · rw [D_MD_lose]
      simp only [jn_q, f_1, f_0, Option.bind_some, nm2_q]
      rw [if_neg e]; rfl
  obtain ⟨m, hm, rfl⟩ := nI_of (x := p1) (fun z => by
    rw [Int32.lt_iff_toInt_lt] at z
    rw [Int32.le_iff_toInt_le] at e
    omega)
  obtain ⟨live, pl, s, tb, tp, nx, V, ol, cb, dp, ci, mr, mx, gi, hz, hnx⟩ := ji
  obtain ⟨⟨a1, a2, a3, a4, a5⟩, b1, b2⟩ := ci
  have g1 : ∀ a, a ≠ 4 → (stF σ 4 1 (nI m)).1 a = σ.1 a := fun a h => stF_1 a h
  have hi : Hi σ (stF σ 4 1 (nI m)) := fun a h => g1 a (by omega)
  have ciA : CI D W R G hd live pl (s.1, s.2.1, m, s.2.2.2) tb tp nx (stF σ 4 1 (nI m)) := by
    refine ⟨⟨a1.congr (g1 1 (by decide)) (g1 9 (by decide)), fun d hd => by rw [g1 10 (by decide)]; exact a2 d hd, a3.congr (g1 13 (by decide)) (g1 14 (by decide)) rfl rfl, ⟨?_, ?_, ?_, hm⟩, a5⟩, fun z => (b1 z).congr (g1 15 (by decide)) (g1 16 (by decide)), ?_⟩
    · rw [stF_s, upd_n (by decide)]; exact a4.1
    · rw [stF_s, upd_s]
    · rw [stF_s, upd_n (by decide)]; exact a4.2.2.1
    · exact ⟨by rw [g1 0 (by decide)]; exact b2.1, by rw [g1 0 (by decide)]; exact b2.2.1, by rw [g1 0 (by decide)]; exact b2.2.2.1, b2.2.2.2⟩
  have mr1 := (mr.hi hi).thr 0
  have mx1 := (mx.hi hi).thr 0
  refine ⟨stF σ 4 1 (nI m), 0, ?_, stF (stF (stF σ 4 1 (nI m)) 20 0 0) 20 13 (nI m - 1), ?_, ?_, live, pl, (s.1, s.2.1, m, s.2.2.2), tb, tp, nx, V, ol, cb, dp, ?_, ?_, ?_, gi, hz, hnx⟩
  · rw [D_LW_lose_0, D_SF_lose, if_pos e]; rfl
  · rw [D_MD_lose]
    simp only [jn_q, f_1, f_0, Option.bind_some, nm2_q]
    rw [if_pos e, if_pos trivial]; rfl
  · rw [stF_s, upd_n (by decide)]; exact thr_s
  · exact (ciA.lo Lo.thr).lo ((FG.st 13 _).lo (by decide))
  · obtain ⟨m1, m2, m3, m4, m5, m6, m7, m8⟩ := mr1
    have f : FG [] [13] (stF (stF σ 4 1 (nI m)) 20 0 0) (stF (stF (stF σ 4 1 (nI m)) 20 0 0) 20 13 (nI m - 1)) := FG.st 13 _
    refine ⟨m1.congr (fun j hj => f.2.2 j (by simp; omega)) (f.1 21 (by decide) (by decide)), fun d hd => by rw [f.1 22 (by decide) (by decide)]; exact m2 d hd, m3.congr (f.1 23 (by decide) (by decide)) (f.1 24 (by decide) (by decide)) (f.1 25 (by decide) (by decide)), fun ho row p hr hp => by rw [f.1 26 (by decide) (by decide)]; exact m4 ho row p hr hp, by rw [f.2.2 12 (by decide)]; exact m5, by rw [stF_s, upd_s], by rw [f.2.2 14 (by decide)]; exact m7, hm⟩
  · exact mx1.same (FG.st 13 _) (by decide) (by decide)
theorem on_i {b : Bool} : (b2i b = 0) ↔ b = false := by cases b <;> decide
theorem j_off (cx : Ctx D W R G hd n F) (ji : JI D W R G hd σ) : ∃ τ c, D_LW_off_0 F n σ = some (τ, c) ∧ ∃ υ, D_MD_off F n τ = some υ ∧ υ.1 20 0 = c ∧ JI D W R G hd υ := by
  have ji0 := ji
  obtain ⟨live, pl, s, tb, tp, nx, V, ol, cb, dp, ci, mr, mx, gi, hz, hnx⟩ := ji
  obtain ⟨⟨a1, a2, a3, a4, a5⟩, b1, b2⟩ := ci
  cases hs : s.2.1 with
  | false =>
    refine ⟨σ, 1, ?_, stF σ 20 0 1, ?_, thr_s, ji0.thr 1⟩
    · rw [D_LW_off_0, D_SF_off, a4.1, if_pos (on_i.mpr hs)]; rfl
    · rw [D_MD_off]
      simp only [jn_q, f_1, f_0, Option.bind_some, nm2_q]
      rw [mr.2.2.2.2.1, if_pos (on_i.mpr hs)]; rfl
  | true =>
    have hn : ¬ b2i s.2.1 = 0 := fun z => by rw [on_i.mp z] at hs; cases hs
    have g1 : ∀ a, a ≠ 4 → (stF (stF σ 4 0 0) 4 1 0).1 a = σ.1 a := fun a h => by rw [stF_1 a h, stF_1 a h]
    have hi : Hi σ (stF (stF σ 4 0 0) 4 1 0) := fun a h => g1 a (by omega)
    have ciA : CI D W R G hd live pl (s.1, false, 0, s.2.2.2) tb tp nx (stF (stF σ 4 0 0) 4 1 0) := by
      refine ⟨⟨a1.congr (g1 1 (by decide)) (g1 9 (by decide)), fun d hd => by rw [g1 10 (by decide)]; exact a2 d hd, a3.congr (g1 13 (by decide)) (g1 14 (by decide)) rfl rfl, ⟨?_, ?_, ?_, by show 0 < 2 ^ 31; omega⟩, a5⟩, fun z => (by cases z), ?_⟩
      · rw [stF_s, upd_n (by decide), stF_s, upd_s]; rfl
      · rw [stF_s, upd_s]; rfl
      · rw [stF_s, upd_n (by decide), stF_s, upd_n (by decide)]; exact a4.2.2.1
      · exact ⟨by rw [g1 0 (by decide)]; exact b2.1, by rw [g1 0 (by decide)]; exact b2.2.1, by rw [g1 0 (by decide)]; exact b2.2.2.1, b2.2.2.2⟩
    have mr1 := (mr.hi hi).thr 0
    have mx1 := (mx.hi hi).thr 0
    obtain ⟨gn, hdp⟩ := gi.1 hs
    subst hdp
    have f : FG [] [12, 13] (stF (stF (stF σ 4 0 0) 4 1 0) 20 0 0) (stF (stF (stF (stF (stF σ 4 0 0) 4 1 0) 20 0 0) 20 12 0) 20 13 (-1)) := ((FG.st 12 _).mono (by simp) (by simp)).tr ((FG.st 13 _).mono (by simp) (by simp))
    refine ⟨stF (stF σ 4 0 0) 4 1 0, 0, ?_, stF (stF (stF (stF (stF σ 4 0 0) 4 1 0) 20 0 0) 20 12 0) 20 13 (-1), ?_, ?_, live, pl, (s.1, false, 0, s.2.2.2), tb, tp, nx, V, ol, cb, false, ?_, ?_, ?_, gis_off (gn.off cx.1 ol cb), hz, hnx⟩
    · rw [D_LW_off_0, D_SF_off, a4.1, if_neg hn]; rfl
    · rw [D_MD_off]
      simp only [jn_q, f_1, f_0, Option.bind_some, nm2_q]
      rw [show (stF (stF σ 4 0 0) 4 1 0).1 20 12 = b2i s.2.1 from by rw [hi 20 (by omega)]; exact mr.2.2.2.2.1, if_neg hn, if_pos trivial]; rfl
    · rw [stF_s, upd_n (by decide), stF_s, upd_n (by decide)]; exact thr_s
    · exact (ciA.lo Lo.thr).lo (f.lo (by decide))
    · obtain ⟨m1, m2, m3, m4, m5, m6, m7, m8⟩ := mr1
      refine ⟨m1.congr (fun j hj => f.2.2 j (by simp; omega)) (f.1 21 (by decide) (by decide)), fun d hd => by rw [f.1 22 (by decide) (by decide)]; exact m2 d hd, m3.congr (f.1 23 (by decide) (by decide)) (f.1 24 (by decide) (by decide)) (f.1 25 (by decide) (by decide)), fun ho => (by cases ho), ?_, ?_, by rw [f.2.2 14 (by decide)]; exact m7, by show 0 < 2 ^ 31; omega⟩
      · rw [stF_s, upd_n (by decide), stF_s, upd_s]; rfl
      · rw [stF_s, upd_s]; rfl
    · exact mx1.same f (by decide) (by decide)
/-- an index argument: out of range, or a number -/
theorem idx_c2 (x : Int32) {N : Nat} (hN : N < 2 ^ 31) : (x < 0 ∨ (¬ x < 0 ∧ ¬ x < nI N)) ∨ ∃ k, k < N ∧ x = nI k ∧ ¬ x < 0 ∧ x < nI N := by
  by_cases e : x < 0
  · exact Or.inl (Or.inl e)
  · by_cases e2 : x < nI N
    · obtain ⟨k, hk, rfl⟩ := nI_of e
      exact Or.inr ⟨k, (nI_ltI hk hN).mp e2, rfl, e, e2⟩
    · exact Or.inl (Or.inr ⟨e, e2⟩)
theorem j_replace (cx : Ctx D W R G hd n F) (ji : JI D W R G hd σ) (p1 : Int32) : ∃ τ c, D_LW_replace_0_30 F n σ p1 = some (τ, c) ∧ ∃ υ r, D_MD_replace F n τ p1 = some (υ, r) ∧ υ.1 20 0 = c ∧ (c = 0 → (r = 0 → υ.2 30 0 = 0) ∧ (¬ r = 0 → υ.2 30 0 = 1)) ∧ JI D W R G hd υ := by
  obtain ⟨ge, ln, hF⟩ := id cx
  obtain ⟨⟨_, _⟩, ⟨_, _, _⟩, ⟨_, _⟩, ⟨_, _⟩, ⟨_, _⟩, _, _, _, _⟩ := ge.num
  have ji0 := ji
  obtain ⟨live, pl, s, tb, tp, nx, V, ol, cb, dp, ci, mr, mx, gi, hz, hnx⟩ := ji
  obtain ⟨⟨a1, a2, a3, a4, a5⟩, b1, b2⟩ := id ci
  have n10 : n 10 = D := ln.1.2.2.1
  have n22 : n 22 = 16 := ln.2.2.1
  rcases idx_c2 p1 (show D < 2 ^ 31 by omega) with hb | ⟨x, hx, rfl, e1, e2⟩
  · refine ⟨σ, 1, ?_, stF σ 20 0 1, 0, ?_, thr_s, fun z => absurd z (by decide), ji0.thr 1⟩
    · rw [D_LW_replace_0_30, D_SF_replace, a1.1.1]
      rcases hb with z | ⟨z1, z2⟩
      · rw [if_pos z]; rfl
      · rw [if_neg z1, if_neg z2]; rfl
    · rw [D_MD_replace]
      simp only [jn_q, f_1, f_0, Option.bind_some, nm2_q]
      rw [mr.1.1.1]
      rcases hb with z | ⟨z1, z2⟩
      · rw [if_pos z]; rfl
      · rw [if_neg z1, if_neg z2]; rfl
  · cases hl : live x with
    | true =>
      have hn : ¬ b2i (live x) = 0 := by rw [hl]; decide
      refine ⟨stL σ 30 0 0, 0, ?_, stF (stL σ 30 0 0) 20 0 0, 0, ?_, thr_s, fun _ => ⟨fun _ => by rw [stF_2, out_s], fun z => absurd rfl z⟩, (ji0.out 0).thr 0⟩
      · rw [D_LW_replace_0_30, D_SF_replace, a1.1.1, if_neg e1, if_pos e2, grd_in (by omega) (by omega), nI_clamp (by omega), a2 x hx, if_neg hn]
        simp only [Option.bind_some, nm2_q, xc_l, in30 ln]; rfl
      · rw [D_MD_replace]
        simp only [jn_q, f_1, f_0, Option.bind_some, nm2_q]
        rw [show (stL σ 30 0 0).1 20 1 = nI D from mr.1.1.1, if_neg e1, if_pos e2, if_pos trivial, grd_in (by omega) (by omega), nI_clamp (by omega), stF_1 22 (by decide), show (stL σ 30 0 0).1 22 x = b2i (live x) from mr.2.1 x hx, if_neg hn]
    | false =>
      have hn : b2i (live x) = 0 := by rw [hl]; rfl
      have g1 : ∀ a, a ≠ 10 → (stI σ 10 x (nI 1)).1 a = σ.1 a := fun a h => stI_1 a h
      have hi : Hi σ (stL (stI σ 10 x (nI 1)) 30 0 1) := fun a h => g1 a (by omega)
      have lvA : ∀ d, d < D → (stI σ 10 x (nI 1)).1 10 d = b2i (adL live x d) := fun d hd1 => by
        rw [stI_s, upd_a]
        unfold adL
        by_cases e : d = x
        · rw [if_pos e, if_pos e]; rfl
        · rw [if_neg e, if_neg e]; exact a2 d hd1
      have ciA : CI D W R G hd (adL live x) pl s tb tp nx (stI σ 10 x (nI 1)) := ⟨⟨a1.congr (g1 1 (by decide)) (g1 9 (by decide)), lvA, a3.congr (g1 13 (by decide)) (g1 14 (by decide)) rfl rfl, a4.congr (g1 4 (by decide)), a5⟩, fun z => (b1 z).congr (g1 15 (by decide)) (g1 16 (by decide)), by rw [g1 0 (by decide)]; exact b2.1, by rw [g1 0 (by decide)]; exact b2.2.1, by rw [g1 0 (by decide)]; exact b2.2.2.1, b2.2.2.2⟩
      have mr1 := (mr.hi hi).thr 0
      have mx1 := (mx.hi hi).thr 0
      generalize hσ1 : stF (stL (stI σ 10 x (nI 1)) 30 0 1) 20 0 0 = σ1 at *
      obtain ⟨υ, u1, u2, u3, u4, u5⟩ := e_MD_rep45 (σ := stI σ1 22 x (nI 1)) cx (mr1.1.congr (fun j _ => by rw [stI_1 20 (by decide)]) (stI_1 21 (by decide))) hx
      have f : FG [22, 23, 24, 25] [] σ1 υ := ((FG.stI 22 x _ (by decide)).mono (by simp) (by simp)).tr (u2.mono (by simp) (by simp))
      have u1 : D_MD_replace_L45 F n (nI x) F (stI σ1 22 x (nI 1)) 0 = some υ := u1
      obtain ⟨lk, kw, lv⟩ := gi.base
      refine ⟨stL (stI σ 10 x (nI 1)) 30 0 1, 0, ?_, υ, 1, ?_, ?_, fun _ => ⟨fun z => absurd z (by decide), fun _ => ?_⟩, adL live x, pl, s, tb, tp, nx, V, ol, cb, dp, ?_, ?_, mx1.same f (by decide) (by decide), ?_, hz, hnx⟩
      · rw [D_LW_replace_0_30, D_SF_replace, a1.1.1, if_neg e1, if_pos e2, grd_in (by omega) (by omega), nI_clamp (by omega), a2 x hx, if_pos hn, grd_in (by omega) (by omega)]
        simp only [Option.bind_some, nm_q, nm2_q, xc_l, in30 ln]
        rw [if_neg (by decide)]; rfl
      · rw [D_MD_replace]
        simp only [jn_q, f_1, f_0, Option.bind_some, nm2_q]
        rw [hσ1, show (stL (stI σ 10 x (nI 1)) 30 0 1).1 20 1 = nI D from (by rw [hi 20 (by omega)]; exact mr.1.1.1), if_neg e1, if_pos e2, if_pos trivial, grd_in (by omega) (by omega), nI_clamp (by omega), mr1.2.1 x hx, if_pos hn, grd_in (by omega) (by omega), nm_q, show vp_nar .boolean (1 : Int32) = nI 1 from rfl, u1, Option.bind_some]
      · rw [f.2.2 0 (by simp), ← hσ1]; exact thr_s
      · rw [f.2.1, ← hσ1, stF_2, out_s]
      · refine CI.lo (σ := σ1) ?_ (f.lo (by decide))
        rw [← hσ1]
        exact (ciA.lo Lo.out).lo Lo.thr
      · obtain ⟨m1, m2, m3, m4, m5, m6, m7, m8⟩ := mr1
        refine ⟨m1.congr (fun j _ => f.2.2 j (by simp)) (f.1 21 (by decide) (by decide)), fun d hd1 => ?_, fun d o hd1 ho hlv => ?_, fun ho row p hr hp => by rw [f.1 26 (by decide) (by decide)]; exact m4 ho row p hr hp, by rw [f.2.2 12 (by simp)]; exact m5, by rw [f.2.2 13 (by simp)]; exact m6, by rw [f.2.2 14 (by simp)]; exact m7, m8⟩
        · rw [u2.1 22 (by decide) (by decide), stI_s, upd_a]
          unfold adL
          by_cases e : d = x
          · rw [if_pos e, if_pos e]; rfl
          · rw [if_neg e, if_neg e]; exact m2 d hd1
        · by_cases e : d = x
          · rw [e, lk x o hl]
            exact u3 o ho
          · unfold adL at hlv
            rw [if_neg e] at hlv
            have := m3 d o hd1 ho hlv
            unfold mCell at *
            have c23 := u4 (65 * d + o) (by omega)
            rw [stI_1 23 (by decide), stI_1 24 (by decide)] at c23
            have c25 : ∀ k, k < 70 → υ.1 25 (70 * (65 * d + o) + k) = σ1.1 25 (70 * (65 * d + o) + k) := fun k hk => by
              rw [u5 _ (by omega), stI_1 25 (by decide)]
            cases hk : s.1 d o with
            | none => rw [hk] at this; show υ.1 23 _ = _; rw [c23.1]; exact this
            | some v =>
              rw [hk] at this
              exact ⟨by rw [c23.1]; exact this.1, by rw [c23.2]; exact this.2.1, fun k hk1 => by rw [c25 k hk1]; exact this.2.2 k hk1⟩
      · refine ⟨fun z => ?_, fun z => ?_⟩
        · obtain ⟨g, h⟩ := gi.1 z
          exact ⟨⟨g.1.add hx, g.2⟩, h⟩
        · obtain ⟨a, b, c, g, h⟩ := gi.2 z
          exact ⟨a, b, c, g.add hx, h⟩
end J2
