def scT (F : Nat) (n : Nat → Nat) (σ : HS) (x2 x4 : Int32) : Option (HS × (Int32 ⊕ Nat)) :=
      (D_SF_spoiltColumn F n (stF σ 0 6 x4) x2).bind (fun (x6 : Int32) =>
      (if x6 = (-1 : Int32) then
        (D_SF_isHole F n (stF σ 0 6 x4) x2).bind (fun (qx8 : HS × Int32) => nm2 qx8 (fun (σ9 : HS) (x8 : Int32) =>
        (if x8 = 0 then
          some (σ9, Sum.inl (0 : Int32))
        else
          nm (stF σ9 0 7 ((σ9.1 0 7) + (1 : Int32))) (fun σ11 =>
          some (σ11, Sum.inl (0 : Int32))))))
      else
        (D_AR_fillJ_7 F n (stF σ 0 6 x4) (0 : Int64)).bind (fun (σ13 : HS) =>
        (D_SF_addOthers F n σ13 x2 x6).bind (fun (σ15 : HS) =>
        (D_SF_putColumn_7 F n σ15 x2 x6).bind (fun (qx16 : HS × Int32) => nm2 qx16 (fun (σ17 : HS) (x16 : Int32) =>
        (if x16 = 0 then
          some (σ17, Sum.inl (-1 : Int32))
        else
          some (σ17, Sum.inl (1 : Int32)))))))))
theorem scrub_eq {F : Nat} {n : Nat → Nat} {σ : HS} : D_SF_scrub F n σ = (if (σ.1 4 0) = 0 then some (σ, Sum.inr 2) else (if (σ.1 1 4) ≤ ((σ.1 0 6) + (1 : Int32)) then scT F n σ (σ.1 0 6) 0 else scT F n σ (σ.1 0 6) ((σ.1 0 6) + (1 : Int32)))) := rfl
section J9
variable {D W R G : Nat} {hd : Nat → Nat → Nat} {F : Nat} {n : Nat → Nat} {σ τ : HS} {live : Nat → Bool} {pl : Nat → Nat → Option Nat} {s : PS} {tb : Nat} {tp : Nat → Int64} {nx : Nat} {V : Nat → Nat → Int64} {ol : Nat → Int64} {cb : Nat} {dp : Bool}
theorem j_scrub (cx : Ctx D W R G hd n F) (ji : JI D W R G hd σ) : ∃ τ c, D_LW_scrub_0_30 F n σ = some (τ, c) ∧ ∃ υ r, D_MD_scrub F n τ = some (υ, r) ∧ υ.1 20 0 = c ∧ (c = 0 → υ.2 30 0 = r.toInt64) ∧ JI D W R G hd υ := by
  obtain ⟨ge, ln, hF⟩ := id cx
  have gn := ge.num
  obtain ⟨⟨_, _⟩, ⟨_, _, _⟩, ⟨_, _⟩, ⟨_, _⟩, ⟨_, _⟩, _, _, _, _⟩ := id gn
  have ji0 := ji
  obtain ⟨live, pl, s, tb, tp, nx, V, ol, cb, dp, ci, mr, mx, gi, hz, hnx⟩ := ji
  obtain ⟨⟨a1, a2, a3, a4, a5⟩, b1, b2⟩ := id ci
  cases hs : s.2.1 with
  | false =>
    refine ⟨σ, 1, ?_, stF σ 20 0 1, 0, ?_, thr_s, fun z => absurd z (by decide), ji0.thr 1⟩
    · rw [D_LW_scrub_0_30, D_SF_scrub, a4.1, if_pos (on_i.mpr hs)]; rfl
    · rw [D_MD_scrub]
      simp only [jn_q, f_1, f_0, Option.bind_some, nm2_q]
      rw [mr.2.2.2.2.1, if_pos (on_i.mpr hs)]; rfl
  | true =>
    have hn : ¬ b2i s.2.1 = 0 := fun z => by rw [on_i.mp z] at hs; cases hs
    obtain ⟨lk, kw, lv⟩ := gi.base
    have pw := gi.pw hs
    have cr := ci.cr hs
    obtain ⟨gon, hdp⟩ := gi.1 hs
    subst hdp
    have hG : 0 < G := by omega
    obtain ⟨k1, k2, k3⟩ := st_of (G := G) (R := R) hG hnx
    have hRG : 0 < R * G := by omega
    have hm1 := Nat.mod_lt (nx + 1) hRG
    -- the cursor
    have hcur : ∀ (T : Int32 → Option (HS × (Int32 ⊕ Nat))), (if nI (R * G) ≤ nI nx + 1 then T 0 else T (nI nx + 1)) = T (nI ((nx + 1) % (R * G))) := by
      intro T
      rw [nI_1]
      by_cases e : R * G ≤ nx + 1
      · have : nx + 1 = R * G := by omega
        rw [if_pos (by rw [nI_leI (by omega) (by omega)]; exact e), this, Nat.mod_self]; rfl
      · rw [if_neg (by rw [nI_leI (by omega) (by omega)]; exact e), Nat.mod_eq_of_lt (by omega)]
    have g1 : ∀ a, a ≠ 0 → (stF σ 0 6 (nI ((nx + 1) % (R * G)))).1 a = σ.1 a := fun a h => stF_1 a h
    have cr1 : CRs D W R G hd live pl s (stF σ 0 6 (nI ((nx + 1) % (R * G)))) := cr.same (fun a h => g1 a (fun z => by rw [z] at h; simp at h)) (fun a _ => rfl)
    have cx1 : CX tb tp ((nx + 1) % (R * G)) (stF σ 0 6 (nI ((nx + 1) % (R * G)))) := ⟨by rw [stF_s, upd_n (by decide)]; exact b2.1, by rw [stF_s, upd_s], by rw [stF_s, upd_n (by decide)]; exact b2.2.2.1, b2.2.2.2⟩
    have esp := e_SF_spoiltColumn (F := F) (n := n) cx cr1.1 cr1.2.2.1 cr1.2.2.2.1 pw k1 k2
    rw [k3] at esp
    -- the reference's beginning
    have hmd : ∀ (v : Int64) (ω : HS), Hi σ ω → D_MD_scrub F n ω = (D_MD_scrub_L69 F n (nI (W * (nx % G))) (nI (nx / G)) F (stF (stF ω 20 0 0) 20 15 (nI ((nx + 1) % (R * G)))) (nI (W * (nx % G)))).bind (fun q28 => match q28 with | Sum.inl σ24 => some (σ24, (0 : Int32)) | Sum.inr z => some z) := by
      intro _ ω hi
      have m1 := mr.hi hi
      have x1 := (mx.hi hi).thr 0
      have m1t := m1.thr 0
      rw [D_MD_scrub]
      simp only [jn_q, f_1, f_0, Option.bind_some, nm2_q, nm_q]
      rw [m1.2.2.2.2.1, if_neg hn, if_pos trivial, m1t.1.1.2.2.2, m1t.1.1.2.2.1, m1t.1.1.2.1, x1.1.1, pk_mul, grd_z (by omega) (by omega), grd_z (by omega) (by omega), grd_z (by omega) (by omega), nI_1, pk_rem (by omega) (by omega) (by omega), pk_rem (by omega) (by omega) (by omega), pk_div (by omega) (by omega) (by omega), pk_mul]
      rfl
    have mrN : ∀ ω, Hi σ ω → MR D W R G hd live pl s (stF (stF ω 20 0 0) 20 15 (nI ((nx + 1) % (R * G)))) := fun ω hi => ((mr.hi hi).thr 0).congr ((FG.st 15 _).mono (by simp) (by simp))
    have mxN : ∀ ω, Hi σ ω → MX W R G tb tp ((nx + 1) % (R * G)) V ol cb false (stF (stF ω 20 0 0) 20 15 (nI ((nx + 1) % (R * G)))) := fun ω hi => by
      obtain ⟨⟨y1, y2, y3, y4⟩, y5, y6, y7⟩ := (mx.hi hi).thr 0
      exact ⟨⟨by rw [stF_s, upd_s], by rw [stF_s, upd_n (by decide)]; exact y2, by rw [stF_s, upd_n (by decide)]; exact y3, fun z => (by cases z)⟩, y5, y6, fun z => (by cases z)⟩
    have thrN : ∀ ω, (stF (stF ω 20 0 0) 20 15 (nI ((nx + 1) % (R * G)))).1 20 0 = 0 := fun ω => by rw [stF_s, upd_n (by decide)]; exact thr_s
    have loN : ∀ ω, Lo ω (stF (stF ω 20 0 0) 20 15 (nI ((nx + 1) % (R * G)))) := fun ω => ⟨fun a h => by rw [stF_1 a (by omega), stF_1 a (by omega)], fun _ _ => rfl⟩
    cases hsc : spc W s.1 pl (nx / G) (nx % G) with
    | none =>
      rw [hsc] at esp
      have esp : D_SF_spoiltColumn F n (stF σ 0 6 (nI ((nx + 1) % (R * G)))) (nI nx) = some (-1) := esp
      obtain ⟨τ1, t1, t2⟩ := e_SF_isHole cx cr1 pw gon.pk k1 k2
      rw [k3, gon.holv ge k1 k2 hsc] at t1
      have hi : Hi σ (stL τ1 30 0 ((0 : Int32)).toInt64) := fun a h => by
        show τ1.1 a = _
        rw [t2.1, g1 a (by omega)]
      have ciA : CI D W R G hd live pl s tb tp ((nx + 1) % (R * G)) τ1 := CR.ci (cr1.congr t2.fr) (cx1.fr t2.fr (by decide) (by decide))
      obtain ⟨d1, _⟩ := e_MD_scr69 cx (mrN _ hi) hs lk kw pw k1 k2
      refine ⟨stL τ1 30 0 ((0 : Int32)).toInt64, 0, ?_, stF (stF (stL τ1 30 0 ((0 : Int32)).toInt64) 20 0 0) 20 15 (nI ((nx + 1) % (R * G))), 0, ?_, thrN _, fun _ => ?_, live, pl, s, tb, tp, (nx + 1) % (R * G), V, ol, cb, false, (ciA.lo Lo.out).lo (loN _), mrN _ hi, mxN _ hi, gi, hz, hm1⟩
      · have e : D_SF_scrub F n σ = some (τ1, Sum.inl 0) := by
          rw [scrub_eq, a4.1, if_neg hn, b2.2.1, a1.1.2.2.2.2.1, hcur (scT F n σ (nI nx))]
          unfold scT
          rw [esp, Option.bind_some, if_pos rfl, t1, Option.bind_some, nm2_q, if_pos (by rfl)]
        rw [D_LW_scrub_0_30, e]
        simp only [Option.bind_some, nm_q, nm2_q, xc_l, in30 ln]; rfl
      · rw [hmd 0 _ hi, d1 hsc]; rfl
      · rw [stF_2, stF_2, out_s]
    | some j =>
      rw [hsc] at esp
      have esp : D_SF_spoiltColumn F n (stF σ 0 6 (nI ((nx + 1) % (R * G)))) (nI nx) = some (nI j) := esp
      obtain ⟨_, j2, j3, _⟩ := srch_some hsc
      have hj : j < W := by omega
      obtain ⟨d, hpd⟩ : ∃ d, pl (nx / G) (W * (nx % G) + j) = some d := by
        have j3 : spo s.1 pl (nx / G) (W * (nx % G) + j) = true := j3
        unfold spo at j3
        cases he : pl (nx / G) (W * (nx % G) + j) with
        | none => rw [he] at j3; cases j3
        | some d => exact ⟨d, rfl⟩
      have hdd := pw.1 _ _ d k1 (pos_lt k2 hj) hpd
      obtain ⟨τ1, c1, c2, c3, c4⟩ := e_fillJ_7 (F := F) (σ := stF σ 0 6 (nI ((nx + 1) % (R * G)))) ln.1.1.2.2.1 (by omega) 0
      have so1 : SumOnly (stF σ 0 6 (nI ((nx + 1) % (R * G)))) τ1 := ⟨c2, c3⟩
      have cr2 := cr1.congr so1.fr
      obtain ⟨τ2, d1, d2, d3⟩ := e_SF_addOthers cx cr2 pw gon.pk k1 k2 hj
      rw [k3] at d1
      have cr3 := cr2.congr d2.fr
      obtain ⟨τ3, p1, p2, p3⟩ := e_putColumn_7 cx cr3 k1 k2 hj hpd hdd (P := oth W s.1 pl (nx / G) (nx % G) j) (fun i hi => by rw [d3 i hi, c4 i hi, Int64.zero_xor])
      rw [k3] at p1
      have fA : Fr [4, 13, 14] [7, 11, 12] (stF σ 0 6 (nI ((nx + 1) % (R * G)))) τ3 := ((so1.fr.mono (by simp) (by simp)).tr (d2.fr.mono (by simp) (by simp))).tr (p2.mono (by simp) (by simp))
      obtain ⟨K, onx, lf, wr⟩ := s
      have hs : onx = true := hs
      subst hs
      have gr := gon.scr ge (ol := ol) (cb := cb) (lf := lf) (wr := wr) k1 k2 hsc hpd
      have ciA := CR.ci p3 (cx1.fr fA (by decide) (by decide))
      have hi : Hi σ (stL τ3 30 0 (pm1 (aput (K, true, lf, wr) d (nx / G) (W * (nx % G) + j + 1, oth W K pl (nx / G) (nx % G) j, zr)).2).toInt64) := fun a h => by
        show τ3.1 a = _
        rw [fA.1 a (by simp; omega), g1 a (by omega)]
      obtain ⟨_, e2⟩ := e_MD_scr69 cx (mrN _ hi) rfl lk kw pw k1 k2
      obtain ⟨υ, u1, u2, u3⟩ := e2 j d (oth W K pl (nx / G) (nx % G) j) hsc hpd
      refine ⟨stL τ3 30 0 (pm1 (aput (K, true, lf, wr) d (nx / G) (W * (nx % G) + j + 1, oth W K pl (nx / G) (nx % G) j, zr)).2).toInt64, 0, ?_, υ, pm1 (aput (K, true, lf, wr) d (nx / G) (W * (nx % G) + j + 1, oth W K pl (nx / G) (nx % G) j, zr)).2, ?_, ?_, fun _ => ?_, live, pl, _, tb, tp, (nx + 1) % (R * G), V, ol, cb, false, ((ciA.lo Lo.out).lo (loN _)).lo (u2.lo (by decide)), u3, (mxN _ hi).same u2 (by decide) (by decide), gr, hz, hm1⟩
      · have e : D_SF_scrub F n σ = some (τ3, Sum.inl (pm1 (aput (K, true, lf, wr) d (nx / G) (W * (nx % G) + j + 1, oth W K pl (nx / G) (nx % G) j, zr)).2)) := by
          rw [scrub_eq, a4.1, if_neg hn, b2.2.1, a1.1.2.2.2.2.1, hcur (scT F n σ (nI nx))]
          unfold scT
          rw [esp, Option.bind_some, if_neg (nI_m1 (by omega)), c1, Option.bind_some, d1, Option.bind_some, p1, Option.bind_some, nm2_q]
          exact pm_j
        rw [D_LW_scrub_0_30, e]
        simp only [Option.bind_some, nm_q, nm2_q, xc_l, in30 ln]; rfl
      · rw [hmd 0 _ hi, u1]; rfl
      · rw [u2.2.2 0 (by decide)]; exact thrN _
      · rw [u2.2.1, stF_2, stF_2, out_s]
end J9
