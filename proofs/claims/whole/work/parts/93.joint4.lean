section J4
variable {D W R G : Nat} {hd : Nat → Nat → Nat} {F : Nat} {n : Nat → Nat} {σ τ : HS} {live : Nat → Bool} {pl : Nat → Nat → Option Nat} {s : PS} {tb : Nat} {tp : Nat → Int64} {nx : Nat} {V : Nat → Nat → Int64} {ol : Nat → Int64} {cb : Nat} {dp : Bool}
theorem j_look (cx : Ctx D W R G hd n F) (ji : JI D W R G hd σ) (p1 : Int32) : ∃ τ c, D_LW_look_0_30 F n σ p1 = some (τ, c) ∧ ∃ υ r, D_MD_look F n τ p1 = some (υ, r) ∧ υ.1 20 0 = c ∧ (c = 0 → υ.2 30 0 = r.toInt64) ∧ JI D W R G hd υ := by
  obtain ⟨ge, ln, hF⟩ := id cx
  have gn := ge.num
  obtain ⟨⟨_, _⟩, ⟨_, _, _⟩, ⟨_, _⟩, ⟨_, _⟩, ⟨_, _⟩, _, _, _, _⟩ := id gn
  have ji0 := ji
  obtain ⟨live, pl, s, tb, tp, nx, V, ol, cb, dp, ci, mr, mx, gi, hz, hnx⟩ := ji
  obtain ⟨⟨a1, a2, a3, a4, a5⟩, b1, b2⟩ := id ci
  obtain ⟨lk, kw, lv⟩ := gi.base
  -- the class answers v, the reference too
  have good : ∀ (τ : HS) (v : Int32) (w : Nat), PlOnly σ τ → CI D W R G hd live pl s tb tp nx τ → D_SF_look F n σ (nI w) = some (τ, Sum.inl v) → (∀ υ, MR D W R G hd live pl s υ → MX W R G tb tp nx V ol cb dp υ → MR D W R G hd live pl s (stF υ 20 0 0) → MX W R G tb tp nx V ol cb dp (stF υ 20 0 0) → D_MD_look F n υ (nI w) = some (stF υ 20 0 0, v)) → ∃ τ c, D_LW_look_0_30 F n σ (nI w) = some (τ, c) ∧ ∃ υ r, D_MD_look F n τ (nI w) = some (υ, r) ∧ υ.1 20 0 = c ∧ (c = 0 → υ.2 30 0 = r.toInt64) ∧ JI D W R G hd υ := by
    intro τ v w t2 t3 e1 e2
    have hi : Hi σ (stL τ 30 0 v.toInt64) := fun a h => t2.hi a h
    refine ⟨stL τ 30 0 v.toInt64, 0, ?_, stF (stL τ 30 0 v.toInt64) 20 0 0, v, e2 _ (mr.hi hi) (mx.hi hi) ((mr.hi hi).thr 0) ((mx.hi hi).thr 0), thr_s, fun _ => by rw [stF_2, out_s], live, pl, s, tb, tp, nx, V, ol, cb, dp, (t3.lo Lo.out).lo Lo.thr, (mr.hi hi).thr 0, (mx.hi hi).thr 0, gi, hz, hnx⟩
    rw [D_LW_look_0_30, e1]
    simp only [Option.bind_some, nm_q, nm2_q, xc_l, in30 ln]; rfl
  have bad : (p1 < 0 ∨ (¬ p1 < 0 ∧ ¬ p1 ≤ 12)) → ∃ τ c, D_LW_look_0_30 F n σ p1 = some (τ, c) ∧ ∃ υ r, D_MD_look F n τ p1 = some (υ, r) ∧ υ.1 20 0 = c ∧ (c = 0 → υ.2 30 0 = r.toInt64) ∧ JI D W R G hd υ := by
    intro hb
    have hne : ∀ k : Nat, k ≤ 12 → ¬ p1 = nI k := fun k hk z => by
      subst z
      rcases hb with y | ⟨y1, y2⟩
      · exact nI_pos (by omega) y
      · exact y2 (nI_le (a := k) (b := 12) hk (by omega))
    refine ⟨σ, 1, ?_, stF σ 20 0 1, 0, ?_, thr_s, fun z => absurd z (by decide), ji0.thr 1⟩
    · have e : D_SF_look F n σ p1 = some (σ, Sum.inr 1) := by
        rw [D_SF_look]
        have ch : ∀ (A0 A1 A2 A3 A4 A5 A6 A7 A8 A9 A10 A11 A12 : Option (HS × (Int32 ⊕ Nat))) (B : Option (HS × (Int32 ⊕ Nat))), (if p1 = (0 : Int32) then A0 else (if p1 = (1 : Int32) then A1 else (if p1 = (2 : Int32) then A2 else (if p1 = (3 : Int32) then A3 else (if p1 = (4 : Int32) then A4 else (if p1 = (5 : Int32) then A5 else (if p1 = (6 : Int32) then A6 else (if p1 = (7 : Int32) then A7 else (if p1 = (8 : Int32) then A8 else (if p1 = (9 : Int32) then A9 else (if p1 = (10 : Int32) then A10 else (if p1 = (11 : Int32) then A11 else (if p1 = (12 : Int32) then A12 else B))))))))))))) = B := by
          intro A0 A1 A2 A3 A4 A5 A6 A7 A8 A9 A10 A11 A12 B
          rw [if_neg (show ¬ p1 = (0 : Int32) from hne 0 (by omega)), if_neg (show ¬ p1 = (1 : Int32) from hne 1 (by omega)), if_neg (show ¬ p1 = (2 : Int32) from hne 2 (by omega)), if_neg (show ¬ p1 = (3 : Int32) from hne 3 (by omega)), if_neg (show ¬ p1 = (4 : Int32) from hne 4 (by omega)), if_neg (show ¬ p1 = (5 : Int32) from hne 5 (by omega)), if_neg (show ¬ p1 = (6 : Int32) from hne 6 (by omega)), if_neg (show ¬ p1 = (7 : Int32) from hne 7 (by omega)), if_neg (show ¬ p1 = (8 : Int32) from hne 8 (by omega)), if_neg (show ¬ p1 = (9 : Int32) from hne 9 (by omega)), if_neg (show ¬ p1 = (10 : Int32) from hne 10 (by omega)), if_neg (show ¬ p1 = (11 : Int32) from hne 11 (by omega)), if_neg (show ¬ p1 = (12 : Int32) from hne 12 (by omega))]
        rcases hb with z | ⟨z1, z2⟩
        · rw [if_pos (show p1 < 2 from by
            rw [Int32.lt_iff_toInt_lt] at z ⊢
            have h1 : (2 : Int32).toInt = 2 := rfl
            have h2 : (0 : Int32).toInt = 0 := rfl
            omega), ch]
        · rw [if_neg (show ¬ p1 < 2 from fun y => z2 (by
            rw [Int32.lt_iff_toInt_lt] at y
            rw [Int32.le_iff_toInt_le]
            have h1 : (2 : Int32).toInt = 2 := rfl
            have h2 : (12 : Int32).toInt = 12 := rfl
            omega)), if_pos (show (4 : Int32) < p1 from by
            rw [Int32.le_iff_toInt_le] at z2
            rw [Int32.lt_iff_toInt_lt]
            have h1 : (4 : Int32).toInt = 4 := rfl
            have h2 : (12 : Int32).toInt = 12 := rfl
            omega), ch]
      rw [D_LW_look_0_30, e]; rfl
    · rw [D_MD_look]
      simp only [jn_q, f_1, f_0, Option.bind_some, nm2_q]
      rcases hb with z | ⟨z1, z2⟩
      · rw [if_pos z]; rfl
      · rw [if_neg z1, if_neg z2]; rfl
  by_cases e1 : p1 < 0
  · exact bad (Or.inl e1)
  by_cases e2 : p1 ≤ 12
  case neg => exact bad (Or.inr ⟨e1, e2⟩)
  obtain ⟨w, hw, rfl⟩ := nI_of e1
  have hw : w ≤ 12 := (nI_leI (a := w) (b := 12) hw (by omega)).mp e2
  obtain ⟨τ, t1, t2, t3, t4⟩ := ci.find cx kw
  have epw := epl_PW (D := D) (W := W) (R := R) (G := G) (hd := hd) (s := s) (pl := pl) ge gi.pw
  have hcw : w = 0 ∨ w = 1 ∨ w = 2 ∨ w = 3 ∨ w = 4 ∨ w = 5 ∨ w = 6 ∨ w = 7 ∨ w = 8 ∨ w = 9 ∨ w = 10 ∨ w = 11 ∨ w = 12 := by omega
  rcases hcw with rfl | rfl | rfl | rfl | rfl | rfl | rfl | rfl | rfl | rfl | rfl | rfl | rfl
  · refine good σ (b2i s.2.1) 0 PlOnly.rf ci ?_ (fun υ h1 h2 h3 h4 => ?_)
    · have : D_SF_look F n σ (nI 0) = (if (σ.1 4 0) = 0 then some (σ, Sum.inl (0 : Int32)) else some (σ, Sum.inl (1 : Int32))) := rfl
      rw [this, a4.1]
      cases s.2.1 <;> rfl
    · have : D_MD_look F n υ (nI 0) = (if ((stF υ 20 0 0).1 20 12) = 0 then some (stF υ 20 0 0, (0 : Int32)) else some (stF υ 20 0 0, (1 : Int32))) := rfl
      rw [this, h3.2.2.2.2.1]
      cases s.2.1 <;> rfl
  · refine good σ s.2.2.2 1 PlOnly.rf ci ?_ (fun υ h1 h2 h3 h4 => ?_)
    · have : D_SF_look F n σ (nI 1) = some (σ, Sum.inl (σ.1 4 2)) := rfl
      rw [this, a4.2.2.1]
    · have : D_MD_look F n υ (nI 1) = some (stF υ 20 0 0, ((stF υ 20 0 0).1 20 14)) := rfl
      rw [this, h3.2.2.2.2.2.2.1]
  · refine good τ (nI (cnt2 (lst (epl D (W * G) hd s.1 pl s.2.1)) (W * G) R 0)) 2 t2 t3 ?_ (fun υ h1 h2 h3 h4 => ?_)
    · have : D_SF_look F n σ (nI 2) = (D_SF_findPlacesIfOff F n σ).bind (fun σ40 => (D_PL_countLost F n σ40).bind (fun x => some (σ40, Sum.inl x))) := rfl
      rw [this, t1, Option.bind_some, e_PL_countLost cx t3.1.1 t3.1.2.2.1 t4 epw]; rfl
    · have : D_MD_look F n υ (nI 2) = (D_MD_count F n (stF υ 20 0 0) (nI 2)).bind (fun x => some (stF υ 20 0 0, x)) := rfl
      rw [this, e_MD_count cx (h3.mb cx lk kw gi.pw) (by omega), cw_2 gn]; rfl
  · refine good τ (nI (cnt2 (spo s.1 (epl D (W * G) hd s.1 pl s.2.1)) (W * G) R 0)) 3 t2 t3 ?_ (fun υ h1 h2 h3 h4 => ?_)
    · have : D_SF_look F n σ (nI 3) = (D_SF_findPlacesIfOff F n σ).bind (fun σ40 => (D_PL_countSpoilt F n σ40).bind (fun x => some (σ40, Sum.inl x))) := rfl
      rw [this, t1, Option.bind_some, e_PL_countSpoilt cx t3.1.1 t3.1.2.2.1 t4 epw]; rfl
    · have : D_MD_look F n υ (nI 3) = (D_MD_count F n (stF υ 20 0 0) (nI 3)).bind (fun x => some (stF υ 20 0 0, x)) := rfl
      rw [this, e_MD_count cx (h3.mb cx lk kw gi.pw) (by omega), cw_3 gn]; rfl
  · refine good τ (nI (cnt2 (fsp (W * G) hd (epl D (W * G) hd s.1 pl s.2.1) live) (D - W * G) R 0)) 4 t2 t3 ?_ (fun υ h1 h2 h3 h4 => ?_)
    · have : D_SF_look F n σ (nI 4) = (D_SF_findPlacesIfOff F n σ).bind (fun σ40 => (D_PL_countFreeSpares F n σ40).bind (fun x => some (σ40, Sum.inl x))) := rfl
      rw [this, t1, Option.bind_some, e_PL_countFreeSpares cx t3.1.1 t4 t3.1.2.1]; rfl
    · have : D_MD_look F n υ (nI 4) = (D_MD_count F n (stF υ 20 0 0) (nI 4)).bind (fun x => some (stF υ 20 0 0, x)) := rfl
      rw [this, e_MD_count cx (h3.mb cx lk kw gi.pw) (by omega), cw_4 gn]; rfl
  · refine good σ (nI (R * G * (W - 1))) 5 PlOnly.rf ci ?_ (fun υ h1 h2 h3 h4 => ?_)
    · have : D_SF_look F n σ (nI 5) = some (σ, Sum.inl (σ.1 1 5)) := rfl
      rw [this, a1.1.2.2.2.2.2.1]
    · have : D_MD_look F n υ (nI 5) = (D_MD_blocks F n (stF υ 20 0 0)).bind (fun x => some (stF υ 20 0 0, x)) := rfl
      rw [this, e_MD_blocks gn h3.1]; rfl
  · refine good σ (nI 0) 6 PlOnly.rf ci ?_ (fun υ h1 h2 h3 h4 => ?_)
    · have : D_SF_look F n σ (nI 6) = some (σ, Sum.inl (σ.1 0 7)) := rfl
      rw [this, b2.2.2.1]
    · have : D_MD_look F n υ (nI 6) = some (stF υ 20 0 0, (0 : Int32)) := rfl
      rw [this]; rfl
  · refine good σ (nI (R * G)) 7 PlOnly.rf ci ?_ (fun υ h1 h2 h3 h4 => ?_)
    · have : D_SF_look F n σ (nI 7) = some (σ, Sum.inl (σ.1 1 4)) := rfl
      rw [this, a1.1.2.2.2.2.1]
    · have : D_MD_look F n υ (nI 7) = some (stF υ 20 0 0, (((stF υ 20 0 0).1 20 3) * ((stF υ 20 0 0).1 20 4))) := rfl
      rw [this, h3.1.1.2.2.1, h3.1.1.2.2.2, pk_mul]
  · refine good σ (nI nx) 8 PlOnly.rf ci ?_ (fun υ h1 h2 h3 h4 => ?_)
    · have : D_SF_look F n σ (nI 8) = some (σ, Sum.inl (σ.1 0 6)) := rfl
      rw [this, b2.2.1]
    · have : D_MD_look F n υ (nI 8) = some (stF υ 20 0 0, ((stF υ 20 0 0).1 20 15)) := rfl
      rw [this, h4.1.1]
  · refine good σ (nI W) 9 PlOnly.rf ci ?_ (fun υ h1 h2 h3 h4 => ?_)
    · have : D_SF_look F n σ (nI 9) = some (σ, Sum.inl (σ.1 1 1)) := rfl
      rw [this, a1.1.2.1]
    · have : D_MD_look F n υ (nI 9) = some (stF υ 20 0 0, ((stF υ 20 0 0).1 20 2)) := rfl
      rw [this, h3.1.1.2.1]
  · refine good σ (nI D) 10 PlOnly.rf ci ?_ (fun υ h1 h2 h3 h4 => ?_)
    · have : D_SF_look F n σ (nI 10) = some (σ, Sum.inl (σ.1 1 0)) := rfl
      rw [this, a1.1.1]
    · have : D_MD_look F n υ (nI 10) = some (stF υ 20 0 0, ((stF υ 20 0 0).1 20 1)) := rfl
      rw [this, h3.1.1.1]
  · refine good σ (nI (cnt live D 0)) 11 PlOnly.rf ci ?_ (fun υ h1 h2 h3 h4 => ?_)
    · have : D_SF_look F n σ (nI 11) = (D_RK_countLive F n σ).bind (fun x => some (σ, Sum.inl x)) := rfl
      rw [this, e_RK_countLive cx a1 a2]; rfl
    · have : D_MD_look F n υ (nI 11) = (D_MD_look_L146 F n (stF υ 20 0 0) F (nI 0) (nI 0)).bind (fun x => some (stF υ 20 0 0, x)) := rfl
      rw [this, e_MD_look146 cx h3.1 h3.2.1]; rfl
  · refine good σ (nI tb) 12 PlOnly.rf ci ?_ (fun υ h1 h2 h3 h4 => ?_)
    · have : D_SF_look F n σ (nI 12) = some (σ, Sum.inl (σ.1 0 5)) := rfl
      rw [this, b2.1]
    · have : D_MD_look F n υ (nI 12) = some (stF υ 20 0 0, ((stF υ 20 0 0).1 20 17)) := rfl
      rw [this, h4.1.2.1]
end J4
