section GN2
variable {D W R G : Nat} {hd : Nat → Nat → Nat} {live : Nat → Bool} {K : Rk} {V : Nat → Nat → Int64} {pl : Nat → Nat → Option Nat} {ol : Nat → Int64} {cb : Nat} {lf : Nat} {wr : Int32}
theorem lg_set {row d : Nat} {x : Option CellV} (lg : ∀ d v, K d R = some v → v.1 = 0) (hr : row < R) : ∀ d1 v, setK K d row x d1 R = some v → v.1 = 0 := fun d1 v e => by
  rw [setK_ne (fun z => by omega)] at e
  exact lg d1 v e
theorem GON.reb (ge : Geo D W R G hd) (h : GON D W R G hd live K pl V) {row p d : Nat} (hr : row < R) (h1 : ffs D (W * G) hd pl live row = some d) (h2 : frb (W * G) hd pl live row = some p) : GIs D W R G hd live (setP pl row p (some d)) (aput (K, true, lf, wr) d row (p + 1, rdv W K pl row (p / W) (p % W), zr)).1 V ol cb false := by
  obtain ⟨⟨_, _⟩, ⟨_, _, _⟩, ⟨_, _⟩, ⟨_, _⟩, ⟨_, _⟩, _, _, _, _⟩ := ge.num
  obtain ⟨gb, n3, lg⟩ := id h
  obtain ⟨d1, d2, q, d3, d4, d5⟩ := ffs_lt ge h1
  obtain ⟨p1, p2, p3⟩ := frb_at h2
  have hb := aput_b (s := (K, true, lf, wr)) (d := d) (o := row) (c := (p + 1, rdv W K pl row (p / W) (p % W), zr))
  by_cases e : lf = 1
  · have hb : _ = false := hb.trans (decide_eq_false (fun z => z e))
    rw [aput_off hb]
    exact gis_off (h.off ge ol cb)
  · have hb : _ = true := hb.trans (decide_eq_true e)
    rw [aput_ok hb]
    obtain ⟨f1, f2⟩ := Bool.and_eq_true_iff.mp d2
    have f1 : held (W * G) pl row d = false := by
      revert f1
      cases held (W * G) pl row d <;> simp
    subst d5
    have hpW := Nat.div_add_mod p W
    have g1 := gb.move ge (P := rdv W K pl row (p / W) (p % W)) hr p1 d4 (Or.inr d3) f2 (fun q1 hq1 => held_no.mp f1 q1 hq1) (gb.1.2.1 _ _ p3) (fun i hi => by
      rw [gb.rd ge (idl_SX (by omega) V) hr (Nat.div_lt_of_lt_mul p1) (Nat.mod_lt _ (by omega)) hi, hpW])
    exact gis_on ⟨g1, n3.move p2, lg_set lg hr⟩
theorem GON.cpy (ge : Geo D W R G hd) (h : GON D W R G hd live K pl V) {row p : Nat} (h1 : fcb R (W * G) hd live K = some (row, p)) : GIs D W R G hd live (setP pl row p (some (hd row p))) (aCpy (K, true, lf, wr) (hd row p) row p (pl row p) (rdv W K pl row (p / W) (p % W))).1 V ol cb false := by
  obtain ⟨⟨_, _⟩, ⟨_, _, _⟩, ⟨_, _⟩, ⟨_, _⟩, ⟨_, _⟩, _, _, _, _⟩ := ge.num
  have inj := ge.2.2.2.2.2.1
  obtain ⟨gb, n3, lg⟩ := id h
  obtain ⟨hr, hp, hc⟩ := fcb_at h1
  obtain ⟨c1, c2⟩ := Bool.and_eq_true_iff.mp hc
  have hn : K (hd row p) row = none := by
    revert c2
    cases K (hd row p) row <;> simp
  have hpW := Nat.div_add_mod p W
  have hfree : ∀ q, q < W * G → pl row q ≠ some (hd row p) := fun q hq e => by
    obtain ⟨v, k1, _⟩ := gb.2.2.2.1 row q _ hr hq e
    rw [hn] at k1; cases k1
  have g1 := gb.move ge (P := rdv W K pl row (p / W) (p % W)) hr hp (by omega) (Or.inl rfl) c1 hfree hn (fun i hi => by
      rw [gb.rd ge (idl_SX (by omega) V) hr (Nat.div_lt_of_lt_mul hp) (Nat.mod_lt _ (by omega)) hi, hpW])
  have hb := aput_b (s := (K, true, lf, wr)) (d := hd row p) (o := row) (c := (p + 1, rdv W K pl row (p / W) (p % W), zr))
  unfold aCpy andT
  by_cases e : lf = 1
  · have hb : _ = false := hb.trans (decide_eq_false (fun z => z e))
    rw [hb, if_neg (by decide), aput_off hb]
    exact gis_off (h.off ge ol cb)
  · have hb : _ = true := hb.trans (decide_eq_true e)
    rw [hb, if_pos rfl, aput_ok hb]
    cases ho : pl row p with
    | none => exact gis_on ⟨g1, n3.move ho, lg_set lg hr⟩
    | some d0 =>
      show GIs D W R G hd live (setP pl row p (some (hd row p))) (aput (setK K (hd row p) row (some (p + 1, rdv W K pl row (p / W) (p % W), zr)), true, lf - 1, wr + 1) d0 row (0, zr, zr)).1 V ol cb false
      have hb2 := aput_b (s := (setK K (hd row p) row (some (p + 1, rdv W K pl row (p / W) (p % W), zr)), true, lf - 1, wr + 1)) (d := d0) (o := row) (c := (0, zr, zr))
      by_cases e2 : lf - 1 = 1
      · have hb2 : _ = false := hb2.trans (decide_eq_false (fun z => z e2))
        rw [aput_off hb2]
        exact gis_off ⟨0, 0, 0, g1.off ge (NW.move n3), fun z => by cases z⟩
      · have hb2 : _ = true := hb2.trans (decide_eq_true e2)
        rw [aput_ok hb2]
        obtain ⟨v0, k1, k2⟩ := gb.2.2.2.1 row p d0 hr hp ho
        have hl0 := gb.alive hr hp ho
        obtain ⟨q, hq, hq2⟩ := ge.2.2.2.2.2.2 row d0 (gb.1.2.2.2.1 row p d0 hr hp ho)
        subst hq2
        have hqN : W * G ≤ q := by
          rcases Nat.lt_or_ge q (W * G) with z | z
          · have := (gb.2.1 row q v0 hr z k1).1
            have : q = p := by omega
            rw [this, hn] at k1; cases k1
          · exact z
        have hne : hd row q ≠ hd row p := fun z => by rw [z, hn] at k1; cases k1
        have g2 := g1.clear ge hr hqN hq hl0 (fun q1 hq1 e3 => by
          by_cases z : q1 = p
          · rw [z, setP_at] at e3; exact hne (Option.some.inj e3).symm
          · rw [setP_ne (fun y => z y.2)] at e3
            exact z (gb.1.2.2.2.2 row q1 p _ hr hq1 hp e3 ho))
        refine gis_on ⟨g2, fun row1 q1 v1 p1 hr1 hq1 hq2 hp1 e3 ez et => ?_, lg_set (lg_set lg hr) hr⟩
        by_cases z : hd row1 q1 = hd row q ∧ row1 = row
        · rw [z.1, z.2, setK_at] at e3; cases e3; cases et
        · rw [setK_ne z] at e3
          by_cases z2 : hd row1 q1 = hd row p ∧ row1 = row
          · obtain ⟨y1, y2⟩ := z2
            subst y2
            have := inj row1 q1 p hq2 (by omega) y1
            omega
          · rw [setK_ne z2] at e3
            have w := n3 row1 q1 v1 p1 hr1 hq1 hq2 hp1 e3 ez et
            rw [setP_ne (fun y => ?_)]
            · exact w
            · obtain ⟨y1, y2⟩ := y
              subst y1 y2
              rw [ho] at w
              exact z ⟨(Option.some.inj w).symm, rfl⟩
theorem GON.scr (ge : Geo D W R G hd) (h : GON D W R G hd live K pl V) {row gi j d : Nat} (hr : row < R) (hg : gi < G) (h1 : spc W K pl row gi = some j) (h2 : pl row (W * gi + j) = some d) : GIs D W R G hd live pl (aput (K, true, lf, wr) d row (W * gi + j + 1, oth W K pl row gi j, zr)).1 V ol cb false := by
  obtain ⟨⟨_, _⟩, ⟨_, _, _⟩, ⟨_, _⟩, ⟨_, _⟩, ⟨_, _⟩, _, _, _, _⟩ := ge.num
  obtain ⟨gb, n3, lg⟩ := id h
  obtain ⟨_, j2, j3, _⟩ := srch_some h1
  have hj : j < W := by omega
  have hbad : isvo K row (pl row (W * gi + j)) = false := by
    have j3 : spo K pl row (W * gi + j) = true := j3
    unfold spo at j3
    rw [h2] at j3 ⊢
    have j3 : (!isv (K d row)) = true := j3
    show isv (K d row) = false
    revert j3
    cases isv (K d row) <;> simp
  have hb := aput_b (s := (K, true, lf, wr)) (d := d) (o := row) (c := (W * gi + j + 1, oth W K pl row gi j, zr))
  by_cases e : lf = 1
  · have hb : _ = false := hb.trans (decide_eq_false (fun z => z e))
    rw [aput_off hb]
    exact gis_off (h.off ge ol cb)
  · have hb : _ = true := hb.trans (decide_eq_true e)
    rw [aput_ok hb]
    have g1 := gb.put ge (P := oth W K pl row gi j) (I' := idl W G V V) (V' := V) hr (pos_lt hg hj) h2 (fun i hi => gb.othv ge (idl_SX (by omega) V) hr hg hj hbad hi) (fun _ _ _ _ _ _ _ _ => rfl) (fun _ _ => rfl) (Or.inl n3)
    exact gis_on ⟨g1, n3.put h2, lg_set lg hr⟩
theorem GON.holv (ge : Geo D W R G hd) (h : GON D W R G hd live K pl V) {row gi : Nat} (hr : row < R) (hg : gi < G) (h1 : spc W K pl row gi = none) : hol W K pl row gi = false := by
  obtain ⟨⟨_, _⟩, ⟨_, _, _⟩, ⟨_, _⟩, ⟨_, _⟩, ⟨_, _⟩, _, _, _, _⟩ := ge.num
  obtain ⟨gb, n3, lg⟩ := id h
  cases hp : allN (fun j => decide (pl row (W * gi + j) ≠ none)) W with
  | false => unfold hol; rw [hp]; rfl
  | true =>
    have hv : ∀ j, j < W → isvo K row (pl row (W * gi + j)) = true := by
      intro j hj
      have a1 := of_decide_eq_true (allN_iff.mp hp j hj)
      have a2 := srch_none h1 j (by omega) (by omega)
      have a2 : spo K pl row (W * gi + j) = false := a2
      unfold spo at a2
      cases he : pl row (W * gi + j) with
      | none => exact absurd he a1
      | some d =>
        rw [he] at a2
        exact not_f a2
    have : allN (fun i => decide (xorN (fun j => rwo K row (pl row (W * gi + j)) i) W = 0)) 8 = true := by
      rw [allN_iff]
      intro i hi
      refine decide_eq_true ?_
      rw [xorN_congr (g := fun j => idl W G V V row (W * gi + j) i) (fun j hj => gb.val ge hr (pos_lt hg hj) (hv j hj) hi)]
      exact idl_SX (by omega) V row gi i hr hg hi
    unfold hol
    rw [this, Bool.not_true, Bool.and_false]
theorem GON.spoil (ge : Geo D W R G hd) (h : GON D W R G hd live K pl V) {row gi j d t : Nat} {P dm dm2 : Nat → Int64} (hr : row < R) (hg : gi < G) (hj : j < W) (hp : pl row (W * gi + j) = some d) (hk : K d row = some (t, P, dm)) (ht : ∀ i, 48 ≤ i → i < 64 → gb (dm2 8) i = false) (ha : alw W K pl row gi j dm2 = true) : GON D W R G hd live (setK K d row (some (t, P, dm2))) pl V := by
  obtain ⟨⟨_, _⟩, ⟨_, _, _⟩, ⟨_, _⟩, ⟨_, _⟩, ⟨_, _⟩, _, _, _, _⟩ := ge.num
  have hpp := pos_lt hg hj
  obtain ⟨gb, n3, lg⟩ := id h
  have hl := gb.alive hr hpp hp
  obtain ⟨⟨lv, lk, kw, pw⟩, t1, t2, t3, t4, t5, hab⟩ := id gb
  have hd1 := pw.1 row _ d hr hpp hp
  have hv := kw d row _ hd1 (show row ≤ R by omega) hk
  have hvok : vOK (t, P, dm2) := ⟨hv.1, ht, fun z => by
    have z : cok dm2 = true := z
    unfold alw at ha
    rw [if_pos z] at ha
    exact ha⟩
  obtain ⟨v0, k1, k2⟩ := t3 row _ d hr hpp hp
  rw [hk] at k1
  cases k1
  have k2 : t = W * gi + j + 1 := k2
  refine ⟨⟨⟨lv, lk.set hl, kw.set hvok, pw⟩, fun row1 p1 v1 hr1 hp1 e => ?_, fun row1 q v1 hr1 h1 h2 e => ?_, fun row1 p1 d1 hr1 hp1 e => ?_, fun d1 v1 e => ?_, fun row1 g1 hr1 hg1 => ?_, hab⟩, fun row1 q v1 p1 hr1 h1 h2 hp1 e ez et => ?_, lg_set lg hr⟩
  · by_cases z : hd row1 p1 = d ∧ row1 = row
    · obtain ⟨z1, z2⟩ := z
      subst z2
      rw [z1, setK_at] at e
      cases e
      exact t1 row1 p1 (t, P, dm) hr1 hp1 (by rw [z1]; exact hk)
    · rw [setK_ne z] at e; exact t1 row1 p1 v1 hr1 hp1 e
  · by_cases z : hd row1 q = d ∧ row1 = row
    · obtain ⟨z1, z2⟩ := z
      subst z2
      rw [z1, setK_at] at e
      cases e
      obtain ⟨x1, x2⟩ := t2 row1 q (t, P, dm) hr1 h1 h2 (by rw [z1]; exact hk)
      refine ⟨x1, fun p1 hp1 y _ => x2 p1 hp1 y (Or.inr ?_)⟩
      have y : t = p1 + 1 := y
      have : p1 = W * gi + j := by omega
      rw [this, z1]; exact hp
    · rw [setK_ne z] at e; exact t2 row1 q v1 hr1 h1 h2 e
  · by_cases z : d1 = d ∧ row1 = row
    · obtain ⟨z1, z2⟩ := z
      subst z1 z2
      have : p1 = W * gi + j := pw.2 row1 p1 _ d1 hr1 hp1 hpp e hp
      exact ⟨_, setK_at, by rw [this]; exact k2⟩
    · rw [setK_ne z]; exact t3 row1 p1 d1 hr1 hp1 e
  · rw [setK_ne (fun z => by omega)] at e
    exact t4 d1 v1 e
  · -- only the spoilt column can have changed
    have hsame : ∀ j1, j1 < W → ¬ (row1 = row ∧ W * g1 + j1 = W * gi + j) → isvo (setK K d row (some (t, P, dm2))) row1 (pl row1 (W * g1 + j1)) = isvo K row1 (pl row1 (W * g1 + j1)) := by
      intro j1 hj1 hne
      cases he : pl row1 (W * g1 + j1) with
      | none => rfl
      | some d1 =>
        show isv (setK K d row (some (t, P, dm2)) d1 row1) = isv (K d1 row1)
        rw [setK_ne (fun z => ?_)]
        obtain ⟨z1, z2⟩ := z
        subst z1 z2
        exact hne ⟨rfl, pw.2 row1 _ _ d1 hr1 (pos_lt hg1 hj1) hpp he hp⟩
    by_cases hs : row1 = row ∧ g1 = gi
    · obtain ⟨s1, s2⟩ := hs
      subst s1 s2
      unfold alw at ha
      cases hz : z9 dm2 with
      | true =>
        refine Nat.le_trans (cnt_mono (fun j1 _ hj1 e => ?_)) (t5 row1 g1 hr1 hg1)
        by_cases ej : j1 = j
        · rw [ej, hp] at e
          have e : (!isv (setK K d row1 (some (t, P, dm2)) d row1)) = true := e
          rw [setK_at] at e
          have e : (!z9 dm2) = true := e
          rw [hz] at e; cases e
        · rw [hsame j1 (by omega) (fun y => by omega)] at e; exact e
      | false =>
        have hc : cok dm2 = false := by
          cases hc : cok dm2 with
          | false => rfl
          | true => rw [hc, if_pos rfl, hz] at ha; cases ha
        rw [hc, if_neg (by decide)] at ha
        have hall : ∀ j1, j1 < W → j1 ≠ j → isvo K row1 (pl row1 (W * g1 + j1)) = true := by
          intro j1 hj1 hne
          have := allN_iff.mp ha j1 hj1
          have this : (decide (j1 = j) || isvo K row1 (pl row1 (W * g1 + j1))) = true := this
          rw [decide_eq_false hne, Bool.false_or] at this
          exact this
        have : cnt (fun j1 => !isvo (setK K d row1 (some (t, P, dm2))) row1 (pl row1 (W * g1 + j1))) W 0 ≤ cnt (fun j1 => decide (j1 = j)) W 0 := by
          refine cnt_mono (fun j1 _ hj1 e => ?_)
          by_cases ej : j1 = j
          · exact decide_eq_true ej
          · rw [hsame j1 (by omega) (fun y => by omega), hall j1 (by omega) ej] at e; cases e
        refine Nat.le_trans this ?_
        obtain ⟨k, hk2⟩ : ∃ k, W = j + (1 + k) := ⟨W - j - 1, by omega⟩
        rw [hk2, cnt_add, cnt_add, cnt_false (fun i _ hi => decide_eq_false (by omega)), cnt_false (a := 0 + j + 1) (fun i h1 _ => decide_eq_false (by omega))]
        show 0 + (cnt (fun j1 => decide (j1 = j)) 1 (0 + j) + 0) ≤ 1
        have := cnt_le (f := fun j1 => decide (j1 = j)) (m := 1) (a := 0 + j)
        omega
    · rw [cnt_congr (g := fun j1 => !isvo K row1 (pl row1 (W * g1 + j1))) (fun j1 _ hj1 => ?_)]
      · exact t5 row1 g1 hr1 hg1
      · show (!isvo (setK K d row (some (t, P, dm2))) row1 (pl row1 (W * g1 + j1))) = !isvo K row1 (pl row1 (W * g1 + j1))
        rw [hsame j1 (by omega) (fun y => hs ⟨y.1, ?_⟩)]
        have e1 := (posd (W := W) (gi := g1) (j := j1) (by omega)).1
        rw [y.2, (posd hj).1] at e1
        exact e1.symm
  · by_cases z : hd row1 q = d ∧ row1 = row
    · obtain ⟨z1, z2⟩ := z
      subst z2
      rw [z1, setK_at] at e
      cases e
      have et : t = p1 + 1 := et
      have : p1 = W * gi + j := by omega
      rw [this, z1]; exact hp
    · rw [setK_ne z] at e
      exact n3 row1 q v1 p1 hr1 h1 h2 hp1 e ez et
/-- the reference refuses a spoil as the class does -/
theorem spoil_same {row gi j d t : Nat} {P dm2 : Nat → Int64} (pw : PW D R (W * G) pl) (t5 : T5 W G R K pl) (hr : row < R) (hg : gi < G) (hj : j < W) (hp : pl row (W * gi + j) = some d) : (!decide (2 ≤ cnt (fun j1 => !isvo (setK K d row (some (t, P, dm2))) row (pl row (W * gi + j1))) W 0) && !(!z9 dm2 && cok dm2)) = alw W K pl row gi j dm2 := by
  have hpp := pos_lt hg hj
  have hsame : ∀ j1, j1 < W → j1 ≠ j → isvo (setK K d row (some (t, P, dm2))) row (pl row (W * gi + j1)) = isvo K row (pl row (W * gi + j1)) := by
    intro j1 hj1 hne
    cases he : pl row (W * gi + j1) with
    | none => rfl
    | some d1 =>
      show isv (setK K d row (some (t, P, dm2)) d1 row) = isv (K d1 row)
      rw [setK_ne (fun z => ?_)]
      obtain ⟨z1, z2⟩ := z
      subst z1
      have := pw.2 row _ _ d1 hr (pos_lt hg hj1) hpp he hp
      omega
  have hself : isvo (setK K d row (some (t, P, dm2))) row (pl row (W * gi + j)) = z9 dm2 := by
    rw [hp]
    show isv (setK K d row (some (t, P, dm2)) d row) = _
    rw [setK_at]; rfl
  unfold alw
  cases hz : z9 dm2 with
  | true =>
    rw [if_pos (cok_z hz)]
    have : cnt (fun j1 => !isvo (setK K d row (some (t, P, dm2))) row (pl row (W * gi + j1))) W 0 ≤ 1 := by
      refine Nat.le_trans (cnt_mono (fun j1 _ hj1 e => ?_)) (t5 row gi hr hg)
      by_cases ej : j1 = j
      · rw [ej, hself, hz] at e; cases e
      · rw [hsame j1 (by omega) ej] at e; exact e
    rw [decide_eq_false (by omega)]; rfl
  | false =>
    cases hc : cok dm2 with
    | true => rw [if_pos rfl]; simp
    | false =>
      rw [if_neg (by decide)]
      simp only [Bool.not_false, Bool.and_false, Bool.and_true]
      cases ho : oav W K pl row gi j with
      | true =>
        have hall : ∀ j1, j1 < W → j1 ≠ j → isvo K row (pl row (W * gi + j1)) = true := by
          intro j1 hj1 hne
          have this : (decide (j1 = j) || isvo K row (pl row (W * gi + j1))) = true := allN_iff.mp ho j1 hj1
          rw [decide_eq_false hne, Bool.false_or] at this
          exact this
        have h1 : cnt (fun j1 => !isvo (setK K d row (some (t, P, dm2))) row (pl row (W * gi + j1))) W 0 ≤ cnt (fun j1 => decide (j1 = j)) W 0 := by
          refine cnt_mono (fun j1 _ hj1 e => ?_)
          by_cases ej : j1 = j
          · exact decide_eq_true ej
          · rw [hsame j1 (by omega) ej, hall j1 (by omega) ej] at e; cases e
        have h2 : cnt (fun j1 => decide (j1 = j)) W 0 ≤ 1 := by
          obtain ⟨k, hk2⟩ : ∃ k, W = j + (1 + k) := ⟨W - j - 1, by omega⟩
          rw [hk2, cnt_add, cnt_add, cnt_false (fun i _ hi => decide_eq_false (by omega)), cnt_false (a := 0 + j + 1) (fun i h1 _ => decide_eq_false (by omega))]
          have := cnt_le (f := fun j1 => decide (j1 = j)) (m := 1) (a := 0 + j)
          omega
        rw [decide_eq_false (by omega)]; rfl
      | false =>
        obtain ⟨j1, hj1, hne, hb⟩ : ∃ j1, j1 < W ∧ j1 ≠ j ∧ isvo K row (pl row (W * gi + j1)) = false := by
          refine Classical.byContradiction (fun hno => ?_)
          have : oav W K pl row gi j = true := by
            unfold oav
            rw [allN_iff]
            intro j1 hj1
            show (decide (j1 = j) || isvo K row (pl row (W * gi + j1))) = true
            by_cases e : j1 = j
            · rw [decide_eq_true e]; rfl
            · cases hv : isvo K row (pl row (W * gi + j1)) with
              | true => simp
              | false => exact absurd ⟨j1, hj1, e, hv⟩ hno
          rw [ho] at this; cases this
        have h2 : 2 ≤ cnt (fun j1 => !isvo (setK K d row (some (t, P, dm2))) row (pl row (W * gi + j1))) W 0 := by
          rcases Nat.lt_or_ge 1 (cnt (fun j1 => !isvo (setK K d row (some (t, P, dm2))) row (pl row (W * gi + j1))) W 0) with z | z
          · exact z
          · exfalso
            have hT : T5 W 1 1 (fun d1 o => setK K d row (some (t, P, dm2)) d1 row) (fun _ p => pl row (W * gi + p)) := by
              intro r g _ hg0
              have : g = 0 := by omega
              subst this
              rw [Nat.mul_zero]
              simp only [Nat.zero_add]
              refine Nat.le_trans (cnt_mono (fun j2 _ _ e => ?_)) z
              cases he : pl row (W * gi + j2) with
              | none => rfl
              | some d2 => rw [he] at e; exact e
            have w := hT.others (row := 0) (gi := 0) (j := j) (j1 := j1) (by omega) (by omega) hj hj1 (by
              show isvo _ 0 (pl row (W * gi + (W * 0 + j))) = false
              rw [Nat.mul_zero, Nat.zero_add, hp]
              show isv (setK K d row (some (t, P, dm2)) d row) = false
              rw [setK_at]; exact hz) hne
            have w : isvo (fun d1 o => setK K d row (some (t, P, dm2)) d1 row) 0 (pl row (W * gi + (W * 0 + j1))) = true := w
            rw [Nat.mul_zero, Nat.zero_add] at w
            have w2 := hsame j1 hj1 hne
            cases he : pl row (W * gi + j1) with
            | none => rw [he] at w; cases w
            | some d1 =>
              rw [he] at w w2 hb
              rw [hb] at w2
              have w : isv (setK K d row (some (t, P, dm2)) d1 row) = true := w
              have w2 : isv (setK K d row (some (t, P, dm2)) d1 row) = false := w2
              rw [w] at w2; cases w2
        rw [decide_eq_true h2]; rfl
end GN2
