section GP
variable {D W R G : Nat} {hd : Nat → Nat → Nat} {live : Nat → Bool} {K : Rk} {V : Nat → Nat → Int64} {a b c : Nat} {pl : Nat → Nat → Option Nat} {ol : Nat → Int64} {cb : Nat} {dp : Bool}
theorem vt_at {c : Option CellV} {v : CellV} (h : c = some v) (hz : z9 v.2.2 = true) : vt c = v.1 := by
  rw [h]
  show (if z9 v.2.2 = true then v.1 else 0) = v.1
  rw [if_pos hz]
theorem vt_z {K : Rk} {d o : Nat} : vt (setK K d o (some (0, zr, zr)) d o) = 0 := by
  rw [setK_at]
  show (if z9 zr = true then 0 else 0) = 0
  split <;> rfl
/-- a log is cleared -/
theorem GOX.unlog (h : GOX D W R G hd live K V ol cb dp a b c) {d : Nat} (hl : live d = true) (hd2 : dp = true → fnd D (W * G) hd K a (W * b + (W - 1)) ≠ some d) : GOX D W R G hd live (setK K d R (some (0, zr, zr))) V ol cb dp a b c ∧ ∀ row p, row < R → p < W * G → fnd D (W * G) hd K row p = fnd D (W * G) hd (setK K d R (some (0, zr, zr))) row p := by
  obtain ⟨gb, dc⟩ := h
  have ha := gb.2.2.2.2.2.2
  have ef : ∀ row p, row < R → p < W * G → fnd D (W * G) hd K row p = fnd D (W * G) hd (setK K d R (some (0, zr, zr))) row p := fun row p hr _ => (fnd_row (fun d1 => setK_ne (fun y => by omega))).symm
  refine ⟨⟨(gb.log hl (by omega) ha (fun _ _ _ _ => Or.inr ⟨rfl, rfl, rfl⟩) (Or.inl rfl)).ext ef, fun hdp => ?_⟩, ef⟩
  obtain ⟨c1, c2, c3⟩ := dc hdp
  refine ⟨c1, c2.log.ext ef, fun dl e => ?_⟩
  rw [← ef a _ ha.1 (pos_lt ha.2.1 (by omega))] at e
  obtain ⟨w1, w2⟩ := c3 dl e
  have hne : dl ≠ d := fun z => hd2 hdp (by rw [e, z])
  refine ⟨by rw [setK_ne (fun y => hne y.1)]; exact w1, ?_⟩
  rw [← ef a _ ha.1 (pos_lt ha.2.1 (by omega)), isvo_row (K := K) (fun d1 => setK_ne (fun y => by omega))]
  exact w2
/-- one step of the replay -/
theorem GOX.rep (ge : Geo D W R G hd) {lf : Nat} {wr : Int32} (h : GOX D W R G hd live K V ol cb dp a b c) (hpl : ∀ row p, row < R → p < W * G → fnd D (W * G) hd K row p = pl row p) {d : Nat} (ht : vt (K d R) = 1 + 8 * (a * G + b) + c) :
    ((rRep W R pl a b c d ((K, true, lf, wr), dp)).2 = true → ∃ K2 lf2 wr2 dp2, (rRep W R pl a b c d ((K, true, lf, wr), dp)).1 = ((K2, true, lf2, wr2), dp2) ∧ GOX D W R G hd live K2 V ol cb dp2 a b c ∧ (∀ row p, row < R → p < W * G → fnd D (W * G) hd K2 row p = pl row p) ∧ vt (K2 d R) = 0 ∧ ∀ d1, d1 ≠ d → vt (K2 d1 R) = vt (K d1 R)) ∧
    ((rRep W R pl a b c d ((K, true, lf, wr), dp)).2 = false → (rRep W R pl a b c d ((K, true, lf, wr), dp)).1.1.2.1 = false ∧ GOF D W R G hd live (rRep W R pl a b c d ((K, true, lf, wr), dp)).1.1.1 V ol cb (rRep W R pl a b c d ((K, true, lf, wr), dp)).1.2) := by
  obtain ⟨⟨_, _⟩, ⟨_, _, _⟩, ⟨_, _⟩, ⟨_, _⟩, ⟨_, _⟩, _, _, _, _⟩ := ge.num
  obtain ⟨gb, dc⟩ := id h
  obtain ⟨ha1, ha2, ha3⟩ := gb.2.2.2.2.2.2
  have hpc := pos_lt ha2 (show c < W by omega)
  have hpq := pos_lt ha2 (show W - 1 < W by omega)
  obtain ⟨v, hk, hz, hvt⟩ := vt_pos (c := K d R) (by omega)
  have hl := gb.1.2.1.alive (d := d) (o := R) (by rw [hk]; rfl)
  unfold rRep aRep
  cases hc : aCan W K pl a b c d with
  | false =>
    rw [if_neg (show ¬ false = true by decide), if_neg (fun z => by cases z.1)]
    have hd2 : dp = true → fnd D (W * G) hd K a (W * b + (W - 1)) ≠ some d := fun hdp e => by
      have := (dc hdp).2.2 d e
      have hcc : aCan W K pl a b c d = true := by
        unfold aCan
        rw [← hpl a _ ha1 hpq, ← hpl a _ ha1 hpc, decide_eq_true e, this.2]; rfl
      rw [show aCan W K pl a b c d = false from hc] at hcc; cases hcc
    obtain ⟨g2, e2⟩ := h.unlog hl hd2
    have hb := aput_b (s := (K, true, lf, wr)) (d := d) (o := R) (c := (0, zr, zr))
    by_cases e : lf = 1
    · rw [show decide ((K, true, lf, wr).2.2.1 ≠ 1) = false from decide_eq_false (fun z => z e)] at hb
      refine ⟨fun z => ?_, fun _ => ?_⟩
      · have z : (aput (K, true, lf, wr) d R (0, zr, zr)).2 = true := z
        rw [hb] at z; cases z
      · show (aput (K, true, lf, wr) d R (0, zr, zr)).1.2.1 = false ∧ GOF D W R G hd live (aput (K, true, lf, wr) d R (0, zr, zr)).1.1 V ol cb dp
        rw [aput_off hb]
        exact ⟨rfl, a, b, c, h⟩
    · rw [show decide ((K, true, lf, wr).2.2.1 ≠ 1) = true from decide_eq_true e] at hb
      refine ⟨fun _ => ⟨setK K d R (some (0, zr, zr)), lf - 1, wr + 1, dp, ?_, g2, fun row p hr hp => by rw [← e2 row p hr hp]; exact hpl row p hr hp, vt_z, fun d1 hne => by rw [setK_ne (fun y => hne y.1)]⟩, fun z => ?_⟩
      · show ((aput (K, true, lf, wr) d R (0, zr, zr)).1, dp) = _
        rw [aput_ok hb]
      · have z : (aput (K, true, lf, wr) d R (0, zr, zr)).2 = false := z
        rw [hb] at z; cases z
  | true =>
    have hc0 := hc
    rw [if_pos rfl]
    obtain ⟨x1, x2⟩ := Bool.and_eq_true_iff.mp hc0
    have hq : fnd D (W * G) hd K a (W * b + (W - 1)) = some d := by rw [hpl a _ ha1 hpq]; exact of_decide_eq_true x1
    have hv : isvo K a (fnd D (W * G) hd K a (W * b + c)) = true := by rw [hpl a _ ha1 hpc]; exact x2
    -- the parity that is written is the right one
    have hP : ∀ i, i < 8 → rw_ (K d R) i ^^^ rwo K a (pl a (W * b + c)) i = idl W G V V a (W * b + (W - 1)) i := by
      intro i hi
      have e1 : rw_ (K d R) i = lgv W G V a b c i := by
        obtain ⟨_, y⟩ := gb.2.2.2.2.1 d v hk
        have y : v.1 = 1 + 8 * (a * G + b) + c ∧ ∀ i, i < 8 → v.2.1 i = lgv W G V a b c i := by
          rcases y with y | y
          · omega
          · exact y
        rw [hk]
        show (if i < 8 then v.2.1 i else tw v.1 v.2.1) ^^^ v.2.2 i = _
        rw [if_pos hi, z9_iff.mp hz i (by omega), Int64.xor_zero]
        exact y.2 i hi
      have e2 : rwo K a (pl a (W * b + c)) i = V (blk W G a b c) i := by
        rw [← hpl a _ ha1 hpc, gb.val ge ha1 hpc hv hi, idl_d ha3]
      rw [e1, e2, idl_p (by omega)]
      exact xorN_skip (f := fun j => V (blk W G a b j) i) ha3
    have gP := gb.put ge (P := fun i => rw_ (K d R) i ^^^ rwo K a (pl a (W * b + c)) i) (I' := idl W G V V) (V' := V) ha1 hpq hq hP (fun row1 p1 hr1 hp1 _ z2 i hi => by
      unfold VPd
      cases hdp : dp with
      | false => rfl
      | true =>
        have hq' := Nat.div_add_mod p1 W
        refine idl_congr (fun _ => rfl) (fun e j1 hj1 => ?_)
        rw [if_pos rfl, (dc hdp).1, setV_ne (fun z => ?_)]
        obtain ⟨y1, y2, y3⟩ := blk_inj (Nat.div_lt_of_lt_mul hp1) hj1 ha2 ha3 z
        exact z2 ⟨y1, by rw [← hq', y2, e]⟩) (fun _ _ => rfl) (by
      cases hdp : dp with
      | false => exact Or.inr (fun _ _ _ _ _ _ => rfl)
      | true => exact Or.inl (dc hdp).2.1)
    have eP := fnd_put ge gb (P := fun i => rw_ (K d R) i ^^^ rwo K a (pl a (W * b + c)) i) ha1 hpq hq
    have gX : GOX D W R G hd live (setK K d a (some (W * b + (W - 1) + 1, fun i => rw_ (K d R) i ^^^ rwo K a (pl a (W * b + c)) i, zr))) V ol cb false a b c := ⟨gP.ext eP, fun z => by cases z⟩
    obtain ⟨g2, e2⟩ := gX.unlog (d := d) hl (fun z => by cases z)
    have hb := aput_b (s := (K, true, lf, wr)) (d := d) (o := a) (c := (W * b + (W - 1) + 1, fun i => rw_ (K d R) i ^^^ rwo K a (pl a (W * b + c)) i, zr))
    show ((andT (aput (K, true, lf, wr) d a (W * b + (W - 1) + 1, fun i => rw_ (K d R) i ^^^ rwo K a (pl a (W * b + c)) i, zr)) (fun s1 => aput s1 d R (0, zr, zr))).2 = true → _) ∧ ((andT (aput (K, true, lf, wr) d a (W * b + (W - 1) + 1, fun i => rw_ (K d R) i ^^^ rwo K a (pl a (W * b + c)) i, zr)) (fun s1 => aput s1 d R (0, zr, zr))).2 = false → (andT (aput (K, true, lf, wr) d a (W * b + (W - 1) + 1, fun i => rw_ (K d R) i ^^^ rwo K a (pl a (W * b + c)) i, zr)) (fun s1 => aput s1 d R (0, zr, zr))).1.2.1 = false ∧ GOF D W R G hd live (andT (aput (K, true, lf, wr) d a (W * b + (W - 1) + 1, fun i => rw_ (K d R) i ^^^ rwo K a (pl a (W * b + c)) i, zr)) (fun s1 => aput s1 d R (0, zr, zr))).1.1 V ol cb (if true = true ∧ lf ≠ 1 then false else dp))
    unfold andT
    by_cases e : lf = 1
    · rw [show decide ((K, true, lf, wr).2.2.1 ≠ 1) = false from decide_eq_false (fun z => z e)] at hb
      rw [hb, if_neg (show ¬ false = true by decide), if_neg (fun z => z.2 e)]
      refine ⟨fun z => ?_, fun _ => ?_⟩
      · rw [hb] at z; cases z
      · rw [aput_off hb]
        exact ⟨rfl, a, b, c, h⟩
    · rw [show decide ((K, true, lf, wr).2.2.1 ≠ 1) = true from decide_eq_true e] at hb
      rw [hb, if_pos rfl, if_pos (show true = true ∧ lf ≠ 1 from ⟨rfl, e⟩), aput_ok hb]
      have hb2 := aput_b (s := (setK K d a (some (W * b + (W - 1) + 1, fun i => rw_ (K d R) i ^^^ rwo K a (pl a (W * b + c)) i, zr)), true, lf - 1, wr + 1)) (d := d) (o := R) (c := (0, zr, zr))
      by_cases e3 : lf - 1 = 1
      · have hb2 : _ = false := hb2.trans (decide_eq_false (fun z => z e3))
        refine ⟨fun z => ?_, fun _ => ?_⟩
        · have z : (aput (setK K d a (some (W * b + (W - 1) + 1, fun i => rw_ (K d R) i ^^^ rwo K a (pl a (W * b + c)) i, zr)), true, lf - 1, wr + 1) d R (0, zr, zr)).2 = true := z
          rw [hb2] at z; cases z
        · show (aput (setK K d a (some (W * b + (W - 1) + 1, fun i => rw_ (K d R) i ^^^ rwo K a (pl a (W * b + c)) i, zr)), true, lf - 1, wr + 1) d R (0, zr, zr)).1.2.1 = false ∧ GOF D W R G hd live (aput (setK K d a (some (W * b + (W - 1) + 1, fun i => rw_ (K d R) i ^^^ rwo K a (pl a (W * b + c)) i, zr)), true, lf - 1, wr + 1) d R (0, zr, zr)).1.1 V ol cb false
          rw [aput_off hb2]
          exact ⟨rfl, a, b, c, gX⟩
      · have hb2 : _ = true := hb2.trans (decide_eq_true e3)
        refine ⟨fun _ => ⟨_, lf - 1 - 1, wr + 1 + 1, false, ?_, g2, fun row p hr hp => by rw [← e2 row p hr hp, ← eP row p hr hp]; exact hpl row p hr hp, vt_z, fun d1 hne => by rw [setK_ne (fun y => hne y.1), setK_ne (fun y => by omega)]⟩, fun z => ?_⟩
        · show ((aput (setK K d a (some (W * b + (W - 1) + 1, fun i => rw_ (K d R) i ^^^ rwo K a (pl a (W * b + c)) i, zr)), true, lf - 1, wr + 1) d R (0, zr, zr)).1, false) = _
          rw [aput_ok hb2]
        · have z : (aput (setK K d a (some (W * b + (W - 1) + 1, fun i => rw_ (K d R) i ^^^ rwo K a (pl a (W * b + c)) i, zr)), true, lf - 1, wr + 1) d R (0, zr, zr)).2 = false := z
          rw [hb2] at z; cases z
theorem GOX.reps (ge : Geo D W R G hd) : ∀ m d (K : Rk) (lf : Nat) (wr : Int32) (dp : Bool), d + m = D → GOX D W R G hd live K V ol cb dp a b c → (∀ row p, row < R → p < W * G → fnd D (W * G) hd K row p = pl row p) → (∀ d1, d1 < d → vt (K d1 R) = 0) →
    ((rReps W G R pl m d ((K, true, lf, wr), dp)).2 = true → ∃ K2 lf2 wr2 dp2, (rReps W G R pl m d ((K, true, lf, wr), dp)).1 = ((K2, true, lf2, wr2), dp2) ∧ GOX D W R G hd live K2 V ol cb dp2 a b c ∧ (∀ row p, row < R → p < W * G → fnd D (W * G) hd K2 row p = pl row p) ∧ ∀ d1, d1 < D → vt (K2 d1 R) = 0) ∧
    ((rReps W G R pl m d ((K, true, lf, wr), dp)).2 = false → (rReps W G R pl m d ((K, true, lf, wr), dp)).1.1.2.1 = false ∧ GOF D W R G hd live (rReps W G R pl m d ((K, true, lf, wr), dp)).1.1.1 V ol cb (rReps W G R pl m d ((K, true, lf, wr), dp)).1.2) := by
  intro m
  induction m with
  | zero =>
    intro d K lf wr dp hd0 h hpl hz
    refine ⟨fun _ => ⟨K, lf, wr, dp, rfl, h, hpl, fun d1 h1 => hz d1 (by omega)⟩, fun z => by cases z⟩
  | succ m ih =>
    intro d K lf wr dp hd0 h hpl hz
    obtain ⟨ha1, ha2, ha3⟩ := h.1.2.2.2.2.2.2
    rw [rReps]
    by_cases e : vt (K d R) = 0
    · rw [if_pos (show vt (((K, true, lf, wr), dp).1.1 d R) = 0 from e)]
      exact ih (d + 1) K lf wr dp (by omega) h hpl (fun d1 h1 => by
        by_cases z : d1 = d
        · rw [z]; exact e
        · exact hz d1 (by omega))
    · have et : vt (K d R) = 1 + 8 * (a * G + b) + c := by
        obtain ⟨v, hk, hz1, hvt⟩ := vt_pos (c := K d R) (by omega)
        rcases (h.1.2.2.2.2.1 d v hk).2 with y | y
        · omega
        · rw [hvt]; exact y.1
      have e8 : (vt (((K, true, lf, wr), dp).1.1 d R) - 1) / 8 = a * G + b := by
        show (vt (K d R) - 1) / 8 = _
        obtain ⟨⟨_, _⟩, ⟨_, _, _⟩, _⟩ := ge.num
        omega
      have e9 : (vt (((K, true, lf, wr), dp).1.1 d R) - 1) % 8 = c := by
        show (vt (K d R) - 1) % 8 = _
        obtain ⟨⟨_, _⟩, ⟨_, _, _⟩, _⟩ := ge.num
        omega
      rw [if_neg (show ¬ vt (((K, true, lf, wr), dp).1.1 d R) = 0 from e), e8, e9, (st_dm ha2).1, (st_dm ha2).2]
      obtain ⟨r1, r2⟩ := h.rep ge (lf := lf) (wr := wr) hpl et
      cases hb : (rRep W R pl a b c d ((K, true, lf, wr), dp)).2 with
      | false =>
        rw [if_neg (by decide), hb]
        exact ⟨fun z => (by cases z), fun _ => r2 hb⟩
      | true =>
        obtain ⟨K2, lf2, wr2, dp2, q1, q2, q3, q4, q5⟩ := r1 hb
        rw [if_pos rfl, q1]
        exact ih (d + 1) K2 lf2 wr2 dp2 (by omega) q2 q3 (fun d1 h1 => by
          by_cases z : d1 = d
          · rw [z]; exact q4
          · rw [q5 d1 z]; exact hz d1 (by omega))
/-- a spare is clean: it is a place, or bears no tag -/
def cln (N : Nat) (hd : Nat → Nat → Nat) (K : Rk) (pl : Nat → Nat → Option Nat) (row q : Nat) : Prop := held N pl row (hd row q) = true ∨ vt (K (hd row q) row) = 0
theorem GOX.clr (ge : Geo D W R G hd) (h : GOX D W R G hd live K V ol cb dp a b c) (hpl : ∀ row p, row < R → p < W * G → fnd D (W * G) hd K row p = pl row p) {row q0 : Nat} (hr : row < R) (hq : W * G ≤ q0) (hq0 : q0 < D) (hs : stl (W * G) K pl row (hd row q0) = true) : GOX D W R G hd live (setK K (hd row q0) row (some (0, zr, zr))) V ol cb dp a b c ∧ ∀ row1 p, row1 < R → p < W * G → fnd D (W * G) hd (setK K (hd row q0) row (some (0, zr, zr))) row1 p = pl row1 p := by
  obtain ⟨gb, dc⟩ := h
  obtain ⟨ha1, ha2, ha3⟩ := gb.2.2.2.2.2.2
  have hpc := pos_lt ha2 (show c < W by omega)
  have hpq := pos_lt ha2 (show W - 1 < W by omega)
  obtain ⟨s1, s2⟩ := Bool.and_eq_true_iff.mp hs
  have s1 : held (W * G) pl row (hd row q0) = false := by
    revert s1
    cases held (W * G) pl row (hd row q0) <;> simp
  obtain ⟨v, hk, hz, hvt⟩ := vt_pos (of_decide_eq_true s2)
  have hl := gb.1.2.1.alive (d := hd row q0) (o := row) (by rw [hk]; rfl)
  have hfree : ∀ q, q < W * G → fnd D (W * G) hd K row q ≠ some (hd row q0) := fun q hq1 => by rw [hpl row q hr hq1]; exact held_no.mp s1 q hq1
  have ef := fnd_clear ge (K := K) hr hq hq0 hfree
  refine ⟨⟨(gb.clear ge hr hq hq0 hl hfree).ext ef, fun hdp => ?_⟩, fun row1 p hr1 hp => by rw [← ef row1 p hr1 hp]; exact hpl row1 p hr1 hp⟩
  obtain ⟨c1, c2, c3⟩ := dc hdp
  refine ⟨c1, N3.ext (E := fnd D (W * G) hd K) (fun row1 q v1 p1 hr1 h1 h2 hp1 e ez et => ?_) ef, fun dl e => ?_⟩
  · by_cases z : hd row1 q = hd row q0 ∧ row1 = row
    · rw [z.1, z.2, setK_at] at e; cases e; cases et
    · rw [setK_ne z] at e; exact c2 row1 q v1 p1 hr1 h1 h2 hp1 e ez et
  · rw [← ef a _ ha1 hpq] at e
    obtain ⟨w1, w2⟩ := c3 dl e
    refine ⟨by rw [setK_ne (fun y => by omega)]; exact w1, ?_⟩
    rw [← ef a _ ha1 hpc]
    obtain ⟨d1, v1, y1, y2, y3⟩ := isvo_some.mp w2
    exact isvo_some.mpr ⟨d1, v1, y1, by rw [setK_ne (fun z => by rw [z.1, z.2] at y1; exact hfree _ hpc y1)]; exact y2, y3⟩
theorem GOX.clr1 (ge : Geo D W R G hd) {row : Nat} (hr : row < R) : ∀ m q (K : Rk) (lf : Nat) (wr : Int32), q + m = D → W * G ≤ q → GOX D W R G hd live K V ol cb dp a b c → (∀ row p, row < R → p < W * G → fnd D (W * G) hd K row p = pl row p) → (∀ q1, W * G ≤ q1 → q1 < q → cln (W * G) hd K pl row q1) →
    ((aClr1 (W * G) hd pl row m q (K, true, lf, wr)).2 = true → ∃ K2 lf2 wr2, (aClr1 (W * G) hd pl row m q (K, true, lf, wr)).1 = (K2, true, lf2, wr2) ∧ GOX D W R G hd live K2 V ol cb dp a b c ∧ (∀ row p, row < R → p < W * G → fnd D (W * G) hd K2 row p = pl row p) ∧ (∀ q1, W * G ≤ q1 → q1 < D → cln (W * G) hd K2 pl row q1) ∧ ∀ d o, o ≠ row → K2 d o = K d o) ∧
    ((aClr1 (W * G) hd pl row m q (K, true, lf, wr)).2 = false → (aClr1 (W * G) hd pl row m q (K, true, lf, wr)).1.2.1 = false ∧ GOF D W R G hd live (aClr1 (W * G) hd pl row m q (K, true, lf, wr)).1.1 V ol cb dp) := by
  have inj := ge.2.2.2.2.2.1
  intro m
  induction m with
  | zero =>
    intro q K lf wr hq hqN h hpl hc
    exact ⟨fun _ => ⟨K, lf, wr, rfl, h, hpl, fun q1 h1 h2 => hc q1 h1 (by omega), fun _ _ _ => rfl⟩, fun z => by cases z⟩
  | succ m ih =>
    intro q K lf wr hq hqN h hpl hc
    rw [aClr1]
    cases hs : stl (W * G) K pl row (hd row q) with
    | false =>
      rw [if_neg (show ¬ false = true by decide)]
      refine ih (q + 1) K lf wr (by omega) (by omega) h hpl (fun q1 h1 h2 => ?_)
      by_cases z : q1 = q
      · rw [z]
        unfold stl at hs
        rcases Bool.and_eq_false_iff.mp hs with y | y
        · exact Or.inl (not_f y)
        · have := of_decide_eq_false y
          exact Or.inr (by omega)
      · exact hc q1 h1 (by omega)
    | true =>
      rw [if_pos rfl]
      obtain ⟨g2, e2⟩ := h.clr ge hpl hr hqN (by omega) hs
      have hb := aput_b (s := (K, true, lf, wr)) (d := hd row q) (o := row) (c := (0, zr, zr))
      unfold andT
      by_cases e : lf = 1
      · rw [show decide ((K, true, lf, wr).2.2.1 ≠ 1) = false from decide_eq_false (fun z => z e)] at hb
        rw [hb, if_neg (show ¬ false = true by decide)]
        refine ⟨fun z => ?_, fun _ => ?_⟩
        · rw [hb] at z; cases z
        · rw [aput_off hb]; exact ⟨rfl, a, b, c, h⟩
      · rw [show decide ((K, true, lf, wr).2.2.1 ≠ 1) = true from decide_eq_true e] at hb
        rw [hb, if_pos rfl, aput_ok hb]
        obtain ⟨r1, r2⟩ := ih (q + 1) (setK K (hd row q) row (some (0, zr, zr))) (lf - 1) (wr + 1) (by omega) (by omega) g2 e2 (fun q1 h1 h2 => by
          by_cases z : q1 = q
          · rw [z]; exact Or.inr vt_z
          · rcases hc q1 h1 (by omega) with y | y
            · exact Or.inl y
            · refine Or.inr ?_
              rw [setK_ne (fun w => z (inj row q1 q (by omega) (by omega) w.1))]
              exact y)
        refine ⟨fun z => ?_, r2⟩
        obtain ⟨K2, lf2, wr2, q1, q2, q3, q4, q5⟩ := r1 z
        exact ⟨K2, lf2, wr2, q1, q2, q3, q4, fun d o ho => by rw [q5 d o ho, setK_ne (fun y => ho y.2)]⟩
theorem GOX.clrs (ge : Geo D W R G hd) : ∀ m row (K : Rk) (lf : Nat) (wr : Int32), row + m = R → GOX D W R G hd live K V ol cb dp a b c → (∀ row p, row < R → p < W * G → fnd D (W * G) hd K row p = pl row p) → (∀ r q, r < row → W * G ≤ q → q < D → cln (W * G) hd K pl r q) →
    ((aClr D (W * G) hd pl m row (K, true, lf, wr)).2 = true → ∃ K2 lf2 wr2, (aClr D (W * G) hd pl m row (K, true, lf, wr)).1 = (K2, true, lf2, wr2) ∧ GOX D W R G hd live K2 V ol cb dp a b c ∧ (∀ row p, row < R → p < W * G → fnd D (W * G) hd K2 row p = pl row p) ∧ (∀ r q, r < R → W * G ≤ q → q < D → cln (W * G) hd K2 pl r q) ∧ ∀ d, K2 d R = K d R) ∧
    ((aClr D (W * G) hd pl m row (K, true, lf, wr)).2 = false → (aClr D (W * G) hd pl m row (K, true, lf, wr)).1.2.1 = false ∧ GOF D W R G hd live (aClr D (W * G) hd pl m row (K, true, lf, wr)).1.1 V ol cb dp) := by
  obtain ⟨⟨_, _⟩, ⟨_, _, _⟩, ⟨_, _⟩, ⟨_, _⟩, ⟨_, _⟩, _, _, _, _⟩ := ge.num
  intro m
  induction m with
  | zero =>
    intro row K lf wr hrow h hpl hc
    exact ⟨fun _ => ⟨K, lf, wr, rfl, h, hpl, fun r q h0 h1 h2 => hc r q (by omega) h1 h2, fun _ => rfl⟩, fun z => by cases z⟩
  | succ m ih =>
    intro row K lf wr hrow h hpl hc
    rw [aClr]
    obtain ⟨r1, r2⟩ := GOX.clr1 (live := live) (V := V) (ol := ol) (cb := cb) (dp := dp) (a := a) (b := b) (c := c) (pl := pl) ge (show row < R by omega) (D - W * G) (W * G) K lf wr (by omega) (Nat.le_refl _) h hpl (fun q1 h1 h2 => by omega)
    unfold andT
    cases hb : (aClr1 (W * G) hd pl row (D - W * G) (W * G) (K, true, lf, wr)).2 with
    | false =>
      rw [if_neg (by decide), hb]
      exact ⟨fun z => (by cases z), fun _ => r2 hb⟩
    | true =>
      obtain ⟨K2, lf2, wr2, q1, q2, q3, q4, q5⟩ := r1 hb
      rw [if_pos rfl, q1]
      obtain ⟨s1, s2⟩ := ih (row + 1) K2 lf2 wr2 (by omega) q2 q3 (fun r q h0 h1 h2 => by
        by_cases z : r = row
        · rw [z]; exact q4 q h1 h2
        · rcases hc r q (by omega) h1 h2 with y | y
          · exact Or.inl y
          · exact Or.inr (by rw [q5 _ _ z]; exact y))
      refine ⟨fun z => ?_, s2⟩
      obtain ⟨K3, lf3, wr3, t1, t2, t3, t4, t5⟩ := s1 z
      exact ⟨K3, lf3, wr3, t1, t2, t3, t4, fun d => by rw [t5 d, q5 d R (by omega)]⟩
/-- opening -/
theorem GOF.opn (ge : Geo D W R G hd) (h : GOF D W R G hd live K V ol cb dp) {lf : Nat} {wr : Int32} : GIs D W R G hd live (fnd D (W * G) hd K) (rOpen D W G R hd (fnd D (W * G) hd K) ((K, true, lf, wr), dp)).1.1 V ol cb (if (rOpen D W G R hd (fnd D (W * G) hd K) ((K, true, lf, wr), dp)).2 = true then false else (rOpen D W G R hd (fnd D (W * G) hd K) ((K, true, lf, wr), dp)).1.2) ∧ (rOpen D W G R hd (fnd D (W * G) hd K) ((K, true, lf, wr), dp)).1.1.2.1 = (rOpen D W G R hd (fnd D (W * G) hd K) ((K, true, lf, wr), dp)).2 := by
  obtain ⟨⟨_, _⟩, ⟨_, _, _⟩, ⟨_, _⟩, ⟨_, _⟩, ⟨_, _⟩, _, _, _, _⟩ := ge.num
  obtain ⟨a, b, c, h⟩ := h
  obtain ⟨r1, r2⟩ := GOX.reps (pl := fnd D (W * G) hd K) ge D 0 K lf wr dp (by omega) h (fun _ _ _ _ => rfl) (fun d1 h1 => by omega)
  unfold rOpen
  cases hb : (rReps W G R (fnd D (W * G) hd K) D 0 ((K, true, lf, wr), dp)).2 with
  | false =>
    rw [if_neg (by decide), hb, if_neg (by decide)]
    obtain ⟨x1, x2⟩ := r2 hb
    exact ⟨⟨fun z => (by rw [x1] at z; cases z), fun _ => x2⟩, x1⟩
  | true =>
    obtain ⟨K2, lf2, wr2, dp2, q1, q2, q3, q4⟩ := r1 hb
    rw [if_pos rfl, q1]
    obtain ⟨s1, s2⟩ := GOX.clrs (live := live) (V := V) (ol := ol) (cb := cb) (dp := dp2) (a := a) (b := b) (c := c) (pl := fnd D (W * G) hd K) ge R 0 K2 lf2 wr2 (by omega) q2 q3 (fun r q h0 _ _ => by omega)
    show GIs D W R G hd live (fnd D (W * G) hd K) (aClr D (W * G) hd (fnd D (W * G) hd K) R 0 (K2, true, lf2, wr2)).1 V ol cb (if (aClr D (W * G) hd (fnd D (W * G) hd K) R 0 (K2, true, lf2, wr2)).2 = true then false else dp2) ∧ (aClr D (W * G) hd (fnd D (W * G) hd K) R 0 (K2, true, lf2, wr2)).1.2.1 = (aClr D (W * G) hd (fnd D (W * G) hd K) R 0 (K2, true, lf2, wr2)).2
    cases hb2 : (aClr D (W * G) hd (fnd D (W * G) hd K) R 0 (K2, true, lf2, wr2)).2 with
    | false =>
      rw [if_neg (by decide)]
      obtain ⟨x1, x2⟩ := s2 hb2
      exact ⟨⟨fun z => (by rw [x1] at z; cases z), fun _ => x2⟩, x1⟩
    | true =>
      obtain ⟨K3, lf3, wr3, t1, t2, t3, t4, t5⟩ := s1 hb2
      rw [if_pos rfl, t1]
      refine ⟨gis_on ?_, rfl⟩
      obtain ⟨gb, dc⟩ := t2
      have gb2 := gb.ext t3
      obtain ⟨ha1, ha2, ha3⟩ := gb.2.2.2.2.2.2
      have hpq := pos_lt ha2 (show W - 1 < W by omega)
      have lg0 : ∀ d v, K3 d R = some v → v.1 = 0 := by
        intro d v e
        have hz := (gb.2.2.2.2.1 d v e).1
        rcases Nat.lt_or_ge d D with z | z
        · have := q4 d z
          rw [← t5 d, vt_at e hz] at this
          exact this
        · have := gb.1.2.1 d R (gb.1.1 d z)
          rw [this] at e; cases e
      have n3 : N3 D R (W * G) hd K3 (fnd D (W * G) hd K) := by
        intro row q v p hr h1 h2 hp e ez et
        rcases t4 row q hr h1 h2 with y | y
        · obtain ⟨p1, hp1, y2⟩ := held_iff.mp y
          obtain ⟨v1, k1, k2⟩ := gb2.2.2.2.1 row p1 _ hr hp1 y2
          rw [e] at k1
          cases k1
          have : p1 = p := by omega
          rw [← this]; exact y2
        · rw [vt_at e ez] at y; omega
      have gb3 : GB D W R G hd live K3 (fnd D (W * G) hd K) (idl W G V V) V a b c := by
        refine gb2.chI n3 (fun row1 p1 hr1 hp1 hne i hi => ?_)
        unfold VPd
        cases hdp : dp2 with
        | false => rfl
        | true =>
          rw [if_pos rfl]
          obtain ⟨c1, c2, c3⟩ := dc hdp
          have hq' := Nat.div_add_mod p1 W
          refine idl_congr (fun _ => rfl) (fun e j1 hj1 => ?_)
          rw [c1, setV_ne (fun z => ?_)]
          obtain ⟨y1, y2, y3⟩ := blk_inj (Nat.div_lt_of_lt_mul hp1) hj1 ha2 ha3 z
          have hp1e : p1 = W * b + (W - 1) := by rw [← hq', y2, e]
          rw [y1, hp1e, ← t3 a _ ha1 hpq] at hne
          cases hf : fnd D (W * G) hd K3 a (W * b + (W - 1)) with
          | none => exact hne hf
          | some dl =>
            have w := (c3 dl hf).1
            have hdl := fnd_lt ge hf
            have := q4 dl hdl
            rw [← t5 dl, w] at this
            omega
      obtain ⟨g1, g2, g3, g4, g5, g6, _⟩ := gb3
      exact ⟨⟨g1, g2, g3, g4, fun d v e => ⟨(g5 d v e).1, Or.inl (lg0 d v e)⟩, g6, by omega⟩, n3, lg0⟩
end GP
