theorem blk_inj {W G row gi j row1 gi1 j1 : Nat} (hg : gi < G) (hj : j < W - 1) (hg1 : gi1 < G) (hj1 : j1 < W - 1) (e : blk W G row gi j = blk W G row1 gi1 j1) : row = row1 ∧ gi = gi1 ∧ j = j1 := by
  have A : ∀ x y z w m : Nat, y < m → w < m → x * m + y = z * m + w → x = z ∧ y = w := by
    intro x y z w m h1 h2 h
    have e1 : (x * m + y) / m = x := by rw [Nat.add_comm, Nat.add_mul_div_right _ _ (by omega), Nat.div_eq_of_lt h1, Nat.zero_add]
    have e2 : (z * m + w) / m = z := by rw [Nat.add_comm, Nat.add_mul_div_right _ _ (by omega), Nat.div_eq_of_lt h2, Nat.zero_add]
    have e3 : x = z := by rw [← e1, ← e2, h]
    subst e3
    exact ⟨rfl, by omega⟩
  obtain ⟨e1, e2⟩ := A _ _ _ _ _ hj hj1 e
  obtain ⟨e3, e4⟩ := A _ _ _ _ _ hg hg1 e1
  exact ⟨e3, e4, e2⟩
theorem idl_congr {W G row p i : Nat} {V VP V' VP' : Nat → Nat → Int64} (h1 : p % W ≠ W - 1 → V (blk W G row (p / W) (p % W)) i = V' (blk W G row (p / W) (p % W)) i) (h2 : p % W = W - 1 → ∀ j, j < W - 1 → VP (blk W G row (p / W) j) i = VP' (blk W G row (p / W) j) i) : idl W G V VP row p i = idl W G V' VP' row p i := by
  unfold idl
  by_cases e : p % W = W - 1
  · rw [if_pos e, if_pos e]; exact xorN_congr (fun j hj => h2 e j hj)
  · rw [if_neg e, if_neg e]; exact h1 e
theorem setV_at {V : Nat → Nat → Int64} {b : Nat} {P : Nat → Int64} : setV V b P b = P := if_pos rfl
theorem setV_ne {V : Nat → Nat → Int64} {b c : Nat} {P : Nat → Int64} (h : c ≠ b) : setV V b P c = V c := if_neg h
theorem setV_back {V : Nat → Nat → Int64} {b : Nat} {P : Nat → Int64} : setV (setV V b P) b (V b) = V := by
  funext c
  by_cases e : c = b
  · rw [e, setV_at]
  · rw [setV_ne e, setV_ne e]
section GO
variable {D W R G : Nat} {hd : Nat → Nat → Nat} {live : Nat → Bool} {K : Rk} {E : Nat → Nat → Option Nat} {I : Nat → Nat → Nat → Int64} {V : Nat → Nat → Int64} {a b c : Nat}
theorem fnd_of (ge : Geo D W R G hd) (h : GB D W R G hd live K E I V a b c) (nw : NW D R (W * G) hd K E) {row p : Nat} (hr : row < R) (hp : p < W * G) : fnd D (W * G) hd K row p = match E row p with | none => none | some d => if d = hd row p ∨ isv (K d row) = true then some d else none := by
  obtain ⟨⟨_, _⟩, ⟨_, _, _⟩, ⟨_, _⟩, ⟨_, _⟩, ⟨_, _⟩, _, _, _, _⟩ := ge.num
  obtain ⟨⟨lv, lk, kw, pw⟩, t1, t2, t3, t4, t5, ha⟩ := h
  have inj := ge.2.2.2.2.2.1
  unfold fnd
  cases hk : K (hd row p) row with
  | some v =>
    rw [(t1 row p v hr hp hk).2.1, if_pos (by rfl)]
    show some _ = if hd row p = hd row p ∨ _ then _ else _
    rw [if_pos (Or.inl rfl)]
  | none =>
    rw [if_neg (by simp)]
    have hist : ∀ q, W * G ≤ q → q < D → ist (K (hd row q) row) (p + 1) = true → E row p = some (hd row q) := by
      intro q h1 h2 hi
      obtain ⟨v, v1, v2, v3⟩ := ist_iff.mp hi
      exact nw row q v p hr h1 h2 hp v1 v2 v3 hk
    cases he : E row p with
    | none =>
      rw [srch_no (fun q h1 h2 => ?_)]
      · rfl
      · cases hi : ist (K (hd row q) row) (p + 1) with
        | false => rfl
        | true => exact absurd (hist q h1 (by omega) hi) (by rw [he]; exact fun z => by cases z)
    | some d =>
      obtain ⟨v, k1, k2⟩ := t3 row p d hr hp he
      obtain ⟨q, hq, hq2⟩ := ge.2.2.2.2.2.2 row d (pw.1 row p d hr hp he)
      subst hq2
      have hqN : W * G ≤ q := by
        rcases Nat.lt_or_ge q (W * G) with z | z
        · have := (t1 row q v hr z k1).1
          have : q = p := by omega
          rw [this, hk] at k1; cases k1
        · exact z
      have hne : hd row q ≠ hd row p := fun z => by rw [z, hk] at k1; cases k1
      show _ = if hd row q = hd row p ∨ isv (K (hd row q) row) = true then some (hd row q) else none
      by_cases hv : isv (K (hd row q) row) = true
      · rw [if_pos (Or.inr hv), srch_at (i := q) hqN (by omega) ?_ ?_]
        · rfl
        · refine ist_iff.mpr ⟨v, k1, ?_, k2⟩
          rw [k1] at hv; exact hv
        · intro q1 h1 h2
          cases hi : ist (K (hd row q1) row) (p + 1) with
          | false => rfl
          | true =>
            have := hist q1 h1 (by omega) hi
            rw [he] at this
            have := inj row q q1 hq (by omega) (Option.some.inj this)
            omega
      · rw [if_neg (fun z => z.elim hne hv), srch_no (fun q1 h1 h2 => ?_)]
        · rfl
        · cases hi : ist (K (hd row q1) row) (p + 1) with
          | false => rfl
          | true =>
            have := hist q1 h1 (by omega) hi
            rw [he] at this
            obtain ⟨v1, v2, v3, _⟩ := ist_iff.mp hi
            rw [← Option.some.inj this] at v2
            exact absurd (show isv (K (hd row q) row) = true by rw [v2]; exact v3) hv
theorem fnd_E (ge : Geo D W R G hd) (h : GB D W R G hd live K E I V a b c) (nw : NW D R (W * G) hd K E) {row p d : Nat} (hr : row < R) (hp : p < W * G) (e : fnd D (W * G) hd K row p = some d) : E row p = some d := by
  rw [fnd_of ge h nw hr hp] at e
  cases he : E row p with
  | none => rw [he] at e; cases e
  | some d1 =>
    rw [he] at e
    have e : (if d1 = hd row p ∨ isv (K d1 row) = true then some d1 else none) = some d := e
    split at e
    · exact e
    · cases e
theorem isvo_fnd (ge : Geo D W R G hd) (h : GB D W R G hd live K E I V a b c) (nw : NW D R (W * G) hd K E) {row p : Nat} (hr : row < R) (hp : p < W * G) : isvo K row (fnd D (W * G) hd K row p) = isvo K row (E row p) := by
  rw [fnd_of ge h nw hr hp]
  cases he : E row p with
  | none => rfl
  | some d1 =>
    show isvo K row (if d1 = hd row p ∨ isv (K d1 row) = true then some d1 else none) = _
    by_cases z : d1 = hd row p ∨ isv (K d1 row) = true
    · rw [if_pos z]
    · rw [if_neg z]
      show false = isv (K d1 row)
      cases hv : isv (K d1 row) with
      | false => rfl
      | true => exact absurd (Or.inr hv) z
theorem fnd_home {row p : Nat} (h : (K (hd row p) row).isSome = true) : fnd D (W * G) hd K row p = some (hd row p) := by unfold fnd; rw [if_pos h]
theorem GB.off (ge : Geo D W R G hd) (h : GB D W R G hd live K E I V a b c) (nw : NW D R (W * G) hd K E) : GB D W R G hd live K (fnd D (W * G) hd K) I V a b c := by
  have h0 := h
  obtain ⟨⟨lv, lk, kw, pw⟩, t1, t2, t3, t4, t5, ha⟩ := h
  refine ⟨⟨lv, lk, kw, fnd_PW ge⟩, fun row p v hr hp e => ?_, fun row q v hr hq hq2 e => ?_, fun row p d hr hp e => ?_, t4, fun row gi hr hg => ?_, ha⟩
  · obtain ⟨x1, x2, x3⟩ := t1 row p v hr hp e
    exact ⟨x1, fnd_home (by rw [e]; rfl), x3⟩
  · obtain ⟨x1, x2⟩ := t2 row q v hr hq hq2 e
    exact ⟨x1, fun p hp y w => x2 p hp y (w.imp id (fun w => fnd_E ge h0 nw hr hp w))⟩
  · exact t3 row p d hr hp (fnd_E ge h0 nw hr hp e)
  · rw [cnt_congr (g := fun j => !isvo K row (E row (W * gi + j))) (fun j _ hj => by rw [isvo_fnd ge h0 nw hr (pos_lt hg (by omega))])]
    exact t5 row gi hr hg
theorem N3.off (ge : Geo D W R G hd) (h : GB D W R G hd live K E I V a b c) (n3 : N3 D R (W * G) hd K E) : N3 D R (W * G) hd K (fnd D (W * G) hd K) := by
  intro row q v p hr hq hq2 hp e ez et
  rw [fnd_of ge h n3.nw hr hp, n3 row q v p hr hq hq2 hp e ez et]
  show (if _ ∨ isv (K (hd row q) row) = true then _ else _) = _
  rw [if_pos (Or.inr (by rw [e]; exact ez))]
end GO
/-- the invariant, power on -/
def GON (D W R G : Nat) (hd : Nat → Nat → Nat) (live : Nat → Bool) (K : Rk) (pl : Nat → Nat → Option Nat) (V : Nat → Nat → Int64) : Prop := GB D W R G hd live K pl (idl W G V V) V 0 0 0 ∧ N3 D R (W * G) hd K pl ∧ ∀ d v, K d R = some v → v.1 = 0
def VPd (V : Nat → Nat → Int64) (ol : Nat → Int64) (cb : Nat) (dp : Bool) : Nat → Nat → Int64 := if dp = true then setV V cb ol else V
/-- power off, with the pending log's stripe and column -/
def GOX (D W R G : Nat) (hd : Nat → Nat → Nat) (live : Nat → Bool) (K : Rk) (V : Nat → Nat → Int64) (ol : Nat → Int64) (cb : Nat) (dp : Bool) (a b c : Nat) : Prop := GB D W R G hd live K (fnd D (W * G) hd K) (idl W G V (VPd V ol cb dp)) V a b c ∧ (dp = true → cb = blk W G a b c ∧ N3 D R (W * G) hd K (fnd D (W * G) hd K) ∧ ∀ dl, fnd D (W * G) hd K a (W * b + (W - 1)) = some dl → vt (K dl R) = 1 + 8 * (a * G + b) + c ∧ isvo K a (fnd D (W * G) hd K a (W * b + c)) = true)
def GOF (D W R G : Nat) (hd : Nat → Nat → Nat) (live : Nat → Bool) (K : Rk) (V : Nat → Nat → Int64) (ol : Nat → Int64) (cb : Nat) (dp : Bool) : Prop := ∃ a b c, GOX D W R G hd live K V ol cb dp a b c
def GIs (D W R G : Nat) (hd : Nat → Nat → Nat) (live : Nat → Bool) (pl : Nat → Nat → Option Nat) (s : PS) (V : Nat → Nat → Int64) (ol : Nat → Int64) (cb : Nat) (dp : Bool) : Prop := (s.2.1 = true → GON D W R G hd live s.1 pl V ∧ dp = false) ∧ (s.2.1 = false → GOF D W R G hd live s.1 V ol cb dp)
section GW
variable {D W R G : Nat} {hd : Nat → Nat → Nat} {live : Nat → Bool} {K : Rk} {pl : Nat → Nat → Option Nat} {V : Nat → Nat → Int64} {s : PS}
theorem GON.off (ge : Geo D W R G hd) (h : GON D W R G hd live K pl V) (ol : Nat → Int64) (cb : Nat) : GOF D W R G hd live K V ol cb false := ⟨0, 0, 0, h.1.off ge h.2.1.nw, fun z => by cases z⟩
theorem gis_off {ol : Nat → Int64} {cb : Nat} {dp : Bool} (h : GOF D W R G hd live K V ol cb dp) {lf : Nat} {wr : Int32} : GIs D W R G hd live pl (K, false, lf, wr) V ol cb dp := ⟨fun z => (by cases z), fun _ => h⟩
theorem gis_on (h : GON D W R G hd live K pl V) {lf : Nat} {wr : Int32} {ol : Nat → Int64} {cb : Nat} : GIs D W R G hd live pl (K, true, lf, wr) V ol cb false := ⟨fun _ => ⟨h, rfl⟩, fun z => by cases z⟩
theorem GON.pk (h : GON D W R G hd live K pl V) : PK R (W * G) K pl := fun row p d hr hp e => by
  obtain ⟨v, k1, _⟩ := h.1.2.2.2.1 row p d hr hp e
  rw [k1]; rfl
/-- the sum of the other blocks, as read -/
theorem GON.otdv (ge : Geo D W R G hd) (h : GON D W R G hd live K pl V) {row gi j i : Nat} (hr : row < R) (hg : gi < G) (hi : i < 8) : otd W K pl row gi j i = lgv W G V row gi j i := by
  obtain ⟨⟨_, _⟩, ⟨_, _, _⟩, ⟨_, _⟩, ⟨_, _⟩, ⟨_, _⟩, _, _, _, _⟩ := ge.num
  refine xorN_congr (fun j1 hj1 => ?_)
  by_cases e : j1 = j
  · rw [if_pos e, if_pos e]
  · rw [if_neg e, if_neg e, h.1.rd ge (idl_SX (by omega) V) hr hg (by omega) hi, idl_d hj1]
theorem lgv_xor {row gi j i : Nat} {P : Nat → Int64} (hg : gi < G) (hj : j < W - 1) : lgv W G V row gi j i ^^^ P i = xorN (fun j1 => setV V (blk W G row gi j) P (blk W G row gi j1) i) (W - 1) := by
  have := xorN_skip (f := fun j1 => setV V (blk W G row gi j) P (blk W G row gi j1) i) hj
  rw [← this]
  congr 1
  · refine xorN_congr (fun j1 hj1 => ?_)
    by_cases e : j1 = j
    · rw [if_pos e, if_pos e]
    · rw [if_neg e, if_neg e, setV_ne (fun z => e (blk_inj hg hj1 hg hj z).2.2)]
  · show P i = setV V (blk W G row gi j) P (blk W G row gi j) i
    rw [setV_at]
/-- the ideal of another position, when a block changes -/
theorem idl_set {row gi j row1 p1 i : Nat} {P : Nat → Int64} (hG : 0 < W) (hg : gi < G) (hj : j < W - 1) (hp1 : p1 < W * G) (hne : ¬ (row1 = row ∧ p1 = W * gi + j)) (hnp : ¬ (row1 = row ∧ p1 = W * gi + (W - 1))) : idl W G V V row1 p1 i = idl W G (setV V (blk W G row gi j) P) (setV V (blk W G row gi j) P) row1 p1 i := by
  have hq := Nat.div_add_mod p1 W
  have hm := Nat.mod_lt p1 hG
  have hd1 : p1 / W < G := Nat.div_lt_of_lt_mul hp1
  refine idl_congr (fun e => ?_) (fun e j1 hj1 => ?_)
  · rw [setV_ne (fun z => ?_)]
    obtain ⟨z1, z2, z3⟩ := blk_inj hd1 (show p1 % W < W - 1 by omega) hg hj z
    exact hne ⟨z1, by rw [← hq, z2, z3]⟩
  · rw [setV_ne (fun z => ?_)]
    obtain ⟨z1, z2, z3⟩ := blk_inj hd1 hj1 hg hj z
    exact hnp ⟨z1, by rw [← hq, z2, e]⟩
theorem lgv_set {row gi j i : Nat} {P : Nat → Int64} (hg : gi < G) (hj : j < W - 1) : lgv W G V row gi j i = lgv W G (setV V (blk W G row gi j) P) row gi j i := by
  refine xorN_congr (fun j1 hj1 => ?_)
  by_cases e : j1 = j
  · rw [if_pos e, if_pos e]
  · rw [if_neg e, if_neg e, setV_ne (fun z => e (blk_inj hg hj1 hg hj z).2.2)]
theorem T4.zero {R W G : Nat} {K : Rk} {V V' : Nat → Nat → Int64} {a b c : Nat} (h : T4 W G R K V a b c) (hz : ∀ d v, K d R = some v → v.1 = 0) : T4 W G R K V' a b c := fun d v e => ⟨(h d v e).1, Or.inl (hz d v e)⟩
set_option maxHeartbeats 1000000 in
theorem GON.write (ge : Geo D W R G hd) (h : GON D W R G hd live s.1 pl V) (on : s.2.1 = true) {row gi j : Nat} {P : Nat → Int64} (hr : row < R) (hg : gi < G) (hj : j < W - 1) (hne : pl row (W * gi + (W - 1)) = none → pl row (W * gi + j) ≠ none) :
    GIs D W R G hd live pl (aWrite W G s pl R row gi j P).1 (if wch ((pl row (W * gi + (W - 1))).isSome && (pl row (W * gi + j)).isSome) s.2.2.1 = true then setV V (blk W G row gi j) P else V) (V (blk W G row gi j)) (blk W G row gi j) (wdp ((pl row (W * gi + (W - 1))).isSome && (pl row (W * gi + j)).isSome) s.2.2.1) := by
  obtain ⟨⟨_, _⟩, ⟨_, _, _⟩, ⟨_, _⟩, ⟨_, _⟩, ⟨_, _⟩, _, _, _, _⟩ := ge.num
  have hqq := pos_lt hg (show W - 1 < W by omega)
  have hpp := pos_lt hg (show j < W by omega)
  have i1 := lt2 hr hg
  obtain ⟨K, onx, lf, wr⟩ := s
  have on : onx = true := on
  subst on
  have h : GON D W R G hd live K pl V := h
  obtain ⟨gb, n3, lg0⟩ := id h
  have hoff := h.off ge (V (blk W G row gi j)) (blk W G row gi j)
  have hotd := fun i (hi : i < 8) => h.otdv ge (j := j) hr hg hi
  -- one put
  have single : ∀ p d (Q : Nat → Int64), p < W * G → pl row p = some d → (∀ i, i < 8 → Q i = idl W G (setV V (blk W G row gi j) P) (setV V (blk W G row gi j) P) row p i) → (∀ p1, p1 < W * G → pl row p1 ≠ none → p1 ≠ p → p1 ≠ W * gi + j ∧ p1 ≠ W * gi + (W - 1)) → (p = W * gi + j ∨ p = W * gi + (W - 1)) → GIs D W R G hd live pl (aput (K, true, lf, wr) d row (p + 1, Q, zr)).1 (if decide (lf ≠ 1) = true then setV V (blk W G row gi j) P else V) (V (blk W G row gi j)) (blk W G row gi j) false := by
    intro p d Q hp he hQ ho hp3
    have hb := aput_b (s := (K, true, lf, wr)) (d := d) (o := row) (c := (p + 1, Q, zr))
    by_cases e : lf = 1
    · rw [decide_eq_false (fun z => z e), if_neg (by decide)]
      rw [show decide ((K, true, lf, wr).2.2.1 ≠ 1) = false from decide_eq_false (fun z => z e)] at hb
      rw [aput_off hb]
      exact gis_off hoff
    · rw [decide_eq_true e, if_pos rfl]
      rw [show decide ((K, true, lf, wr).2.2.1 ≠ 1) = true from decide_eq_true e] at hb
      rw [aput_ok hb]
      have g2 := n3.put (P := Q) he
      have g1 := gb.put ge (I' := idl W G (setV V (blk W G row gi j) P) (setV V (blk W G row gi j) P)) (V' := V) hr hp he hQ (fun row1 p1 hr1 hp1 z1 z2 i hi => by
        by_cases y : row1 = row
        · rw [y] at z1 z2 ⊢
          have y2 := ho p1 hp1 z1 (fun w => z2 ⟨rfl, w⟩)
          exact idl_set (by omega) hg hj hp1 (fun w => y2.1 w.2) (fun w => y2.2 w.2)
        · exact idl_set (by omega) hg hj hp1 (fun w => y w.1) (fun w => y w.1)) (fun i _ => rfl) (Or.inl n3)
      have lg1 : ∀ d1 v, setK K d row (some (p + 1, Q, zr)) d1 R = some v → v.1 = 0 := fun d1 v e1 => by
        rw [setK_ne (fun z => by omega)] at e1
        exact lg0 d1 v e1
      obtain ⟨q1, q2, q3, q4, q5, q6, q7⟩ := g1
      exact gis_on ⟨⟨q1, q2, q3, q4, q5.zero lg1, q6, q7⟩, g2, lg1⟩
  unfold aWrite
  cases hq : pl row (W * gi + (W - 1)) with
  | none =>
    cases hp : pl row (W * gi + j) with
    | none => exact absurd hp (hne hq)
    | some dd =>
      show GIs D W R G hd live pl (aput (K, true, lf, wr) dd row (W * gi + j + 1, P, zr)).1 (if wch (false && true) lf = true then _ else _) _ _ (wdp (false && true) lf)
      rw [show wch (false && true) lf = decide (lf ≠ 1) from by unfold wch; simp, show wdp (false && true) lf = false from rfl]
      refine single _ dd P hpp hp (fun i hi => by rw [idl_d hj, setV_at]) (fun p1 hp1 z1 z2 => ⟨z2, fun w => z1 (by rw [w]; exact hq)⟩) (Or.inl rfl)
  | some dq =>
    cases hp : pl row (W * gi + j) with
    | none =>
      show GIs D W R G hd live pl (aput (K, true, lf, wr) dq row (W * gi + (W - 1) + 1, fun i => otd W K pl row gi j i ^^^ P i, zr)).1 (if wch (true && false) lf = true then _ else _) _ _ (wdp (true && false) lf)
      rw [show wch (true && false) lf = decide (lf ≠ 1) from by unfold wch; simp, show wdp (true && false) lf = false from rfl]
      refine single _ dq _ hqq hq (fun i hi => ?_) (fun p1 hp1 z1 z2 => ⟨fun w => z1 (by rw [w]; exact hp), z2⟩) (Or.inr rfl)
      show otd W K pl row gi j i ^^^ P i = _
      rw [hotd i hi, idl_p (by omega), lgv_xor hg hj]
    | some dd =>
      show GIs D W R G hd live pl (aWriteL W G (K, true, lf, wr) dq dd R row gi j (otd W K pl row gi j) P).1 (if wch true lf = true then _ else _) _ _ (wdp true lf)
      have hlq := gb.alive hr hqq hq
      -- the log
      have gA : GB D W R G hd live (setK K dq R (some (1 + 8 * (row * G + gi) + j, otd W K pl row gi j, zr))) pl (idl W G V V) V row gi j := gb.log hlq (by omega) ⟨hr, hg, hj⟩ (fun d1 v _ e => Or.inl (lg0 d1 v e)) (Or.inr ⟨rfl, hotd⟩)
      have nA := n3.log (d := dq) (x := some (1 + 8 * (row * G + gi) + j, otd W K pl row gi j, zr))
      -- the data
      have nB := nA.put (P := P) hp
      have gB := gA.put ge (P := P) (I' := idl W G (setV V (blk W G row gi j) P) V) (V' := setV V (blk W G row gi j) P) hr hpp hp (fun i hi => by rw [idl_d hj, setV_at]) (fun row1 p1 hr1 hp1 z1 z2 i hi => by
        have hq' := Nat.div_add_mod p1 W
        have hm := Nat.mod_lt p1 (show 0 < W by omega)
        refine idl_congr (fun e => ?_) (fun _ _ _ => rfl)
        rw [setV_ne (fun z => ?_)]
        obtain ⟨y1, y2, y3⟩ := blk_inj (Nat.div_lt_of_lt_mul hp1) (show p1 % W < W - 1 by omega) hg hj z
        exact z2 ⟨y1, by rw [← hq', y2, y3]⟩) (fun i hi => lgv_set hg hj) (Or.inl nA)
      -- the parity
      have nC := nB.put (P := fun i => otd W K pl row gi j i ^^^ P i) hq
      have gC := gB.put ge (P := fun i => otd W K pl row gi j i ^^^ P i) (I' := idl W G (setV V (blk W G row gi j) P) (setV V (blk W G row gi j) P)) (V' := setV V (blk W G row gi j) P) hr hqq hq (fun i hi => by
        show otd W K pl row gi j i ^^^ P i = _
        rw [hotd i hi, idl_p (by omega), lgv_xor hg hj]) (fun row1 p1 hr1 hp1 z1 z2 i hi => by
        have hq' := Nat.div_add_mod p1 W
        refine idl_congr (fun _ => rfl) (fun e j1 hj1 => ?_)
        rw [setV_ne (fun z => ?_)]
        obtain ⟨y1, y2, y3⟩ := blk_inj (Nat.div_lt_of_lt_mul hp1) hj1 hg hj z
        exact z2 ⟨y1, by rw [← hq', y2, e]⟩) (fun i hi => rfl) (Or.inl nB)
      -- the log cleared
      have gD := gC.log (t := 0) (P := zr) hlq (by omega) (show 0 < R ∧ 0 < G ∧ 0 < W - 1 by omega) (fun d1 v z e => Or.inl (by
        rw [setK_ne (fun y => by omega), setK_ne (fun y => by omega), setK_ne (fun y => z y.1)] at e
        exact lg0 d1 v e)) (Or.inl rfl)
      have nD := nC.log (d := dq) (x := some (0, zr, zr))
      unfold aWriteL
      have ab1 := aput_b (s := (K, true, lf, wr)) (d := dq) (o := R) (c := (1 + 8 * (row * G + gi) + j, otd W K pl row gi j, zr))
      have ab1 : _ = decide (lf ≠ 1) := ab1
      by_cases e1 : lf = 1
      · rw [decide_eq_false (fun z => z e1)] at ab1
        unfold andT
        rw [ab1, if_neg (by decide), aput_off ab1, e1]
        exact gis_off hoff
      rw [decide_eq_true e1] at ab1
      have a1e := aput_ok ab1
      generalize aput (K, true, lf, wr) dq R (1 + 8 * (row * G + gi) + j, otd W K pl row gi j, zr) = a1 at *
      have a1e : a1.1 = (setK K dq R (some (1 + 8 * (row * G + gi) + j, otd W K pl row gi j, zr)), true, lf - 1, wr + 1) := a1e
      unfold andT
      rw [ab1, if_pos rfl, a1e]
      (try dsimp only)
      have ab2 := aput_b (s := (setK K dq R (some (1 + 8 * (row * G + gi) + j, otd W K pl row gi j, zr)), true, lf - 1, wr + 1)) (d := dd) (o := row) (c := (W * gi + j + 1, P, zr))
      have ab2 : _ = decide (lf - 1 ≠ 1) := ab2
      by_cases e2 : lf = 2
      · rw [decide_eq_false (fun z => z (by omega))] at ab2
        rw [ab2, if_neg (by decide), aput_off ab2, e2]
        exact gis_off ⟨row, gi, j, gA.off ge nA.nw, fun z => by cases z⟩
      rw [decide_eq_true (show lf - 1 ≠ 1 by omega)] at ab2
      have a2e := aput_ok ab2
      generalize aput (setK K dq R (some (1 + 8 * (row * G + gi) + j, otd W K pl row gi j, zr)), true, lf - 1, wr + 1) dd row (W * gi + j + 1, P, zr) = a2 at *
      have a2e : a2.1 = (setK (setK K dq R (some (1 + 8 * (row * G + gi) + j, otd W K pl row gi j, zr))) dd row (some (W * gi + j + 1, P, zr)), true, lf - 1 - 1, wr + 1 + 1) := a2e
      rw [ab2, if_pos rfl, a2e, show wch true lf = true from by unfold wch; simp [e1, e2], if_pos rfl]
      (try dsimp only)
      have ab3 := aput_b (s := (setK (setK K dq R (some (1 + 8 * (row * G + gi) + j, otd W K pl row gi j, zr))) dd row (some (W * gi + j + 1, P, zr)), true, lf - 1 - 1, wr + 1 + 1)) (d := dq) (o := row) (c := (W * gi + (W - 1) + 1, fun i => otd W K pl row gi j i ^^^ P i, zr))
      have ab3 : _ = decide (lf - 1 - 1 ≠ 1) := ab3
      by_cases e3 : lf = 3
      · rw [decide_eq_false (fun z => z (by omega))] at ab3
        rw [ab3, if_neg (by decide), aput_off ab3, show wdp true lf = true from by unfold wdp; simp [e3]]
        have ev : VPd (setV V (blk W G row gi j) P) (V (blk W G row gi j)) (blk W G row gi j) true = V := by
          unfold VPd
          rw [if_pos rfl, setV_back]
        refine gis_off ⟨row, gi, j, ?_, fun _ => ⟨rfl, nB.off ge gB, fun dl e => ?_⟩⟩
        · rw [ev]; exact gB.off ge nB.nw
        · have el := fnd_E ge gB nB.nw hr hqq e
          rw [hq] at el
          cases el
          constructor
          · rw [setK_ne (fun y => by omega), setK_at]
            exact (show (if z9 zr = true then (1 + 8 * (row * G + gi) + j) else 0) = 1 + 8 * (row * G + gi) + j from if_pos z9_zr)
          · rw [isvo_fnd ge gB nB.nw hr hpp, hp]
            show isv (setK _ dd row _ dd row) = true
            rw [setK_at]
            exact z9_zr
      rw [decide_eq_true (show lf - 1 - 1 ≠ 1 by omega)] at ab3
      have a3e := aput_ok ab3
      generalize aput (setK (setK K dq R (some (1 + 8 * (row * G + gi) + j, otd W K pl row gi j, zr))) dd row (some (W * gi + j + 1, P, zr)), true, lf - 1 - 1, wr + 1 + 1) dq row (W * gi + (W - 1) + 1, fun i => otd W K pl row gi j i ^^^ P i, zr) = a3 at *
      have a3e : a3.1 = (setK (setK (setK K dq R (some (1 + 8 * (row * G + gi) + j, otd W K pl row gi j, zr))) dd row (some (W * gi + j + 1, P, zr))) dq row (some (W * gi + (W - 1) + 1, fun i => otd W K pl row gi j i ^^^ P i, zr)), true, lf - 1 - 1 - 1, wr + 1 + 1 + 1) := a3e
      rw [ab3, if_pos rfl, a3e, show wdp true lf = false from by unfold wdp; simp [e3]]
      (try dsimp only)
      have ab4 := aput_b (s := (setK (setK (setK K dq R (some (1 + 8 * (row * G + gi) + j, otd W K pl row gi j, zr))) dd row (some (W * gi + j + 1, P, zr))) dq row (some (W * gi + (W - 1) + 1, fun i => otd W K pl row gi j i ^^^ P i, zr)), true, lf - 1 - 1 - 1, wr + 1 + 1 + 1)) (d := dq) (o := R) (c := (0, zr, zr))
      have ab4 : _ = decide (lf - 1 - 1 - 1 ≠ 1) := ab4
      by_cases e4 : lf - 1 - 1 - 1 = 1
      · rw [decide_eq_false (fun z => z e4)] at ab4
        rw [aput_off ab4]
        exact gis_off ⟨row, gi, j, gC.off ge nC.nw, fun z => by cases z⟩
      · rw [decide_eq_true e4] at ab4
        rw [aput_ok ab4]
        refine gis_on ⟨gD, nD, fun d1 v e => ?_⟩
        by_cases z : d1 = dq
        · rw [z, setK_at] at e; cases e; rfl
        · rw [setK_ne (fun y => z y.1), setK_ne (fun y => by omega), setK_ne (fun y => by omega), setK_ne (fun y => z y.1)] at e
          exact lg0 d1 v e
end GW
