section GF
variable {D W R G : Nat} {hd : Nat → Nat → Nat} {live : Nat → Bool} {K : Rk} {E : Nat → Nat → Option Nat} {I : Nat → Nat → Nat → Int64} {V : Nat → Nat → Int64} {a b c : Nat} {pl : Nat → Nat → Option Nat} {ol : Nat → Int64} {cb : Nat} {dp : Bool}
theorem GB.ext (h : GB D W R G hd live K E I V a b c) {E' : Nat → Nat → Option Nat} (e : ∀ row p, row < R → p < W * G → E row p = E' row p) : GB D W R G hd live K E' I V a b c := by
  obtain ⟨⟨lv, lk, kw, pw⟩, t1, t2, t3, t4, t5, ha⟩ := h
  refine ⟨⟨lv, lk, kw, ⟨fun row p d hr hp z => pw.1 row p d hr hp (by rw [e row p hr hp]; exact z), fun row p q d hr hp hq z z2 => pw.2 row p q d hr hp hq (by rw [e row p hr hp]; exact z) (by rw [e row q hr hq]; exact z2)⟩⟩, fun row p v hr hp z => ?_, fun row q v hr h1 h2 z => ?_, fun row p d hr hp z => t3 row p d hr hp (by rw [e row p hr hp]; exact z), t4, fun row gi hr hg => ?_, ha⟩
  · obtain ⟨x1, x2, x3⟩ := t1 row p v hr hp z
    exact ⟨x1, by rw [← e row p hr hp]; exact x2, x3⟩
  · obtain ⟨x1, x2⟩ := t2 row q v hr h1 h2 z
    exact ⟨x1, fun p hp y w => x2 p hp y (w.imp id (fun w => by rw [e row p hr hp]; exact w))⟩
  · rw [cnt_congr (g := fun j => !isvo K row (E row (W * gi + j))) (fun j _ hj => by rw [e row _ hr (pos_lt hg (by omega))])]
    exact t5 row gi hr hg
theorem N3.ext (h : N3 D R (W * G) hd K E) {E' : Nat → Nat → Option Nat} (e : ∀ row p, row < R → p < W * G → E row p = E' row p) : N3 D R (W * G) hd K E' := fun row q v p hr h1 h2 hp x y z => by rw [← e row p hr hp]; exact h row q v p hr h1 h2 hp x y z
/-- the ideal changes where no position has a place -/
theorem GB.chI (h : GB D W R G hd live K E I V a b c) (n3 : N3 D R (W * G) hd K E) {I' : Nat → Nat → Nat → Int64} (hI : ∀ row1 p1, row1 < R → p1 < W * G → E row1 p1 ≠ none → ∀ i, i < 8 → I row1 p1 i = I' row1 p1 i) : GB D W R G hd live K E I' V a b c := by
  obtain ⟨⟨lv, lk, kw, pw⟩, t1, t2, t3, t4, t5, ha⟩ := h
  refine ⟨⟨lv, lk, kw, pw⟩, fun row p v hr hp z => ?_, fun row q v hr h1 h2 z => ?_, t3, t4, t5, ha⟩
  · obtain ⟨x1, x2, x3⟩ := t1 row p v hr hp z
    exact ⟨x1, x2, fun i hi => by rw [x3 i hi]; exact hI row p hr hp (by rw [x2]; exact fun u => by cases u) i hi⟩
  · obtain ⟨x1, x2⟩ := t2 row q v hr h1 h2 z
    refine ⟨x1, fun p hp y w i hi => ?_⟩
    rw [x2 p hp y w i hi]
    have ew : E row p = some (hd row q) := by
      rcases w with w | w
      · exact n3 row q v p hr h1 h2 hp z w y
      · exact w
    exact hI row p hr hp (by rw [ew]; exact fun u => by cases u) i hi
/-- what opening finds is the home, or a valid spare with the tag -/
theorem fnd_cases (gn : GN D W R G) {row p d : Nat} (h : fnd D (W * G) hd K row p = some d) : (d = hd row p ∧ (K d row).isSome = true) ∨ ((K (hd row p) row).isSome = false ∧ ∃ q v, W * G ≤ q ∧ q < D ∧ d = hd row q ∧ K d row = some v ∧ z9 v.2.2 = true ∧ v.1 = p + 1) := by
  obtain ⟨⟨_, _⟩, ⟨_, _, _⟩, ⟨_, _⟩, ⟨_, _⟩, ⟨_, _⟩, _, _, _, _⟩ := gn
  unfold fnd at h
  cases hk : (K (hd row p) row).isSome with
  | true => rw [hk, if_pos rfl] at h; cases h; exact Or.inl ⟨rfl, hk⟩
  | false =>
    rw [hk, if_neg (by decide)] at h
    cases hs : srch (fun q => ist (K (hd row q) row) (p + 1)) (D - W * G) (W * G) with
    | none => rw [hs] at h; cases h
    | some q =>
      rw [hs] at h
      cases h
      obtain ⟨h1, h2, h3, _⟩ := srch_some hs
      obtain ⟨v, v1, v2, v3⟩ := ist_iff.mp h3
      exact Or.inr ⟨rfl, q, v, h1, by omega, rfl, v1, v2, v3⟩
theorem fnd_row {K1 : Rk} {row p : Nat} (h : ∀ d, K1 d row = K d row) : fnd D (W * G) hd K1 row p = fnd D (W * G) hd K row p := by
  unfold fnd
  rw [h]
  rw [srch_congr (f := fun q => ist (K1 (hd row q) row) (p + 1)) (g := fun q => ist (K (hd row q) row) (p + 1)) (fun q _ _ => by rw [h])]
theorem isvo_row {K1 : Rk} {row : Nat} {x : Option Nat} (h : ∀ d, K1 d row = K d row) : isvo K1 row x = isvo K row x := by
  cases x with
  | none => rfl
  | some d => show isv (K1 d row) = isv (K d row); rw [h]
/-- a found place is written anew: the same is found -/
theorem fnd_put (ge : Geo D W R G hd) (h : GB D W R G hd live K (fnd D (W * G) hd K) I V a b c) {row p d : Nat} {P : Nat → Int64} (hr : row < R) (hp : p < W * G) (he : fnd D (W * G) hd K row p = some d) : ∀ row1 p1, row1 < R → p1 < W * G → fnd D (W * G) hd K row1 p1 = fnd D (W * G) hd (setK K d row (some (p + 1, P, zr))) row1 p1 := by
  intro row1 p1 hr1 hp1
  have gn := ge.num
  obtain ⟨⟨_, _⟩, ⟨_, _, _⟩, ⟨_, _⟩, ⟨_, _⟩, ⟨_, _⟩, _, _, _, _⟩ := id gn
  have inj := ge.2.2.2.2.2.1
  by_cases hrow : row1 = row
  · subst hrow
    obtain ⟨v, k1, k2⟩ := h.2.2.2.1 row1 p d hr hp he
    have e1 : (setK K d row1 (some (p + 1, P, zr)) (hd row1 p1) row1).isSome = (K (hd row1 p1) row1).isSome := by
      by_cases z : hd row1 p1 = d
      · rw [z, setK_at, k1]; rfl
      · rw [setK_ne (fun y => z y.1)]
    unfold fnd
    rw [e1]
    rw [srch_congr (f := fun q => ist (setK K d row1 (some (p + 1, P, zr)) (hd row1 q) row1) (p1 + 1)) (g := fun q => ist (K (hd row1 q) row1) (p1 + 1)) (fun q h1 h2 => ?_)]
    by_cases z : hd row1 q = d
    · show ist (setK K d row1 (some (p + 1, P, zr)) (hd row1 q) row1) (p1 + 1) = ist (K (hd row1 q) row1) (p1 + 1)
      rw [z, setK_at]
      rcases fnd_cases gn he with ⟨y1, y2⟩ | ⟨y0, q1, v1, y1, y2, y3, y4, y5, y6⟩
      · rw [y1] at z
        have := inj row1 q p (by omega) (by omega) z
        omega
      · rw [y4]
        show (z9 zr && decide (p + 1 = p1 + 1)) = (z9 v1.2.2 && decide (v1.1 = p1 + 1))
        rw [y5, z9_zr, y6]
    · show ist (setK K d row1 (some (p + 1, P, zr)) (hd row1 q) row1) (p1 + 1) = ist (K (hd row1 q) row1) (p1 + 1)
      rw [setK_ne (fun y => z y.1)]
  · exact (fnd_row (fun d1 => setK_ne (fun y => hrow y.2))).symm
/-- a spare that isn't found is cleared -/
theorem fnd_clear (ge : Geo D W R G hd) {row q0 : Nat} (hr : row < R) (hq : W * G ≤ q0) (hq0 : q0 < D) (hfree : ∀ q, q < W * G → fnd D (W * G) hd K row q ≠ some (hd row q0)) : ∀ row1 p1, row1 < R → p1 < W * G → fnd D (W * G) hd K row1 p1 = fnd D (W * G) hd (setK K (hd row q0) row (some (0, zr, zr))) row1 p1 := by
  intro row1 p1 hr1 hp1
  obtain ⟨⟨_, _⟩, ⟨_, _, _⟩, ⟨_, _⟩, ⟨_, _⟩, ⟨_, _⟩, _, _, _, _⟩ := ge.num
  have inj := ge.2.2.2.2.2.1
  by_cases hrow : row1 = row
  · subst hrow
    have z : hd row1 p1 ≠ hd row1 q0 := fun z => by
      have := inj row1 p1 q0 (by omega) hq0 z
      omega
    have hf := hfree p1 hp1
    unfold fnd at hf ⊢
    rw [setK_ne (fun y => z y.1)]
    cases hk : (K (hd row1 p1) row1).isSome with
    | true => rw [if_pos rfl, if_pos rfl]
    | false =>
      rw [hk, if_neg (by decide)] at hf
      rw [if_neg (by decide), if_neg (by decide)]
      congr 1
      have f0 : ist (setK K (hd row1 q0) row1 (some (0, zr, zr)) (hd row1 q0) row1) (p1 + 1) = false := by
        rw [setK_at]
        show (z9 zr && decide (0 = p1 + 1)) = false
        rw [decide_eq_false (by omega), Bool.and_false]
      have fn : ∀ q, q < D → q ≠ q0 → ist (setK K (hd row1 q0) row1 (some (0, zr, zr)) (hd row1 q) row1) (p1 + 1) = ist (K (hd row1 q) row1) (p1 + 1) := fun q hq1 hne => by
        rw [setK_ne (fun y => hne (inj row1 q q0 hq1 hq0 y.1))]
      cases hs : srch (fun q => ist (K (hd row1 q) row1) (p1 + 1)) (D - W * G) (W * G) with
      | none =>
        refine (srch_no (fun q h1 h2 => ?_)).symm
        by_cases e : q = q0
        · rw [e]; exact f0
        · rw [fn q (by omega) e]; exact srch_none hs q h1 h2
      | some q =>
        obtain ⟨h1, h2, h3, h4⟩ := srch_some hs
        have hne : q ≠ q0 := fun e => by
          rw [hs, e] at hf
          exact hf rfl
        refine (srch_at h1 h2 (by rw [fn q (by omega) hne]; exact h3) (fun q1 g1 g2 => ?_)).symm
        by_cases e : q1 = q0
        · rw [e]; exact f0
        · rw [fn q1 (by omega) e]; exact h4 q1 g1 g2
  · exact (fnd_row (fun d1 => setK_ne (fun y => hrow y.2))).symm
/-- a disk is taken out -/
theorem rmK_some {x d o : Nat} {v : CellV} (h : rmK K x d o = some v) : d ≠ x ∧ K d o = some v := by
  unfold rmK at h
  split at h
  · cases h
  · rename_i e; exact ⟨e, h⟩
theorem rmK_ne {x d o : Nat} (h : d ≠ x) : rmK K x d o = K d o := if_neg h
theorem rm_base (lv : LV D live) (lk : LK live K) (kw : KW D R K) (x : Nat) : LV D (rmL live x) ∧ LK (rmL live x) (rmK K x) ∧ KW D R (rmK K x) := by
  refine ⟨fun d hd => ?_, fun d o e => ?_, fun d o v h1 h2 e => kw d o v h1 h2 (rmK_some e).2⟩
  · unfold rmL
    split
    · rfl
    · exact lv d hd
  · unfold rmL at e
    unfold rmK
    split
    · rfl
    · rename_i z
      rw [if_neg z] at e
      exact lk d o e
theorem isvo_rm {row p x : Nat} : (!isvo (rmK K x) row (rmP pl x row p)) = hrt K pl x row p := by
  unfold hrt rmP
  by_cases z : pl row p = some x
  · rw [if_pos z, decide_eq_true z]
    show (!false) = _
    rw [Bool.or_true]; rfl
  · rw [if_neg z, decide_eq_false z, Bool.or_false]
    cases he : pl row p with
    | none => rfl
    | some d =>
      show (!isv (rmK K x d row)) = !isv (K d row)
      rw [rmK_ne (fun y => z (by rw [he, y]))]
theorem GON.fail (ge : Geo D W R G hd) (h : GON D W R G hd live K pl V) {x : Nat} (hb : brk W G R K pl x = false) : GON D W R G hd (rmL live x) (rmK K x) (rmP pl x) V := by
  obtain ⟨⟨_, _⟩, ⟨_, _, _⟩, ⟨_, _⟩, ⟨_, _⟩, ⟨_, _⟩, _, _, _, _⟩ := ge.num
  obtain ⟨⟨⟨lv, lk, kw, pw⟩, t1, t2, t3, t4, t5, ha⟩, n3, lg⟩ := h
  obtain ⟨b1, b2, b3⟩ := rm_base lv lk kw x
  have hne : ∀ {row p d : Nat}, pl row p = some d → d ≠ x → rmP pl x row p = some d := fun {row p d} e z => by
    unfold rmP
    rw [if_neg (fun y => z (by rw [e] at y; exact Option.some.inj y))]
    exact e
  refine ⟨⟨⟨b1, b2, b3, ⟨fun row p d hr hp e => pw.1 row p d hr hp (rmP_m e).1, fun row p q d hr hp hq e e2 => pw.2 row p q d hr hp hq (rmP_m e).1 (rmP_m e2).1⟩⟩, fun row p v hr hp e => ?_, fun row q v hr h1 h2 e => ?_, fun row p d hr hp e => ?_, fun d v e => t4 d v (rmK_some e).2, fun row gi hr hg => ?_, ha⟩, fun row q v p hr h1 h2 hp e ez et => ?_, fun d v e => lg d v (rmK_some e).2⟩
  · obtain ⟨z1, z2⟩ := rmK_some e
    obtain ⟨x1, x2, x3⟩ := t1 row p v hr hp z2
    exact ⟨x1, hne x2 z1, x3⟩
  · obtain ⟨x1, x2⟩ := t2 row q v hr h1 h2 (rmK_some e).2
    exact ⟨x1, fun p hp y w => x2 p hp y (w.imp id (fun w => (rmP_m w).1))⟩
  · obtain ⟨z1, z2⟩ := rmP_m e
    obtain ⟨v, k1, k2⟩ := t3 row p d hr hp z1
    exact ⟨v, by rw [rmK_ne z2]; exact k1, k2⟩
  · rw [cnt_congr (g := fun j => hrt K pl x row (W * gi + j)) (fun j _ _ => isvo_rm)]
    rcases Nat.lt_or_ge 1 (cnt (fun j => hrt K pl x row (W * gi + j)) W 0) with z | z
    · have := (brk_iff (K := K) (E := pl) (x := x) (W := W) (R := R) (show 0 < G by omega)).mpr ⟨row, gi, hr, hg, z⟩
      rw [hb] at this; cases this
    · exact z
  · obtain ⟨z1, z2⟩ := rmK_some e
    exact hne (n3 row q v p hr h1 h2 hp z2 ez et) z1
theorem fnd_rm {row p d x : Nat} (h : fnd D (W * G) hd K row p = some d) (hx : d ≠ x) : fnd D (W * G) hd (rmK K x) row p = some d := by
  unfold fnd at h ⊢
  cases hk : (K (hd row p) row).isSome with
  | true =>
    rw [hk, if_pos rfl] at h
    cases h
    rw [rmK_ne hx, hk, if_pos rfl]
  | false =>
    rw [hk, if_neg (by decide)] at h
    have : (rmK K x (hd row p) row).isSome = false := by
      unfold rmK
      split
      · rfl
      · exact hk
    rw [this, if_neg (by decide)]
    cases hs : srch (fun q => ist (K (hd row q) row) (p + 1)) (D - W * G) (W * G) with
    | none => rw [hs] at h; cases h
    | some q =>
      rw [hs] at h
      cases h
      obtain ⟨h1, h2, h3, h4⟩ := srch_some hs
      rw [srch_at (i := q) h1 h2 (by rw [rmK_ne hx]; exact h3) (fun q1 g1 g2 => ?_)]
      · rfl
      · have := h4 q1 g1 g2
        show ist (rmK K x (hd row q1) row) (p + 1) = false
        unfold rmK
        split
        · rfl
        · exact this
/-- what the reference takes back, when a disk fails with the power off -/
def tks (D W G : Nat) (hd : Nat → Nat → Nat) (K : Rk) (cb : Nat) (dp : Bool) (x : Nat) : Bool := dp && decide (fnd D (W * G) hd K (cb / (W - 1) / G) (W * (cb / (W - 1) % G) + cb % (W - 1)) = some x)
theorem blk_dec {row gi j : Nat} (hg : gi < G) (hj : j < W - 1) : blk W G row gi j / (W - 1) / G = row ∧ blk W G row gi j / (W - 1) % G = gi ∧ blk W G row gi j % (W - 1) = j := by
  have e1 : blk W G row gi j / (W - 1) = row * G + gi := by unfold blk; rw [Nat.add_comm, Nat.add_mul_div_right _ _ (by omega), Nat.div_eq_of_lt hj, Nat.zero_add]
  have e2 : blk W G row gi j % (W - 1) = j := by unfold blk; rw [Nat.add_comm, Nat.add_mul_mod_self_right, Nat.mod_eq_of_lt hj]
  rw [e1]
  exact ⟨(st_dm hg).1, (st_dm hg).2, e2⟩
theorem GOX.fail (ge : Geo D W R G hd) (h : GOX D W R G hd live K V ol cb dp a b c) {x : Nat} (hb : brk W G R K (fnd D (W * G) hd K) x = false) : GOX D W R G hd (rmL live x) (rmK K x) (if tks D W G hd K cb dp x = true then setV V cb ol else V) ol cb (dp && !tks D W G hd K cb dp x) a b c := by
  have gn := ge.num
  obtain ⟨⟨_, _⟩, ⟨_, _, _⟩, ⟨_, _⟩, ⟨_, _⟩, ⟨_, _⟩, _, _, _, _⟩ := id gn
  obtain ⟨⟨⟨lv, lk, kw, pw⟩, t1, t2, t3, t4, t5, ha1, ha2, ha3⟩, dc⟩ := h
  obtain ⟨b1, b2, b3⟩ := rm_base lv lk kw x
  have inj := ge.2.2.2.2.2.1
  have hpc := pos_lt ha2 (show c < W by omega)
  have hpq := pos_lt ha2 (show W - 1 < W by omega)
  -- the parities' blocks stay
  have evp : VPd (if tks D W G hd K cb dp x = true then setV V cb ol else V) ol cb (dp && !tks D W G hd K cb dp x) = VPd V ol cb dp := by
    unfold VPd
    cases ht : tks D W G hd K cb dp x with
    | false => rw [if_neg (show ¬ false = true by decide), Bool.not_false, Bool.and_true]
    | true =>
      have : dp = true := (Bool.and_eq_true_iff.mp ht).1
      rw [if_pos rfl, this]; rfl
  have tkd : tks D W G hd K cb dp x = true → dp = true ∧ cb = blk W G a b c ∧ fnd D (W * G) hd K a (W * b + c) = some x := by
    intro z
    obtain ⟨z1, z2⟩ := Bool.and_eq_true_iff.mp z
    have e := (dc z1).1
    have z2 := of_decide_eq_true z2
    rw [e, (blk_dec ha2 ha3).1, (blk_dec ha2 ha3).2.1, (blk_dec ha2 ha3).2.2] at z2
    exact ⟨z1, e, z2⟩
  -- the ideals of what is left
  have hI : ∀ row p, row < R → p < W * G → (tks D W G hd K cb dp x = true → ¬ (row = a ∧ p = W * b + c)) → ∀ i, idl W G V (VPd V ol cb dp) row p i = idl W G (if tks D W G hd K cb dp x = true then setV V cb ol else V) (VPd V ol cb dp) row p i := by
    intro row p hr hp hne i
    cases ht : tks D W G hd K cb dp x with
    | false => rw [if_neg (by decide)]
    | true =>
      rw [if_pos rfl]
      have hq' := Nat.div_add_mod p W
      have hm := Nat.mod_lt p (show 0 < W by omega)
      refine idl_congr (fun e => ?_) (fun _ _ _ => rfl)
      rw [setV_ne (fun z => ?_)]
      rw [(tkd ht).2.1] at z
      obtain ⟨y1, y2, y3⟩ := blk_inj (Nat.div_lt_of_lt_mul hp) (show p % W < W - 1 by omega) ha2 ha3 z
      exact hne ht ⟨y1, by rw [← hq', y2, y3]⟩
  -- no cell is left of the block that is taken back
  have hh : ∀ row p v, row < R → p < W * G → rmK K x (hd row p) row = some v → tks D W G hd K cb dp x = true → ¬ (row = a ∧ p = W * b + c) := by
    rintro row p v hr hp e ht ⟨z1, z2⟩
    obtain ⟨y1, y2⟩ := rmK_some e
    have := (t1 row p v hr hp y2).2.1
    rw [z1, z2, (tkd ht).2.2] at this
    rw [z1, z2] at y1
    exact y1 (Option.some.inj this).symm
  have hs : ∀ row q p v, row < R → W * G ≤ q → q < D → p < W * G → rmK K x (hd row q) row = some v → z9 v.2.2 = true → v.1 = p + 1 → tks D W G hd K cb dp x = true → ¬ (row = a ∧ p = W * b + c) := by
    rintro row q p v hr h1 h2 hp e ez et ht ⟨z1, z2⟩
    obtain ⟨y1, y2⟩ := rmK_some e
    have := (dc (tkd ht).1).2.1 row q v p hr h1 h2 hp y2 ez et
    rw [z1, z2, (tkd ht).2.2] at this
    rw [z1] at y1
    exact y1 (Option.some.inj this).symm
  have isv' : ∀ row p, row < R → p < W * G → hrt K (fnd D (W * G) hd K) x row p = false → isvo (rmK K x) row (fnd D (W * G) hd (rmK K x) row p) = true := by
    intro row p hr hp e
    unfold hrt at e
    obtain ⟨e1, e2⟩ := Bool.or_eq_false_iff.mp e
    have e1 : isvo K row (fnd D (W * G) hd K row p) = true := not_f e1
    have e2 := of_decide_eq_false e2
    obtain ⟨d, v, x1, x2, x3⟩ := isvo_some.mp e1
    have hdx : d ≠ x := fun z => e2 (by rw [x1, z])
    exact isvo_some.mpr ⟨d, v, fnd_rm x1 hdx, by rw [rmK_ne hdx]; exact x2, x3⟩
  refine ⟨⟨⟨b1, b2, b3, fnd_PW ge⟩, fun row p v hr hp e => ?_, fun row q v hr h1 h2 e => ?_, fun row p d hr hp e => ?_, fun d v e => ?_, fun row gi hr hg => ?_, ha1, ha2, ha3⟩, fun hdp => ?_⟩
  · obtain ⟨x1, x2, x3⟩ := t1 row p v hr hp (rmK_some e).2
    refine ⟨x1, fnd_home (by rw [e]; rfl), fun i hi => ?_⟩
    rw [evp, x3 i hi]
    exact hI row p hr hp (hh row p v hr hp e) i
  · obtain ⟨x1, x2⟩ := t2 row q v hr h1 h2 (rmK_some e).2
    refine ⟨x1, fun p hp y w i hi => ?_⟩
    have ez : z9 v.2.2 = true := by
      rcases w with w | w
      · exact w
      · rcases fnd_cases gn w with ⟨y1, y2⟩ | ⟨y0, q1, v1, y1, y2, y3, y4, y5, y6⟩
        · have := inj row q p h2 (by omega) y1
          omega
        · rw [e] at y4; cases y4; exact y5
    rw [evp, x2 p hp y (Or.inl ez) i hi]
    exact hI row p hr hp (hs row q p v hr h1 h2 hp e ez y) i
  · rcases fnd_cases gn e with ⟨y1, y2⟩ | ⟨y0, q1, v1, y1, y2, y3, y4, y5, y6⟩
    · obtain ⟨v, hv⟩ := Option.isSome_iff_exists.mp y2
      refine ⟨v, hv, ?_⟩
      rw [y1] at hv
      exact (t1 row p v hr hp (rmK_some hv).2).1
    · exact ⟨v1, y4, y6⟩
  · obtain ⟨x1, x2⟩ := t4 d v (rmK_some e).2
    refine ⟨x1, x2.imp id (fun z => ⟨z.1, fun i hi => ?_⟩)⟩
    rw [z.2 i hi]
    cases ht : tks D W G hd K cb dp x with
    | false => rw [if_neg (by decide)]
    | true => rw [if_pos rfl, (tkd ht).2.1]; exact lgv_set ha2 ha3
  · refine Nat.le_trans (cnt_mono (g := fun j => hrt K (fnd D (W * G) hd K) x row (W * gi + j)) (fun j _ hj e => ?_)) ?_
    · cases hv : hrt K (fnd D (W * G) hd K) x row (W * gi + j) with
      | true => rfl
      | false =>
        rw [isv' row _ hr (pos_lt hg (by omega)) hv] at e
        cases e
    · rcases Nat.lt_or_ge 1 (cnt (fun j => hrt K (fnd D (W * G) hd K) x row (W * gi + j)) W 0) with z | z
      · have := (brk_iff (K := K) (E := fnd D (W * G) hd K) (x := x) (W := W) (R := R) (show 0 < G by omega)).mpr ⟨row, gi, hr, hg, z⟩
        rw [hb] at this; cases this
      · exact z
  · obtain ⟨d1, d2⟩ := Bool.and_eq_true_iff.mp hdp
    obtain ⟨c1, c2, c3⟩ := dc d1
    have d2 : tks D W G hd K cb dp x = false := by
      revert d2
      cases tks D W G hd K cb dp x <;> simp
    have hnx : fnd D (W * G) hd K a (W * b + c) ≠ some x := fun z => by
      have : tks D W G hd K cb dp x = true := by
        unfold tks
        rw [d1, c1, (blk_dec ha2 ha3).1, (blk_dec ha2 ha3).2.1, (blk_dec ha2 ha3).2.2, decide_eq_true z]; rfl
      rw [d2] at this; cases this
    refine ⟨c1, fun row q v p hr h1 h2 hp e ez et => ?_, fun dl e => ?_⟩
    · obtain ⟨y1, y2⟩ := rmK_some e
      exact fnd_rm (c2 row q v p hr h1 h2 hp y2 ez et) y1
    · have e0 : fnd D (W * G) hd K a (W * b + (W - 1)) = some dl ∧ dl ≠ x := by
        rcases fnd_cases gn e with ⟨y1, y2⟩ | ⟨y0, q1, v1, y1, y2, y3, y4, y5, y6⟩
        · obtain ⟨v, hv⟩ := Option.isSome_iff_exists.mp y2
          obtain ⟨z1, z2⟩ := rmK_some hv
          refine ⟨?_, z1⟩
          rw [y1] at z2 ⊢
          exact fnd_home (by rw [z2]; rfl)
        · obtain ⟨z1, z2⟩ := rmK_some y4
          refine ⟨?_, z1⟩
          rw [y3] at z2 ⊢
          exact c2 a q1 v1 _ ha1 y1 y2 hpq z2 y5 y6
      obtain ⟨e1, e2⟩ := e0
      obtain ⟨w1, w2⟩ := c3 dl e1
      refine ⟨by rw [rmK_ne e2]; exact w1, ?_⟩
      obtain ⟨d, v, x1, x2, x3⟩ := isvo_some.mp w2
      have hdx : d ≠ x := fun z => hnx (by rw [x1, z])
      exact isvo_some.mpr ⟨d, v, fnd_rm x1 hdx, by rw [rmK_ne hdx]; exact x2, x3⟩
/-- a disk is put in -/
def adL (live : Nat → Bool) (x : Nat) : Nat → Bool := fun d => if d = x then true else live d
theorem GB.add (h : GB D W R G hd live K E I V a b c) {x : Nat} (hx : x < D) : GB D W R G hd (adL live x) K E I V a b c := by
  obtain ⟨⟨lv, lk, kw, pw⟩, rest⟩ := h
  refine ⟨⟨fun d hd => ?_, fun d o e => ?_, kw, pw⟩, rest⟩
  · unfold adL; rw [if_neg (by omega)]; exact lv d hd
  · unfold adL at e
    split at e
    · cases e
    · exact lk d o e
end GF
