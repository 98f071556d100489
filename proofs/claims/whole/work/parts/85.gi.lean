def blk (W G row gi j : Nat) : Nat := (row * G + gi) * (W - 1) + j
/-- what a position ought to bear: V the blocks, VP those that the parity speaks of -/
def idl (W G : Nat) (V VP : Nat → Nat → Int64) (row p i : Nat) : Int64 := if p % W = W - 1 then xorN (fun j => VP (blk W G row (p / W) j) i) (W - 1) else V (blk W G row (p / W) (p % W)) i
/-- what a log ought to bear -/
def lgv (W G : Nat) (V : Nat → Nat → Int64) (row gi j i : Nat) : Int64 := xorN (fun j1 => if j1 = j then 0 else V (blk W G row gi j1) i) (W - 1)
def T1 (R N : Nat) (hd : Nat → Nat → Nat) (K : Rk) (E : Nat → Nat → Option Nat) (I : Nat → Nat → Nat → Int64) : Prop := ∀ row p v, row < R → p < N → K (hd row p) row = some v → v.1 = p + 1 ∧ E row p = some (hd row p) ∧ ∀ i, i < 8 → v.2.1 i = I row p i
def T2 (D R N : Nat) (hd : Nat → Nat → Nat) (K : Rk) (E : Nat → Nat → Option Nat) (I : Nat → Nat → Nat → Int64) : Prop := ∀ row q v, row < R → N ≤ q → q < D → K (hd row q) row = some v → v.1 ≤ N ∧ ∀ p, p < N → v.1 = p + 1 → (z9 v.2.2 = true ∨ E row p = some (hd row q)) → ∀ i, i < 8 → v.2.1 i = I row p i
def T3 (R N : Nat) (K : Rk) (E : Nat → Nat → Option Nat) : Prop := ∀ row p d, row < R → p < N → E row p = some d → ∃ v, K d row = some v ∧ v.1 = p + 1
def T4 (W G R : Nat) (K : Rk) (V : Nat → Nat → Int64) (a b c : Nat) : Prop := ∀ d v, K d R = some v → z9 v.2.2 = true ∧ (v.1 = 0 ∨ v.1 = 1 + 8 * (a * G + b) + c ∧ ∀ i, i < 8 → v.2.1 i = lgv W G V a b c i)
def T5 (W G R : Nat) (K : Rk) (E : Nat → Nat → Option Nat) : Prop := ∀ row gi, row < R → gi < G → cnt (fun j => !isvo K row (E row (W * gi + j))) W 0 ≤ 1
/-- a valid spare with a tag is a place -/
def N3 (D R N : Nat) (hd : Nat → Nat → Nat) (K : Rk) (E : Nat → Nat → Option Nat) : Prop := ∀ row q v p, row < R → N ≤ q → q < D → p < N → K (hd row q) row = some v → z9 v.2.2 = true → v.1 = p + 1 → E row p = some (hd row q)
/-- the same, of the positions whose home isn't written -/
def NW (D R N : Nat) (hd : Nat → Nat → Nat) (K : Rk) (E : Nat → Nat → Option Nat) : Prop := ∀ row q v p, row < R → N ≤ q → q < D → p < N → K (hd row q) row = some v → z9 v.2.2 = true → v.1 = p + 1 → K (hd row p) row = none → E row p = some (hd row q)
theorem N3.nw {D R N : Nat} {hd : Nat → Nat → Nat} {K : Rk} {E : Nat → Nat → Option Nat} (h : N3 D R N hd K E) : NW D R N hd K E := fun row q v p a b c d e f g _ => h row q v p a b c d e f g
def LV (D : Nat) (live : Nat → Bool) : Prop := ∀ d, D ≤ d → live d = false
def GB (D W R G : Nat) (hd : Nat → Nat → Nat) (live : Nat → Bool) (K : Rk) (E : Nat → Nat → Option Nat) (I : Nat → Nat → Nat → Int64) (V : Nat → Nat → Int64) (a b c : Nat) : Prop :=
  (LV D live ∧ LK live K ∧ KW D R K ∧ PW D R (W * G) E) ∧ T1 R (W * G) hd K E I ∧ T2 D R (W * G) hd K E I ∧ T3 R (W * G) K E ∧ T4 W G R K V a b c ∧ T5 W G R K E ∧ a < R ∧ b < G ∧ c < W - 1
theorem setK_at {K : Rk} {d o : Nat} {c : Option CellV} : setK K d o c d o = c := if_pos ⟨rfl, rfl⟩
theorem setK_ne {K : Rk} {d o d1 o1 : Nat} {c : Option CellV} (h : ¬ (d1 = d ∧ o1 = o)) : setK K d o c d1 o1 = K d1 o1 := if_neg h
theorem cnt_mono {f g : Nat → Bool} : ∀ {m a : Nat}, (∀ j, a ≤ j → j < a + m → f j = true → g j = true) → cnt f m a ≤ cnt g m a := by
  intro m
  induction m with
  | zero => intro a _; exact Nat.le_refl _
  | succ m ih =>
    intro a h
    rw [cnt, cnt]
    have h1 := @ih (a + 1) (fun j h1 h2 => h j (by omega) (by omega))
    have h2 : cond (f a) 1 0 ≤ cond (g a) 1 0 := by
      cases hf : f a with
      | false => exact Nat.zero_le _
      | true => rw [h a (Nat.le_refl _) (by omega) hf]; exact Nat.le_refl _
    omega
theorem isvo_some {K : Rk} {row : Nat} {p : Option Nat} : isvo K row p = true ↔ ∃ d v, p = some d ∧ K d row = some v ∧ z9 v.2.2 = true := by
  cases p with
  | none => exact ⟨fun h => (by cases h), fun ⟨_, _, h, _⟩ => by cases h⟩
  | some d =>
    constructor
    · intro h
      obtain ⟨v, h1, h2, _⟩ := isv_some (c := K d row) h
      exact ⟨d, v, rfl, h1, h2⟩
    · rintro ⟨d1, v, h1, h2, h3⟩
      cases h1
      show isv (K d row) = true
      rw [h2]; exact h3
section XR
theorem xor_c (a b : Int64) : a ^^^ b = b ^^^ a := Int64.xor_comm a b
theorem xorN_skip {f : Nat → Int64} {j : Nat} : ∀ {m : Nat}, j < m → xorN (fun k => if k = j then 0 else f k) m ^^^ f j = xorN f m := by
  intro m
  induction m with
  | zero => intro h; omega
  | succ m ih =>
    intro h
    rw [xorN, xorN]
    by_cases e : m = j
    · subst e
      rw [if_pos rfl, Int64.xor_zero, xorN_congr (g := f) (fun k hk => if_neg (by omega))]
    · rw [if_neg e, ← ih (by omega), Int64.xor_assoc, Int64.xor_assoc, Int64.xor_comm (f m)]
theorem xorN_0 {f : Nat → Int64} : ∀ {m : Nat}, (∀ j, j < m → f j = 0) → xorN f m = 0 := by
  intro m
  induction m with
  | zero => intro _; rfl
  | succ m ih => intro h; rw [xorN, ih (fun j hj => h j (by omega)), h m (by omega)]; rfl
end XR
/-- the positions of a stripe make 0 -/
def SX (W G R : Nat) (I : Nat → Nat → Nat → Int64) : Prop := ∀ row gi i, row < R → gi < G → i < 8 → xorN (fun j => I row (W * gi + j) i) W = 0
theorem posd {W gi j : Nat} (hj : j < W) : (W * gi + j) / W = gi ∧ (W * gi + j) % W = j := by
  constructor
  · rw [Nat.mul_comm, Nat.add_comm, Nat.add_mul_div_right _ _ (by omega), Nat.div_eq_of_lt hj, Nat.zero_add]
  · rw [Nat.mul_comm, Nat.add_comm, Nat.add_mul_mod_self_right, Nat.mod_eq_of_lt hj]
theorem idl_d {W G row gi j i : Nat} {V VP : Nat → Nat → Int64} (hj : j < W - 1) : idl W G V VP row (W * gi + j) i = V (blk W G row gi j) i := by
  unfold idl
  rw [(posd (show j < W by omega)).1, (posd (show j < W by omega)).2, if_neg (by omega)]
theorem idl_p {W G row gi i : Nat} {V VP : Nat → Nat → Int64} (hW : 0 < W) : idl W G V VP row (W * gi + (W - 1)) i = xorN (fun j => VP (blk W G row gi j) i) (W - 1) := by
  unfold idl
  rw [(posd (show W - 1 < W by omega)).1, (posd (show W - 1 < W by omega)).2, if_pos rfl]
theorem idl_SX {W G R : Nat} (hW : 0 < W) (V : Nat → Nat → Int64) : SX W G R (idl W G V V) := by
  intro row gi i _ _ _
  obtain ⟨m, hm⟩ : ∃ m, W = m + 1 := ⟨W - 1, by omega⟩
  have h1 : xorN (fun j => idl W G V V row (W * gi + j) i) (m + 1) = xorN (fun j => idl W G V V row (W * gi + j) i) m ^^^ idl W G V V row (W * gi + m) i := rfl
  have h2 : xorN (fun j => idl W G V V row (W * gi + j) i) m = xorN (fun j => V (blk W G row gi j) i) m := xorN_congr (fun j hj => idl_d (by omega))
  have h3 : idl W G V V row (W * gi + m) i = xorN (fun j => V (blk W G row gi j) i) m := by
    have := idl_p (G := G) (row := row) (gi := gi) (i := i) (V := V) (VP := V) hW
    rw [show W - 1 = m by omega] at this
    exact this
  have h4 : xorN (fun j => idl W G V V row (W * gi + j) i) W = xorN (fun j => idl W G V V row (W * gi + j) i) (m + 1) := by rw [← hm]
  rw [h4, h1, h2, h3, Int64.xor_self]
section GI
variable {D W R G : Nat} {hd : Nat → Nat → Nat} {live : Nat → Bool} {K : Rk} {E : Nat → Nat → Option Nat} {I : Nat → Nat → Nat → Int64} {V : Nat → Nat → Int64} {a b c : Nat}
theorem GB.cont (ge : Geo D W R G hd) (h : GB D W R G hd live K E I V a b c) {row p d : Nat} {v : CellV} (hr : row < R) (hp : p < W * G) (he : E row p = some d) (hk : K d row = some v) : ∀ i, i < 8 → v.2.1 i = I row p i := by
  obtain ⟨⟨_, _, _, pw⟩, t1, t2, t3, _⟩ := h
  obtain ⟨v1, k1, k2⟩ := t3 row p d hr hp he
  rw [hk] at k1
  cases k1
  obtain ⟨q, hq, hq2⟩ := ge.2.2.2.2.2.2 row d (pw.1 row p d hr hp he)
  subst hq2
  by_cases e : q < W * G
  · obtain ⟨z1, z2, z3⟩ := t1 row q v hr e hk
    have : q = p := by omega
    rw [← this]; exact z3
  · exact (t2 row q v hr (by omega) hq hk).2 p hp k2 (Or.inr he)
theorem GB.val (ge : Geo D W R G hd) (h : GB D W R G hd live K E I V a b c) {row p i : Nat} (hr : row < R) (hp : p < W * G) (hv : isvo K row (E row p) = true) (hi : i < 8) : rwo K row (E row p) i = I row p i := by
  obtain ⟨d, v, h1, h2, h3⟩ := isvo_some.mp hv
  rw [h1]
  show rw_ (K d row) i = _
  rw [h2]
  show (if i < 8 then v.2.1 i else tw v.1 v.2.1) ^^^ v.2.2 i = _
  rw [if_pos hi, z9_iff.mp h3 i (by omega), Int64.xor_zero]
  exact h.cont ge hr hp h1 h2 i hi
/-- of a stripe with a bad column all others are valid -/
theorem T5.others (h : T5 W G R K E) {row gi j j1 : Nat} (hr : row < R) (hg : gi < G) (hj : j < W) (hj1 : j1 < W) (hb : isvo K row (E row (W * gi + j)) = false) (hne : j1 ≠ j) : isvo K row (E row (W * gi + j1)) = true := by
  cases hv : isvo K row (E row (W * gi + j1)) with
  | true => rfl
  | false =>
    exfalso
    have h2 := h row gi hr hg
    have key : ∀ (f : Nat → Bool) (m x y : Nat), x < y → y < m → f x = true → f y = true → 2 ≤ cnt f m 0 := by
      intro f m x y h1 h2 h3 h4
      obtain ⟨k, rfl⟩ : ∃ k, m = (x + 1) + k := ⟨m - (x + 1), by omega⟩
      rw [cnt_add]
      have e1 : 1 ≤ cnt f (x + 1) 0 := by
        rw [cnt_add]
        have : cnt f 1 (0 + x) = 1 := by rw [cnt, Nat.zero_add, h3]; rfl
        omega
      have e2 : 1 ≤ cnt f k (0 + (x + 1)) := by
        obtain ⟨k2, rfl⟩ : ∃ k2, k = (y - (x + 1)) + (1 + k2) := ⟨k - (y - (x + 1)) - 1, by omega⟩
        rw [cnt_add, cnt_add]
        have : cnt f 1 (0 + (x + 1) + (y - (x + 1))) = 1 := by rw [cnt, show 0 + (x + 1) + (y - (x + 1)) = y by omega, h4]; rfl
        omega
      omega
    have f1 : (fun j => !isvo K row (E row (W * gi + j))) j = true := by show (!isvo K row (E row (W * gi + j))) = true; rw [hb]; rfl
    have f2 : (fun j => !isvo K row (E row (W * gi + j))) j1 = true := by show (!isvo K row (E row (W * gi + j1))) = true; rw [hv]; rfl
    rcases Nat.lt_or_gt_of_ne hne with z | z
    · have := key (fun j => !isvo K row (E row (W * gi + j))) W j1 j z hj f2 f1; omega
    · have := key (fun j => !isvo K row (E row (W * gi + j))) W j j1 z hj1 f1 f2; omega
theorem GB.othv (ge : Geo D W R G hd) (h : GB D W R G hd live K E I V a b c) (sx : SX W G R I) {row gi j i : Nat} (hr : row < R) (hg : gi < G) (hj : j < W) (hb : isvo K row (E row (W * gi + j)) = false) (hi : i < 8) : oth W K E row gi j i = I row (W * gi + j) i := by
  have t5 := h.2.2.2.2.2.1
  have e1 : oth W K E row gi j i = xorN (fun j1 => if j1 = j then 0 else I row (W * gi + j1) i) W := by
    refine xorN_congr (fun j1 hj1 => ?_)
    by_cases e : j1 = j
    · rw [if_pos e, if_pos e]
    · rw [if_neg e, if_neg e]
      exact h.val ge hr (pos_lt hg hj1) (t5.others hr hg hj hj1 hb e) hi
  have e2 := xorN_skip (f := fun j1 => I row (W * gi + j1) i) hj
  rw [sx row gi i hr hg hi] at e2
  have e3 : ∀ x y : Int64, x ^^^ y = 0 → x = y := fun x y z => by
    have : (x ^^^ y) ^^^ y = y := by rw [z, Int64.zero_xor]
    rw [Int64.xor_assoc, Int64.xor_self, Int64.xor_zero] at this
    exact this
  rw [e1]
  exact e3 _ _ e2
/-- a column is read as it ought to be -/
theorem GB.rd (ge : Geo D W R G hd) (h : GB D W R G hd live K E I V a b c) (sx : SX W G R I) {row gi j i : Nat} (hr : row < R) (hg : gi < G) (hj : j < W) (hi : i < 8) : rdv W K E row gi j i = I row (W * gi + j) i := by
  unfold rdv
  cases hv : isvo K row (E row (W * gi + j)) with
  | true => rw [if_pos rfl]; exact h.val ge hr (pos_lt hg hj) hv hi
  | false => rw [if_neg (by decide)]; exact h.othv ge sx hr hg hj hv hi
theorem GB.alive (h : GB D W R G hd live K E I V a b c) {row p d : Nat} (hr : row < R) (hp : p < W * G) (he : E row p = some d) : live d = true := by
  obtain ⟨v, k1, _⟩ := h.2.2.2.1 row p d hr hp he
  exact h.1.2.1.alive (o := row) (by rw [k1]; rfl)
theorem LK.set {live : Nat → Bool} {K : Rk} {d o : Nat} {c : CellV} (h : LK live K) (hl : live d = true) : LK live (setK K d o (some c)) := by
  intro d1 o1 e
  rw [setK_ne (fun z => by rw [z.1, hl] at e; cases e)]
  exact h d1 o1 e
theorem KW.set {K : Rk} {d o : Nat} {v : CellV} (h : KW D R K) (hv : vOK v) : KW D R (setK K d o (some v)) := by
  intro d1 o1 v1 h1 h2 e
  by_cases z : d1 = d ∧ o1 = o
  · rw [z.1, z.2, setK_at] at e; cases e; exact hv
  · rw [setK_ne z] at e; exact h d1 o1 v1 h1 h2 e
/-- a position's place is written anew -/
theorem GB.put (ge : Geo D W R G hd) (h : GB D W R G hd live K E I V a b c) {row p d : Nat} {P : Nat → Int64} {I' : Nat → Nat → Nat → Int64} {V' : Nat → Nat → Int64} (hr : row < R) (hp : p < W * G) (he : E row p = some d) (hP : ∀ i, i < 8 → P i = I' row p i) (hI : ∀ row1 p1, row1 < R → p1 < W * G → E row1 p1 ≠ none → ¬ (row1 = row ∧ p1 = p) → ∀ i, i < 8 → I row1 p1 i = I' row1 p1 i) (hV : ∀ i, i < 8 → lgv W G V a b c i = lgv W G V' a b c i) (hst : N3 D R (W * G) hd K E ∨ ∀ row1 p1 i, row1 < R → p1 < W * G → i < 8 → I row1 p1 i = I' row1 p1 i) :
    GB D W R G hd live (setK K d row (some (p + 1, P, zr))) E I' V' a b c := by
  obtain ⟨⟨_, _⟩, ⟨_, _, _⟩, ⟨_, _⟩, ⟨_, _⟩, ⟨_, _⟩, _, _, _, _⟩ := ge.num
  have hl := h.alive hr hp he
  obtain ⟨⟨lv, lk, kw, pw⟩, t1, t2, t3, t4, t5, ha⟩ := h
  obtain ⟨v, k1, k2⟩ := t3 row p d hr hp he
  refine ⟨⟨lv, lk.set hl, kw.set (vOK_zr (by omega)), pw⟩, ?_, ?_, ?_, ?_, ?_, ha⟩
  · intro row1 p1 v1 hr1 hp1 e
    by_cases z : hd row1 p1 = d ∧ row1 = row
    · obtain ⟨z1, z2⟩ := z
      subst z2
      rw [z1, setK_at] at e
      cases e
      have : p1 = p := by
        have := (t1 row1 p1 v hr1 hp1 (by rw [z1]; exact k1)).1
        omega
      subst this
      exact ⟨rfl, by rw [z1]; exact he, hP⟩
    · rw [setK_ne z] at e
      obtain ⟨a1, a2, a3⟩ := t1 row1 p1 v1 hr1 hp1 e
      refine ⟨a1, a2, fun i hi => ?_⟩
      rw [a3 i hi]
      refine hI row1 p1 hr1 hp1 (by rw [a2]; exact fun u => by cases u) (fun y => z ?_) i hi
      obtain ⟨y1, y2⟩ := y
      subst y1 y2
      rw [he] at a2
      exact ⟨(Option.some.inj a2).symm, rfl⟩
  · intro row1 q v1 hr1 hq hq2 e
    by_cases z : hd row1 q = d ∧ row1 = row
    · obtain ⟨z1, z2⟩ := z
      subst z2
      rw [z1, setK_at] at e
      cases e
      refine ⟨by show p + 1 ≤ W * G; omega, fun p1 hp1 y _ => ?_⟩
      have y : p + 1 = p1 + 1 := y
      have : p1 = p := by omega
      subst this
      exact hP
    · rw [setK_ne z] at e
      obtain ⟨a1, a2⟩ := t2 row1 q v1 hr1 hq hq2 e
      refine ⟨a1, fun p1 hp1 y w i hi => ?_⟩
      rw [a2 p1 hp1 y w i hi]
      rcases hst with n3 | hst
      case inr => exact hst row1 p1 i hr1 hp1 hi
      have ew : E row1 p1 = some (hd row1 q) := by
        rcases w with w | w
        · exact n3 row1 q v1 p1 hr1 hq hq2 hp1 e w y
        · exact w
      refine hI row1 p1 hr1 hp1 (by rw [ew]; exact fun u => by cases u) (fun u => z ?_) i hi
      obtain ⟨u1, u2⟩ := u
      subst u1 u2
      rw [he] at ew
      exact ⟨(Option.some.inj ew).symm, rfl⟩
  · intro row1 p1 d1 hr1 hp1 e
    by_cases z : d1 = d ∧ row1 = row
    · obtain ⟨z1, z2⟩ := z
      subst z1 z2
      have : p1 = p := pw.2 row1 p1 p d1 hr1 hp1 hp e he
      subst this
      exact ⟨_, setK_at, rfl⟩
    · rw [setK_ne z]; exact t3 row1 p1 d1 hr1 hp1 e
  · intro d1 v1 e
    rw [setK_ne (fun z => by omega)] at e
    obtain ⟨a1, a2⟩ := t4 d1 v1 e
    exact ⟨a1, a2.imp id (fun z => ⟨z.1, fun i hi => by rw [z.2 i hi]; exact hV i hi⟩)⟩
  · intro row1 g1 hr1 hg1
    refine Nat.le_trans (cnt_mono (fun j _ hj => ?_)) (t5 row1 g1 hr1 hg1)
    intro e
    cases hv : isvo K row1 (E row1 (W * g1 + j)) with
    | false => rfl
    | true =>
      exfalso
      obtain ⟨d1, v1, x1, x2, x3⟩ := isvo_some.mp hv
      have : isvo (setK K d row (some (p + 1, P, zr))) row1 (E row1 (W * g1 + j)) = true := by
        rw [isvo_some]
        by_cases z : d1 = d ∧ row1 = row
        · exact ⟨d1, _, x1, by rw [z.1, z.2, setK_at], z9_zr⟩
        · exact ⟨d1, v1, x1, by rw [setK_ne z]; exact x2, x3⟩
      rw [this] at e
      cases e
theorem N3.put (n3 : N3 D R (W * G) hd K E) {row p d : Nat} {P : Nat → Int64} (he : E row p = some d) : N3 D R (W * G) hd (setK K d row (some (p + 1, P, zr))) E := by
  intro row1 q v1 p1 hr1 hq hq2 hp1 e ez et
  by_cases z : hd row1 q = d ∧ row1 = row
  · obtain ⟨z1, z2⟩ := z
    subst z2
    rw [z1, setK_at] at e
    cases e
    have et : p + 1 = p1 + 1 := et
    have : p1 = p := by omega
    subst this
    rw [z1]; exact he
  · rw [setK_ne z] at e
    exact n3 row1 q v1 p1 hr1 hq hq2 hp1 e ez et
/-- a position gets another place -/
theorem GB.move (ge : Geo D W R G hd) (h : GB D W R G hd live K E I V a b c) {row p q0 : Nat} {P : Nat → Int64} (hr : row < R) (hp : p < W * G) (hq0 : q0 < D) (hs : q0 = p ∨ W * G ≤ q0) (hl : live (hd row q0) = true) (hfree : ∀ q, q < W * G → E row q ≠ some (hd row q0)) (hh : K (hd row p) row = none) (hP : ∀ i, i < 8 → P i = I row p i) :
    GB D W R G hd live (setK K (hd row q0) row (some (p + 1, P, zr))) (setP E row p (some (hd row q0))) I V a b c := by
  obtain ⟨⟨_, _⟩, ⟨_, _, _⟩, ⟨_, _⟩, ⟨_, _⟩, ⟨_, _⟩, _, _, _, _⟩ := ge.num
  obtain ⟨⟨lv, lk, kw, pw⟩, t1, t2, t3, t4, t5, ha⟩ := h
  have inj := ge.2.2.2.2.2.1
  refine ⟨⟨lv, lk.set hl, kw.set (vOK_zr (by omega)), ⟨?_, ?_⟩⟩, ?_, ?_, ?_, ?_, ?_, ha⟩
  · intro row1 p1 d1 hr1 hp1 e
    by_cases z : row1 = row ∧ p1 = p
    · rw [z.1, z.2, setP_at] at e; cases e; exact ge.2.2.2.2.1 row q0
    · rw [setP_ne z] at e; exact pw.1 row1 p1 d1 hr1 hp1 e
  · intro row1 p1 p2 d1 hr1 hp1 hp2 e e2
    by_cases z : row1 = row ∧ p1 = p
    · by_cases z2 : row1 = row ∧ p2 = p
      · rw [z.2, z2.2]
      · rw [z.1, z.2, setP_at] at e
        cases e
        rw [setP_ne z2, z.1] at e2
        exact absurd e2 (hfree p2 hp2)
    · by_cases z2 : row1 = row ∧ p2 = p
      · rw [z2.1, z2.2, setP_at] at e2
        cases e2
        rw [setP_ne z, z2.1] at e
        exact absurd e (hfree p1 hp1)
      · rw [setP_ne z] at e
        rw [setP_ne z2] at e2
        exact pw.2 row1 p1 p2 d1 hr1 hp1 hp2 e e2
  · intro row1 p1 v1 hr1 hp1 e
    by_cases z : hd row1 p1 = hd row q0 ∧ row1 = row
    · obtain ⟨z1, z2⟩ := z
      subst z2
      rw [z1, setK_at] at e
      cases e
      have e1 := inj row1 p1 q0 (by omega) hq0 z1
      have e2 : p1 = p := by omega
      subst e2
      exact ⟨rfl, by rw [setP_at, z1], hP⟩
    · rw [setK_ne z] at e
      obtain ⟨a1, a2, a3⟩ := t1 row1 p1 v1 hr1 hp1 e
      refine ⟨a1, ?_, a3⟩
      rw [setP_ne (fun y => by rw [y.1, y.2, hh] at e; cases e)]
      exact a2
  · intro row1 q v1 hr1 hq hq2 e
    by_cases z : hd row1 q = hd row q0 ∧ row1 = row
    · obtain ⟨z1, z2⟩ := z
      subst z2
      rw [z1, setK_at] at e
      cases e
      refine ⟨by show p + 1 ≤ W * G; omega, fun p1 hp1 y _ => ?_⟩
      have y : p + 1 = p1 + 1 := y
      have : p1 = p := by omega
      subst this
      exact hP
    · rw [setK_ne z] at e
      obtain ⟨a1, a2⟩ := t2 row1 q v1 hr1 hq hq2 e
      refine ⟨a1, fun p1 hp1 y w => a2 p1 hp1 y (w.imp id (fun w => ?_))⟩
      by_cases u : row1 = row ∧ p1 = p
      · rw [u.1, u.2, setP_at] at w
        exact absurd ⟨by rw [u.1]; exact (Option.some.inj w).symm, u.1⟩ z
      · rw [setP_ne u] at w; exact w
  · intro row1 p1 d1 hr1 hp1 e
    by_cases u : row1 = row ∧ p1 = p
    · rw [u.1, u.2, setP_at] at e
      cases e
      rw [u.1, u.2]
      exact ⟨_, setK_at, rfl⟩
    · rw [setP_ne u] at e
      rw [setK_ne (fun z => by rw [z.1, z.2] at e; exact hfree p1 hp1 e)]
      exact t3 row1 p1 d1 hr1 hp1 e
  · intro d1 v1 e
    rw [setK_ne (fun z => by omega)] at e
    exact t4 d1 v1 e
  · intro row1 g1 hr1 hg1
    refine Nat.le_trans (cnt_mono (fun j _ hj => ?_)) (t5 row1 g1 hr1 hg1)
    intro e
    cases hv : isvo K row1 (E row1 (W * g1 + j)) with
    | false => rfl
    | true =>
      exfalso
      obtain ⟨d1, v1, x1, x2, x3⟩ := isvo_some.mp hv
      have hpj := pos_lt hg1 (show j < W by omega)
      have : isvo (setK K (hd row q0) row (some (p + 1, P, zr))) row1 (setP E row p (some (hd row q0)) row1 (W * g1 + j)) = true := by
        rw [isvo_some]
        by_cases u : row1 = row ∧ W * g1 + j = p
        · exact ⟨hd row q0, _, by rw [u.1, u.2, setP_at], by rw [u.1, setK_at], z9_zr⟩
        · exact ⟨d1, v1, by rw [setP_ne u]; exact x1, by rw [setK_ne (fun z => by rw [z.1, z.2] at x1; exact hfree _ hpj x1)]; exact x2, x3⟩
      rw [this] at e
      cases e
theorem N3.move (n3 : N3 D R (W * G) hd K E) {row p d : Nat} {P : Nat → Int64} (hn : E row p = none) : N3 D R (W * G) hd (setK K d row (some (p + 1, P, zr))) (setP E row p (some d)) := by
  intro row1 q v1 p1 hr1 hq hq2 hp1 e ez et
  by_cases z : hd row1 q = d ∧ row1 = row
  · obtain ⟨z1, z2⟩ := z
    subst z2
    rw [z1, setK_at] at e
    cases e
    have et : p + 1 = p1 + 1 := et
    have : p1 = p := by omega
    subst this
    rw [setP_at, z1]
  · rw [setK_ne z] at e
    have := n3 row1 q v1 p1 hr1 hq hq2 hp1 e ez et
    rw [setP_ne (fun y => by rw [y.1, y.2, hn] at this; cases this)]
    exact this
theorem NW.move (n3 : N3 D R (W * G) hd K E) {row p : Nat} {P : Nat → Int64} : NW D R (W * G) hd (setK K (hd row p) row (some (p + 1, P, zr))) (setP E row p (some (hd row p))) := by
  intro row1 q v1 p1 hr1 hq hq2 hp1 e ez et eh
  have hne : ¬ (row1 = row ∧ p1 = p) := fun y => by rw [y.1, y.2, setK_at] at eh; cases eh
  rw [setP_ne hne]
  by_cases z : hd row1 q = hd row p ∧ row1 = row
  · obtain ⟨z1, z2⟩ := z
    subst z2
    rw [z1, setK_at] at e
    cases e
    have et : p + 1 = p1 + 1 := et
    exact absurd ⟨rfl, by omega⟩ hne
  · rw [setK_ne z] at e
    exact n3 row1 q v1 p1 hr1 hq hq2 hp1 e ez et
/-- a spare that is no place is cleared -/
theorem GB.clear (ge : Geo D W R G hd) (h : GB D W R G hd live K E I V a b c) {row q0 : Nat} (hr : row < R) (hq : W * G ≤ q0) (hq0 : q0 < D) (hl : live (hd row q0) = true) (hfree : ∀ q, q < W * G → E row q ≠ some (hd row q0)) : GB D W R G hd live (setK K (hd row q0) row (some (0, zr, zr))) E I V a b c := by
  obtain ⟨⟨_, _⟩, ⟨_, _, _⟩, ⟨_, _⟩, ⟨_, _⟩, ⟨_, _⟩, _, _, _, _⟩ := ge.num
  obtain ⟨⟨lv, lk, kw, pw⟩, t1, t2, t3, t4, t5, ha⟩ := h
  have inj := ge.2.2.2.2.2.1
  refine ⟨⟨lv, lk.set hl, kw.set (vOK_zr (by omega)), pw⟩, ?_, ?_, ?_, ?_, ?_, ha⟩
  · intro row1 p1 v1 hr1 hp1 e
    have z : ¬ (hd row1 p1 = hd row q0 ∧ row1 = row) := by
      rintro ⟨z1, z2⟩
      subst z2
      have := inj row1 p1 q0 (by omega) hq0 z1
      omega
    rw [setK_ne z] at e
    exact t1 row1 p1 v1 hr1 hp1 e
  · intro row1 q v1 hr1 hq1 hq2 e
    by_cases z : hd row1 q = hd row q0 ∧ row1 = row
    · rw [z.1, z.2, setK_at] at e
      cases e
      exact ⟨Nat.zero_le _, fun p1 _ y => (by cases y)⟩
    · rw [setK_ne z] at e; exact t2 row1 q v1 hr1 hq1 hq2 e
  · intro row1 p1 d1 hr1 hp1 e
    rw [setK_ne (fun z => by rw [z.1, z.2] at e; exact hfree p1 hp1 e)]
    exact t3 row1 p1 d1 hr1 hp1 e
  · intro d1 v1 e
    rw [setK_ne (fun z => by omega)] at e
    exact t4 d1 v1 e
  · intro row1 g1 hr1 hg1
    rw [cnt_congr (g := fun j => !isvo K row1 (E row1 (W * g1 + j))) (fun j _ hj => ?_)]
    · exact t5 row1 g1 hr1 hg1
    · have hpj := pos_lt hg1 (show j < W by omega)
      show (!isvo (setK K (hd row q0) row (some (0, zr, zr))) row1 (E row1 (W * g1 + j))) = !isvo K row1 (E row1 (W * g1 + j))
      cases he : E row1 (W * g1 + j) with
      | none => rfl
      | some d1 =>
        show (!isv (setK K (hd row q0) row (some (0, zr, zr)) d1 row1)) = !isv (K d1 row1)
        rw [setK_ne (fun z => by rw [z.1, z.2] at he; exact hfree _ hpj he)]
/-- a log is written -/
theorem GB.log (h : GB D W R G hd live K E I V a b c) {d t a1 b1 c1 : Nat} {P : Nat → Int64} (hl : live d = true) (ht : t < 65536) (ha : a1 < R ∧ b1 < G ∧ c1 < W - 1) (hold : ∀ d1 v, d1 ≠ d → K d1 R = some v → v.1 = 0 ∨ (a1 = a ∧ b1 = b ∧ c1 = c)) (hP : t = 0 ∨ t = 1 + 8 * (a1 * G + b1) + c1 ∧ ∀ i, i < 8 → P i = lgv W G V a1 b1 c1 i) : GB D W R G hd live (setK K d R (some (t, P, zr))) E I V a1 b1 c1 := by
  obtain ⟨⟨lv, lk, kw, pw⟩, t1, t2, t3, t4, t5, _⟩ := h
  refine ⟨⟨lv, lk.set hl, kw.set (vOK_zr ht), pw⟩, ?_, ?_, ?_, ?_, ?_, ha⟩
  · intro row1 p1 v1 hr1 hp1 e
    rw [setK_ne (fun z => by omega)] at e
    exact t1 row1 p1 v1 hr1 hp1 e
  · intro row1 q v1 hr1 hq1 hq2 e
    rw [setK_ne (fun z => by omega)] at e
    exact t2 row1 q v1 hr1 hq1 hq2 e
  · intro row1 p1 d1 hr1 hp1 e
    rw [setK_ne (fun z => by omega)]
    exact t3 row1 p1 d1 hr1 hp1 e
  · intro d1 v1 e
    by_cases z : d1 = d
    · rw [z, setK_at] at e
      cases e
      exact ⟨z9_zr, hP⟩
    · rw [setK_ne (fun y => z y.1)] at e
      obtain ⟨x1, x2⟩ := t4 d1 v1 e
      refine ⟨x1, ?_⟩
      rcases hold d1 v1 z e with y | ⟨y1, y2, y3⟩
      · exact Or.inl y
      · rw [y1, y2, y3]; exact x2
  · intro row1 g1 hr1 hg1
    rw [cnt_congr (g := fun j => !isvo K row1 (E row1 (W * g1 + j))) (fun j _ hj => ?_)]
    · exact t5 row1 g1 hr1 hg1
    · show (!isvo (setK K d R (some (t, P, zr))) row1 (E row1 (W * g1 + j))) = !isvo K row1 (E row1 (W * g1 + j))
      cases he : E row1 (W * g1 + j) with
      | none => rfl
      | some d1 =>
        show (!isv (setK K d R (some (t, P, zr)) d1 row1)) = !isv (K d1 row1)
        rw [setK_ne (fun z => by omega)]
theorem N3.log {d : Nat} {x : Option CellV} (n3 : N3 D R (W * G) hd K E) : N3 D R (W * G) hd (setK K d R x) E := by
  intro row1 q v1 p1 hr1 hq hq2 hp1 e ez et
  rw [setK_ne (fun z => by omega)] at e
  exact n3 row1 q v1 p1 hr1 hq hq2 hp1 e ez et
end GI
