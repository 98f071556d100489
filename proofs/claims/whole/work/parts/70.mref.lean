/-- the reference's layout -/
def mGeo (D W R G : Nat) (hd : Nat → Nat → Nat) (σ : HS) : Prop := (σ.1 20 1 = nI D ∧ σ.1 20 2 = nI W ∧ σ.1 20 3 = nI R ∧ σ.1 20 4 = nI G) ∧ ∃ (mn : Nat) (u : Nat → Nat), (0 < mn ∧ mn ≤ 16 ∧ σ.1 20 6 = nI mn) ∧ (∀ i, i < mn → σ.1 21 i = nI (u i) ∧ u i ≤ 16) ∧ ∀ row p, hd row p = (row + p * u (row % mn)) % D
def mLive (D : Nat) (live : Nat → Bool) (σ : HS) : Prop := ∀ d, d < D → σ.1 22 d = b2i (live d)
def mCell (c : Option CellV) (σ : HS) (i : Nat) : Prop := match c with
  | none => σ.1 23 i = nI 0
  | some v => σ.1 23 i = nI 1 ∧ σ.1 24 i = nI v.1 ∧ ∀ k, k < 70 → σ.1 25 (70 * i + k) = sx (byR v.2.2 k)
def mK (D R : Nat) (live : Nat → Bool) (K : Rk) (σ : HS) : Prop := ∀ d o, d < D → o ≤ R → live d = true → mCell (K d o) σ (65 * d + o)
/-- a dead disk has no written cell -/
def LK (live : Nat → Bool) (K : Rk) : Prop := ∀ d o, live d = false → K d o = none
def pI : Option Nat → Int32
  | none => -1
  | some d => nI d
def epl (D N : Nat) (hd : Nat → Nat → Nat) (K : Rk) (pl : Nat → Nat → Option Nat) (on : Bool) : Nat → Nat → Option Nat := if on = true then pl else fnd D N hd K
/-- the reference's core -/
def MR (D W R G : Nat) (hd : Nat → Nat → Nat) (live : Nat → Bool) (pl : Nat → Nat → Option Nat) (s : PS) (σ : HS) : Prop := mGeo D W R G hd σ ∧ mLive D live σ ∧ mK D R live s.1 σ ∧ (s.2.1 = true → ∀ row p, row < R → p < W * G → σ.1 26 (16 * row + p) = pI (pl row p)) ∧ σ.1 20 12 = b2i s.2.1 ∧ σ.1 20 13 = nI s.2.2.1 - 1 ∧ σ.1 20 14 = s.2.2.2 ∧ s.2.2.1 < 2 ^ 31
theorem zb9 {dm : Nat → Int64} (ht : ∀ i, 48 ≤ i → i < 64 → gb (dm 8) i = false) : (∀ k, k < 70 → byR dm k = 0) ↔ z9 dm = true := by
  rw [z9_iff]
  constructor
  · intro h i hi
    apply by_ext
    intro k hk
    rw [by_0 hk]
    by_cases e : 8 * i + k < 70
    · have := h (8 * i + k) e
      unfold byR at this
      rw [show (8 * i + k) / 8 = i by omega, show (8 * i + k) % 8 = k by omega] at this
      exact this
    · have hi8 : i = 8 := by omega
      subst hi8
      apply gt_ext
      intro j hj
      rw [gt_by hk _ hj, gt_0]
      by_cases h8 : j < 8
      · rw [ht (8 * k + j) (by omega) (by omega)]; simp
      · simp [h8]
  · intro h k hk
    unfold byR
    rw [h _ (by omega)]
    exact by_0 (by omega)
/-- the same without the check -/
def KW0 (D R : Nat) (K : Rk) : Prop := ∀ d o v, d < D → o ≤ R → K d o = some v → v.1 < 65536 ∧ (∀ i, 48 ≤ i → i < 64 → gb (v.2.2 8) i = false) ∧ True
theorem KW.k0 {D R : Nat} {K : Rk} (h : KW D R K) : KW0 D R K := fun d o v a b c => ⟨(h d o v a b c).1, (h d o v a b c).2.1, trivial⟩
section MR
variable {D W R G : Nat} {hd : Nat → Nat → Nat} {F : Nat} {n : Nat → Nat} {σ : HS} {K : Rk} {pl : Nat → Nat → Option Nat} {live : Nat → Bool}
theorem e_MD_at (a b : Nat) : D_MD_at F n σ (nI a) (nI b) = some (nI (65 * a + b)) := by
  rw [D_MD_at, show (65 : Int32) = nI 65 from rfl, pk_mul, nI_add]
theorem e_MD_diskOf (cx : Ctx D W R G hd n F) (g : mGeo D W R G hd σ) {row p : Nat} (hr : row ≤ R) (hp : p < D) : D_MD_diskOf F n σ (nI row) (nI p) = some (nI (hd row p)) := by
  obtain ⟨ge, ln, hF⟩ := cx
  obtain ⟨⟨_, _⟩, ⟨_, _, _⟩, ⟨_, _⟩, ⟨_, _⟩, ⟨_, _⟩, _, _, _, _⟩ := ge.num
  obtain ⟨g1, mn, u, ⟨m1, m2, m3⟩, gu, gh⟩ := g
  have hm := Nat.mod_lt row m1
  have hu := gu (row % mn) hm
  have hb : p * u (row % mn) ≤ 16 * 16 := Nat.mul_le_mul (by omega) hu.2
  rw [D_MD_diskOf, m3, grd_z m1 (by omega), pk_rem (by omega) m1 (by omega), grd_in (by rw [ln.2.1]; omega) (by omega), nI_clamp (by omega), hu.1, pk_mul, nI_add, g1.1, grd_z (by omega) (by omega), pk_rem (by omega) (by omega) (by omega), gh]
theorem e_MD_isValid (cx : Ctx D W R G hd n F) (lv : mLive D live σ) (mk : mK D R live K σ) (lk : LK live K) (kw : KW0 D R K) {d o : Nat} (hd1 : d < D) (ho : o ≤ R) : D_MD_isValid F n σ (nI d) (nI o) = some (b2i (isv (K d o))) := by
  obtain ⟨ge, ln, hF⟩ := cx
  obtain ⟨⟨_, _⟩, ⟨_, _, _⟩, ⟨_, _⟩, ⟨_, _⟩, ⟨_, _⟩, _, _, _, _⟩ := ge.num
  rw [D_MD_isValid, grd_in (by rw [ln.2.2.1]; omega) (by omega), nI_clamp (by omega), lv d hd1]
  cases hl : live d with
  | false => rw [lk d o hl, if_pos (by rfl)]; rfl
  | true =>
    have hc := mk d o hd1 ho hl
    rw [if_neg (by decide), e_MD_at, Option.bind_some, grd_in (by rw [ln.2.2.2.1]; omega) (by omega), nI_clamp (by omega)]
    cases hk : K d o with
    | none => rw [hk] at hc; rw [show σ.1 23 (65 * d + o) = nI 0 from hc, if_pos (by rfl)]; rfl
    | some v =>
      rw [hk] at hc
      have hc : σ.1 23 (65 * d + o) = nI 1 ∧ σ.1 24 (65 * d + o) = nI v.1 ∧ ∀ k, k < 70 → σ.1 25 (70 * (65 * d + o) + k) = sx (byR v.2.2 k) := hc
      have key : ∀ m x k b, x + m = 70 * (65 * d + o) + 70 → 70 * (65 * d + o) ≤ x → m < k → D_MD_isValid_L36 F n σ (nI d) (nI o) k (nI x) (b2i b) = some (b2i (b && decide (cnt (fun y => decide (¬ σ.1 25 y = 0)) m x = 0))) := by
        intro m
        induction m with
        | zero =>
          intro x k b hx _ hk
          obtain ⟨k, rfl⟩ : ∃ j, k = j + 1 := ⟨k - 1, by omega⟩
          rw [D_MD_isValid_L36, e_MD_at, Option.bind_some, show (70 : Int32) = nI 70 from rfl, pk_mul, nI_add, if_pos (by rw [nI_leI (by omega) (by omega)]; omega)]
          simp [cnt]
        | succ m ih =>
          intro x k b hx hlo hk
          obtain ⟨k, rfl⟩ : ∃ j, k = j + 1 := ⟨k - 1, by omega⟩
          rw [D_MD_isValid_L36, e_MD_at, Option.bind_some, show (70 : Int32) = nI 70 from rfl, pk_mul, nI_add, if_neg (by rw [nI_leI (by omega) (by omega)]; omega)]
          simp only [nm_q, nI_1]
          have i0 : D_MD_isValid_L36 F n σ (nI d) (nI o) k (nI (x + 1)) 0 = _ := ih (x + 1) k false (by omega) (by omega) (by omega)
          have i1 : D_MD_isValid_L36 F n σ (nI d) (nI o) k (nI (x + 1)) 1 = _ := ih (x + 1) k true (by omega) (by omega) (by omega)
          rw [i0, i1, grd_in (by rw [ln.2.2.2.2.2.1]; omega) (by omega), nI_clamp (by omega), cnt]
          cases b with
          | false => rfl
          | true =>
            rw [if_neg (by decide)]
            by_cases e : σ.1 25 x = 0
            · rw [if_pos e]
              simp [e]
            · rw [if_neg e]
              simp [e]
      have k2 := key 70 (70 * (65 * d + o)) F true (by omega) (Nat.le_refl _) (by omega)
      rw [show σ.1 23 (65 * d + o) = nI 1 from hc.1, if_neg (by decide), Option.bind_some, nm_q, show (70 : Int32) = nI 70 from rfl, pk_mul, show (1 : Int32) = b2i true from rfl, k2, Option.bind_some, isB_b2i, Bool.true_and]
      have hb : decide (cnt (fun y => decide (¬ σ.1 25 y = 0)) 70 (70 * (65 * d + o)) = 0) = z9 v.2.2 := by
        have hv := kw d o v hd1 ho hk
        refine Bool.eq_iff_iff.mpr ?_
        rw [decide_eq_true_iff, ← zb9 hv.2.1]
        constructor
        · intro h0 k hk1
          have hz : ∀ m x, cnt (fun y => decide (¬ σ.1 25 y = 0)) m x = 0 → ∀ j, x ≤ j → j < x + m → σ.1 25 j = 0 := by
            intro m
            induction m with
            | zero => intro x _ j h1 h2; omega
            | succ m ih =>
              intro x h j h1 h2
              rw [cnt] at h
              by_cases e : σ.1 25 x = 0
              · by_cases e2 : j = x
                · rw [e2]; exact e
                · exact ih (x + 1) (by omega) j (by omega) (by omega)
              · simp [e] at h
          have := hz 70 _ h0 (70 * (65 * d + o) + k) (by omega) (by omega)
          rw [hc.2.2 k hk1] at this
          exact (sx_by0 (by omega) _).mp this
        · intro h0
          refine cnt_false (fun j h1 h2 => ?_)
          obtain ⟨k, rfl⟩ : ∃ k, j = 70 * (65 * d + o) + k := ⟨j - 70 * (65 * d + o), by omega⟩
          rw [hc.2.2 k (by omega), h0 k (by omega)]
          rfl
      rw [hb]; rfl
theorem m_tag (mk : mK D R live K σ) {d o : Nat} {v : CellV} (hd1 : d < D) (ho : o ≤ R) (hl : live d = true) (hk : K d o = some v) : σ.1 24 (65 * d + o) = nI v.1 := by
  have := mk d o hd1 ho hl
  rw [hk] at this
  exact this.2.1
theorem LK.alive {live : Nat → Bool} {K : Rk} (lk : LK live K) {d o : Nat} (h : (K d o).isSome = true) : live d = true := by
  cases hl : live d with
  | true => rfl
  | false => rw [lk d o hl] at h; cases h
theorem e_MD_found (cx : Ctx D W R G hd n F) (g : mGeo D W R G hd σ) (lv : mLive D live σ) (mk : mK D R live K σ) (lk : LK live K) (kw : KW0 D R K) {row p : Nat} (hr : row < R) (hp : p < W * G) : D_MD_found F n σ (nI row) (nI p) = some (pI (fnd D (W * G) hd K row p)) := by
  obtain ⟨ge, ln, hF⟩ := id cx
  have hh := ge.2.2.2.2.1
  obtain ⟨⟨_, _⟩, ⟨_, _, _⟩, ⟨_, _⟩, ⟨_, _⟩, ⟨_, _⟩, _, _, _, _⟩ := ge.num
  have body : ∀ k q, q < D → D_MD_found_L42 F n σ (nI row) (nI p) (k + 1) (nI q) = if ist (K (hd row q) row) (p + 1) = true then some (Sum.inr (nI (hd row q))) else D_MD_found_L42 F n σ (nI row) (nI p) k (nI (q + 1)) := by
    intro k q hq
    have hdq := hh row q
    rw [D_MD_found_L42, g.1.1, if_neg (by rw [nI_leI (by omega) (by omega)]; omega), e_MD_diskOf cx g (by omega) hq, Option.bind_some, e_MD_isValid cx lv mk lk kw hdq (by omega), Option.bind_some]
    simp only [nm_q, nI_1]
    cases hk : K (hd row q) row with
    | none => rw [if_pos (by rfl)]; rfl
    | some v =>
      show (if b2i (z9 v.2.2) = 0 then _ else _) = if (z9 v.2.2 && decide (v.1 = p + 1)) = true then _ else _
      cases hz : z9 v.2.2 with
      | false => rfl
      | true =>
        have ht := (kw _ _ v hdq (show row ≤ R by omega) hk).1
        rw [if_neg (by decide), e_MD_at, Option.bind_some, grd_in (by rw [ln.2.2.2.2.1]; omega) (by omega), nI_clamp (by omega), m_tag mk hdq (by omega) (lk.alive (by rw [hk]; rfl)) hk, Bool.true_and]
        by_cases e : v.1 = p + 1
        · rw [if_pos (by rw [e]), if_pos (by simp [e])]
        · rw [if_neg (by rw [nI_eq (by omega) (by omega)]; exact e), if_neg (by simp [e])]
  have key := lp_srch (L := fun k x => D_MD_found_L42 F n σ (nI row) (nI p) k x) (f := fun q => ist (K (hd row q) row) (p + 1)) (v := fun q => nI (hd row q)) (N := D) (lo := 0)
    (fun k => by show D_MD_found_L42 F n σ (nI row) (nI p) (k + 1) (nI D) = _; rw [D_MD_found_L42, g.1.1, if_pos (Int32.le_refl _)])
    (fun k q _ hq hf => by
      show D_MD_found_L42 F n σ (nI row) (nI p) (k + 1) (nI q) = _
      rw [body k q hq, if_neg (by rw [hf]; decide)])
    (fun k q _ hq hf => by
      show D_MD_found_L42 F n σ (nI row) (nI p) (k + 1) (nI q) = _
      rw [body k q hq, if_pos hf])
    (D - W * G) (W * G) F (Nat.zero_le _) (by omega) (by omega)
  have key : D_MD_found_L42 F n σ (nI row) (nI p) F (nI (W * G)) = _ := key
  have hdp := hh row p
  rw [D_MD_found, e_MD_diskOf cx g (by omega) (by omega), Option.bind_some, grd_in (by rw [ln.2.2.1]; omega) (by omega), nI_clamp (by omega), lv _ hdp]
  simp only [jn_q, nm_q]
  rw [g.1.2.1, g.1.2.2.2, pk_mul, key, Option.bind_some]
  unfold fnd
  have tail : (match (match srch (fun q => ist (K (hd row q) row) (p + 1)) (D - W * G) (W * G) with | none => (Sum.inl () : Unit ⊕ Int32) | some i => Sum.inr (nI (hd row i))) with | Sum.inl _ => some (-1 : Int32) | Sum.inr z => some z) = some (pI ((srch (fun q => ist (K (hd row q) row) (p + 1)) (D - W * G) (W * G)).map (hd row))) := by
    cases srch (fun q => ist (K (hd row q) row) (p + 1)) (D - W * G) (W * G) <;> rfl
  cases hl : live (hd row p) with
  | false =>
    rw [lk _ row hl, if_pos (by rfl), if_neg (by decide)]
    exact tail
  | true =>
    have hc := mk _ row hdp (show row ≤ R by omega) hl
    rw [if_neg (by decide), e_MD_at, Option.bind_some, grd_in (by rw [ln.2.2.2.1]; omega) (by omega), nI_clamp (by omega)]
    cases hk : K (hd row p) row with
    | none =>
      rw [hk] at hc
      rw [show σ.1 23 (65 * hd row p + row) = nI 0 from hc, if_pos (by rfl), if_neg (by decide)]
      exact tail
    | some v =>
      rw [hk] at hc
      rw [show σ.1 23 (65 * hd row p + row) = nI 1 from hc.1, if_neg (by decide), if_pos (by rfl)]
      rfl
end MR
