def b2i (b : Bool) : Int32 := cond b 1 0
theorem nm_q {α β : Type} (x : α) (k : α → β) : nm x k = k x := rfl
theorem nm2_q {α β γ : Type} (q : α × β) (k : α → β → γ) : nm2 q k = k q.1 q.2 := rfl
theorem jn_q {α β : Type} (k : α) (f : α → β) : jn k f = f k := rfl
theorem lit_nI (k : Nat) : (OfNat.ofNat k : Int32) = nI (OfNat.ofNat k) := rfl
theorem grd_t {α : Type} {b : Bool} {k : Option α} (h : b = true) : grd b k = k := by rw [h]; rfl
theorem inb_nI {i N : Nat} (h : i < N) (hi : i < 2 ^ 31) : inb (nI i) N = true := by
  unfold inb
  rw [nI_toInt hi]
  exact decide_eq_true ⟨by omega, by omega⟩
theorem grd_in {α : Type} {i N : Nat} {k : Option α} (h : i < N) (hi : i < 2 ^ 31) : grd (inb (nI i) N) k = k := grd_t (inb_nI h hi)
theorem grd_z {α : Type} {d : Nat} {k : Option α} (h0 : 0 < d) (hd : d < 2 ^ 31) : grd (decide (¬ nI d = 0)) k = k := grd_t (decide_eq_true (by rw [← nI_0, nI_eq hd (by omega)]; omega))
theorem nI_m1 {n : Nat} (h : n < 2 ^ 31) : ¬ nI n = (-1 : Int32) := by
  intro e
  have := congrArg Int32.toInt e
  rw [nI_toInt h, show ((-1 : Int32)).toInt = -1 from rfl] at this
  omega
theorem nI_m1' {n : Nat} (h : n < 2 ^ 31) : ¬ (-1 : Int32) = nI n := fun e => nI_m1 h e.symm
theorem m1_lt0 : (-1 : Int32) < nI 0 := by decide
theorem b2i_0 (b : Bool) : (b2i b = nI 0) ↔ b = false := by cases b <;> decide
theorem b2i_1 (b : Bool) : (b2i b = nI 1) ↔ b = true := by cases b <;> decide
theorem nar_0 : vp_nar .boolean (nI 0) = nI 0 := rfl
theorem nar_1 : vp_nar .boolean (nI 1) = nI 1 := rfl
theorem isB_b2i {α : Type} {k : Option α} (b : Bool) : grd (isB (b2i b)) k = k := grd_t (by cases b <;> rfl)
theorem lt2 {a A b B : Nat} (h : a < A) (h2 : b < B) : a * B + b < A * B := by
  have : (a + 1) * B ≤ A * B := Nat.mul_le_mul_right B h
  rw [Nat.add_mul] at this
  omega
/-- the first place from a on, of m -/
def srch (f : Nat → Bool) : Nat → Nat → Option Nat
  | 0, _ => none
  | m + 1, a => if f a then some a else srch f m (a + 1)
theorem srch_some {f : Nat → Bool} : ∀ {m a i : Nat}, srch f m a = some i → a ≤ i ∧ i < a + m ∧ f i = true ∧ ∀ j, a ≤ j → j < i → f j = false := by
  intro m
  induction m with
  | zero => intro a i h; cases h
  | succ m ih =>
    intro a i h
    rw [srch] at h
    by_cases hf : f a = true
    · rw [if_pos hf] at h
      cases h
      exact ⟨Nat.le_refl _, by omega, hf, fun j h1 h2 => by omega⟩
    · rw [if_neg hf] at h
      obtain ⟨h1, h2, h3, h4⟩ := ih h
      refine ⟨by omega, by omega, h3, fun j g1 g2 => ?_⟩
      by_cases e : j = a
      · subst e; exact Bool.not_eq_true _ ▸ hf
      · exact h4 j (by omega) g2
theorem srch_none {f : Nat → Bool} : ∀ {m a : Nat}, srch f m a = none → ∀ j, a ≤ j → j < a + m → f j = false := by
  intro m
  induction m with
  | zero => intro a _ j h1 h2; omega
  | succ m ih =>
    intro a h j h1 h2
    rw [srch] at h
    by_cases hf : f a = true
    · rw [if_pos hf] at h; cases h
    · rw [if_neg hf] at h
      by_cases e : j = a
      · subst e; exact Bool.not_eq_true _ ▸ hf
      · exact ih h j (by omega) (by omega)
theorem srch_at {f : Nat → Bool} {m a i : Nat} (h1 : a ≤ i) (h2 : i < a + m) (h3 : f i = true) (h4 : ∀ j, a ≤ j → j < i → f j = false) : srch f m a = some i := by
  cases h : srch f m a with
  | none => exact absurd h3 (by rw [srch_none h i h1 h2]; decide)
  | some k =>
    obtain ⟨g1, g2, g3, g4⟩ := srch_some h
    rcases Nat.lt_trichotomy k i with z | z | z
    · exact absurd g3 (by rw [h4 k g1 z]; decide)
    · rw [z]
    · exact absurd h3 (by rw [g4 i h1 z]; decide)
theorem srch_no {f : Nat → Bool} {m a : Nat} (h4 : ∀ j, a ≤ j → j < a + m → f j = false) : srch f m a = none := by
  cases h : srch f m a with
  | none => rfl
  | some k =>
    obtain ⟨g1, g2, g3, g4⟩ := srch_some h
    exact absurd g3 (by rw [h4 k g1 g2]; decide)
theorem srch_congr {f g : Nat → Bool} {m a : Nat} (h : ∀ j, a ≤ j → j < a + m → f j = g j) : srch f m a = srch g m a := by
  induction m generalizing a with
  | zero => rfl
  | succ m ih =>
    rw [srch, srch, h a (Nat.le_refl _) (by omega), ih (fun j h1 h2 => h j (by omega) (by omega))]
/-- how many from a on, of m -/
def cnt (f : Nat → Bool) : Nat → Nat → Nat
  | 0, _ => 0
  | m + 1, a => (cond (f a) 1 0) + cnt f m (a + 1)
theorem cnt_le {f : Nat → Bool} : ∀ {m a : Nat}, cnt f m a ≤ m := by
  intro m
  induction m with
  | zero => intro a; exact Nat.le_refl _
  | succ m ih => intro a; have := @ih (a + 1); rw [cnt]; cases f a <;> simp <;> omega
theorem cnt_congr {f g : Nat → Bool} {m a : Nat} (h : ∀ j, a ≤ j → j < a + m → f j = g j) : cnt f m a = cnt g m a := by
  induction m generalizing a with
  | zero => rfl
  | succ m ih =>
    rw [cnt, cnt, h a (Nat.le_refl _) (by omega), ih (fun j h1 h2 => h j (by omega) (by omega))]
theorem lp_srch {β : Type} {L : Nat → Int32 → Option (Unit ⊕ β)} {f : Nat → Bool} {v : Nat → β} {N lo : Nat}
    (h0 : ∀ k, L (k + 1) (nI N) = some (.inl ())) (h1 : ∀ k i, lo ≤ i → i < N → f i = false → L (k + 1) (nI i) = L k (nI (i + 1))) (h2 : ∀ k i, lo ≤ i → i < N → f i = true → L (k + 1) (nI i) = some (.inr (v i))) :
    ∀ m a k, lo ≤ a → a + m = N → m < k → L k (nI a) = some (match srch f m a with | none => .inl () | some i => .inr (v i)) := by
  intro m
  induction m with
  | zero =>
    intro a k hlo ha hk
    obtain ⟨k, rfl⟩ : ∃ j, k = j + 1 := ⟨k - 1, by omega⟩
    have : a = N := by omega
    subst this
    exact h0 k
  | succ m ih =>
    intro a k hlo ha hk
    obtain ⟨k, rfl⟩ : ∃ j, k = j + 1 := ⟨k - 1, by omega⟩
    rw [srch]
    cases hf : f a with
    | true => rw [h2 k a hlo (by omega) hf]; rfl
    | false => rw [h1 k a hlo (by omega) hf, ih (a + 1) k (by omega) (by omega) (by omega)]; rfl
theorem lp_cnt {L : Nat → Int32 → Int32 → Option Int32} {f : Nat → Bool} {N lo : Nat}
    (h0 : ∀ k c, L (k + 1) (nI N) c = some c) (h1 : ∀ k i c, lo ≤ i → i < N → f i = false → L (k + 1) (nI i) (nI c) = L k (nI (i + 1)) (nI c)) (h2 : ∀ k i c, lo ≤ i → i < N → f i = true → L (k + 1) (nI i) (nI c) = L k (nI (i + 1)) (nI (c + 1))) :
    ∀ m a k c, lo ≤ a → a + m = N → m < k → L k (nI a) (nI c) = some (nI (c + cnt f m a)) := by
  intro m
  induction m with
  | zero =>
    intro a k c hlo ha hk
    obtain ⟨k, rfl⟩ : ∃ j, k = j + 1 := ⟨k - 1, by omega⟩
    have : a = N := by omega
    subst this
    exact h0 k _
  | succ m ih =>
    intro a k c hlo ha hk
    obtain ⟨k, rfl⟩ : ∃ j, k = j + 1 := ⟨k - 1, by omega⟩
    rw [cnt]
    cases hf : f a with
    | true => rw [h2 k a c hlo (by omega) hf, ih (a + 1) k _ (by omega) (by omega) (by omega), Nat.add_assoc]; rfl
    | false => rw [h1 k a c hlo (by omega) hf, ih (a + 1) k _ (by omega) (by omega) (by omega)]; simp
/-- a loop with a state: an invariant, with early ends -/
theorem lp {α β : Type} {L : Nat → α → Int32 → Option β} {N : Nat} {I : Nat → α → Prop} {Q : β → Prop}
    (hs : ∀ k σ i, i < N → I i σ → (∃ σ', I (i + 1) σ' ∧ L (k + 1) σ (nI i) = L k σ' (nI (i + 1))) ∨ ∃ r, L (k + 1) σ (nI i) = some r ∧ Q r)
    (he : ∀ k σ, I N σ → ∃ r, L (k + 1) σ (nI N) = some r ∧ Q r) :
    ∀ m i k σ, i + m = N → m < k → I i σ → ∃ r, L k σ (nI i) = some r ∧ Q r := by
  intro m
  induction m with
  | zero =>
    intro i k σ ha hk hI
    obtain ⟨k, rfl⟩ : ∃ j, k = j + 1 := ⟨k - 1, by omega⟩
    have : i = N := by omega
    subst this
    exact he k σ hI
  | succ m ih =>
    intro i k σ ha hk hI
    obtain ⟨k, rfl⟩ : ∃ j, k = j + 1 := ⟨k - 1, by omega⟩
    rcases hs k σ i (by omega) hI with ⟨σ', h1, h2⟩ | h
    · rw [h2]; exact ih (i + 1) k σ' (by omega) (by omega) h1
    · exact h
/-- stores read back -/
theorem stI_s {σ : HS} {a k : Nat} {v : Int32} : (stI σ a k v).1 a = upd (σ.1 a) k v := by simp [stI]
theorem stI_2 {σ : HS} {a k : Nat} {v : Int32} : (stI σ a k v).2 = σ.2 := rfl
theorem stL_s {σ : HS} {a k : Nat} {v : Int64} : (stL σ a k v).2 a = vp_updL (σ.2 a) k v := by simp [stL]
theorem stL_1 {σ : HS} {a k : Nat} {v : Int64} : (stL σ a k v).1 = σ.1 := rfl
theorem stF_s {σ : HS} {a k : Nat} {v : Int32} : (stF σ a k v).1 a = upd (σ.1 a) k v := by
  funext j
  simp only [stF, upd]
  by_cases h : j = k
  · subst h; simp
  · simp [h, beq_ne h]
theorem stF_2 {σ : HS} {a k : Nat} {v : Int32} : (stF σ a k v).2 = σ.2 := rfl
theorem upd_s {f : Nat → Int32} {k : Nat} {v : Int32} : upd f k v k = v := if_pos rfl
theorem upd_n {f : Nat → Int32} {k j : Nat} {v : Int32} (h : j ≠ k) : upd f k v j = f j := if_neg h
theorem updL_s {f : Nat → Int64} {k : Nat} {v : Int64} : vp_updL f k v k = v := if_pos rfl
theorem updL_n {f : Nat → Int64} {k j : Nat} {v : Int64} (h : j ≠ k) : vp_updL f k v j = f j := if_neg h
