/-- how many of the first M rows of N -/
def cnt2 (f : Nat → Nat → Bool) (N : Nat) : Nat → Nat → Nat
  | 0, _ => 0
  | m + 1, r => cnt (f r) N 0 + cnt2 f N m (r + 1)
theorem cnt_add {f : Nat → Bool} : ∀ {m1 m2 a : Nat}, cnt f (m1 + m2) a = cnt f m1 a + cnt f m2 (a + m1) := by
  intro m1
  induction m1 with
  | zero => intro m2 a; rw [Nat.zero_add]; simp [cnt]
  | succ m1 ih => intro m2 a; rw [show m1 + 1 + m2 = (m1 + m2) + 1 by omega, cnt, cnt, ih, show a + 1 + m1 = a + (m1 + 1) by omega]; omega
theorem cnt2_add {f : Nat → Nat → Bool} {N : Nat} : ∀ {m1 m2 a : Nat}, cnt2 f N (m1 + m2) a = cnt2 f N m1 a + cnt2 f N m2 (a + m1) := by
  intro m1
  induction m1 with
  | zero => intro m2 a; rw [Nat.zero_add]; simp [cnt2]
  | succ m1 ih => intro m2 a; rw [show m1 + 1 + m2 = (m1 + m2) + 1 by omega, cnt2, cnt2, ih, show a + 1 + m1 = a + (m1 + 1) by omega]; omega
theorem cnt_false {f : Nat → Bool} {m a : Nat} (h : ∀ j, a ≤ j → j < a + m → f j = false) : cnt f m a = 0 := by
  induction m generalizing a with
  | zero => rfl
  | succ m ih => rw [cnt, h a (Nat.le_refl _) (by omega), ih (fun j h1 h2 => h j (by omega) (by omega))]; rfl
theorem cnt_set {f g : Nat → Bool} {M c : Nat} (hc : c < M) (hf : f c = false) (hg : g c = true) (h : ∀ j, j ≠ c → g j = f j) : cnt g M 0 = cnt f M 0 + 1 := by
  obtain ⟨k, rfl⟩ : ∃ k, M = c + (k + 1) := ⟨M - c - 1, by omega⟩
  have e1 : cnt g (c + (k + 1)) 0 = cnt g c 0 + ((cond (g c) 1 0) + cnt g k (c + 1)) := by rw [cnt_add, Nat.zero_add]; rfl
  have e2 : cnt f (c + (k + 1)) 0 = cnt f c 0 + ((cond (f c) 1 0) + cnt f k (c + 1)) := by rw [cnt_add, Nat.zero_add]; rfl
  rw [e1, e2, cnt_congr (f := g) (g := f) (m := c) (fun j _ h2 => h j (by omega)), cnt_congr (f := g) (g := f) (m := k) (a := c + 1) (fun j h1 h2 => h j (by omega)), hf, hg]
  simp only [cond]
  omega
theorem cnt_not {f : Nat → Bool} : ∀ {m a : Nat}, cnt f m a + cnt (fun i => !f i) m a = m := by
  intro m
  induction m with
  | zero => intro a; rfl
  | succ m ih => intro a; rw [cnt, cnt]; have := @ih (a + 1); cases f a <;> simp [cond] <;> omega
theorem cnt_split {f g : Nat → Bool} : ∀ {m a : Nat}, cnt (fun i => f i && g i) m a + cnt (fun i => f i && !g i) m a = cnt f m a := by
  intro m
  induction m with
  | zero => intro a; rfl
  | succ m ih => intro a; rw [cnt, cnt, cnt]; have := @ih (a + 1); cases f a <;> cases g a <;> simp [cond] <;> omega
theorem cnt2_congr {f g : Nat → Nat → Bool} {N : Nat} : ∀ {m a : Nat}, (∀ r p, a ≤ r → r < a + m → p < N → f r p = g r p) → cnt2 f N m a = cnt2 g N m a := by
  intro m
  induction m with
  | zero => intro a _; rfl
  | succ m ih => intro a h; rw [cnt2, cnt2, cnt_congr (fun j _ h2 => h a j (Nat.le_refl _) (by omega) (by omega)), ih (fun r p h1 h2 h3 => h r p (by omega) (by omega) h3)]
theorem cnt2_le {f : Nat → Nat → Bool} {N : Nat} : ∀ {m a : Nat}, cnt2 f N m a ≤ m * N := by
  intro m
  induction m with
  | zero => intro a; exact Nat.zero_le _
  | succ m ih => intro a; rw [cnt2, Nat.add_mul]; have := @ih (a + 1); have := cnt_le (f := f a) (m := N) (a := 0); omega
theorem cnt2_not {f : Nat → Nat → Bool} {N : Nat} : ∀ {m a : Nat}, cnt2 f N m a + cnt2 (fun r p => !f r p) N m a = m * N := by
  intro m
  induction m with
  | zero => intro a; simp [cnt2]
  | succ m ih => intro a; rw [cnt2, cnt2, Nat.add_mul]; have := @ih (a + 1); have := cnt_not (f := f a) (m := N) (a := 0); omega
theorem cnt2_split {f g : Nat → Nat → Bool} {N : Nat} : ∀ {m a : Nat}, cnt2 (fun r p => f r p && g r p) N m a + cnt2 (fun r p => f r p && !g r p) N m a = cnt2 f N m a := by
  intro m
  induction m with
  | zero => intro a; rfl
  | succ m ih => intro a; rw [cnt2, cnt2, cnt2]; have := @ih (a + 1); have := cnt_split (f := f a) (g := g a) (m := N) (a := 0); omega
/-- cells that are places, and fulfil ω -/
def hcl (R N : Nat) (pl : Nat → Nat → Option Nat) (ω : Nat → Nat → Bool) (c : Nat) : Bool := decide (c % (R + 1) < R) && held N pl (c % (R + 1)) (c / (R + 1)) && ω (c / (R + 1)) (c % (R + 1))
def hsl (pl : Nat → Nat → Option Nat) (ω : Nat → Nat → Bool) (row p : Nat) : Bool := match pl row p with
  | none => false
  | some d => ω d row
theorem cmod {R d o : Nat} (h : o ≤ R) : (d * (R + 1) + o) % (R + 1) = o ∧ (d * (R + 1) + o) / (R + 1) = d := by
  constructor
  · rw [Nat.add_comm, Nat.add_mul_mod_self_right, Nat.mod_eq_of_lt (by omega)]
  · rw [Nat.add_comm, Nat.add_mul_div_right _ _ (by omega), Nat.div_eq_of_lt (by omega), Nat.zero_add]
theorem count_bij {D R N : Nat} {pl : Nat → Nat → Option Nat} (ω : Nat → Nat → Bool) (pw : PW D R N pl) : cnt (hcl R N pl ω) (D * (R + 1)) 0 = cnt2 (hsl pl ω) N R 0 := by
  have step : ∀ row, row < R → ∀ m, m ≤ N → cnt (hcl R N (plD pl row m) ω) (D * (R + 1)) 0 = cnt (hcl R N (plD pl row 0) ω) (D * (R + 1)) 0 + cnt (hsl pl ω row) m 0 := by
    intro row hr m
    induction m with
    | zero => intro _; rfl
    | succ m ih =>
      intro hm
      rw [cnt_add, Nat.zero_add, cnt, cnt, ← Nat.add_assoc, ← ih (by omega)]
      cases hp : pl row m with
      | none =>
        have e : plD pl row (m + 1) = plD pl row m := by
          rw [plD_step, hp]
          funext r q
          unfold setP
          by_cases z : r = row ∧ q = m
          · rw [if_pos z, z.1, z.2, plD_none]
          · rw [if_neg z]
        rw [e]
        simp [hsl, hp]
      | some d =>
        have hd := pw.1 row m d hr (by omega) hp
        have hc := lt2 hd (show row < R + 1 by omega)
        have hm1 := cmod (R := R) (d := d) (o := row) (by omega)
        have hother : ∀ j, j ≠ d * (R + 1) + row → hcl R N (plD pl row (m + 1)) ω j = hcl R N (plD pl row m) ω j := by
          intro j hj
          unfold hcl
          have : held N (plD pl row (m + 1)) (j % (R + 1)) (j / (R + 1)) = held N (plD pl row m) (j % (R + 1)) (j / (R + 1)) := by
            unfold held
            refine congrArg Option.isSome (srch_congr (fun q _ hq => ?_))
            rw [plD_step]
            unfold setP
            by_cases z : j % (R + 1) = row ∧ q = m
            · rw [if_pos z, z.1, z.2, plD_none, hp]
              have : d ≠ j / (R + 1) := fun e => hj (by rw [e]; have := Nat.div_add_mod' j (R + 1); omega)
              simp [this]
            · rw [if_neg z]
          rw [this]
        have hold : held N (plD pl row m) row d = false := by
          rw [held_no]
          intro q hq e
          unfold plD at e
          split at e
          · rename_i z
            have := pw.2 row q m d hr hq (by omega) e hp
            omega
          · cases e
        have hnew : held N (plD pl row (m + 1)) row d = true := by
          rw [held_iff]
          refine ⟨m, by omega, ?_⟩
          rw [plD_step]
          unfold setP
          rw [if_pos ⟨rfl, rfl⟩, hp]
        cases hw : ω d row with
        | true =>
          rw [cnt_set (f := hcl R N (plD pl row m) ω) hc (by unfold hcl; rw [hm1.1, hm1.2, hold]; simp) (by unfold hcl; rw [hm1.1, hm1.2, hnew, hw]; simp [hr]) hother]
          simp [hsl, hp, hw]
        | false =>
          rw [cnt_congr (g := hcl R N (plD pl row m) ω)]
          · simp [hsl, hp, hw]
          · intro j _ _
            by_cases z : j = d * (R + 1) + row
            · rw [z]; unfold hcl; rw [hm1.1, hm1.2, hw]; simp
            · exact hother j z
  have outer : ∀ row, row ≤ R → cnt (hcl R N (plD pl row 0) ω) (D * (R + 1)) 0 = cnt2 (hsl pl ω) N row 0 := by
    intro row
    induction row with
    | zero =>
      intro _
      rw [cnt2, cnt_false]
      intro j _ _
      unfold hcl
      have : held N (plD pl 0 0) (j % (R + 1)) (j / (R + 1)) = false := by
        rw [held_no]
        intro p _ e
        unfold plD at e
        rw [if_neg (by omega)] at e; cases e
      rw [this]; simp
    | succ row ih =>
      intro hr
      rw [cnt2_add, Nat.zero_add, ← ih (by omega)]
      show _ = _ + cnt (hsl pl ω row) N 0
      rw [← step row (by omega) N (Nat.le_refl _)]
      refine cnt_congr (fun j _ _ => ?_)
      unfold hcl
      have : held N (plD pl (row + 1) 0) (j % (R + 1)) (j / (R + 1)) = held N (plD pl row N) (j % (R + 1)) (j / (R + 1)) := by
        unfold held
        refine congrArg Option.isSome (srch_congr (fun q _ hq => ?_))
        unfold plD
        by_cases z : j % (R + 1) < row + 1
        · rw [if_pos (by omega), if_pos (by omega)]
        · rw [if_neg (by omega), if_neg (by omega)]
      rw [this]
  rw [← outer R (Nat.le_refl _)]
  refine cnt_congr (fun j _ _ => ?_)
  unfold hcl
  by_cases z : j % (R + 1) < R
  · have : held N pl (j % (R + 1)) (j / (R + 1)) = held N (plD pl R 0) (j % (R + 1)) (j / (R + 1)) := by
      unfold held
      refine congrArg Option.isSome (srch_congr (fun q _ hq => ?_))
      unfold plD
      rw [if_pos (Or.inl z)]
    rw [this]
  · simp [z]
