def cop (D u : Nat) : Bool := (srch (fun x => decide (u % x = 0) && decide (D % x = 0)) (u - 1) 2).isNone
/-- the numbers from 1 to below u that have no divisor in common with D -/
def clst (D : Nat) : Nat → List Nat
  | 0 => []
  | u + 1 => if 1 ≤ u ∧ cop D u = true then clst D u ++ [u] else clst D u
def utb : Nat → List Nat
  | 6 => [1, 5]
  | 7 => [1, 2, 3, 4, 5, 6]
  | 8 => [1, 3, 5, 7]
  | 9 => [1, 2, 4, 5, 7, 8]
  | 10 => [1, 3, 7, 9]
  | 11 => [1, 2, 3, 4, 5, 6, 7, 8, 9, 10]
  | 12 => [1, 5, 7, 11]
  | 13 => [1, 2, 3, 4, 5, 6, 7, 8, 9, 10, 11, 12]
  | 14 => [1, 3, 5, 9, 11, 13]
  | 15 => [1, 2, 4, 7, 8, 11, 13, 14]
  | 16 => [1, 3, 5, 7, 9, 11, 13, 15]
  | _ => []
theorem D_cases {D : Nat} (h : 6 ≤ D ∧ D ≤ 16) : D = 6 ∨ D = 7 ∨ D = 8 ∨ D = 9 ∨ D = 10 ∨ D = 11 ∨ D = 12 ∨ D = 13 ∨ D = 14 ∨ D = 15 ∨ D = 16 := by omega
theorem clst_t {D : Nat} (h : 6 ≤ D ∧ D ≤ 16) : clst D D = utb D := by
  rcases D_cases h with rfl | rfl | rfl | rfl | rfl | rfl | rfl | rfl | rfl | rfl | rfl <;> decide +kernel
def uok (D u : Nat) : Bool := decide (u ≤ 16) && (List.range D).all (fun p => (List.range D).all (fun q => decide (p = q) || !decide (p * u % D = q * u % D))) && (List.range D).all (fun d => (List.range D).any (fun q => decide (q * u % D = d)))
theorem uok_t {D : Nat} (h : 6 ≤ D ∧ D ≤ 16) : (utb D).all (uok D) = true ∧ 0 < (utb D).length ∧ (utb D).length < D := by
  rcases D_cases h with rfl | rfl | rfl | rfl | rfl | rfl | rfl | rfl | rfl | rfl | rfl <;> decide +kernel
def uf (D i : Nat) : Nat := (utb D).getD i 0
def mnf (D : Nat) : Nat := (utb D).length
def hdf (D row p : Nat) : Nat := (row + p * uf D (row % mnf D)) % D
theorem uf_ok {D i : Nat} (h : 6 ≤ D ∧ D ≤ 16) (hi : i < mnf D) : uf D i ≤ 16 ∧ (∀ p q, p < D → q < D → p * uf D i % D = q * uf D i % D → p = q) ∧ ∀ d, d < D → ∃ q, q < D ∧ q * uf D i % D = d := by
  obtain ⟨h1, _, _⟩ := uok_t h
  have hm : uf D i ∈ utb D := by
    unfold uf
    rw [List.getD, List.getElem?_eq_getElem hi]
    exact List.getElem_mem hi
  have h2 := List.all_eq_true.mp h1 _ hm
  unfold uok at h2
  obtain ⟨h3, h5⟩ := Bool.and_eq_true_iff.mp h2
  obtain ⟨h3, h4⟩ := Bool.and_eq_true_iff.mp h3
  refine ⟨of_decide_eq_true h3, fun p q hp hq e => ?_, fun d hd => ?_⟩
  · have a := List.all_eq_true.mp (List.all_eq_true.mp h4 p (List.mem_range.mpr hp)) q (List.mem_range.mpr hq)
    rcases Bool.or_eq_true_iff.mp a with z | z
    · exact of_decide_eq_true z
    · rw [decide_eq_true e] at z; cases z
  · obtain ⟨q, q1, q2⟩ := List.any_eq_true.mp (List.all_eq_true.mp h5 d (List.mem_range.mpr hd))
    exact ⟨q, List.mem_range.mp q1, of_decide_eq_true q2⟩
theorem modc {D row a b : Nat} (h : 6 ≤ D ∧ D ≤ 16) (e : (row + a) % D = (row + b) % D) : a % D = b % D := by
  rcases D_cases h with rfl | rfl | rfl | rfl | rfl | rfl | rfl | rfl | rfl | rfl | rfl <;> omega
theorem mods {D row a d : Nat} (h : 6 ≤ D ∧ D ≤ 16) (hd : d < D) (e : a % D = (d + D - row % D) % D) : (row + a) % D = d := by
  rcases D_cases h with rfl | rfl | rfl | rfl | rfl | rfl | rfl | rfl | rfl | rfl | rfl <;> omega
theorem geo_ok {D W R : Nat} (hD : 6 ≤ D ∧ D ≤ 16) (hW : 3 ≤ W ∧ W ≤ 8 ∧ W < D) (hR : 48 ≤ R ∧ R ≤ 64) : Geo D W R ((D - 1) / W) (hdf D) := by
  obtain ⟨_, m1, _⟩ := uok_t hD
  refine ⟨hD, hW, hR, rfl, fun row p => Nat.mod_lt _ (by omega), fun row p q hp hq e => ?_, fun row d hd => ?_⟩
  · have hi := Nat.mod_lt row m1
    exact (uf_ok hD hi).2.1 p q hp hq (modc hD e)
  · have hi := Nat.mod_lt row m1
    obtain ⟨q, q1, q2⟩ := (uf_ok hD hi).2.2 ((d + D - row % D) % D) (Nat.mod_lt _ (by omega))
    exact ⟨q, q1, mods hD hd q2⟩
theorem clst_len {D : Nat} : ∀ u, (clst D u).length ≤ u - 1 := by
  intro u
  induction u with
  | zero => exact Nat.le_refl _
  | succ u ih =>
    rw [clst]
    split
    · rename_i h
      rw [List.length_append]
      show (clst D u).length + 1 ≤ u
      omega
    · omega
section CT
variable {F : Nat} {n : Nat → Nat} {σ : HS} {D R : Nat}
theorem e_cop (hF : 100 ≤ F) {u : Nat} (hu1 : 1 ≤ u) (hu : u ≤ 16) (hD : D ≤ 16) : D_LA_haveNoDivisorInCommon F n σ (nI u) (nI D) = some (b2i (cop D u)) := by
  have body : ∀ k x, 2 ≤ x → x < u + 1 → D_LA_haveNoDivisorInCommon_L2 F n (nI u) (nI D) (k + 1) (nI x) = if (decide (u % x = 0) && decide (D % x = 0)) = true then some (Sum.inr 0) else D_LA_haveNoDivisorInCommon_L2 F n (nI u) (nI D) k (nI (x + 1)) := by
    intro k x h1 h2
    rw [D_LA_haveNoDivisorInCommon_L2, if_neg (by rw [nI_ltI (by omega) (by omega)]; omega)]
    simp only [nm_q, nI_1, grd_z (show 0 < x by omega) (show x < 2 ^ 31 by omega), pk_rem (show u < 2 ^ 31 by omega) (show 0 < x by omega) (show x < 2 ^ 31 by omega), pk_rem (show D < 2 ^ 31 by omega) (show 0 < x by omega) (show x < 2 ^ 31 by omega)]
    have m1 := Nat.mod_lt u (show 0 < x by omega)
    have m2 := Nat.mod_lt D (show 0 < x by omega)
    have z : ∀ y, y < 2 ^ 31 → ((nI y = 0) ↔ y = 0) := fun y hy => by rw [← nI_0, nI_eq hy (by omega)]
    by_cases e : u % x = 0
    · rw [if_pos ((z _ (by omega)).mpr e), decide_eq_true e, Bool.true_and]
      by_cases e2 : D % x = 0
      · rw [if_pos ((z _ (by omega)).mpr e2), if_pos (decide_eq_true e2)]
      · rw [if_neg (fun y => e2 ((z _ (by omega)).mp y)), if_neg (by rw [decide_eq_false e2]; decide)]
    · rw [if_neg (fun y => e ((z _ (by omega)).mp y)), decide_eq_false e, Bool.false_and, if_neg (by decide)]
  have key := lp_srch (L := fun k x => D_LA_haveNoDivisorInCommon_L2 F n (nI u) (nI D) k x) (f := fun x => decide (u % x = 0) && decide (D % x = 0)) (v := fun _ => (0 : Int32)) (N := u + 1) (lo := 2)
    (fun k => by show D_LA_haveNoDivisorInCommon_L2 F n (nI u) (nI D) (k + 1) (nI (u + 1)) = _; rw [D_LA_haveNoDivisorInCommon_L2, if_pos (by rw [nI_ltI (by omega) (by omega)]; omega)])
    (fun k x h1 h2 hf => by show D_LA_haveNoDivisorInCommon_L2 F n (nI u) (nI D) (k + 1) (nI x) = _; rw [body k x h1 h2, if_neg (by rw [hf]; decide)])
    (fun k x h1 h2 hf => by show D_LA_haveNoDivisorInCommon_L2 F n (nI u) (nI D) (k + 1) (nI x) = _; rw [body k x h1 h2, if_pos hf])
    (u - 1) 2 F (Nat.le_refl _) (by omega) (by omega)
  have key : D_LA_haveNoDivisorInCommon_L2 F n (nI u) (nI D) F 2 = _ := key
  rw [D_LA_haveNoDivisorInCommon, key, Option.bind_some]
  unfold cop
  cases srch (fun x => decide (u % x = 0) && decide (D % x = 0)) (u - 1) 2 <;> rfl
theorem getD_app {l : List Nat} {u i : Nat} (h : i < l.length + 1) : (l ++ [u]).getD i 0 = if i = l.length then u else l.getD i 0 := by
  by_cases e : i = l.length
  · rw [if_pos e, e]; simp
  · rw [if_neg e]
    simp [List.getD, List.getElem?_append_left (show i < l.length by omega)]
theorem e_steps8 (hn : n 18 = D) (hF : 100 ≤ F) (hD : D ≤ 16) : ∀ m u k σ, u + m = D → 1 ≤ u → m < k → (∀ i, i < (clst D u).length → σ.1 18 i = nI ((clst D u).getD i 0)) → ∃ τ, D_LA_stepsOf_L8 F n (nI D) k σ (nI u) (nI (clst D u).length) = some (τ, nI (clst D D).length) ∧ (∀ a, a ≠ 18 → τ.1 a = σ.1 a) ∧ τ.2 = σ.2 ∧ ∀ i, i < (clst D D).length → τ.1 18 i = nI ((clst D D).getD i 0) := by
  intro m
  induction m with
  | zero =>
    intro u k σ hu _ hk h
    obtain ⟨k, rfl⟩ : ∃ j, k = j + 1 := ⟨k - 1, by omega⟩
    have : u = D := by omega
    subst this
    exact ⟨σ, by rw [D_LA_stepsOf_L8, if_pos (Int32.le_refl _)], fun _ _ => rfl, rfl, h⟩
  | succ m ih =>
    intro u k σ hu hu1 hk h
    obtain ⟨k, rfl⟩ : ∃ j, k = j + 1 := ⟨k - 1, by omega⟩
    have hl := clst_len (D := D) u
    rw [D_LA_stepsOf_L8, if_neg (by rw [nI_leI (by omega) (by omega)]; omega), e_cop hF hu1 (by omega) hD, Option.bind_some]
    simp only [nm_q, nI_1]
    cases hc : cop D u with
    | false =>
      have e : clst D (u + 1) = clst D u := by rw [clst, if_neg (fun z => by rw [hc] at z; cases z.2)]
      rw [if_pos (by rfl)]
      obtain ⟨τ, t1, t2⟩ := ih (u + 1) k σ (by omega) (by omega) (by omega) (by rw [e]; exact h)
      rw [e] at t1
      exact ⟨τ, t1, t2⟩
    | true =>
      have e : clst D (u + 1) = clst D u ++ [u] := by rw [clst, if_pos ⟨hu1, hc⟩]
      have el : (clst D (u + 1)).length = (clst D u).length + 1 := by rw [e, List.length_append]; rfl
      rw [if_neg (by decide), grd_in (by omega) (by omega), nI_clamp (by omega)]
      obtain ⟨τ, t1, t2, t3, t4⟩ := ih (u + 1) k (stI σ 18 (clst D u).length (nI u)) (by omega) (by omega) (by omega) (fun i hi => by
        rw [el] at hi
        rw [stI_s, upd_a, e, getD_app hi]
        by_cases z : i = (clst D u).length
        · rw [if_pos z, if_pos z]
        · rw [if_neg z, if_neg z]; exact h i (by omega))
      rw [el] at t1
      exact ⟨τ, t1, fun a ha => by rw [t2 a ha, stI_1 a ha], t3, t4⟩
theorem yC_1 (a : Nat) : ∀ b, b ≠ a → (zC σ a).1 b = σ.1 b := fun b h => by unfold zC; dsimp only; rw [beq_ne h]; rfl
theorem yC_2 (a : Nat) : ∀ b, b ≠ a → (zC σ a).2 b = σ.2 b := fun b h => by unfold zC; dsimp only; rw [beq_ne h]; rfl
theorem yC_s1 (a i : Nat) : (zC σ a).1 a i = 0 := by simp [zC]
theorem yC_s2 (a i : Nat) : (zC σ a).2 a i = 0 := by simp [zC]
theorem ytC_1 (a : Nat) (f : Nat → Int32) : ∀ b, b ≠ a → (stC σ a f).1 b = σ.1 b := fun b h => by unfold stC; dsimp only; rw [beq_ne h]; rfl
theorem ytC_s (a : Nat) (f : Nat → Int32) : (stC σ a f).1 a = f := by simp [stC]
theorem okN_t {x B : Nat} (h : x ≤ B) (hB : B < 2 ^ 31) : okN (nI x) B = true := by
  unfold okN
  rw [nI_clamp (by omega)]
  exact decide_eq_true ⟨nI_pos (by omega), h⟩
theorem e_steps (hD : 6 ≤ D ∧ D ≤ 16) (hF : 100 ≤ F) : ∃ n1 τ, D_LA_stepsOf F n σ (nI D) = some (n1, τ) ∧ n1 = setA (setA n 18 D) 19 (mnf D) ∧ (∀ a, a ≠ 18 → a ≠ 19 → τ.1 a = σ.1 a) ∧ (∀ a, a ≠ 18 → a ≠ 19 → τ.2 a = σ.2 a) ∧ ∀ i, i < mnf D → τ.1 19 i = nI (uf D i) := by
  obtain ⟨_, m1, m2⟩ := uok_t hD
  have hc := clst_t hD
  rw [D_LA_stepsOf, grd_t (okN_t (by omega) (by omega))]
  simp only [nm_q]
  rw [nI_clamp (by omega)]
  have c1 : (clst D 1).length = 0 := by
    have := clst_len (D := D) 1
    omega
  obtain ⟨τ, t1, t2, t3, t4⟩ := e_steps8 (F := F) (n := setA n 18 D) (D := D) (setA_s n 18 D) hF hD.2 (D - 1) 1 F (zC σ 18) (by omega) (Nat.le_refl _) (by omega) (fun i hi => by rw [c1] at hi; omega)
  rw [c1, hc] at t1
  rw [hc] at t4
  have t1 : D_LA_stepsOf_L8 F (setA n 18 D) (nI D) F (zC σ 18) 1 0 = some (τ, nI (utb D).length) := t1
  rw [t1, Option.bind_some]
  dsimp only
  rw [D_AR_copyOf, setA_s, if_neg (by rw [nI_eq (by omega) (by omega)]; omega), grd_t (okN_t (by omega) (by omega))]
  simp only [nm_q]
  rw [nI_clamp (by omega), if_pos (show nI (utb D).length < nI (setA (setA n 18 D) 19 (utb D).length 18) by
    rw [setA_n _ _ (by decide), setA_s, nI_ltI (by omega) (by omega)]; omega), grd_t (show cpok (0 : Int32) (0 : Int32) (nI (utb D).length) (setA (setA n 18 D) 19 (utb D).length 18) (setA (setA n 18 D) 19 (utb D).length 19) = true from by
    unfold cpok
    rw [setA_n _ _ (by decide), setA_s, setA_s, nI_clamp (by omega)]
    exact decide_eq_true ⟨by decide, by decide, nI_pos (by omega), by show 0 + _ ≤ _; omega, by show 0 + _ ≤ _; omega⟩), nI_clamp (by omega), Option.bind_some]
  refine ⟨_, _, rfl, rfl, fun a h1 h2 => ?_, fun a h1 h2 => ?_, fun i hi => ?_⟩
  · show (cond (Nat.beq a 19) _ _ : Nat → Int32) = _
    rw [beq_ne h2]
    show (zC τ 19).1 a = _
    rw [yC_1 19 a h2, t2 a h1, yC_1 18 a h1]
  · show (zC τ 19).2 a = _
    rw [yC_2 19 a h2, t3, yC_2 18 a h1]
  · show va_cpy ((zC τ 19).1 18) ((zC τ 19).1 19) 0 0 (utb D).length i = _
    rw [pk_cpy_in (Nat.zero_le _) (by show i < 0 + (utb D).length; rw [Nat.zero_add]; exact hi), yC_1 19 18 (by decide), show 0 + (i - 0) = i by omega]
    exact t4 i hi
theorem e_homes32 (hD : 6 ≤ D ∧ D ≤ 16) (hR : R ≤ 64) (hn : n 9 = R * D) (hF : 100 ≤ F) {row : Nat} (hr : row < R) : ∃ τ, D_LA_homes_L32 F n (nI (uf D (row % mnf D))) (nI row) (nI D) (nI R) F σ (nI 0) = some τ ∧ (∀ a, a ≠ 9 → τ.1 a = σ.1 a) ∧ τ.2 = σ.2 ∧ (∀ i, i < row * D → τ.1 9 i = σ.1 9 i) ∧ ∀ p, p < D → τ.1 9 (row * D + p) = nI (hdf D row p * (R + 1) + row) := by
  obtain ⟨_, m1, _⟩ := uok_t hD
  have hu := (uf_ok hD (Nat.mod_lt row m1)).1
  have hRD : R * D ≤ 64 * 16 := Nat.mul_le_mul hR hD.2
  exact lp (L := D_LA_homes_L32 F n (nI (uf D (row % mnf D))) (nI row) (nI D) (nI R)) (N := D) (I := fun m τ => (∀ a, a ≠ 9 → τ.1 a = σ.1 a) ∧ τ.2 = σ.2 ∧ (∀ i, i < row * D → τ.1 9 i = σ.1 9 i) ∧ ∀ p, p < m → τ.1 9 (row * D + p) = nI (hdf D row p * (R + 1) + row)) (Q := fun τ => (∀ a, a ≠ 9 → τ.1 a = σ.1 a) ∧ τ.2 = σ.2 ∧ (∀ i, i < row * D → τ.1 9 i = σ.1 9 i) ∧ ∀ p, p < D → τ.1 9 (row * D + p) = nI (hdf D row p * (R + 1) + row))
    (fun k τ p hp ⟨q1, q2, q3, q4⟩ => by
      have i1 := lt2 hr hp
      have hpu : p * uf D (row % mnf D) ≤ 16 * 16 := Nat.mul_le_mul (by omega) hu
      refine Or.inl ⟨stI τ 9 (row * D + p) (nI (hdf D row p * (R + 1) + row)), ⟨fun a h => by rw [stI_1 a h]; exact q1 a h, q2, fun i hi => by rw [stI_s, upd_n (by omega)]; exact q3 i hi, fun q hq => ?_⟩, ?_⟩
      · rw [stI_s, upd_a]
        by_cases e : q = p
        · rw [if_pos (by omega), e]
        · rw [if_neg (by omega)]; exact q4 q (by omega)
      · rw [D_LA_homes_L32, if_neg (by rw [nI_leI (by omega) (by omega)]; omega), grd_z (by omega) (by omega)]
        simp only [nm_q, nI_1]
        rw [pk_mul, nI_add, grd_in (by omega) (by omega), nI_clamp (by omega), pk_mul, nI_add, pk_rem (by omega) (by omega) (by omega), pk_mul, nI_add]
        rfl)
    (fun k τ h => ⟨τ, by rw [D_LA_homes_L32, if_pos (Int32.le_refl _)], h⟩)
    D 0 F σ (Nat.zero_add _) (by omega) ⟨fun _ _ => rfl, rfl, fun _ _ => rfl, fun p h => by omega⟩
theorem e_homes (hD : 6 ≤ D ∧ D ≤ 16) (hR : 48 ≤ R ∧ R ≤ 64) (hF : 100 ≤ F) : ∃ n1 τ, D_LA_homes F n σ (nI D) (nI R) = some (n1, τ) ∧ n1 9 = R * D ∧ ∀ row p, row < R → p < D → τ.1 9 (row * D + p) = nI (hdf D row p * (R + 1) + row) := by
  obtain ⟨_, m1, m2⟩ := uok_t hD
  have hRD : R * D ≤ 64 * 16 := Nat.mul_le_mul hR.2 hD.2
  obtain ⟨n1, τ, t1, t2, t3, t4, t5⟩ := e_steps (F := F) (n := n) (σ := σ) hD hF
  rw [D_LA_homes, t1, Option.bind_some, nm2_q]
  dsimp only
  rw [pk_mul, grd_t (okN_t (by omega) (by omega))]
  simp only [nm_q]
  rw [nI_clamp (by omega)]
  have n19 : setA n1 9 (R * D) 19 = mnf D := by rw [setA_n _ _ (by decide), t2, setA_s]
  have hm : mnf D = (utb D).length := rfl
  obtain ⟨υ, u1, u2⟩ := lp (L := D_LA_homes_L14 F (setA n1 9 (R * D)) (nI D) (nI R)) (N := R) (I := fun m υ => (∀ a, a ≠ 9 → υ.1 a = (zC τ 9).1 a) ∧ ∀ row p, row < m → p < D → υ.1 9 (row * D + p) = nI (hdf D row p * (R + 1) + row)) (Q := fun υ => ∀ row p, row < R → p < D → υ.1 9 (row * D + p) = nI (hdf D row p * (R + 1) + row))
    (fun k υ row hr ⟨q1, q2⟩ => by
      have hi := Nat.mod_lt row m1
      obtain ⟨ω, w1, w2, w3, w4, w5⟩ := e_homes32 (F := F) (n := setA n1 9 (R * D)) (σ := υ) hD hR.2 (setA_s _ _ _) hF hr
      refine Or.inl ⟨ω, ⟨fun a h => by rw [w2 a h]; exact q1 a h, fun r p hr1 hp => ?_⟩, ?_⟩
      · by_cases e : r = row
        · rw [e]; exact w5 p hp
        · have := lt2 (show r < row by omega) hp
          rw [w4 _ this]; exact q2 r p (by omega) hp
      · have hi : row % mnf D < mnf D := hi
        have w1 : D_LA_homes_L32 F (setA n1 9 (R * D)) (nI (uf D (row % mnf D))) (nI row) (nI D) (nI R) F υ 0 = some ω := w1
        rw [D_LA_homes_L14, if_neg (by rw [nI_leI (by omega) (by omega)]; omega), n19, grd_z (by omega) (by omega), pk_rem (by omega) (by omega) (by omega), grd_in (by omega) (by omega), nm_q, nI_clamp (by omega), q1 19 (by decide), yC_1 9 19 (by decide), t5 _ hi, w1, Option.bind_some, nm_q, nI_1])
    (fun k υ ⟨q1, q2⟩ => ⟨υ, by rw [D_LA_homes_L14, if_pos (Int32.le_refl _)], q2⟩)
    R 0 F (zC τ 9) (Nat.zero_add _) (by omega) ⟨fun _ _ => rfl, fun _ p h => by omega⟩
  have u1 : D_LA_homes_L14 F (setA n1 9 (R * D)) (nI D) (nI R) F (zC τ 9) 0 = some υ := u1
  rw [u1, Option.bind_some]
  exact ⟨_, υ, rfl, setA_s _ _ _, u2⟩
end CT
