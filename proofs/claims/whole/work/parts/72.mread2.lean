section MQ2
variable {D W R G : Nat} {hd : Nat → Nat → Nat} {F : Nat} {n : Nat → Nat} {σ : HS} {K : Rk} {E : Nat → Nat → Option Nat} {live : Nat → Bool}
theorem e_MD_freeSpare (cx : Ctx D W R G hd n F) (mb : MB D W R G hd F n live K E σ) {row : Nat} (hr : row < R) : D_MD_freeSpare F n σ (nI row) = some (pI (ffs D (W * G) hd E live row)) := by
  obtain ⟨ge, ln, hF⟩ := id cx
  have gn := ge.num
  have hh := ge.2.2.2.2.1
  obtain ⟨⟨_, _⟩, ⟨_, _, _⟩, ⟨_, _⟩, ⟨_, _⟩, ⟨_, _⟩, _, _, _, _⟩ := id gn
  have g := mb.1
  have body : ∀ k q, q < D → D_MD_freeSpare_L10 F n σ (nI row) (k + 1) (nI q) = if fre (W * G) E live row (hd row q) = true then some (Sum.inr (nI (hd row q))) else D_MD_freeSpare_L10 F n σ (nI row) k (nI (q + 1)) := by
    intro k q hq
    have hdq := hh row q
    rw [D_MD_freeSpare_L10, g.1.1, if_neg (by rw [nI_leI (by omega) (by omega)]; omega), e_MD_diskOf cx g (by omega) hq, Option.bind_some, grd_in (by rw [ln.2.2.1]; omega) (by omega), nI_clamp (by omega), mb.2.1 _ hdq, Option.bind_some, e_MD_holder cx mb hr hdq, Option.bind_some]
    simp only [nm_q, nI_1]
    unfold fre
    cases live (hd row q) with
    | false => rw [if_pos (by rfl), Bool.and_false, if_neg (by decide)]
    | true =>
      rw [if_neg (by decide), Bool.and_true]
      cases hh1 : held (W * G) E row (hd row q) with
      | true => rw [if_pos ((hold_neg gn).mpr hh1)]; rfl
      | false => rw [if_neg (fun z => by rw [(hold_neg gn).mp z] at hh1; cases hh1)]; rfl
  have key := lp_srch (L := fun k x => D_MD_freeSpare_L10 F n σ (nI row) k x) (f := fun q => fre (W * G) E live row (hd row q)) (v := fun q => nI (hd row q)) (N := D) (lo := 0)
    (fun k => by show D_MD_freeSpare_L10 F n σ (nI row) (k + 1) (nI D) = _; rw [D_MD_freeSpare_L10, g.1.1, if_pos (Int32.le_refl _)])
    (fun k q _ hq hf => by
      show D_MD_freeSpare_L10 F n σ (nI row) (k + 1) (nI q) = _
      rw [body k q hq, if_neg (by rw [hf]; decide)])
    (fun k q _ hq hf => by
      show D_MD_freeSpare_L10 F n σ (nI row) (k + 1) (nI q) = _
      rw [body k q hq, if_pos hf])
    (D - W * G) (W * G) F (Nat.zero_le _) (by omega) (by omega)
  have key : D_MD_freeSpare_L10 F n σ (nI row) F (nI (W * G)) = _ := key
  rw [D_MD_freeSpare, nm_q, g.1.2.1, g.1.2.2.2, pk_mul, key, Option.bind_some]
  unfold ffs
  cases srch (fun q => fre (W * G) E live row (hd row q)) (D - W * G) (W * G) <;> rfl
/-- what the reference counts -/
def cw (N : Nat) (hd : Nat → Nat → Nat) (live : Nat → Bool) (K : Rk) (E : Nat → Nat → Option Nat) (w row p : Nat) : Bool := if w = 2 then decide (p < N) && lst E row p else if w = 3 then decide (p < N) && spo K E row p else if w = 4 then decide (¬ p < N) && fre N E live row (hd row p) else false
theorem e_MD_count (cx : Ctx D W R G hd n F) (mb : MB D W R G hd F n live K E σ) {w : Nat} (hw : w ≤ 12) : D_MD_count F n σ (nI w) = some (nI (cnt2 (cw (W * G) hd live K E w) D R 0)) := by
  obtain ⟨ge, ln, hF⟩ := id cx
  have gn := ge.num
  have hh := ge.2.2.2.2.1
  obtain ⟨⟨_, _⟩, ⟨_, _, _⟩, ⟨_, _⟩, ⟨_, _⟩, ⟨_, _⟩, _, _, _, _⟩ := id gn
  have g := mb.1
  have w2 : (nI w = (2 : Int32)) ↔ w = 2 := nI_eq (b := 2) (by omega) (by omega)
  have w3 : (nI w = (3 : Int32)) ↔ w = 3 := nI_eq (b := 3) (by omega) (by omega)
  have w4 : (nI w = (4 : Int32)) ↔ w = 4 := nI_eq (b := 4) (by omega) (by omega)
  have z0 : ∀ c, nI c + (0 : Int32) = nI c := fun c => Int32.add_zero _
  have inner : ∀ row, row < R → ∀ c0, D_MD_count_L15 F n σ (nI row) (nI w) F (nI 0) (nI c0) = some (nI (c0 + cnt (cw (W * G) hd live K E w row) D 0)) := by
    intro row hr c0
    have body : ∀ k p c, p < D → D_MD_count_L15 F n σ (nI row) (nI w) (k + 1) (nI p) (nI c) = if cw (W * G) hd live K E w row p = true then D_MD_count_L15 F n σ (nI row) (nI w) k (nI (p + 1)) (nI (c + 1)) else D_MD_count_L15 F n σ (nI row) (nI w) k (nI (p + 1)) (nI c) := by
      intro k p c hp
      have hdp := hh row p
      rw [D_MD_count_L15, g.1.1, if_neg (by rw [nI_leI (by omega) (by omega)]; omega)]
      simp only [jn_q, nm_q, nI_1, g.1.2.1, g.1.2.2.2, pk_mul, z0, w2, w3, w4]
      unfold cw
      by_cases hN : p < W * G
      · have hsm := mb.small gn hr hN
        rw [if_pos (by rw [nI_ltI (by omega) (by omega)]; exact hN)]
        simp only [if_true]
        rw [mb.2.2.2.2.2.1 row p hr hN, Option.bind_some, e_MD_isSpoilt cx mb hr hN]
        simp only [Option.bind_some, show decide (p < W * G) = true from decide_eq_true hN, Bool.true_and]
        by_cases e2 : w = 2
        · subst e2
          simp only [if_true, show ¬ (2 : Nat) = 3 by omega, show ¬ (2 : Nat) = 4 by omega, if_false]
          unfold lst
          by_cases e : E row p = none
          · rw [if_neg (fun z => (pI_nneg hsm).mp z e), if_pos (by simp [e])]
          · rw [if_pos ((pI_nneg hsm).mpr e), if_neg (by simp [e])]
        · by_cases e3 : w = 3
          · subst e3
            simp only [if_true, show ¬ (3 : Nat) = 2 by omega, show ¬ (3 : Nat) = 4 by omega, if_false]
            cases spo K E row p <;> rfl
          · by_cases e4 : w = 4
            · subst e4
              simp only [show ¬ (4 : Nat) = 2 by omega, show ¬ (4 : Nat) = 3 by omega, if_false, if_true, hN, not_true_eq_false, decide_false, Bool.false_and]
              rfl
            · simp only [e2, e3, e4, if_false]
              rfl
      · rw [if_neg (by rw [nI_ltI (by omega) (by omega)]; exact hN), e_MD_diskOf cx g (by omega) hp]
        simp only [Option.bind_some]
        rw [grd_in (by rw [ln.2.2.1]; omega) (by omega), nI_clamp (by omega), mb.2.1 _ hdp, e_MD_holder cx mb hr hdp]
        simp only [Option.bind_some, show decide (p < W * G) = false from decide_eq_false hN, Bool.false_and]
        by_cases e2 : w = 2
        · subst e2
          simp only [if_true, show ¬ (2 : Nat) = 3 by omega, show ¬ (2 : Nat) = 4 by omega, if_false]
          rfl
        · by_cases e3 : w = 3
          · subst e3
            simp only [if_true, show ¬ (3 : Nat) = 2 by omega, show ¬ (3 : Nat) = 4 by omega, if_false]
            rfl
          · by_cases e4 : w = 4
            · subst e4
              simp only [show ¬ (4 : Nat) = 2 by omega, show ¬ (4 : Nat) = 3 by omega, if_false, if_true, hN, not_false_eq_true, decide_true, Bool.true_and]
              unfold fre
              cases live (hd row p) with
              | false => rw [Bool.and_false]; rfl
              | true =>
                rw [Bool.and_true, if_neg (show ¬ (1 : Int32) = 0 by decide), if_neg (show ¬ b2i true = 0 by decide)]
                cases hh1 : held (W * G) E row (hd row p) with
                | true => rw [if_pos ((hold_neg gn).mpr hh1)]; rfl
                | false => rw [if_neg (fun z => by rw [(hold_neg gn).mp z] at hh1; cases hh1)]; rfl
            · simp only [e2, e3, e4, if_false]
              rfl
    exact lp_cnt (L := fun k x c => D_MD_count_L15 F n σ (nI row) (nI w) k x c) (f := cw (W * G) hd live K E w row) (N := D) (lo := 0)
      (fun k c => by show D_MD_count_L15 F n σ (nI row) (nI w) (k + 1) (nI D) c = _; rw [D_MD_count_L15, g.1.1, if_pos (Int32.le_refl _)])
      (fun k i c _ hi hf => by show D_MD_count_L15 F n σ (nI row) (nI w) (k + 1) (nI i) (nI c) = _; rw [body k i c hi, if_neg (by rw [hf]; decide)])
      (fun k i c _ hi hf => by show D_MD_count_L15 F n σ (nI row) (nI w) (k + 1) (nI i) (nI c) = _; rw [body k i c hi, if_pos hf])
      D 0 F c0 (Nat.zero_le _) (by omega) (by omega)
  have outer : ∀ m r k c0, r + m = R → m < k → D_MD_count_L4 F n σ (nI w) k (nI r) (nI c0) = some (nI (c0 + cnt2 (cw (W * G) hd live K E w) D m r)) := by
    intro m
    induction m with
    | zero =>
      intro r k c0 hr hk
      obtain ⟨k, rfl⟩ : ∃ j, k = j + 1 := ⟨k - 1, by omega⟩
      have : r = R := by omega
      subst this
      rw [D_MD_count_L4, g.1.2.2.1, if_pos (Int32.le_refl _)]; rfl
    | succ m ih =>
      intro r k c0 hr hk
      obtain ⟨k, rfl⟩ : ∃ j, k = j + 1 := ⟨k - 1, by omega⟩
      rw [D_MD_count_L4, g.1.2.2.1, if_neg (by rw [nI_leI (by omega) (by omega)]; omega), ← nI_0, inner r (by omega), Option.bind_some, nm_q, nI_1, ih (r + 1) k _ (by omega) (by omega), cnt2, Nat.add_assoc]
  rw [D_MD_count, ← nI_0, outer R 0 F 0 (Nat.zero_add _) (by omega), Option.bind_some, Nat.zero_add]
theorem cnt_head {f g : Nat → Bool} {N M : Nat} (h : N ≤ M) (h1 : ∀ i, i < N → f i = g i) (h2 : ∀ i, N ≤ i → i < M → f i = false) : cnt f M 0 = cnt g N 0 := by
  obtain ⟨k, rfl⟩ : ∃ k, M = N + k := ⟨M - N, by omega⟩
  rw [cnt_add, cnt_congr (f := f) (g := g) (fun j _ hj => h1 j (by omega)), cnt_false (a := 0 + N) (fun j hj1 hj2 => h2 j (by omega) (by omega)), Nat.add_zero]
theorem cnt_last {f g : Nat → Bool} {N M : Nat} (h : N ≤ M) (h1 : ∀ i, i < N → f i = false) (h2 : ∀ i, i < M - N → f (N + i) = g i) : cnt f M 0 = cnt g (M - N) 0 := by
  obtain ⟨k, rfl⟩ : ∃ k, M = N + k := ⟨M - N, by omega⟩
  rw [cnt_add, cnt_false (m := N) (fun j _ hj => h1 j (by omega)), Nat.zero_add, Nat.zero_add, show N + k - N = k by omega, ← cnt_congr (f := fun i => f (N + i)) (g := g) (m := k) (a := 0) (fun j _ hj => h2 j (by omega)), cnt_shift, Nat.add_zero]
theorem cnt2_map {f g : Nat → Nat → Bool} {N M : Nat} : ∀ {m a : Nat}, (∀ r, a ≤ r → r < a + m → cnt (f r) M 0 = cnt (g r) N 0) → cnt2 f M m a = cnt2 g N m a := by
  intro m
  induction m with
  | zero => intro a _; rfl
  | succ m ih => intro a h; rw [cnt2, cnt2, h a (Nat.le_refl _) (by omega), ih (fun r h1 h2 => h r (by omega) (by omega))]
theorem cw_2 (gn : GN D W R G) : cnt2 (cw (W * G) hd live K E 2) D R 0 = cnt2 (lst E) (W * G) R 0 := by
  obtain ⟨⟨_, _⟩, ⟨_, _, _⟩, ⟨_, _⟩, ⟨_, _⟩, ⟨_, _⟩, _, _, _, _⟩ := gn
  refine cnt2_map (fun r _ _ => cnt_head (by omega) (fun i hi => ?_) (fun i h1 h2 => ?_))
  · unfold cw; simp [hi]
  · unfold cw; simp [show ¬ i < W * G by omega]
theorem cw_3 (gn : GN D W R G) : cnt2 (cw (W * G) hd live K E 3) D R 0 = cnt2 (spo K E) (W * G) R 0 := by
  obtain ⟨⟨_, _⟩, ⟨_, _, _⟩, ⟨_, _⟩, ⟨_, _⟩, ⟨_, _⟩, _, _, _, _⟩ := gn
  refine cnt2_map (fun r _ _ => cnt_head (by omega) (fun i hi => ?_) (fun i h1 h2 => ?_))
  · unfold cw; simp [hi]
  · unfold cw; simp [show ¬ i < W * G by omega]
theorem cw_4 (gn : GN D W R G) : cnt2 (cw (W * G) hd live K E 4) D R 0 = cnt2 (fsp (W * G) hd E live) (D - W * G) R 0 := by
  obtain ⟨⟨_, _⟩, ⟨_, _, _⟩, ⟨_, _⟩, ⟨_, _⟩, ⟨_, _⟩, _, _, _, _⟩ := gn
  refine cnt2_map (fun r _ _ => cnt_last (by omega) (fun i hi => ?_) (fun i hi => ?_))
  · unfold cw; simp [hi]
  · unfold cw fsp; simp
theorem e_MD_blocks (gn : GN D W R G) (g : mGeo D W R G hd σ) : D_MD_blocks F n σ = some (nI (R * G * (W - 1))) := by
  obtain ⟨⟨_, _⟩, ⟨_, _, _⟩, ⟨_, _⟩, ⟨_, _⟩, ⟨_, _⟩, _, _, _, _⟩ := gn
  rw [D_MD_blocks, g.1.2.2.1, g.1.2.2.2, g.1.2.1, pk_mul, nI_sub1 (by omega), pk_mul]
theorem e_MD_look146 (cx : Ctx D W R G hd n F) (g : mGeo D W R G hd σ) (lv : mLive D live σ) : D_MD_look_L146 F n σ F (nI 0) (nI 0) = some (nI (cnt live D 0)) := by
  obtain ⟨ge, ln, hF⟩ := id cx
  obtain ⟨⟨_, _⟩, ⟨_, _, _⟩, ⟨_, _⟩, ⟨_, _⟩, ⟨_, _⟩, _, _, _, _⟩ := ge.num
  have body : ∀ k i c, i < D → D_MD_look_L146 F n σ (k + 1) (nI i) (nI c) = if b2i (live i) = 0 then D_MD_look_L146 F n σ k (nI (i + 1)) (nI c) else D_MD_look_L146 F n σ k (nI (i + 1)) (nI (c + 1)) := by
    intro k i c hi
    rw [D_MD_look_L146, g.1.1, if_neg (by rw [nI_leI (by omega) (by omega)]; omega), grd_in (by rw [ln.2.2.1]; omega) (by omega), nI_clamp (by omega), lv i hi]
    simp only [nm_q, nI_1]
    rw [show nI c + (0 : Int32) = nI c from Int32.add_zero _]
  have := lp_cnt (L := fun k x c => D_MD_look_L146 F n σ k x c) (f := live) (N := D) (lo := 0)
    (fun k c => by show D_MD_look_L146 F n σ (k + 1) (nI D) c = _; rw [D_MD_look_L146, g.1.1, if_pos (Int32.le_refl _)])
    (fun k i c _ hi hf => by show D_MD_look_L146 F n σ (k + 1) (nI i) (nI c) = _; rw [body k i c hi, hf, if_pos (by rfl)])
    (fun k i c _ hi hf => by show D_MD_look_L146 F n σ (k + 1) (nI i) (nI c) = _; rw [body k i c hi, hf, if_neg (by decide)])
    D 0 F 0 (Nat.zero_le _) (by omega) (by omega)
  rw [Nat.zero_add] at this
  exact this
end MQ2
