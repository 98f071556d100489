/-- what the reference's reading methods lean on; E: the places as they stand -/
def MB (D W R G : Nat) (hd : Nat → Nat → Nat) (F : Nat) (n : Nat → Nat) (live : Nat → Bool) (K : Rk) (E : Nat → Nat → Option Nat) (σ : HS) : Prop := mGeo D W R G hd σ ∧ mLive D live σ ∧ mK D R live K σ ∧ LK live K ∧ KW0 D R K ∧ (∀ row p, row < R → p < W * G → D_MD_placeOf F n σ (nI row) (nI p) = some (pI (E row p))) ∧ PW D R (W * G) E
theorem pI_eq {x : Option Nat} {d : Nat} (hx : ∀ e, x = some e → e < 2 ^ 31) (hd : d < 2 ^ 31) : (pI x = nI d) ↔ x = some d := by
  cases x with
  | none => exact ⟨fun e => absurd e (nI_m1' hd), fun e => by cases e⟩
  | some e =>
    show nI e = nI d ↔ _
    rw [nI_eq (hx e rfl) hd]
    exact ⟨fun z => by rw [z], fun z => by cases z; rfl⟩
theorem pI_neg {x : Option Nat} (hx : ∀ e, x = some e → e < 2 ^ 31) : (pI x < 0) ↔ x = none := by
  cases x with
  | none => exact ⟨fun _ => rfl, fun _ => by decide⟩
  | some e =>
    show nI e < 0 ↔ _
    exact ⟨fun z => absurd z (nI_pos (hx e rfl)), fun z => by cases z⟩
theorem pI_nneg {x : Option Nat} (hx : ∀ e, x = some e → e < 2 ^ 31) : (0 ≤ pI x) ↔ x ≠ none := by
  cases x with
  | none => exact ⟨fun z => absurd z (by decide), fun z => absurd rfl z⟩
  | some e => exact ⟨fun _ z => (by cases z), fun _ => nI_pos' (hx e rfl)⟩
section MQ
variable {D W R G : Nat} {hd : Nat → Nat → Nat} {F : Nat} {n : Nat → Nat} {σ : HS} {K : Rk} {E : Nat → Nat → Option Nat} {live : Nat → Bool}
theorem MB.small (gn : GN D W R G) (mb : MB D W R G hd F n live K E σ) {row p : Nat} (hr : row < R) (hp : p < W * G) : ∀ e, E row p = some e → e < 2 ^ 31 := fun e h => by
  have := mb.2.2.2.2.2.2.1 row p e hr hp h
  obtain ⟨⟨_, _⟩, _⟩ := gn
  omega
theorem e_MD_holder (cx : Ctx D W R G hd n F) (mb : MB D W R G hd F n live K E σ) {row d : Nat} (hr : row < R) (hd1 : d < D) : D_MD_holder F n σ (nI row) (nI d) = some (pI (srch (fun p => decide (E row p = some d)) (W * G) 0)) := by
  obtain ⟨ge, ln, hF⟩ := cx
  have gn := ge.num
  obtain ⟨⟨_, _⟩, ⟨_, _, _⟩, ⟨_, _⟩, ⟨_, _⟩, ⟨_, _⟩, _, _, _, _⟩ := id gn
  have g := mb.1
  have body : ∀ k p, p < W * G → D_MD_holder_L2 F n σ (nI row) (nI d) (k + 1) (nI p) = if decide (E row p = some d) = true then some (Sum.inr (nI p)) else D_MD_holder_L2 F n σ (nI row) (nI d) k (nI (p + 1)) := by
    intro k p hp
    rw [D_MD_holder_L2, g.1.2.1, g.1.2.2.2, pk_mul, if_neg (by rw [nI_leI (by omega) (by omega)]; omega), mb.2.2.2.2.2.1 row p hr hp, Option.bind_some, nm_q, nI_1]
    by_cases e : E row p = some d
    · rw [if_pos ((pI_eq (mb.small gn hr hp) (by omega)).mpr e), if_pos (by simp [e])]
    · rw [if_neg (fun z => e ((pI_eq (mb.small gn hr hp) (by omega)).mp z)), if_neg (by simp [e])]
  have key := lp_srch (L := fun k x => D_MD_holder_L2 F n σ (nI row) (nI d) k x) (f := fun p => decide (E row p = some d)) (v := fun p => nI p) (N := W * G) (lo := 0)
    (fun k => by show D_MD_holder_L2 F n σ (nI row) (nI d) (k + 1) (nI (W * G)) = _; rw [D_MD_holder_L2, g.1.2.1, g.1.2.2.2, pk_mul, if_pos (Int32.le_refl _)])
    (fun k q _ hq hf => by
      show D_MD_holder_L2 F n σ (nI row) (nI d) (k + 1) (nI q) = _
      rw [body k q hq, if_neg (by rw [hf]; decide)])
    (fun k q _ hq hf => by
      show D_MD_holder_L2 F n σ (nI row) (nI d) (k + 1) (nI q) = _
      rw [body k q hq, if_pos hf])
    (W * G) 0 F (Nat.zero_le _) (by omega) (by omega)
  have key : D_MD_holder_L2 F n σ (nI row) (nI d) F (nI 0) = _ := key
  rw [D_MD_holder, ← nI_0, key, Option.bind_some]
  cases srch (fun p => decide (E row p = some d)) (W * G) 0 <;> rfl
theorem hold_neg (gn : GN D W R G) {row d : Nat} : (0 ≤ pI (srch (fun p => decide (E row p = some d)) (W * G) 0)) ↔ held (W * G) E row d = true := by
  unfold held
  rw [pI_nneg]
  · cases srch (fun p => decide (E row p = some d)) (W * G) 0 <;> simp
  · intro e h
    obtain ⟨_, h2, _, _⟩ := srch_some h
    obtain ⟨⟨_, _⟩, ⟨_, _, _⟩, ⟨_, _⟩, ⟨_, _⟩, ⟨_, _⟩, _, _, _, _⟩ := gn
    omega
theorem e_MD_isSpoilt (cx : Ctx D W R G hd n F) (mb : MB D W R G hd F n live K E σ) {row p : Nat} (hr : row < R) (hp : p < W * G) : D_MD_isSpoilt F n σ (nI row) (nI p) = some (b2i (spo K E row p)) := by
  obtain ⟨ge, ln, hF⟩ := id cx
  have gn := ge.num
  rw [D_MD_isSpoilt, mb.2.2.2.2.2.1 row p hr hp, Option.bind_some]
  unfold spo
  cases he : E row p with
  | none => rw [if_pos (by decide)]; rfl
  | some d =>
    have hd1 := mb.2.2.2.2.2.2.1 row p d hr hp he
    obtain ⟨⟨_, _⟩, ⟨_, _, _⟩, ⟨_, _⟩, ⟨_, _⟩, ⟨_, _⟩, _, _, _, _⟩ := id gn
    rw [show pI (some d) = nI d from rfl, if_neg (nI_pos (by omega)), e_MD_isValid cx mb.2.1 mb.2.2.1 mb.2.2.2.1 mb.2.2.2.2.1 hd1 (by omega), Option.bind_some]
    show _ = some (b2i (!isv (K d row)))
    cases isv (K d row) <;> rfl
theorem e_MD_bad (cx : Ctx D W R G hd n F) (mb : MB D W R G hd F n live K E σ) {row gi j0 : Nat} (hr : row < R) (hg : gi < G) (hj0 : j0 < W) (x : Int32) (f : Nat → Bool) (hf : ∀ j, j < W → f j = (!isvo K row (E row (W * gi + j)) || decide (pI (E row (W * gi + j)) = x ∧ E row (W * gi + j) ≠ none))) : D_MD_bad F n σ (nI row) (nI (W * gi + j0)) x = some (nI (cnt f W 0)) := by
  obtain ⟨ge, ln, hF⟩ := id cx
  have gn := ge.num
  obtain ⟨⟨_, _⟩, ⟨_, _, _⟩, ⟨_, _⟩, ⟨_, _⟩, ⟨_, _⟩, _, _, _, _⟩ := id gn
  have g := mb.1
  have hp0 := pos_lt hg hj0
  have e1 : (W * gi + j0) / W = gi := by rw [Nat.mul_comm, Nat.add_comm, Nat.add_mul_div_right _ _ (by omega), Nat.div_eq_of_lt hj0, Nat.zero_add]
  have body : ∀ k j c, j < W → D_MD_bad_L20 F n σ (nI (W * gi)) (nI row) x (k + 1) (nI (W * gi + j)) (nI c) = if f j = true then D_MD_bad_L20 F n σ (nI (W * gi)) (nI row) x k (nI (W * gi + (j + 1))) (nI (c + 1)) else D_MD_bad_L20 F n σ (nI (W * gi)) (nI row) x k (nI (W * gi + (j + 1))) (nI c) := by
    intro k j c hj
    have hp := pos_lt hg hj
    have hsm := mb.small gn hr hp
    rw [D_MD_bad_L20, g.1.2.1, nI_add, if_neg (by rw [nI_leI (by omega) (by omega)]; omega), mb.2.2.2.2.2.1 row _ hr hp, Option.bind_some, e_MD_isSpoilt cx mb hr hp, Option.bind_some]
    simp only [nm_q, nI_1]
    rw [hf j hj, show nI c + 0 = nI c from Int32.add_zero _, Nat.add_assoc]
    unfold spo
    cases he : E row (W * gi + j) with
    | none => rw [if_pos (by decide)]; rfl
    | some d =>
      rw [he] at hsm
      have hb := hsm d rfl
      rw [if_neg (by rw [pI_neg hsm]; exact fun z => by cases z)]
      by_cases ex : pI (some d) = x
      · rw [if_pos ex, if_pos (by simp [ex])]
      · rw [if_neg ex]
        show (if b2i (!isv (K d row)) = 0 then _ else _) = if (!isv (K d row) || decide (pI (some d) = x ∧ some d ≠ none)) = true then _ else _
        rw [show decide (pI (some d) = x ∧ some d ≠ none) = false from decide_eq_false (fun z => ex z.1)]
        cases isv (K d row) <;> rfl
  have key : ∀ m j k c, j + m = W → m < k → D_MD_bad_L20 F n σ (nI (W * gi)) (nI row) x k (nI (W * gi + j)) (nI c) = some (nI (c + cnt f m j)) := by
    intro m
    induction m with
    | zero =>
      intro j k c hj hk
      obtain ⟨k, rfl⟩ : ∃ i, k = i + 1 := ⟨k - 1, by omega⟩
      have : j = W := by omega
      subst this
      rw [D_MD_bad_L20, g.1.2.1, nI_add, if_pos (Int32.le_refl _)]; rfl
    | succ m ih =>
      intro j k c hj hk
      obtain ⟨k, rfl⟩ : ∃ i, k = i + 1 := ⟨k - 1, by omega⟩
      rw [body k j c (by omega), ih (j + 1) k _ (by omega) (by omega), ih (j + 1) k _ (by omega) (by omega), cnt]
      cases f j with
      | true => rw [if_pos rfl, Nat.add_assoc]; rfl
      | false => rw [if_neg (by decide)]; simp
  have k2 := key W 0 F 0 (Nat.zero_add _) (by omega)
  rw [Nat.add_zero] at k2
  rw [D_MD_bad, g.1.2.1, grd_z (by omega) (by omega), pk_div (by omega) (by omega) (by omega), e1, pk_mul, Nat.mul_comm gi W, nm_q, ← nI_0, k2, Option.bind_some, Nat.zero_add]
theorem brk_iff {x : Nat} (hG : 0 < G) : brk W G R K E x = true ↔ ∃ row gi, row < R ∧ gi < G ∧ 1 < cnt (fun j => hrt K E x row (W * gi + j)) W 0 := by
  unfold brk
  cases hs : srch (fun s => decide (1 < cnt (fun j => hrt K E x (s / G) (W * (s % G) + j)) W 0)) (R * G) 0 with
  | none =>
    constructor
    · intro z; cases z
    · rintro ⟨row, gi, hr, hg, h⟩
      have := srch_none hs (row * G + gi) (by omega) (by have := lt2 hr hg; omega)
      obtain ⟨e1, e2⟩ := st_dm (row := row) hg
      rw [e1, e2] at this
      simp at this
      omega
  | some s =>
    obtain ⟨_, h2, h3, _⟩ := srch_some hs
    obtain ⟨a1, a2, _⟩ := st_of (R := R) hG (by omega : s < R * G)
    exact ⟨fun _ => ⟨s / G, s % G, a1, a2, of_decide_eq_true h3⟩, fun _ => rfl⟩
theorem e_MD_isNeeded (cx : Ctx D W R G hd n F) (mb : MB D W R G hd F n live K E σ) {x : Nat} (hx : x < D) : D_MD_isNeeded F n σ (nI x) = some (b2i (brk W G R K E x)) := by
  obtain ⟨ge, ln, hF⟩ := id cx
  have gn := ge.num
  obtain ⟨⟨_, _⟩, ⟨_, _, _⟩, ⟨_, _⟩, ⟨_, _⟩, ⟨_, _⟩, _, _, _, _⟩ := id gn
  have g := mb.1
  have hbad : ∀ row gi, row < R → gi < G → D_MD_bad F n σ (nI row) (nI (W * gi)) (nI x) = some (nI (cnt (fun j => hrt K E x row (W * gi + j)) W 0)) := by
    intro row gi hr hg
    have := e_MD_bad cx mb hr hg (show 0 < W by omega) (nI x) (fun j => hrt K E x row (W * gi + j)) (fun j hj => by
      unfold hrt
      have hp := pos_lt hg hj
      have := pI_eq (mb.small gn hr hp) (show x < 2 ^ 31 by omega)
      congr 1
      refine decide_eq_decide.mpr ?_
      rw [this]
      exact ⟨fun z => ⟨z, by rw [z]; exact fun y => by cases y⟩, fun z => z.1⟩)
    rw [Nat.add_zero] at this
    exact this
  have inner : ∀ row, row < R → ∀ m gi k, gi + m = G → m < k → D_MD_isNeeded_L12 F n σ (nI row) (nI x) k (nI (W * gi)) = some (match srch (fun gi => decide (1 < cnt (fun j => hrt K E x row (W * gi + j)) W 0)) m gi with | none => .inl () | some _ => .inr 1) := by
    intro row hr m
    induction m with
    | zero =>
      intro gi k hg hk
      obtain ⟨k, rfl⟩ : ∃ i, k = i + 1 := ⟨k - 1, by omega⟩
      have : gi = G := by omega
      subst this
      rw [D_MD_isNeeded_L12, g.1.2.1, g.1.2.2.2, pk_mul, if_pos (Int32.le_refl _)]; rfl
    | succ m ih =>
      intro gi k hg hk
      obtain ⟨k, rfl⟩ : ∃ i, k = i + 1 := ⟨k - 1, by omega⟩
      have hle := cnt_le (f := fun j => hrt K E x row (W * gi + j)) (m := W) (a := 0)
      have hp := pos_lt (W := W) (show gi < G by omega) (show 0 < W by omega)
      have ihs := ih (gi + 1) k (by omega) (by omega)
      rw [D_MD_isNeeded_L12, g.1.2.1, g.1.2.2.2, pk_mul, if_neg (by rw [nI_leI (by omega) (by omega)]; omega), hbad row gi hr (by omega), Option.bind_some, nm_q, nI_add, show W * gi + W = W * (gi + 1) by rw [Nat.mul_add, Nat.mul_one], ihs, srch]
      by_cases e : 1 < cnt (fun j => hrt K E x row (W * gi + j)) W 0
      · rw [if_neg (by rw [show (1 : Int32) = nI 1 from rfl, nI_leI (by omega) (by omega)]; omega), if_pos (by simp [e])]
      · rw [if_pos (by rw [show (1 : Int32) = nI 1 from rfl, nI_leI (by omega) (by omega)]; omega), if_neg (by simp [e])]
  have inner0 : ∀ row, row < R → D_MD_isNeeded_L12 F n σ (nI row) (nI x) F (nI 0) = some (match srch (fun gi => decide (1 < cnt (fun j => hrt K E x row (W * gi + j)) W 0)) G 0 with | none => .inl () | some _ => .inr 1) := fun row hr => inner row hr G 0 F (Nat.zero_add _) (by omega)
  have key := lp_srch (L := fun k y => D_MD_isNeeded_L2 F n σ (nI x) k y) (f := fun row => (srch (fun gi => decide (1 < cnt (fun j => hrt K E x row (W * gi + j)) W 0)) G 0).isSome) (v := fun _ => (1 : Int32)) (N := R) (lo := 0)
    (fun k => by show D_MD_isNeeded_L2 F n σ (nI x) (k + 1) (nI R) = _; rw [D_MD_isNeeded_L2, g.1.2.2.1, if_pos (Int32.le_refl _)])
    (fun k row _ hr hf => by
      show D_MD_isNeeded_L2 F n σ (nI x) (k + 1) (nI row) = D_MD_isNeeded_L2 F n σ (nI x) k (nI (row + 1))
      rw [D_MD_isNeeded_L2, g.1.2.2.1, if_neg (by rw [nI_leI (by omega) (by omega)]; omega), ← nI_0, inner0 row hr, Option.bind_some]
      cases hs : srch (fun gi => decide (1 < cnt (fun j => hrt K E x row (W * gi + j)) W 0)) G 0 with
      | none => simp only [nm_q, nI_1]
      | some p => rw [hs] at hf; cases hf)
    (fun k row _ hr hf => by
      show D_MD_isNeeded_L2 F n σ (nI x) (k + 1) (nI row) = _
      rw [D_MD_isNeeded_L2, g.1.2.2.1, if_neg (by rw [nI_leI (by omega) (by omega)]; omega), ← nI_0, inner0 row hr, Option.bind_some]
      cases hs : srch (fun gi => decide (1 < cnt (fun j => hrt K E x row (W * gi + j)) W 0)) G 0 with
      | none => rw [hs] at hf; cases hf
      | some p => rfl)
    R 0 F (Nat.zero_le _) (by omega) (by omega)
  have key : D_MD_isNeeded_L2 F n σ (nI x) F (nI 0) = _ := key
  rw [D_MD_isNeeded, ← nI_0, key, Option.bind_some]
  cases hs : srch (fun row => (srch (fun gi => decide (1 < cnt (fun j => hrt K E x row (W * gi + j)) W 0)) G 0).isSome) R 0 with
  | none =>
    have : brk W G R K E x = false := by
      cases hb : brk W G R K E x with
      | false => rfl
      | true =>
        obtain ⟨row, gi, hr, hg, h⟩ := (brk_iff (by omega)).mp hb
        have h1 := srch_none hs row (by omega) (by omega)
        cases h2 : srch (fun gi => decide (1 < cnt (fun j => hrt K E x row (W * gi + j)) W 0)) G 0 with
        | some _ => rw [h2] at h1; cases h1
        | none =>
          have := srch_none h2 gi (by omega) (by omega)
          simp at this
          omega
    rw [this]; rfl
  | some row =>
    obtain ⟨_, h2, h3, _⟩ := srch_some hs
    have : brk W G R K E x = true := by
      rw [brk_iff (by omega)]
      cases h4 : srch (fun gi => decide (1 < cnt (fun j => hrt K E x row (W * gi + j)) W 0)) G 0 with
      | none => rw [h4] at h3; cases h3
      | some gi =>
        obtain ⟨_, g2, g3, _⟩ := srch_some h4
        exact ⟨row, gi, by omega, by omega, of_decide_eq_true g3⟩
    rw [this]; rfl
end MQ
