theorem s32l : ∀ m, m < 32 → ((nI m &&& 31).toBitVec.smod 32).toNat = m := by decide +kernel
theorem gt_shl {m : Nat} (hm : m < 32) (x : Int32) {i : Nat} (hi : i < 32) : gt (x <<< (nI m &&& 31)) i = (decide (m ≤ i) && gt x (i - m)) := by
  unfold gt
  rw [Int32.toBitVec_shiftLeft]
  show (x.toBitVec <<< ((nI m &&& 31).toBitVec.smod 32).toNat).getLsbD i = _
  rw [s32l m hm, BitVec.getLsbD_shiftLeft]
  rcases Nat.lt_or_ge i m with h | h
  · simp [h, Nat.not_le.mpr h]
  · simp [hi, h, Nat.not_lt.mpr h]
def x127 (dm : Nat → Int64) : Nat → Nat → Int32 → Int32
  | 0, _, v => v
  | m + 1, i, v => x127 dm m (i + 1) (v ^^^ (byR dm (66 + i) <<< (nI (8 * i) &&& 31)))
theorem gt_x127 {dm : Nat → Int64} {q : Nat} (hq : q < 32) : ∀ m i v, i + m ≤ 4 → gt (x127 dm m i v) q = (gt v q ^^ (decide (8 * i ≤ q ∧ q < 8 * (i + m)) && gb (dm 8) (16 + q))) := by
  intro m
  induction m with
  | zero => intro i v _; rw [x127, decide_eq_false (by omega)]; simp
  | succ m ih =>
    intro i v hi
    rw [x127, ih (i + 1) _ (by omega), gt_xor, gt_shl (by omega) _ hq]
    unfold byR
    rw [show (66 + i) / 8 = 8 by omega, show (66 + i) % 8 = 2 + i by omega]
    by_cases h1 : 8 * i ≤ q
    · rw [gt_by (by omega) _ (by omega)]
      by_cases h2 : q - 8 * i < 8
      · rw [decide_eq_true h1, decide_eq_true h2, show 8 * (2 + i) + (q - 8 * i) = 16 + q by omega, decide_eq_false (show ¬ (8 * (i + 1) ≤ q ∧ q < 8 * (i + 1 + m)) by omega), decide_eq_true (show 8 * i ≤ q ∧ q < 8 * (i + (m + 1)) by omega)]
        simp
      · rw [decide_eq_false h2]
        by_cases h3 : q < 8 * (i + 1 + m)
        · rw [decide_eq_true (show 8 * (i + 1) ≤ q ∧ q < 8 * (i + 1 + m) by omega), decide_eq_true (show 8 * i ≤ q ∧ q < 8 * (i + (m + 1)) by omega)]
          simp
        · rw [decide_eq_false (show ¬ (8 * (i + 1) ≤ q ∧ q < 8 * (i + 1 + m)) by omega), decide_eq_false (show ¬ (8 * i ≤ q ∧ q < 8 * (i + (m + 1))) by omega)]
          simp
    · rw [decide_eq_false h1, decide_eq_false (show ¬ (8 * (i + 1) ≤ q ∧ q < 8 * (i + 1 + m)) by omega), decide_eq_false (show ¬ (8 * i ≤ q ∧ q < 8 * (i + (m + 1))) by omega)]
      simp
section MSP
variable {D W R G : Nat} {hd : Nat → Nat → Nat} {F : Nat} {n : Nat → Nat} {σ : HS}
theorem e_MD_turn (hn : n 25 = 72800) (hF : 100 ≤ F) {c at_ m : Nat} {dm : Nat → Int64} (hc : c < 1040) (hm : m ≤ 8) (hat : at_ + m ≤ 70) (mask : Int64) (hb : ∀ k, k < 70 → σ.1 25 (70 * c + k) = sx (byR dm k)) : ∃ τ, D_MD_turn F n σ (nI (70 * c + at_)) (nI m) mask = some τ ∧ (∀ a, a ≠ 25 → τ.1 a = σ.1 a) ∧ τ.2 = σ.2 ∧ (∀ j, j < 70 * c ∨ 70 * c + 70 ≤ j → τ.1 25 j = σ.1 25 j) ∧ ∀ k, k < 70 → τ.1 25 (70 * c + k) = sx (byR (dmx dm at_ m mask) k) := by
  obtain ⟨τ, e1, q1, q2, q3⟩ := lp (L := D_MD_turn_L3 F n (nI (70 * c + at_)) (nI m) mask) (N := m) (I := fun i τ => (∀ a, a ≠ 25 → τ.1 a = σ.1 a) ∧ τ.2 = σ.2 ∧ ∀ j, τ.1 25 j = if 70 * c + at_ ≤ j ∧ j < 70 * c + at_ + i then sx (σ.1 25 j ^^^ by_ mask (j - (70 * c + at_))) else σ.1 25 j)
    (Q := fun τ => (∀ a, a ≠ 25 → τ.1 a = σ.1 a) ∧ τ.2 = σ.2 ∧ ∀ j, τ.1 25 j = if 70 * c + at_ ≤ j ∧ j < 70 * c + at_ + m then sx (σ.1 25 j ^^^ by_ mask (j - (70 * c + at_))) else σ.1 25 j)
    (fun k τ i hi ⟨q1, q2, q3⟩ => by
      refine Or.inl ⟨stI τ 25 (70 * c + at_ + i) (sx (σ.1 25 (70 * c + at_ + i) ^^^ by_ mask i)), ⟨fun a z => by rw [stI_1 a z]; exact q1 a z, q2, fun j => ?_⟩, ?_⟩
      · rw [stI_s, upd_a, q3]
        by_cases e : j = 70 * c + at_ + i
        · rw [if_pos e, if_pos (by omega), e, show 70 * c + at_ + i - (70 * c + at_) = i by omega]
        · rw [if_neg e]
          by_cases e2 : 70 * c + at_ ≤ j ∧ j < 70 * c + at_ + i
          · rw [if_pos e2, if_pos (by omega)]
          · rw [if_neg e2, if_neg (by omega)]
      · rw [D_MD_turn_L3, if_neg (by rw [nI_leI (by omega) (by omega)]; omega), nI_add, grd_in (by omega) (by omega), grd_in (by omega) (by omega), nI_clamp (by omega), q3, if_neg (by omega), show (8 : Int32) = nI 8 from rfl, pk_mul, by_s (by omega), nar_sx, nm_q, nm_q, nI_1])
    (fun k τ h => ⟨τ, by rw [D_MD_turn_L3, if_pos (Int32.le_refl _)], h⟩)
    m 0 F σ (Nat.zero_add _) (by omega) ⟨fun _ _ => rfl, rfl, fun j => by rw [if_neg (by omega)]⟩
  refine ⟨τ, by rw [D_MD_turn, ← nI_0, e1]; rfl, q1, q2, fun j hj => by rw [q3, if_neg (by omega)], fun k hk => ?_⟩
  have hx : byR (dmx dm at_ m mask) k = byR dm k ^^^ (if at_ ≤ k ∧ k < at_ + m then by_ mask (k - at_) else 0) := by
    rw [← byR_msk hm]
    exact byR_xor dm (msk at_ mask m) k
  rw [q3, hx, hb k hk]
  by_cases e : at_ ≤ k ∧ k < at_ + m
  · rw [if_pos (by omega), if_pos e, sx_xor, show 70 * c + k - (70 * c + at_) = k - at_ by omega]
  · rw [if_neg (by omega), if_neg e, Int32.xor_zero]
theorem e_MD_isUnseen (hn : n 25 = 72800) (hF : 100 ≤ F) {c : Nat} {dm : Nat → Int64} (hc : c < 1040) (ht : ∀ i, 48 ≤ i → i < 64 → gb (dm 8) i = false) (hb : ∀ k, k < 70 → σ.1 25 (70 * c + k) = sx (byR dm k)) : D_MD_isUnseen F n σ (nI c) = some (b2i (!z9 dm && cok dm)) := by
  have k10 : ∀ m x k b, x + m = 70 * c + 70 → 70 * c ≤ x → m < k → D_MD_isUnseen_L10 F n σ (nI c) k (nI x) (b2i b) = some (b2i (b || decide (¬ cnt (fun y => decide (¬ σ.1 25 y = 0)) m x = 0))) := by
    intro m
    induction m with
    | zero =>
      intro x k b hx _ hk
      obtain ⟨k, rfl⟩ : ∃ j, k = j + 1 := ⟨k - 1, by omega⟩
      rw [D_MD_isUnseen_L10, show (70 : Int32) = nI 70 from rfl, pk_mul, nI_add, if_pos (by rw [nI_leI (by omega) (by omega)]; omega)]
      simp [cnt]
    | succ m ih =>
      intro x k b hx hlo hk
      obtain ⟨k, rfl⟩ : ∃ j, k = j + 1 := ⟨k - 1, by omega⟩
      rw [D_MD_isUnseen_L10, show (70 : Int32) = nI 70 from rfl, pk_mul, nI_add, if_neg (by rw [nI_leI (by omega) (by omega)]; omega)]
      simp only [nm_q, nI_1]
      have i0 : D_MD_isUnseen_L10 F n σ (nI c) k (nI (x + 1)) 0 = _ := ih (x + 1) k false (by omega) (by omega) (by omega)
      have i1 : D_MD_isUnseen_L10 F n σ (nI c) k (nI (x + 1)) 1 = _ := ih (x + 1) k true (by omega) (by omega) (by omega)
      rw [i0, i1, grd_in (by omega) (by omega), nI_clamp (by omega), cnt]
      cases b with
      | true => rfl
      | false =>
        rw [if_pos (by rfl)]
        by_cases e : σ.1 25 x = 0
        · rw [if_pos e]
          simp [e]
        · rw [if_neg e]
          simp [e]
  have k54 : ∀ m i k v, i + m = 66 → m < k → D_MD_isUnseen_L54 F n σ (nI c) k (nI (70 * c + i)) v = some (crcB (byR dm) m i v) := by
    intro m
    induction m with
    | zero =>
      intro i k v hi hk
      obtain ⟨k, rfl⟩ : ∃ j, k = j + 1 := ⟨k - 1, by omega⟩
      rw [D_MD_isUnseen_L54, show (70 : Int32) = nI 70 from rfl, show (4 : Int32) = nI 4 from rfl, pk_mul, nI_add, pk_sub (by omega), if_pos (by rw [nI_leI (by omega) (by omega)]; omega)]; rfl
    | succ m ih =>
      intro i k v hi hk
      obtain ⟨k, rfl⟩ : ∃ j, k = j + 1 := ⟨k - 1, by omega⟩
      rw [D_MD_isUnseen_L54, show (70 : Int32) = nI 70 from rfl, show (4 : Int32) = nI 4 from rfl, pk_mul, nI_add, pk_sub (by omega), if_neg (by rw [nI_leI (by omega) (by omega)]; omega), grd_in (by omega) (by omega), nI_clamp (by omega), hb i (by omega), sx_and]
      simp only [nm_q, nI_1]
      rw [show byR dm i &&& 255 = byR dm i from by_and (by omega) _, ← nI_0, e_bitsM 8 0 F _ rfl (by omega), Option.bind_some, show 70 * c + i + 1 = 70 * c + (i + 1) from rfl, ih (i + 1) k _ (by omega) (by omega), crcB]
  have k127 : ∀ m i k v, i + m = 4 → m < k → D_MD_isUnseen_L127 F n σ (nI c) k (nI i) v = some (x127 dm m i v) := by
    intro m
    induction m with
    | zero =>
      intro i k v hi hk
      obtain ⟨k, rfl⟩ : ∃ j, k = j + 1 := ⟨k - 1, by omega⟩
      have : i = 4 := by omega
      subst this
      rw [D_MD_isUnseen_L127, if_pos (by decide)]; rfl
    | succ m ih =>
      intro i k v hi hk
      obtain ⟨k, rfl⟩ : ∃ j, k = j + 1 := ⟨k - 1, by omega⟩
      rw [D_MD_isUnseen_L127, if_neg (by rw [show (4 : Int32) = nI 4 from rfl, nI_leI (by omega) (by omega)]; omega), show (70 : Int32) = nI 70 from rfl, show (4 : Int32) = nI 4 from rfl, show (8 : Int32) = nI 8 from rfl, pk_mul, pk_mul, nI_add, pk_sub (by omega), nI_add, grd_in (by omega) (by omega), nI_clamp (by omega), show 70 * c + 70 - 4 + i = 70 * c + (66 + i) by omega, hb (66 + i) (by omega), sx_and]
      simp only [nm_q, nI_1]
      rw [show byR dm (66 + i) &&& 255 = byR dm (66 + i) from by_and (by omega) _, ih (i + 1) k _ (by omega) (by omega), x127]
  have z0 : decide (¬ cnt (fun y => decide (¬ σ.1 25 y = 0)) 70 (70 * c) = 0) = !z9 dm := by
    refine Bool.eq_iff_iff.mpr ?_
    rw [decide_eq_true_iff, Bool.not_eq_true', ← Bool.not_eq_true, ← zb9 ht]
    refine not_congr ?_
    constructor
    · intro h0 k hk1
      have hz : ∀ m x, cnt (fun y => decide (¬ σ.1 25 y = 0)) m x = 0 → ∀ j, x ≤ j → j < x + m → σ.1 25 j = 0 := by
        intro m
        induction m with
        | zero => intro x _ j h1 h2; omega
        | succ m ih =>
          intro x h j h1 h2
          rw [cnt] at h
          by_cases e : σ.1 25 x = 0
          · by_cases e2 : j = x
            · rw [e2]; exact e
            · exact ih (x + 1) (by omega) j (by omega) (by omega)
          · simp [e] at h
      have := hz 70 _ h0 (70 * c + k) (by omega) (by omega)
      rw [hb k hk1] at this
      exact (sx_by0 (by omega) _).mp this
    · intro h0
      refine cnt_false (fun j h1 h2 => ?_)
      obtain ⟨k, rfl⟩ : ∃ k, j = 70 * c + k := ⟨j - 70 * c, by omega⟩
      rw [hb k (by omega), h0 k (by omega)]
      rfl
  have zc : (x127 dm 4 0 (crcB (byR dm) 66 0 0) = 0) ↔ cok dm = true := by
    rw [cok_iff]
    constructor
    · intro h i hi
      have := gt_x127 (dm := dm) hi 4 0 (crcB (byR dm) 66 0 0) (by omega)
      rw [h, gt_0, decide_eq_true (show 8 * 0 ≤ i ∧ i < 8 * (0 + 4) by omega)] at this
      revert this
      cases gt (crcB (byR dm) 66 0 0) i <;> cases gb (dm 8) (16 + i) <;> simp
    · intro h
      apply gt_ext
      intro i hi
      rw [gt_x127 hi 4 0 _ (by omega), decide_eq_true (show 8 * 0 ≤ i ∧ i < 8 * (0 + 4) by omega), ← h i hi, gt_0]
      cases gb (dm 8) (16 + i) <;> rfl
  have r10 : D_MD_isUnseen_L10 F n σ (nI c) F (nI (70 * c)) 0 = some (b2i (false || decide (¬ cnt (fun y => decide (¬ σ.1 25 y = 0)) 70 (70 * c) = 0))) := k10 70 (70 * c) F false (by omega) (Nat.le_refl _) (by omega)
  have r54 : D_MD_isUnseen_L54 F n σ (nI c) F (nI (70 * c)) 0 = some (crcB (byR dm) 66 0 0) := k54 66 0 F 0 rfl (by omega)
  have r127 : D_MD_isUnseen_L127 F n σ (nI c) F 0 (crcB (byR dm) 66 0 0) = some (x127 dm 4 0 (crcB (byR dm) 66 0 0)) := k127 4 0 F (crcB (byR dm) 66 0 0) rfl (by omega)
  rw [D_MD_isUnseen, show (70 : Int32) = nI 70 from rfl, pk_mul]
  simp only [nm_q]
  rw [r10, Option.bind_some, r54, Option.bind_some, r127, Option.bind_some, z0, Bool.false_or]
  cases hz : z9 dm with
  | true => rfl
  | false =>
    rw [if_neg (show ¬ b2i (!false) = 0 by decide)]
    cases hk : cok dm with
    | true => rw [if_pos (zc.mpr hk)]; rfl
    | false => rw [if_neg (fun z => by rw [zc.mp z] at hk; cases hk)]; rfl
end MSP
