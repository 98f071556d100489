def bit1 (v : Int32) : Int32 := if v &&& 1 = 0 then (v.toUInt32 >>> ((1 : Int32).toUInt32 &&& Int32.toUInt32 31)).toInt32 else (v.toUInt32 >>> ((1 : Int32).toUInt32 &&& Int32.toUInt32 31)).toInt32 ^^^ (-2097792136 : Int32)
theorem gt_ushr1 (x : Int32) (i : Nat) : gt ((x.toUInt32 >>> ((1 : Int32).toUInt32 &&& Int32.toUInt32 31)).toInt32) i = gt x (1 + i) := by
  show (x.toUInt32 >>> ((1 : Int32).toUInt32 &&& Int32.toUInt32 31)).toBitVec.getLsbD i = x.toUInt32.toBitVec.getLsbD (1 + i)
  rw [UInt32.toBitVec_shiftRight]
  show (x.toUInt32.toBitVec >>> (((1 : Int32).toUInt32 &&& Int32.toUInt32 31).toBitVec % 32).toNat).getLsbD i = _
  rw [show (((1 : Int32).toUInt32 &&& Int32.toUInt32 31).toBitVec % 32).toNat = 1 from by decide +kernel, BitVec.getLsbD_ushiftRight]
theorem gt_1 (i : Nat) : gt 1 i = decide (i = 0) := by
  rcases Nat.lt_or_ge i 32 with h | h
  · exact (by decide +kernel : ∀ i, i < 32 → gt 1 i = decide (i = 0)) i h
  · rw [gt_big h, decide_eq_false (by omega)]
theorem and1_0 (v : Int32) : v &&& 1 = 0 ↔ gt v 0 = false := by
  constructor
  · intro h
    have h1 : gt (v &&& 1) 0 = gt 0 0 := by rw [h]
    rw [gt_and, gt_1, gt_0] at h1
    simpa using h1
  · intro h
    apply gt_ext
    intro i hi
    rw [gt_and, gt_1, gt_0]
    by_cases e : i = 0
    · subst e; simp [h]
    · simp [e]
theorem and1_1 (v : Int32) : v &&& 1 = 1 ↔ ¬ v &&& 1 = 0 := by
  rw [and1_0]
  constructor
  · intro h h2
    have h1 : gt (v &&& 1) 0 = gt 1 0 := by rw [h]
    rw [gt_and, h2] at h1
    exact absurd h1 (by decide)
  · intro h
    apply gt_ext
    intro i hi
    rw [gt_and, gt_1]
    by_cases e : i = 0
    · subst e; simpa using h
    · simp [e]
theorem gt_bit1 (v : Int32) (i : Nat) : gt (bit1 v) i = (gt v (1 + i) ^^ (gt v 0 && gt (-2097792136) i)) := by
  unfold bit1
  cases h : gt v 0 with
  | false => rw [if_pos ((and1_0 v).mpr h), gt_ushr1]; simp
  | true => rw [if_neg (fun e => by rw [(and1_0 v).mp e] at h; cases h), gt_xor, gt_ushr1]; simp
theorem bit1_xor (x y : Int32) : bit1 (x ^^^ y) = bit1 x ^^^ bit1 y := by
  apply gt_ext
  intro i _
  rw [gt_xor, gt_bit1, gt_bit1, gt_bit1, gt_xor, gt_xor]
  cases gt x (1 + i) <;> cases gt y (1 + i) <;> cases gt x 0 <;> cases gt y 0 <;> cases gt (-2097792136) i <;> rfl
def bitN : Nat → Int32 → Int32
  | 0, v => v
  | m + 1, v => bitN m (bit1 v)
theorem bitN_xor : ∀ m x y, bitN m (x ^^^ y) = bitN m x ^^^ bitN m y := by
  intro m
  induction m with
  | zero => intro x y; rfl
  | succ m ih => intro x y; rw [bitN, bitN, bitN, bit1_xor, ih]
/-- the check over m bytes from place i on -/
def crcB (b : Nat → Int32) : Nat → Nat → Int32 → Int32
  | 0, _, v => v
  | m + 1, i, v => crcB b m (i + 1) (bitN 8 (v ^^^ b i))
theorem crcB_congr {b c : Nat → Int32} : ∀ {m i : Nat} {v : Int32}, (∀ j, i ≤ j → j < i + m → b j = c j) → crcB b m i v = crcB c m i v := by
  intro m
  induction m with
  | zero => intro i v _; rfl
  | succ m ih => intro i v h; rw [crcB, crcB, h i (Nat.le_refl _) (by omega), ih (fun j h1 h2 => h j (by omega) (by omega))]
theorem x4 (a b c d : Int32) : (a ^^^ b) ^^^ (c ^^^ d) = (a ^^^ c) ^^^ (b ^^^ d) := by
  apply gt_ext; intro i _; simp only [gt_xor]
  cases gt a i <;> cases gt b i <;> cases gt c i <;> cases gt d i <;> rfl
theorem crcB_xor {b c : Nat → Int32} : ∀ (m i : Nat) (v w : Int32), crcB (fun j => b j ^^^ c j) m i (v ^^^ w) = crcB b m i v ^^^ crcB c m i w := by
  intro m
  induction m with
  | zero => intro i v w; rfl
  | succ m ih => intro i v w; rw [crcB, crcB, crcB, x4, bitN_xor, ih]
/-- byte k of a row of longs -/
def byR (w : Nat → Int64) (k : Nat) : Int32 := by_ (w (k / 8)) (k % 8)
def crcW (w : Nat → Int64) : Int32 := crcB (byR w) 66 0 (-1) ^^^ (-1)
theorem nI_shr3 {k : Nat} (h : k < 2 ^ 31) : ((nI k).toUInt32 >>> ((nI 3).toUInt32 &&& Int32.toUInt32 31)).toInt32 = nI (k / 8) := pk_ushrN (by omega) (nI 3) 3 (by decide +kernel)
theorem nI_and7 {k : Nat} (h : k < 2 ^ 31) : nI k &&& nI 7 = nI (k % 8) := pk_andN (by omega) 3 (by decide +kernel)
section CK
variable {F : Nat} {n : Nat → Nat} {σ : HS}
theorem e_bits : ∀ m i k v, i + m = 8 → m < k → D_RK_checkOf_L42 F n k (nI i) v = some (bitN m v) := by
  intro m
  induction m with
  | zero =>
    intro i k v hi hk
    obtain ⟨k, rfl⟩ : ∃ j, k = j + 1 := ⟨k - 1, by omega⟩
    have : i = 8 := by omega
    subst this
    rw [D_RK_checkOf_L42, if_pos (by decide)]; rfl
  | succ m ih =>
    intro i k v hi hk
    obtain ⟨k, rfl⟩ : ∃ j, k = j + 1 := ⟨k - 1, by omega⟩
    rw [D_RK_checkOf_L42, if_neg (by rw [show (8 : Int32) = nI 8 from rfl, nI_leI (by omega) (by omega)]; omega), bitN]
    simp only [nm_q, nI_1]
    by_cases h : v &&& 1 = 0
    · rw [if_pos h, ih (i + 1) k _ (by omega) (by omega), bit1, if_pos h]
    · rw [if_neg h, ih (i + 1) k _ (by omega) (by omega), bit1, if_neg h]
theorem e_bitsM : ∀ m i k v, i + m = 8 → m < k → D_MD_isUnseen_L85 F n k (nI i) v = some (bitN m v) := by
  intro m
  induction m with
  | zero =>
    intro i k v hi hk
    obtain ⟨k, rfl⟩ : ∃ j, k = j + 1 := ⟨k - 1, by omega⟩
    have : i = 8 := by omega
    subst this
    rw [D_MD_isUnseen_L85, if_pos (by decide)]; rfl
  | succ m ih =>
    intro i k v hi hk
    obtain ⟨k, rfl⟩ : ∃ j, k = j + 1 := ⟨k - 1, by omega⟩
    rw [D_MD_isUnseen_L85, if_neg (by rw [show (8 : Int32) = nI 8 from rfl, nI_leI (by omega) (by omega)]; omega), bitN]
    simp only [nm_q, nI_1]
    by_cases h : v &&& 1 = 0
    · rw [if_neg (fun e => (and1_1 v).mp e h), ih (i + 1) k _ (by omega) (by omega), bit1, if_pos h]
    · rw [if_pos ((and1_1 v).mpr h), ih (i + 1) k _ (by omega) (by omega), bit1, if_neg h]
theorem e_RK_checkOf (c : Nat) (hF : 100 ≤ F) (hc : c * 9 + 9 ≤ n 11) (hn : c < 100000) : D_RK_checkOf F n σ (nI c) = some (crcW (fun i => σ.2 11 (c * 9 + i))) := by
  have key : ∀ m i k v, i + m = 66 → m < k → D_RK_checkOf_L4 F n σ (nI c) k (nI i) v = some (crcB (byR (fun i => σ.2 11 (c * 9 + i))) m i v) := by
    intro m
    induction m with
    | zero =>
      intro i k v hi hk
      obtain ⟨k, rfl⟩ : ∃ j, k = j + 1 := ⟨k - 1, by omega⟩
      have : i = 66 := by omega
      subst this
      rw [D_RK_checkOf_L4, if_pos (by decide)]; rfl
    | succ m ih =>
      intro i k v hi hk
      obtain ⟨k, rfl⟩ : ∃ j, k = j + 1 := ⟨k - 1, by omega⟩
      rw [D_RK_checkOf_L4, if_neg (by rw [show (66 : Int32) = nI 66 from rfl, nI_leI (by omega) (by omega)]; omega), crcB]
      have e1 : nI c * (9 : Int32) + ((nI i).toUInt32 >>> (((3 : Int32)).toUInt32 &&& Int32.toUInt32 31)).toInt32 = nI (c * 9 + i / 8) := by
        rw [show (3 : Int32) = nI 3 from rfl, nI_shr3 (by omega), show (9 : Int32) = nI 9 from rfl, pk_mul, nI_add]
      have e2 : (8 : Int32) * (nI i &&& (7 : Int32)) = nI (8 * (i % 8)) := by
        rw [show (7 : Int32) = nI 7 from rfl, nI_and7 (by omega), show (8 : Int32) = nI 8 from rfl, pk_mul]
      rw [e1, grd_in (by omega) (by omega), nI_clamp (by omega), e2]
      simp only [nm_q, nI_1]
      rw [← nI_0, e_bits 8 0 F _ rfl (by omega), Option.bind_some, ih (i + 1) k _ (by omega) (by omega)]
      rfl
  rw [D_RK_checkOf, show (0 : Int32) = nI 0 from rfl, key 66 0 F _ rfl (by omega), Option.bind_some]
  rfl
end CK
