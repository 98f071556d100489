def gb (x : Int64) (i : Nat) : Bool := x.toBitVec.getLsbD i
def gt (x : Int32) (i : Nat) : Bool := x.toBitVec.getLsbD i
theorem gb_ext {x y : Int64} (h : ∀ i, i < 64 → gb x i = gb y i) : x = y := Int64.toBitVec_inj.mp (BitVec.eq_of_getLsbD_eq (fun i hi => h i hi))
theorem gt_ext {x y : Int32} (h : ∀ i, i < 32 → gt x i = gt y i) : x = y := Int32.toBitVec_inj.mp (BitVec.eq_of_getLsbD_eq (fun i hi => h i hi))
theorem gb_big {x : Int64} {i : Nat} (h : 64 ≤ i) : gb x i = false := BitVec.getLsbD_of_ge _ _ h
theorem gt_big {x : Int32} {i : Nat} (h : 32 ≤ i) : gt x i = false := BitVec.getLsbD_of_ge _ _ h
theorem gb_xor (x y : Int64) (i : Nat) : gb (x ^^^ y) i = (gb x i ^^ gb y i) := by unfold gb; rw [Int64.toBitVec_xor, BitVec.getLsbD_xor]
theorem gb_and (x y : Int64) (i : Nat) : gb (x &&& y) i = (gb x i && gb y i) := by unfold gb; rw [Int64.toBitVec_and, BitVec.getLsbD_and]
theorem gb_or (x y : Int64) (i : Nat) : gb (x ||| y) i = (gb x i || gb y i) := by unfold gb; rw [Int64.toBitVec_or, BitVec.getLsbD_or]
theorem gt_xor (x y : Int32) (i : Nat) : gt (x ^^^ y) i = (gt x i ^^ gt y i) := by unfold gt; rw [Int32.toBitVec_xor, BitVec.getLsbD_xor]
theorem gt_and (x y : Int32) (i : Nat) : gt (x &&& y) i = (gt x i && gt y i) := by unfold gt; rw [Int32.toBitVec_and, BitVec.getLsbD_and]
theorem gb_0 (i : Nat) : gb 0 i = false := BitVec.getLsbD_zero
theorem gt_0 (i : Nat) : gt 0 i = false := BitVec.getLsbD_zero
theorem gb_255 (i : Nat) : gb 255 i = decide (i < 8) := by
  rcases Nat.lt_or_ge i 64 with h | h
  · exact (by decide +kernel : ∀ i, i < 64 → gb 255 i = decide (i < 8)) i h
  · rw [gb_big h, decide_eq_false (by omega)]
theorem gt_255 (i : Nat) : gt 255 i = decide (i < 8) := by
  rcases Nat.lt_or_ge i 32 with h | h
  · exact (by decide +kernel : ∀ i, i < 32 → gt 255 i = decide (i < 8)) i h
  · rw [gt_big h, decide_eq_false (by omega)]
theorem gb_m32 (i : Nat) : gb 4294967295 i = decide (i < 32) := by
  rcases Nat.lt_or_ge i 64 with h | h
  · exact (by decide +kernel : ∀ i, i < 64 → gb 4294967295 i = decide (i < 32)) i h
  · rw [gb_big h, decide_eq_false (by omega)]
theorem gb_m16 (i : Nat) : gb 65535 i = decide (i < 16) := by
  rcases Nat.lt_or_ge i 64 with h | h
  · exact (by decide +kernel : ∀ i, i < 64 → gb 65535 i = decide (i < 16)) i h
  · rw [gb_big h, decide_eq_false (by omega)]
/-- shifts of longs by m places, in the forms of the program -/
theorem s64u : ∀ m, m < 64 → (((nI m).toInt64.toUInt64 &&& Int64.toUInt64 63).toBitVec % 64).toNat = m := by decide +kernel
theorem s64l : ∀ m, m < 64 → (((nI m).toInt64 &&& 63).toBitVec.smod 64).toNat = m := by decide +kernel
theorem gb_ushr {m : Nat} (hm : m < 64) (x : Int64) (i : Nat) : gb ((x.toUInt64 >>> ((nI m).toInt64.toUInt64 &&& Int64.toUInt64 63)).toInt64) i = gb x (m + i) := by
  show (x.toUInt64 >>> ((nI m).toInt64.toUInt64 &&& Int64.toUInt64 63)).toBitVec.getLsbD i = x.toUInt64.toBitVec.getLsbD (m + i)
  rw [UInt64.toBitVec_shiftRight]
  show (x.toUInt64.toBitVec >>> (((nI m).toInt64.toUInt64 &&& Int64.toUInt64 63).toBitVec % 64).toNat).getLsbD i = _
  rw [s64u m hm, BitVec.getLsbD_ushiftRight]
theorem gb_shl {m : Nat} (hm : m < 64) (x : Int64) {i : Nat} (hi : i < 64) : gb (x <<< ((nI m).toInt64 &&& 63)) i = (decide (m ≤ i) && gb x (i - m)) := by
  unfold gb
  rw [Int64.toBitVec_shiftLeft]
  show (x.toBitVec <<< (((nI m).toInt64 &&& 63).toBitVec.smod 64).toNat).getLsbD i = _
  rw [s64l m hm, BitVec.getLsbD_shiftLeft]
  rcases Nat.lt_or_ge i m with h | h
  · simp [h, Nat.not_le.mpr h]
  · simp [hi, h, Nat.not_lt.mpr h]
theorem gb_sshr {m : Nat} (hm : m < 64) (x : Int64) {i : Nat} (hi : m + i < 64) : gb (x >>> ((nI m).toInt64 &&& 63)) i = gb x (m + i) := by
  unfold gb
  rw [Int64.toBitVec_shiftRight]
  show (x.toBitVec.sshiftRight (((nI m).toInt64 &&& 63).toBitVec.smod 64).toNat).getLsbD i = _
  rw [s64l m hm, BitVec.getLsbD_sshiftRight]
  simp [show i < 64 by omega, hi]
theorem gt_of64 (x : Int64) {i : Nat} (hi : i < 32) : gt x.toInt32 i = gb x i := by
  unfold gt gb
  rw [Int64.toBitVec_toInt32, BitVec.getLsbD_signExtend]
  simp [hi, show i < 64 by omega]
theorem gb_of32 (x : Int32) {i : Nat} (hi : i < 64) : gb x.toInt64 i = if i < 32 then gt x i else gt x 31 := by
  unfold gt gb
  rw [Int32.toBitVec_toInt64, BitVec.getLsbD_signExtend, BitVec.msb_eq_getLsbD_last]
  simp [hi]
/-- byte k of a long, as the program reckons it -/
def by_ (x : Int64) (k : Nat) : Int32 := ((x.toUInt64 >>> ((nI (8 * k)).toInt64.toUInt64 &&& Int64.toUInt64 63)).toInt64).toInt32 &&& 255
theorem gt_by {k : Nat} (hk : k < 8) (x : Int64) {i : Nat} (hi : i < 32) : gt (by_ x k) i = (decide (i < 8) && gb x (8 * k + i)) := by
  unfold by_
  rw [gt_and, gt_of64 _ hi, gb_ushr (by omega), gt_255, Bool.and_comm]
theorem by_s {k : Nat} (hk : k < 8) (x : Int64) : ((x >>> ((nI (8 * k)).toInt64 &&& 63)) &&& 255).toInt32 = by_ x k := by
  apply gt_ext
  intro i hi
  rw [gt_of64 _ hi, gb_and, gb_255, gt_by hk x hi]
  by_cases h : i < 8
  · rw [gb_sshr (by omega) x (by omega), Bool.and_comm]
  · simp [h]
theorem by_and {k : Nat} (hk : k < 8) (x : Int64) : by_ x k &&& 255 = by_ x k := by
  apply gt_ext
  intro i hi
  rw [gt_and, gt_255, gt_by hk x hi]
  cases decide (i < 8) <;> simp
theorem by_xor {k : Nat} (hk : k < 8) (x y : Int64) : by_ (x ^^^ y) k = by_ x k ^^^ by_ y k := by
  apply gt_ext
  intro i hi
  rw [gt_xor, gt_by hk _ hi, gt_by hk _ hi, gt_by hk _ hi, gb_xor]
  cases decide (i < 8) <;> simp
theorem by_0 {k : Nat} (hk : k < 8) : by_ 0 k = 0 := by
  apply gt_ext
  intro i hi
  rw [gt_by hk _ hi, gb_0, gt_0, Bool.and_false]
theorem by_ext {x y : Int64} (h : ∀ k, k < 8 → by_ x k = by_ y k) : x = y := by
  apply gb_ext
  intro i hi
  have h1 := congrArg (fun z => gt z (i % 8)) (h (i / 8) (by omega))
  have h1 : gt (by_ x (i / 8)) (i % 8) = gt (by_ y (i / 8)) (i % 8) := h1
  rw [gt_by (by omega) _ (by omega), gt_by (by omega) _ (by omega), show 8 * (i / 8) + i % 8 = i by omega] at h1
  simpa [show i % 8 < 8 by omega] using h1
theorem gb_by {k : Nat} (hk : k < 8) (x : Int64) {i : Nat} (hi : i < 64) : gb (by_ x k).toInt64 i = (decide (i < 8) && gb x (8 * k + i)) := by
  rw [gb_of32 _ hi]
  by_cases h : i < 32
  · rw [if_pos h, gt_by hk x h]
  · rw [if_neg h, gt_by hk x (by omega)]
    simp [show ¬ i < 8 by omega]
/-- byte k of v, laid to byte m -/
def one (v : Int64) (k m : Nat) : Int64 := ((v.toUInt64 >>> ((nI (8 * k)).toInt64.toUInt64 &&& Int64.toUInt64 63)).toInt64 &&& 255) <<< ((nI (8 * m)).toInt64 &&& 63)
theorem gb_one {v : Int64} {k m : Nat} (hk : k < 8) (hm : m < 8) {i : Nat} (hi : i < 64) : gb (one v k m) i = (decide (i / 8 = m) && gb v (8 * k + i % 8)) := by
  unfold one
  rw [gb_shl (by omega) _ hi, gb_and, gb_ushr (by omega), gb_255]
  by_cases h : i / 8 = m
  · subst h
    rw [show i - 8 * (i / 8) = i % 8 by omega]
    simp [show 8 * (i / 8) ≤ i by omega, show i % 8 < 8 by omega]
  · by_cases h2 : 8 * m ≤ i
    · simp [h, show ¬ i - 8 * m < 8 by omega]
    · simp [h, h2]
theorem by_one {v : Int64} {k m m1 : Nat} (hk : k < 8) (hm : m < 8) (hm1 : m1 < 8) : by_ (one v k m) m1 = if m1 = m then by_ v k else 0 := by
  apply gt_ext
  intro i hi
  rw [gt_by hm1 _ hi]
  by_cases h8 : i < 8
  · rw [gb_one hk hm (by omega), show (8 * m1 + i) / 8 = m1 by omega, show (8 * m1 + i) % 8 = i by omega]
    by_cases h : m1 = m
    · rw [if_pos h, gt_by hk _ hi]; simp [h, h8]
    · rw [if_neg h, gt_0]; simp [h]
  · simp only [h8, decide_false, Bool.false_and]
    by_cases h : m1 = m
    · rw [if_pos h, gt_by hk _ hi]; simp [h8]
    · rw [if_neg h, gt_0]
/-- a byte with its sign -/
def sx (x : Int32) : Int32 := x.toInt8.toInt32
theorem gt_sx (x : Int32) {i : Nat} (hi : i < 32) : gt (sx x) i = if i < 8 then gt x i else gt x 7 := by
  unfold sx gt
  rw [Int8.toBitVec_toInt32, Int32.toBitVec_toInt8, BitVec.getLsbD_signExtend, BitVec.msb_eq_getLsbD_last]
  simp only [BitVec.getLsbD_signExtend]
  by_cases h : i < 8
  · simp [h, hi]
  · simp [h, hi]
theorem sx_xor (x y : Int32) : sx (sx x ^^^ y) = sx (x ^^^ y) := by
  apply gt_ext
  intro i hi
  rw [gt_sx _ hi, gt_sx _ hi]
  by_cases h : i < 8
  · rw [if_pos h, if_pos h, gt_xor, gt_xor, gt_sx _ hi, if_pos h]
  · rw [if_neg h, if_neg h, gt_xor, gt_xor, gt_sx _ (by omega), if_pos (by omega)]
theorem sx_and (x : Int32) : sx x &&& 255 = x &&& 255 := by
  apply gt_ext
  intro i hi
  rw [gt_and, gt_and, gt_255, gt_sx _ hi]
  by_cases h : i < 8
  · rw [if_pos h]
  · simp [h]
theorem sx_by0 {k : Nat} (hk : k < 8) (x : Int64) : sx (by_ x k) = 0 ↔ by_ x k = 0 := by
  constructor
  · intro h
    have : sx (by_ x k) &&& 255 = (0 : Int32) &&& 255 := by rw [h]
    rw [sx_and, by_and hk] at this
    rw [this]; rfl
  · intro h
    rw [h]; rfl
theorem nar_sx (x : Int32) : vp_nar .byte x.toInt8.toInt32 = sx x := by rw [pk_vb]; rfl
theorem lcmp0 (x y : Int64) : (lg_cmp x y = 0) ↔ x = y := by
  unfold lg_cmp
  by_cases h1 : x > y
  · rw [if_pos h1]
    constructor
    · intro h; exact absurd h (by decide)
    · intro h; subst h; exact (Int64.lt_irrefl h1).elim
  · rw [if_neg h1]
    by_cases h2 : x = y
    · rw [if_pos h2]; simp [h2]
    · rw [if_neg h2]
      constructor
      · intro h; exact absurd h (by decide)
      · intro h; exact absurd h h2
