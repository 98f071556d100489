/-- what a written cell bears: its tag, the block as it was written, what has been xored to its nine words since -/
abbrev CellV : Type := Nat × (Nat → Int64) × (Nat → Int64)
abbrev Rk : Type := Nat → Nat → Option CellV
def allN (f : Nat → Bool) (m : Nat) : Bool := (List.range m).all f
theorem allN_iff {f : Nat → Bool} {m : Nat} : allN f m = true ↔ ∀ i, i < m → f i = true := by
  unfold allN
  rw [List.all_eq_true]
  exact ⟨fun h i hi => h i (List.mem_range.mpr hi), fun h i hi => h i (List.mem_range.mp hi)⟩
def z9 (dm : Nat → Int64) : Bool := allN (fun i => decide (dm i = 0)) 9
theorem z9_iff {dm : Nat → Int64} : z9 dm = true ↔ ∀ i, i < 9 → dm i = 0 := by
  unfold z9
  rw [allN_iff]
  exact ⟨fun h i hi => of_decide_eq_true (h i hi), fun h i hi => decide_eq_true (h i hi)⟩
def isv : Option CellV → Bool
  | none => false
  | some c => z9 c.2.2
def ist : Option CellV → Nat → Bool
  | none, _ => false
  | some c, t => z9 c.2.2 && decide (c.1 = t)
def setK (K : Rk) (d o : Nat) (c : Option CellV) : Rk := fun d1 o1 => if d1 = d ∧ o1 = o then c else K d1 o1
def zr : Nat → Int64 := fun _ => 0
theorem z9_zr : z9 zr = true := z9_iff.mpr (fun _ _ => rfl)
def w0 (t : Nat) (P : Nat → Int64) : Nat → Int64 := fun i => if i < 8 then P i else (nI t).toInt64
/-- the last word of a cell: tag and check -/
def tw (t : Nat) (P : Nat → Int64) : Int64 := (nI t).toInt64 ||| (((crcW (w0 t P)).toInt64 &&& (4294967295 : Int64)) <<< (((16 : Int32)).toInt64 &&& 63))
theorem gt_nI (t i : Nat) : gt (nI t) i = (decide (i < 32) && t.testBit i) := by
  show (BitVec.ofNat 32 t).getLsbD i = _
  rw [BitVec.getLsbD_ofNat]
theorem tb16 {t i : Nat} (h : t < 65536) (hi : 16 ≤ i) : t.testBit i = false := Nat.testBit_lt_two_pow (Nat.lt_of_lt_of_le h (Nat.pow_le_pow_right (n := 2) (by decide) hi))
theorem gb_nI64 {t i : Nat} (h : t < 65536) (hi : i < 64) : gb (nI t).toInt64 i = t.testBit i := by
  rw [gb_of32 _ hi, gt_nI, gt_nI]
  by_cases h2 : i < 32
  · simp [h2]
  · simp [h2, tb16 h (show 16 ≤ i by omega), tb16 h (show 16 ≤ 31 by omega)]
theorem gb_tw {t i : Nat} (P : Nat → Int64) (h : t < 65536) (hi : i < 64) : gb (tw t P) i = if i < 16 then t.testBit i else if i < 48 then gt (crcW (w0 t P)) (i - 16) else false := by
  unfold tw
  rw [gb_or, gb_nI64 h hi, show (16 : Int32) = nI 16 from rfl, gb_shl (by omega) _ hi, gb_and, gb_m32]
  by_cases h1 : i < 16
  · simp [h1, show ¬ 16 ≤ i by omega]
  · rw [if_neg h1, tb16 h (by omega), gb_of32 _ (by omega)]
    by_cases h2 : i < 48
    · simp [h2, show 16 ≤ i by omega, show i - 16 < 32 by omega]
    · simp [h2, show ¬ i - 16 < 32 by omega]
theorem tw_tag {t : Nat} (P : Nat → Int64) (h : t < 65536) : (tw t P &&& 65535).toInt32 = nI t := by
  apply gt_ext
  intro i hi
  rw [gt_of64 _ hi, gb_and, gb_tw P h (by omega), gb_m16, gt_nI]
  by_cases h1 : i < 16
  · simp [h1, hi]
  · simp [h1, tb16 h (show 16 ≤ i by omega)]
/-- the damage that the check doesn't see (none is such a damage too) -/
def cok (dm : Nat → Int64) : Bool := allN (fun i => decide (gb (dm 8) (16 + i) = gt (crcB (byR dm) 66 0 0) i)) 32
theorem cok_iff {dm : Nat → Int64} : cok dm = true ↔ ∀ i, i < 32 → gb (dm 8) (16 + i) = gt (crcB (byR dm) 66 0 0) i := by
  unfold cok
  rw [allN_iff]
  exact ⟨fun h i hi => of_decide_eq_true (h i hi), fun h i hi => decide_eq_true (h i hi)⟩
/-- the nine words of a cell -/
def wds (c : CellV) : Nat → Int64 := fun i => (if i < 8 then c.2.1 i else tw c.1 c.2.1) ^^^ c.2.2 i
theorem crc_wds {t : Nat} {P dm : Nat → Int64} (h : t < 65536) : crcW (wds (t, P, dm)) = crcW (w0 t P) ^^^ crcB (byR dm) 66 0 0 := by
  have e : crcB (byR (wds (t, P, dm))) 66 0 (-1) = crcB (byR (w0 t P)) 66 0 (-1) ^^^ crcB (byR dm) 66 0 0 := by
    rw [← crcB_xor, show (-1 : Int32) ^^^ 0 = -1 from rfl]
    apply crcB_congr
    intro j _ hj
    unfold byR wds w0
    have hk : j % 8 < 8 := by omega
    show by_ ((if j / 8 < 8 then P (j / 8) else tw t P) ^^^ dm (j / 8)) (j % 8) = _
    rw [by_xor hk]
    congr 1
    by_cases h1 : j / 8 < 8
    · rw [if_pos h1, if_pos h1]
    · rw [if_neg h1, if_neg h1]
      apply gt_ext
      intro i hi
      rw [gt_by hk _ hi, gt_by hk _ hi]
      by_cases h8 : i < 8
      · rw [gb_tw P h (by omega), if_pos (by omega), gb_nI64 h (by omega)]
      · simp [h8]
  unfold crcW
  rw [e]
  apply gt_ext
  intro i _
  simp only [gt_xor]
  cases gt (crcB (byR (w0 t P)) 66 0 (-1)) i <;> cases gt (crcB (byR dm) 66 0 0) i <;> cases gt (-1) i <;> rfl
theorem chk_wds {t : Nat} {P dm : Nat → Int64} (h : t < 65536) (hd : ∀ i, 48 ≤ i → i < 64 → gb (dm 8) i = false) :
    (((wds (t, P, dm) 8).toUInt64 >>> (((16 : Int32)).toInt64.toUInt64 &&& Int64.toUInt64 63)).toInt64 = ((crcW (wds (t, P, dm))).toInt64 &&& (4294967295 : Int64))) ↔ cok dm = true := by
  have hw : wds (t, P, dm) 8 = tw t P ^^^ dm 8 := rfl
  have L : ∀ i, i < 64 → gb (((wds (t, P, dm) 8).toUInt64 >>> (((16 : Int32)).toInt64.toUInt64 &&& Int64.toUInt64 63)).toInt64) i = if i < 32 then (gt (crcW (w0 t P)) i ^^ gb (dm 8) (16 + i)) else false := by
    intro i hi
    rw [show (16 : Int32) = nI 16 from rfl, gb_ushr (by omega), hw, gb_xor]
    by_cases h1 : i < 32
    · rw [gb_tw P h (by omega), if_neg (by omega), if_pos (by omega), if_pos h1, show 16 + i - 16 = i by omega]
    · rw [if_neg h1]
      by_cases h2 : 16 + i < 64
      · rw [gb_tw P h h2, if_neg (by omega), if_neg (by omega), hd _ (by omega) h2]; rfl
      · rw [gb_big (by omega), gb_big (by omega)]; rfl
  have Rr : ∀ i, i < 64 → gb ((crcW (wds (t, P, dm))).toInt64 &&& (4294967295 : Int64)) i = if i < 32 then (gt (crcW (w0 t P)) i ^^ gt (crcB (byR dm) 66 0 0) i) else false := by
    intro i hi
    rw [gb_and, gb_m32, gb_of32 _ hi, crc_wds h]
    by_cases h1 : i < 32
    · simp [h1, gt_xor]
    · simp [h1]
  rw [cok_iff]
  constructor
  · intro e i hi
    have := congrArg (fun z => gb z i) e
    have this : gb (((wds (t, P, dm) 8).toUInt64 >>> (((16 : Int32)).toInt64.toUInt64 &&& Int64.toUInt64 63)).toInt64) i = gb ((crcW (wds (t, P, dm))).toInt64 &&& (4294967295 : Int64)) i := this
    rw [L i (by omega), Rr i (by omega), if_pos hi, if_pos hi] at this
    revert this
    cases gt (crcW (w0 t P)) i <;> cases gb (dm 8) (16 + i) <;> cases gt (crcB (byR dm) 66 0 0) i <;> simp
  · intro e
    apply gb_ext
    intro i hi
    rw [L i hi, Rr i hi]
    by_cases h1 : i < 32
    · rw [if_pos h1, if_pos h1, e i h1]
    · rw [if_neg h1, if_neg h1]
theorem crcB_0 : ∀ m i, crcB (byR zr) m i 0 = 0 := by
  intro m
  induction m with
  | zero => intro i; rfl
  | succ m ih =>
    intro i
    rw [crcB, show byR zr i = 0 from by_0 (by omega), show bitN 8 ((0 : Int32) ^^^ 0) = 0 from by decide +kernel, ih]
theorem cok_z {dm : Nat → Int64} (h : z9 dm = true) : cok dm = true := by
  have h := z9_iff.mp h
  rw [cok_iff]
  intro i hi
  rw [h 8 (by omega), gb_0, crcB_congr (c := byR zr) (fun j _ hj => by unfold byR; rw [h _ (by omega)]; rfl), crcB_0, gt_0]
