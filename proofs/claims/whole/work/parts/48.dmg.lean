/-- the words that m bytes of v make, from byte at on -/
def msk (at_ : Nat) (v : Int64) : Nat → Nat → Int64
  | 0, _ => 0
  | m + 1, j => msk at_ v m j ^^^ (if (at_ + m) / 8 = j then one v m ((at_ + m) % 8) else 0)
theorem msk_hi {at_ : Nat} {v : Int64} : ∀ {m j : Nat}, at_ + m ≤ 8 * j → msk at_ v m j = 0 := by
  intro m
  induction m with
  | zero => intro j _; rfl
  | succ m ih => intro j h; rw [msk, ih (by omega), if_neg (by omega)]; rfl
theorem byR_msk {at_ : Nat} {v : Int64} : ∀ {m : Nat}, m ≤ 8 → ∀ k, byR (msk at_ v m) k = if at_ ≤ k ∧ k < at_ + m then by_ v (k - at_) else 0 := by
  intro m
  induction m with
  | zero => intro _ k; rw [if_neg (by omega)]; exact by_0 (by omega)
  | succ m ih =>
    intro hm k
    have hk : k % 8 < 8 := by omega
    have e : byR (msk at_ v (m + 1)) k = byR (msk at_ v m) k ^^^ by_ (if (at_ + m) / 8 = k / 8 then one v m ((at_ + m) % 8) else 0) (k % 8) := by
      unfold byR
      rw [msk, by_xor hk]
    rw [e, ih (by omega)]
    by_cases h1 : (at_ + m) / 8 = k / 8
    · rw [if_pos h1, by_one (by omega) (by omega) hk]
      by_cases h2 : k % 8 = (at_ + m) % 8
      · have hkk : k = at_ + m := by omega
        rw [if_pos h2, if_neg (by omega), if_pos (by omega), hkk, show at_ + m - at_ = m by omega]
        exact Int32.zero_xor
      · rw [if_neg h2, Int32.xor_zero]
        by_cases h3 : at_ ≤ k ∧ k < at_ + m
        · rw [if_pos h3, if_pos (by omega)]
        · rw [if_neg h3, if_neg (by omega)]
    · rw [if_neg h1, by_0 hk, Int32.xor_zero]
      by_cases h3 : at_ ≤ k ∧ k < at_ + m
      · rw [if_pos h3, if_pos (by omega)]
      · rw [if_neg h3, if_neg (by omega)]
theorem byR_xor (a b : Nat → Int64) (k : Nat) : byR (fun i => a i ^^^ b i) k = byR a k ^^^ byR b k := by_xor (by omega) _ _
theorem top0 {x : Int64} (h6 : by_ x 6 = 0) (h7 : by_ x 7 = 0) : ∀ i, 48 ≤ i → i < 64 → gb x i = false := by
  intro i h1 h2
  by_cases h : i < 56
  · have := gt_by (k := 6) (by omega) x (i := i - 48) (by omega)
    rw [h6, gt_0, show 8 * 6 + (i - 48) = i by omega] at this
    simpa [show i - 48 < 8 by omega] using this.symm
  · have := gt_by (k := 7) (by omega) x (i := i - 56) (by omega)
    rw [h7, gt_0, show 8 * 7 + (i - 56) = i by omega] at this
    simpa [show i - 56 < 8 by omega] using this.symm
theorem msk_top {at_ m : Nat} {v : Int64} (hm : m ≤ 8) (h : at_ + m ≤ 70) : ∀ i, 48 ≤ i → i < 64 → gb (msk at_ v m 8) i = false := by
  have e6 := byR_msk (at_ := at_) (v := v) hm 70
  have e7 := byR_msk (at_ := at_) (v := v) hm 71
  rw [if_neg (by omega)] at e6 e7
  exact top0 e6 e7
def G_xb (b : Nat) (n : Nat → Nat) (p1 : Int32) (p2 : Int32) (p3 : Int32) (p4 : Int64) : Nat → HS → Int32 → Option (HS)
  | 0, _, _ => none
  | k3 + 1, σ1, x4 =>
      (if p3 ≤ x4 then
        some σ1
      else
        nm (((p4).toUInt64 >>> ((((8 : Int32) * x4)).toInt64.toUInt64 &&& Int64.toUInt64 63)).toInt64 &&& (255 : Int64)) (fun x6 =>
        grd (inb (p1 + (((p2 + x4)).toUInt32 >>> (((3 : Int32)).toUInt32 &&& Int32.toUInt32 31)).toInt32) (n b)) (
        grd (inb (p1 + (((p2 + x4)).toUInt32 >>> (((3 : Int32)).toUInt32 &&& Int32.toUInt32 31)).toInt32) (n b)) (
        nm (stL σ1 b ((p1 + (((p2 + x4)).toUInt32 >>> (((3 : Int32)).toUInt32 &&& Int32.toUInt32 31)).toInt32)).toNatClampNeg ((σ1.2 b ((p1 + (((p2 + x4)).toUInt32 >>> (((3 : Int32)).toUInt32 &&& Int32.toUInt32 31)).toInt32)).toNatClampNeg) ^^^ (x6 <<< ((((8 : Int32) * ((p2 + x4) &&& (7 : Int32)))).toInt64 &&& 63)))) (fun σ9 =>
        nm (x4 + (1 : Int32)) (fun x10 =>
        G_xb b n p1 p2 p3 p4 k3 σ9 x10))))))
theorem G_xb_5 {F : Nat} {n : Nat → Nat} {p1 p2 p3 : Int32} {p4 : Int64} : ∀ k σ x, D_SF_xorBytes_5_L3 F n p1 p2 p3 p4 k σ x = G_xb 5 n p1 p2 p3 p4 k σ x := by
  intro k
  induction k with
  | zero => intro σ x; rfl
  | succ k ih => intro σ x; rw [D_SF_xorBytes_5_L3, G_xb]; simp only [nm_q, ih]
theorem G_xb_11 {F : Nat} {n : Nat → Nat} {p1 p2 p3 : Int32} {p4 : Int64} : ∀ k σ x, D_SF_xorBytes_11_L3 F n p1 p2 p3 p4 k σ x = G_xb 11 n p1 p2 p3 p4 k σ x := by
  intro k
  induction k with
  | zero => intro σ x; rfl
  | succ k ih => intro σ x; rw [D_SF_xorBytes_11_L3, G_xb]; simp only [nm_q, ih]
theorem G_xb_12 {F : Nat} {n : Nat → Nat} {p1 p2 p3 : Int32} {p4 : Int64} : ∀ k σ x, D_SF_xorBytes_12_L3 F n p1 p2 p3 p4 k σ x = G_xb 12 n p1 p2 p3 p4 k σ x := by
  intro k
  induction k with
  | zero => intro σ x; rfl
  | succ k ih => intro σ x; rw [D_SF_xorBytes_12_L3, G_xb]; simp only [nm_q, ih]
theorem e_xb {b f at_ m F : Nat} {n : Nat → Nat} {σ : HS} {v : Int64} (hm : m ≤ 8) (hat : at_ ≤ 70) (hb : f + (at_ + m + 7) / 8 ≤ n b) (hf : f < 100000) (hF : 100 ≤ F) : ∃ τ, G_xb b n (nI f) (nI at_) (nI m) v F σ (nI 0) = some τ ∧ τ.1 = σ.1 ∧ (∀ a, a ≠ b → τ.2 a = σ.2 a) ∧ ∀ j, τ.2 b j = σ.2 b j ^^^ (if f ≤ j then msk at_ v m (j - f) else 0) := by
  refine lp (L := G_xb b n (nI f) (nI at_) (nI m) v) (N := m) (I := fun i τ => τ.1 = σ.1 ∧ (∀ a, a ≠ b → τ.2 a = σ.2 a) ∧ ∀ j, τ.2 b j = σ.2 b j ^^^ (if f ≤ j then msk at_ v i (j - f) else 0)) (Q := fun τ => τ.1 = σ.1 ∧ (∀ a, a ≠ b → τ.2 a = σ.2 a) ∧ ∀ j, τ.2 b j = σ.2 b j ^^^ (if f ≤ j then msk at_ v m (j - f) else 0))
    (fun k τ i hi ⟨q1, q2, q3⟩ => ?_) (fun k τ h => ⟨τ, by rw [G_xb, if_pos (Int32.le_refl _)], h⟩) m 0 F σ (Nat.zero_add _) (by omega) ⟨rfl, fun _ _ => rfl, fun j => ?_⟩
  · refine Or.inl ⟨stL τ b (f + (at_ + i) / 8) (τ.2 b (f + (at_ + i) / 8) ^^^ one v i ((at_ + i) % 8)), ⟨q1, fun a h => by rw [stL_2 a h]; exact q2 a h, fun j => ?_⟩, ?_⟩
    · rw [stL_s, updL_a, q3, q3]
      by_cases e : j = f + (at_ + i) / 8
      · rw [if_pos e, e, if_pos (by omega), if_pos (by omega), msk, show f + (at_ + i) / 8 - f = (at_ + i) / 8 by omega, if_pos rfl, Int64.xor_assoc]
      · rw [if_neg e]
        by_cases e2 : f ≤ j
        · rw [if_pos e2, if_pos e2, msk, if_neg (by omega), Int64.xor_zero]
        · rw [if_neg e2, if_neg e2]
    · have e1 : nI f + ((nI at_ + nI i).toUInt32 >>> (((3 : Int32)).toUInt32 &&& Int32.toUInt32 31)).toInt32 = nI (f + (at_ + i) / 8) := by
        rw [nI_add, show (3 : Int32) = nI 3 from rfl, nI_shr3 (by omega), nI_add]
      have e2 : (8 : Int32) * ((nI at_ + nI i) &&& (7 : Int32)) = nI (8 * ((at_ + i) % 8)) := by
        rw [nI_add, show (7 : Int32) = nI 7 from rfl, nI_and7 (by omega), show (8 : Int32) = nI 8 from rfl, pk_mul]
      have e3 : (8 : Int32) * nI i = nI (8 * i) := by rw [show (8 : Int32) = nI 8 from rfl, pk_mul]
      rw [G_xb, if_neg (by rw [nI_leI (by omega) (by omega)]; omega), nm_q, e1, e2, e3, grd_in (by omega) (by omega), grd_in (by omega) (by omega), nI_clamp (by omega), nm_q, nm_q, nI_1]
      rfl
  · show _ = _ ^^^ (if f ≤ j then (0 : Int64) else 0)
    rw [show (if f ≤ j then (0 : Int64) else 0) = 0 by split <;> rfl, Int64.xor_zero]
/-- cell c bears v, its flag being fl -/
def cellD (v : CellV) (fl : Bool) (σ : HS) (i : Nat) : Prop := σ.1 13 i = nI 1 ∧ σ.1 14 i = b2i fl ∧ (∀ j, j < 9 → σ.2 12 (i * 9 + j) = v.2.2 j) ∧ ∀ j, j < 9 → σ.2 11 (i * 9 + j) = wds v j
def FrC (c : Nat) (σ τ : HS) : Prop := (∀ a, a ≠ 14 → τ.1 a = σ.1 a) ∧ (∀ i, i ≠ c → τ.1 14 i = σ.1 14 i) ∧ (∀ a, a ≠ 11 → a ≠ 12 → τ.2 a = σ.2 a) ∧ ∀ j, j < c * 9 ∨ c * 9 + 9 ≤ j → τ.2 11 j = σ.2 11 j ∧ τ.2 12 j = σ.2 12 j
theorem FrC.tr {c : Nat} {σ τ υ : HS} (h : FrC c σ τ) (h2 : FrC c τ υ) : FrC c σ υ := ⟨fun a e => (h2.1 a e).trans (h.1 a e), fun a e => (h2.2.1 a e).trans (h.2.1 a e), fun a e e1 => (h2.2.2.1 a e e1).trans (h.2.2.1 a e e1), fun j e => ⟨((h2.2.2.2 j e).1).trans (h.2.2.2 j e).1, ((h2.2.2.2 j e).2).trans (h.2.2.2 j e).2⟩⟩
theorem cK.dmg {D R : Nat} {K : Rk} {σ τ : HS} {d o : Nat} {v : CellV} (h : cK D R K σ) (ho : o ≤ R) (hf : FrC (d * (R + 1) + o) σ τ) (hc : cellD v (z9 v.2.2) τ (d * (R + 1) + o)) : cK D R (setK K d o (some v)) τ := by
  intro d1 o1 hd1 ho1
  unfold setK
  by_cases e : d1 = d ∧ o1 = o
  · rw [if_pos e, e.1, e.2]; exact hc
  · rw [if_neg e]
    have hne : d1 * (R + 1) + o1 ≠ d * (R + 1) + o := fun q => e (cell_inj ho1 ho q)
    exact (h d1 o1 hd1 ho1).congr (by rw [hf.1 13 (by decide)]) (hf.2.1 _ hne) (fun j hj => (hf.2.2.2 _ (by omega)).1) (fun j hj => (hf.2.2.2 _ (by omega)).2)
set_option maxHeartbeats 1000000 in
theorem e_damage {c at_ m F : Nat} {n : Nat → Nat} {σ : HS} {t : Nat} {P dm : Nat → Int64} {fl : Bool} {mask : Int64} (hv : cellD (t, P, dm) fl σ c) (ht : t < 65536) (hd : ∀ i, 48 ≤ i → i < 64 → gb (dm 8) i = false) (hm : m ≤ 8) (hat : at_ + m ≤ 70) (h11 : c * 9 + 9 ≤ n 11) (h12 : c * 9 + 9 ≤ n 12) (h14 : c < n 14) (hc : c < 10000) (hF : 100 ≤ F) :
    ∃ τ, D_RK_damage F n σ (nI c) (nI at_) (nI m) mask = some τ ∧ FrC c σ τ ∧ cellD (t, P, fun i => dm i ^^^ msk at_ mask m i) (cok (fun i => dm i ^^^ msk at_ mask m i)) τ c := by
  obtain ⟨τ1, e1, a1, a2, a3⟩ := e_xb (b := 11) (f := c * 9) (at_ := at_) (m := m) (n := n) (σ := σ) (v := mask) hm (by omega) (by omega) (by omega) hF
  obtain ⟨τ2, e2, b1, b2, b3⟩ := e_xb (b := 12) (f := c * 9) (at_ := at_) (m := m) (n := n) (σ := τ1) (v := mask) hm (by omega) (by omega) (by omega) hF
  have hdm' : ∀ i, 48 ≤ i → i < 64 → gb ((fun i => dm i ^^^ msk at_ mask m i) 8) i = false := by
    intro i g1 g2
    show gb (dm 8 ^^^ msk at_ mask m 8) i = false
    rw [gb_xor, hd i g1 g2, msk_top hm hat i g1 g2]; rfl
  have w12 : ∀ j, j < 9 → τ2.2 12 (c * 9 + j) = dm j ^^^ msk at_ mask m j := by
    intro j hj
    rw [b3, if_pos (by omega), a2 12 (by decide), hv.2.2.1 j hj, show c * 9 + j - c * 9 = j by omega]
  have w11 : ∀ j, j < 9 → τ2.2 11 (c * 9 + j) = wds (t, P, fun i => dm i ^^^ msk at_ mask m i) j := by
    intro j hj
    rw [b2 11 (by decide), a3, if_pos (by omega), hv.2.2.2 j hj, show c * 9 + j - c * 9 = j by omega]
    show (_ ^^^ dm j) ^^^ _ = _ ^^^ (dm j ^^^ _)
    rw [Int64.xor_assoc]
  have hout : ∀ j, j < c * 9 ∨ c * 9 + 9 ≤ j → τ2.2 11 j = σ.2 11 j ∧ τ2.2 12 j = σ.2 12 j := by
    intro j hj
    have z : (if c * 9 ≤ j then msk at_ mask m (j - c * 9) else 0) = 0 := by
      split
      · exact msk_hi (by omega)
      · rfl
    rw [b2 11 (by decide), a3, b3, z, a2 12 (by decide), Int64.xor_zero, Int64.xor_zero]
    exact ⟨rfl, rfl⟩
  have hcrc : crcW (fun i => τ2.2 11 (c * 9 + i)) = crcW (wds (t, P, fun i => dm i ^^^ msk at_ mask m i)) := by
    unfold crcW
    rw [crcB_congr (c := byR (wds (t, P, fun i => dm i ^^^ msk at_ mask m i)))]
    intro j _ hj
    exact congrArg (fun z => by_ z (j % 8)) (w11 (j / 8) (by omega))
  have key := chk_wds (P := P) (dm := fun i => dm i ^^^ msk at_ mask m i) ht hdm'
  have E1 : D_SF_xorBytes_11 F n σ (nI c * 9) (nI at_) (nI m) mask = some τ1 := by
    rw [D_SF_xorBytes_11, ← nI_0, G_xb_11, show (9 : Int32) = nI 9 from rfl, pk_mul, e1]; rfl
  have E2 : D_SF_xorBytes_12 F n τ1 (nI c * 9) (nI at_) (nI m) mask = some τ2 := by
    rw [D_SF_xorBytes_12, ← nI_0, G_xb_12, show (9 : Int32) = nI 9 from rfl, pk_mul, e2]; rfl
  have E3 : nI c * 9 + 8 = nI (c * 9 + 8) := by rw [show (9 : Int32) = nI 9 from rfl, show (8 : Int32) = nI 8 from rfl, pk_mul, nI_add]
  rw [D_RK_damage, E1, Option.bind_some, E2, Option.bind_some, E3, grd_in (by omega) (by omega), nm_q, nI_clamp (by omega), e_RK_checkOf c hF h11 (by omega), Option.bind_some, hcrc, w11 8 (by omega), grd_in h14 (by omega), grd_in h14 (by omega), nI_clamp (by omega)]
  have fin : ∀ fl2 : Bool, FrC c σ (stI τ2 14 c (b2i fl2)) ∧ cellD (t, P, fun i => dm i ^^^ msk at_ mask m i) fl2 (stI τ2 14 c (b2i fl2)) c := by
    intro fl2
    refine ⟨⟨fun a h => ?_, fun i h => ?_, fun a h1 h2 => ?_, hout⟩, ?_, ?_, w12, w11⟩
    · rw [stI_1 a h, b1, a1]
    · rw [stI_s, upd_n h, b1, a1]
    · rw [stI_2, b2 a h2, a2 a h1]
    · rw [stI_1 13 (by decide), b1, a1]; exact hv.1
    · rw [stI_s, upd_s]
  by_cases hk : cok (fun i => dm i ^^^ msk at_ mask m i) = true
  · rw [if_pos ((lcmp0 _ _).mpr (key.mpr hk)), hk]
    exact ⟨_, rfl, fin true⟩
  · rw [if_neg (fun e => hk (key.mp ((lcmp0 _ _).mp e))), (Bool.eq_false_iff.mpr hk : cok (fun i => dm i ^^^ msk at_ mask m i) = false)]
    exact ⟨_, rfl, fin false⟩
