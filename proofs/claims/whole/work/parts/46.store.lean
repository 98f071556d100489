/-- the loop of store, for a block in cell b -/
def G_st (b : Nat) (n : Nat → Nat) (x2 : Int32) : Nat → HS → Int32 → Option HS
  | 0, _, _ => none
  | k5 + 1, σ3, x6 =>
      (if (8 : Int32) ≤ x6 then
          some σ3
        else
          grd (inb x6 (n b)) (
          grd (inb (x2 + x6) (n 11)) (
          nm (stL σ3 11 ((x2 + x6)).toNatClampNeg (σ3.2 b (x6).toNatClampNeg)) (fun σ10 =>
          grd (inb (x2 + x6) (n 12)) (
          nm (stL σ10 12 ((x2 + x6)).toNatClampNeg (0 : Int64)) (fun σ12 =>
          nm (x6 + (1 : Int32)) (fun x13 =>
          G_st b n x2 k5 σ12 x13)))))))
def G_store (b : Nat) (F : Nat) (n : Nat → Nat) (σ : HS) (p1 : Int32) (p3 : Int32) : Option (HS) :=
(if p1 = (-1 : Int32) then
    some σ
  else
    nm (p1 * (9 : Int32)) (fun x2 =>
    (G_st b n x2 F σ (0 : Int32)).bind (fun (σ14 : HS) =>
    nm (x2 + (8 : Int32)) (fun x18 =>
      grd (inb x18 (n 12)) (
      nm (stL σ14 12 (x18).toNatClampNeg (0 : Int64)) (fun σ20 =>
      grd (inb x18 (n 11)) (
      nm (stL σ20 11 (x18).toNatClampNeg (p3).toInt64) (fun σ22 =>
      grd (inb x18 (n 11)) (
      (D_RK_checkOf F n σ22 p1).bind (fun (x24 : Int32) =>
      grd (inb x18 (n 11)) (
      nm (stL σ22 11 (x18).toNatClampNeg ((σ22.2 11 (x18).toNatClampNeg) ||| (((x24).toInt64 &&& (4294967295 : Int64)) <<< (((16 : Int32)).toInt64 &&& 63)))) (fun σ26 =>
      grd (inb p1 (n 13)) (
      nm (stI σ26 13 (p1).toNatClampNeg (vp_nar .boolean (1 : Int32))) (fun σ28 =>
      grd (inb p1 (n 14)) (
      nm (stI σ28 14 (p1).toNatClampNeg (vp_nar .boolean (1 : Int32))) (fun σ30 =>
      some σ30))))))))))))))))
theorem G_st_6 {F : Nat} {n : Nat → Nat} {x2 : Int32} : ∀ k σ x, D_RK_store_6_L15 F n x2 k σ x = G_st 6 n x2 k σ x := by
  intro k
  induction k with
  | zero => intro σ x; rfl
  | succ k ih => intro σ x; rw [D_RK_store_6_L15, G_st]; simp only [nm_q, ih]
theorem G_st_7 {F : Nat} {n : Nat → Nat} {x2 : Int32} : ∀ k σ x, D_RK_store_7_L15 F n x2 k σ x = G_st 7 n x2 k σ x := by
  intro k
  induction k with
  | zero => intro σ x; rfl
  | succ k ih => intro σ x; rw [D_RK_store_7_L15, G_st]; simp only [nm_q, ih]
theorem G_st_8 {F : Nat} {n : Nat → Nat} {x2 : Int32} : ∀ k σ x, D_RK_store_8_L15 F n x2 k σ x = G_st 8 n x2 k σ x := by
  intro k
  induction k with
  | zero => intro σ x; rfl
  | succ k ih => intro σ x; rw [D_RK_store_8_L15, G_st]; simp only [nm_q, ih]
theorem G_st_17 {F : Nat} {n : Nat → Nat} {x2 : Int32} : ∀ k σ x, D_RK_store_17_L15 F n x2 k σ x = G_st 17 n x2 k σ x := by
  intro k
  induction k with
  | zero => intro σ x; rfl
  | succ k ih => intro σ x; rw [D_RK_store_17_L15, G_st]; simp only [nm_q, ih]
theorem G_store_6 (F : Nat) (n : Nat → Nat) (σ : HS) (p1 p3 : Int32) : D_RK_store_6 F n σ p1 p3 = G_store 6 F n σ p1 p3 := by
  rw [D_RK_store_6, G_store]; simp only [nm_q, G_st_6]
theorem G_store_7 (F : Nat) (n : Nat → Nat) (σ : HS) (p1 p3 : Int32) : D_RK_store_7 F n σ p1 p3 = G_store 7 F n σ p1 p3 := by
  rw [D_RK_store_7, G_store]; simp only [nm_q, G_st_7]
theorem G_store_8 (F : Nat) (n : Nat → Nat) (σ : HS) (p1 p3 : Int32) : D_RK_store_8 F n σ p1 p3 = G_store 8 F n σ p1 p3 := by
  rw [D_RK_store_8, G_store]; simp only [nm_q, G_st_8]
theorem G_store_17 (F : Nat) (n : Nat → Nat) (σ : HS) (p1 p3 : Int32) : D_RK_store_17 F n σ p1 p3 = G_store 17 F n σ p1 p3 := by
  rw [D_RK_store_17, G_store]; simp only [nm_q, G_st_17]
theorem updL_a {f : Nat → Int64} {k : Nat} {v : Int64} (j : Nat) : vp_updL f k v j = if j = k then v else f j := rfl
theorem upd_a {f : Nat → Int32} {k : Nat} {v : Int32} (j : Nat) : upd f k v j = if j = k then v else f j := rfl
theorem e_store_m1 {b F : Nat} {n : Nat → Nat} {σ : HS} {p3 : Int32} : G_store b F n σ (-1) p3 = some σ := by rw [G_store, if_pos rfl]
set_option maxHeartbeats 1000000 in
theorem e_store {b c t F : Nat} {n : Nat → Nat} {σ : HS} (hb : n b = 8) (hb1 : b ≠ 11) (hb2 : b ≠ 12) (h11 : c * 9 + 9 ≤ n 11) (h12 : c * 9 + 9 ≤ n 12) (h13 : c < n 13) (h14 : c < n 14) (hc : c < 100000) (hF : 100 ≤ F) : ∃ τ, G_store b F n σ (nI c) (nI t) = some τ ∧ Stored c t (σ.2 b) σ τ := by
  obtain ⟨τ, e1, i1, i2, i3, i4⟩ := lp (L := G_st b n (nI (c * 9))) (N := 8) (I := fun i τ => τ.1 = σ.1 ∧ (∀ a, a ≠ 11 → a ≠ 12 → τ.2 a = σ.2 a) ∧ (∀ j, τ.2 11 j = if c * 9 ≤ j ∧ j < c * 9 + i then σ.2 b (j - c * 9) else σ.2 11 j) ∧ ∀ j, τ.2 12 j = if c * 9 ≤ j ∧ j < c * 9 + i then 0 else σ.2 12 j)
    (Q := fun τ => τ.1 = σ.1 ∧ (∀ a, a ≠ 11 → a ≠ 12 → τ.2 a = σ.2 a) ∧ (∀ j, τ.2 11 j = if c * 9 ≤ j ∧ j < c * 9 + 8 then σ.2 b (j - c * 9) else σ.2 11 j) ∧ ∀ j, τ.2 12 j = if c * 9 ≤ j ∧ j < c * 9 + 8 then 0 else σ.2 12 j)
    (fun k τ i hi ⟨q1, q2, q3, q4⟩ => by
      refine Or.inl ⟨stL (stL τ 11 (c * 9 + i) (σ.2 b i)) 12 (c * 9 + i) 0, ⟨q1, fun a h1 h2 => ?_, fun j => ?_, fun j => ?_⟩, ?_⟩
      · rw [stL_2 a h2, stL_2 a h1]; exact q2 a h1 h2
      · rw [stL_2 11 (by decide), stL_s, updL_a, q3]
        by_cases e : j = c * 9 + i
        · rw [if_pos e, if_pos (by omega), e, show c * 9 + i - c * 9 = i by omega]
        · rw [if_neg e]
          by_cases e2 : c * 9 ≤ j ∧ j < c * 9 + i
          · rw [if_pos e2, if_pos (by omega)]
          · rw [if_neg e2, if_neg (by omega)]
      · rw [stL_s, updL_a, stL_2 12 (by decide), q4]
        by_cases e : j = c * 9 + i
        · rw [if_pos e, if_pos (by omega)]
        · rw [if_neg e]
          by_cases e2 : c * 9 ≤ j ∧ j < c * 9 + i
          · rw [if_pos e2, if_pos (by omega)]
          · rw [if_neg e2, if_neg (by omega)]
      · rw [G_st, if_neg (by rw [show (8 : Int32) = nI 8 from rfl, nI_leI (by omega) (by omega)]; omega), grd_in (by omega) (by omega), nI_add, grd_in (by omega) (by omega), nI_clamp (by omega), nI_clamp (by omega), q2 b hb1 hb2, nm_q, grd_in (by omega) (by omega), nm_q, nm_q, nI_1])
    (fun k τ h => ⟨τ, by rw [G_st, if_pos (by decide)], h⟩) 8 0 F σ rfl (by omega) ⟨rfl, fun _ _ _ => rfl, fun j => by rw [if_neg (by omega)], fun j => by rw [if_neg (by omega)]⟩
  have hn1 := nI_m1 (n := c) (by omega)
  rw [G_store, if_neg hn1]
  simp only [nm_q]
  rw [show (9 : Int32) = nI 9 from rfl, pk_mul, ← nI_0, e1, Option.bind_some, show (8 : Int32) = nI 8 from rfl, nI_add, grd_in (by omega) (by omega), grd_in (by omega) (by omega), grd_in (by omega) (by omega), nI_clamp (by omega), nI_clamp (by omega), e_RK_checkOf c hF h11 hc, Option.bind_some, grd_in (by omega) (by omega), grd_in (by omega) (by omega), grd_in (by omega) (by omega)]
  refine ⟨_, rfl, ?_⟩
  have ew : crcW (fun i => (stL (stL τ 12 (c * 9 + 8) 0) 11 (c * 9 + 8) (nI t).toInt64).2 11 (c * 9 + i)) = crcW (w0 t (σ.2 b)) := by
    unfold crcW
    rw [crcB_congr (c := byR (w0 t (σ.2 b)))]
    intro j _ hj
    unfold byR w0
    show by_ ((stL (stL τ 12 (c * 9 + 8) 0) 11 (c * 9 + 8) (nI t).toInt64).2 11 (c * 9 + j / 8)) (j % 8) = _
    rw [stL_s, updL_a, stL_2 11 (by decide), i3]
    by_cases e : j / 8 < 8
    · rw [if_neg (by omega), if_pos (by omega), if_pos e, show c * 9 + j / 8 - c * 9 = j / 8 by omega]
    · rw [if_pos (by omega), if_neg e]
  refine ⟨fun a h1 h2 => ?_, ?_, ?_, fun a h1 h2 => ?_, fun j hj => ?_, fun j hj => ?_⟩
  · rw [stI_1 a h2, stI_1 a h1]
    show τ.1 a = σ.1 a
    rw [i1]
  · rw [stI_1 13 (by decide), stI_s]
    show upd (τ.1 13) c (nI 1) = _
    rw [i1]
  · rw [stI_s, stI_1 14 (by decide)]
    show upd (τ.1 14) c (nI 1) = _
    rw [i1]
  · show (stL _ 11 _ _).2 a = _
    rw [stL_2 a h1, stL_2 a h1, stL_2 a h2]
    exact i2 a h1 h2
  · constructor
    · show (stL _ 11 _ _).2 11 j = _
      rw [stL_s, updL_n (by omega), stL_s, updL_n (by omega), stL_2 11 (by decide), i3, if_neg (by omega)]
    · rw [stI_2, stI_2, stL_2 12 (by decide), stL_2 12 (by decide), stL_s, updL_n (by omega), i4, if_neg (by omega)]
  · constructor
    · rw [stI_2, stI_2, stL_2 12 (by decide), stL_2 12 (by decide), stL_s, updL_a, i4]
      by_cases e : j = 8
      · rw [if_pos (by omega)]
      · rw [if_neg (by omega), if_pos (by omega)]
    · show (stL _ 11 _ _).2 11 (c * 9 + j) = (if j < 8 then σ.2 b j else tw t (σ.2 b)) ^^^ zr j
      rw [show zr j = 0 from rfl, Int64.xor_zero, stL_s, updL_a]
      by_cases e : j = 8
      · rw [if_pos (by omega), if_neg (by omega), ew, stL_s, updL_s]
        rfl
      · rw [if_neg (by omega), if_pos (by omega), stL_s, updL_n (by omega), stL_2 11 (by decide), i3, if_pos (by omega), show c * 9 + j - c * 9 = j by omega]
