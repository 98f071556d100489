section MFE
variable {D W R G : Nat} {hd : Nat → Nat → Nat} {F : Nat} {n : Nat → Nat} {σ : HS} {tb nx cb : Nat} {tp ol : Nat → Int64} {V : Nat → Nat → Int64} {dp : Bool}
/-- the tape, with m bytes of v behind -/
def tpx (tb : Nat) (tp : Nat → Int64) (m : Nat) (v : Int64) : Nat → Int64 := fun i => tp i ^^^ msk tb v m i
theorem byR_tpx {m : Nat} {v : Int64} (hm : m ≤ 8) (k : Nat) : byR (tpx tb tp m v) k = byR tp k ^^^ (if tb ≤ k ∧ k < tb + m then by_ v (k - tb) else 0) := by
  rw [← byR_msk hm]
  exact byR_xor tp (msk tb v m) k
theorem zt.feed (h : zt tb tp) {m : Nat} {v : Int64} (hm : m ≤ 8) (h64 : tb + m ≤ 64) : zt (tb + m) (tpx tb tp m v) := by
  refine ⟨h64, fun k h1 h2 => ?_⟩
  rw [byR_tpx hm, h.2 k (by omega) h2, if_neg (by omega)]; rfl
theorem e_MD_feed53 (hn : n 27 = 64) (hF : 100 ≤ F) (mx : MX W R G tb tp nx V ol cb dp σ) (ht : zt tb tp) {m : Nat} (v : Int64) (hm : m ≤ 8) (h64 : tb + m ≤ 64) : ∃ τ, D_MD_feed_L53 F n (nI m) v F σ (nI 0) = some τ ∧ FG [27] [] σ τ ∧ ∀ k, k < tb + m → τ.1 27 k = byR (tpx tb tp m v) k := by
  obtain ⟨⟨a1, a2, a3, a4⟩, c1, c2, c3⟩ := mx
  exact lp (L := D_MD_feed_L53 F n (nI m) v) (N := m) (I := fun i τ => FG [27] [] σ τ ∧ (∀ k, k < tb → τ.1 27 k = byR tp k) ∧ ∀ k, tb ≤ k → k < tb + i → τ.1 27 k = by_ v (k - tb)) (Q := fun τ => FG [27] [] σ τ ∧ ∀ k, k < tb + m → τ.1 27 k = byR (tpx tb tp m v) k)
    (fun k τ i hi ⟨f1, f2, f3⟩ => by
      refine Or.inl ⟨stI τ 27 (tb + i) (by_ v i), ⟨⟨fun a e e2 => ?_, f1.2.1, fun j e => ?_⟩, fun j hj => ?_, fun j h1 h2 => ?_⟩, ?_⟩
      · rw [stI_1 a (fun z => e (by simp [z]))]; exact f1.1 a e e2
      · rw [stI_1 20 (by decide)]; exact f1.2.2 j e
      · rw [stI_s, upd_n (by omega)]; exact f2 j hj
      · rw [stI_s, upd_a]
        by_cases e : j = tb + i
        · rw [if_pos e, e, show tb + i - tb = i by omega]
        · rw [if_neg e]; exact f3 j h1 (by omega)
      · have h64 := ht.1
        rw [D_MD_feed_L53, if_neg (by rw [nI_leI (by omega) (by omega)]; omega), f1.2.2 17 (by simp), a2, nI_add, grd_in (by omega) (by omega), nI_clamp (by omega), show (8 : Int32) = nI 8 from rfl, pk_mul, by_s (by omega), nm_q, nm_q, nI_1])
    (fun k τ ⟨f1, f2, f3⟩ => ⟨τ, by rw [D_MD_feed_L53, if_pos (Int32.le_refl _)], f1, fun j hj => by
      rw [byR_tpx hm]
      by_cases e : j < tb
      · rw [f2 j e, if_neg (by omega), Int32.xor_zero]
      · rw [f3 j (by omega) hj, if_pos (by omega), ht.2 j (by omega) (by omega), Int32.zero_xor]⟩)
    m 0 F σ (Nat.zero_add _) (by omega) ⟨FG.rf, c1, fun k h1 h2 => by omega⟩
/-- the word that eight bytes make -/
theorem word_step (x w : Int64) {k : Nat} (hk : k < 8) (h : ∀ i, i < 64 → gb x i = gb w (8 * (k + 1) + i)) : ∀ i, i < 64 → gb ((x <<< ((nI 8).toInt64 &&& 63)) ||| (by_ w k).toInt64) i = gb w (8 * k + i) := by
  intro i hi
  rw [gb_or, gb_shl (by omega) _ hi, gb_by hk _ hi]
  by_cases e : i < 8
  · rw [decide_eq_false (by omega), decide_eq_true e]; simp
  · rw [decide_eq_true (by omega), decide_eq_false e, h (i - 8) (by omega), show 8 * (k + 1) + (i - 8) = 8 * k + i by omega]; simp
theorem e_MD_read63 (hn : n 28 = 49152) (hF : 100 ≤ F) (mx : MX W R G tb tp nx V ol cb dp σ) (h768 : R * G * (W - 1) ≤ 768) {b q : Nat} (hb : b < R * G * (W - 1)) (hq : q < 8) : D_MD_read_L63 F n σ (nI b) (nI q) F (nI 7) 0 = some (V b q) := by
  obtain ⟨⟨a1, a2, a3, a4⟩, c1, c2, c3⟩ := mx
  have key : ∀ k f x, k < 8 → k + 1 < f → (∀ i, i < 64 → gb x i = gb (V b q) (8 * (k + 1) + i)) → D_MD_read_L63 F n σ (nI b) (nI q) f (nI k) x = some (V b q) := by
    intro k
    induction k with
    | zero =>
      intro f x hk hf h
      obtain ⟨f, rfl⟩ : ∃ j, f = j + 1 := ⟨f - 1, by omega⟩
      obtain ⟨f, rfl⟩ : ∃ j, f = j + 1 := ⟨f - 1, by omega⟩
      rw [D_MD_read_L63, if_neg (nI_pos (by omega)), show (64 : Int32) = nI 64 from rfl, show (8 : Int32) = nI 8 from rfl, pk_mul, pk_mul, nI_add, nI_add, grd_in (by omega) (by omega), nI_clamp (by omega), show 64 * b + 8 * q + 0 = 64 * b + (8 * q + 0) by omega, c2 b (8 * q + 0) hb (by omega)]
      simp only [nm_q]
      rw [show nI 0 + (-1 : Int32) = -1 from rfl, D_MD_read_L63, if_pos (by decide)]
      congr 1
      unfold byR
      rw [show (8 * q + 0) / 8 = q by omega, show (8 * q + 0) % 8 = 0 by omega]
      apply gb_ext
      intro i hi
      rw [word_step x (V b q) (by omega) h i hi]
      congr 1; omega
    | succ k ih =>
      intro f x hk hf h
      obtain ⟨f, rfl⟩ : ∃ j, f = j + 1 := ⟨f - 1, by omega⟩
      rw [D_MD_read_L63, if_neg (nI_pos (by omega)), show (64 : Int32) = nI 64 from rfl, show (8 : Int32) = nI 8 from rfl, pk_mul, pk_mul, nI_add, nI_add, grd_in (by omega) (by omega), nI_clamp (by omega), show 64 * b + 8 * q + (k + 1) = 64 * b + (8 * q + (k + 1)) by omega, c2 b (8 * q + (k + 1)) hb (by omega)]
      simp only [nm_q]
      rw [pk_m1]
      refine ih f _ (by omega) (by omega) ?_
      unfold byR
      rw [show (8 * q + (k + 1)) / 8 = q by omega, show (8 * q + (k + 1)) % 8 = k + 1 by omega]
      exact word_step x (V b q) hk h
  exact key 7 F 0 (by omega) (by omega) (fun i hi => by rw [gb_0, gb_big (by omega)])
end MFE
