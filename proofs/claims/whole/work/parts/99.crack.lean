/-- the rack as it is made -/
def tgf (N : Nat) (hd : Nat → Nat → Nat) (o d : Nat) : Nat := match srch (fun p => decide (hd o p = d)) N 0 with
  | none => 0
  | some p => p + 1
def K0 (D R N : Nat) (hd : Nat → Nat → Nat) : Rk := fun d o => if d < D ∧ o ≤ R then some ((if o < R then tgf N hd o d else 0), zr, zr) else none
theorem tgf_at {D W R G : Nat} {hd : Nat → Nat → Nat} (ge : Geo D W R G hd) {row q : Nat} (hq : q < D) : tgf (W * G) hd row (hd row q) = if q < W * G then q + 1 else 0 := by
  obtain ⟨⟨_, _⟩, ⟨_, _, _⟩, ⟨_, _⟩, ⟨_, _⟩, ⟨_, _⟩, _, _, _, _⟩ := ge.num
  have inj := ge.2.2.2.2.2.1
  unfold tgf
  by_cases e : q < W * G
  · rw [if_pos e, srch_at (f := fun p => decide (hd row p = hd row q)) (m := W * G) (a := 0) (i := q) (Nat.zero_le _) (by omega) (decide_eq_true rfl) (fun j _ hj => decide_eq_false (fun z => by have := inj row j q (by omega) hq z; omega))]
  · rw [if_neg e, srch_no (f := fun p => decide (hd row p = hd row q)) (m := W * G) (a := 0) (fun j _ hj => decide_eq_false (fun z => by have := inj row j q (by omega) hq z; omega))]
section CC
variable {F : Nat} {n : Nat → Nat} {σ : HS} {D W R G : Nat} {hd : Nat → Nat → Nat}
theorem e_wa55 {σb : HS} (ge : Geo D W R G hd) (lw : LW D R n) (g : cGeo D W R G hd σb) (ws : WS σb σ) (hF : 100 ≤ F) {p t : Nat} (hp : p < D) (h0 : CE (hd 0 p * (R + 1) + 0) t σ) : ∃ τ, D_RK_writeAll_L55 F n (nI (hd 0 p * (R + 1) + 0)) (nI p) F σ (nI 1) = some τ ∧ WS σb τ ∧ (∀ row, row < R → CE (hd row p * (R + 1) + row) t τ) ∧ ∀ c1 t1, (∀ row, row < R → c1 ≠ hd row p * (R + 1) + row) → CE c1 t1 σ → CE c1 t1 τ := by
  have gn := ge.num
  have hh := ge.2.2.2.2.1
  obtain ⟨⟨_, _⟩, ⟨_, _, _⟩, ⟨_, _⟩, ⟨_, _⟩, ⟨_, _⟩, _, _, _, _⟩ := id gn
  exact lp (L := D_RK_writeAll_L55 F n (nI (hd 0 p * (R + 1) + 0)) (nI p)) (N := R) (I := fun m τ => 1 ≤ m ∧ WS σb τ ∧ (∀ row, row < m → CE (hd row p * (R + 1) + row) t τ) ∧ ∀ c1 t1, (∀ row, row < R → c1 ≠ hd row p * (R + 1) + row) → CE c1 t1 σ → CE c1 t1 τ) (Q := fun τ => WS σb τ ∧ (∀ row, row < R → CE (hd row p * (R + 1) + row) t τ) ∧ ∀ c1 t1, (∀ row, row < R → c1 ≠ hd row p * (R + 1) + row) → CE c1 t1 σ → CE c1 t1 τ)
    (fun k τ row hr ⟨q0, q1, q2, q3⟩ => by
      have g1 : cGeo D W R G hd τ := g.congr (q1.1 1 (by decide) (by decide)) (q1.1 9 (by decide) (by decide))
      have i1 := idx_c gn (hh 0 p) (show 0 ≤ R by omega)
      have i2 := idx_c gn (hh row p) (show row ≤ R by omega)
      have i3 := lt2 hr hp
      obtain ⟨υ, u1, u2, u3, u4⟩ := e_like (F := F) lw q1 (c := hd row p * (R + 1) + row) i1.1 i2.1 (by omega) (q2 0 (by omega))
      refine Or.inl ⟨υ, ⟨by omega, u2, fun r hr1 => ?_, fun c1 t1 hne h => u4 c1 t1 (hne row hr) (q3 c1 t1 hne h)⟩, ?_⟩
      · by_cases e : r = row
        · rw [e]; exact u3
        · exact u4 _ _ (fun z => e (cell_inj (R := R) (by omega) (by omega) z).2) (q2 r (by omega))
      · have l9 : n 9 = R * D := lw.1
        rw [D_RK_writeAll_L55, g1.1.2.2.1, if_neg (by rw [nI_leI (by omega) (by omega)]; omega), e_LA_slot g1, Option.bind_some, grd_in (by omega) (by omega), nI_clamp (by omega), g1.2 row p hr hp, u1, Option.bind_some, nm_q, nI_1])
    (fun k τ ⟨q0, q1, q2, q3⟩ => by
      have g1 : cGeo D W R G hd τ := g.congr (q1.1 1 (by decide) (by decide)) (q1.1 9 (by decide) (by decide))
      exact ⟨τ, by rw [D_RK_writeAll_L55, g1.1.2.2.1, if_pos (Int32.le_refl _)], q1, q2, q3⟩)
    (R - 1) 1 F σ (by omega) (by omega) ⟨Nat.le_refl _, ws, fun row hr => by
      have : row = 0 := by omega
      subst this
      exact h0, fun _ _ _ h => h⟩
theorem e_writeAll (ge : Geo D W R G hd) (l9 : n 9 = R * D) (l11 : n 11 = D * (R + 1) * 9) (l12 : n 12 = D * (R + 1) * 9) (l13 : n 13 = D * (R + 1)) (l14 : n 14 = D * (R + 1)) (g : cGeo D W R G hd σ) (hz : ∀ j, σ.2 12 j = 0) (hF : 100 ≤ F) : ∃ τ, D_RK_writeAll F n σ = some (setA n 17 8, τ) ∧ (∀ a, a ≠ 13 → a ≠ 14 → a ≠ 17 → τ.1 a = σ.1 a) ∧ cK D R (K0 D R (W * G) hd) τ := by
  have gn := ge.num
  have hh := ge.2.2.2.2.1
  have inj := ge.2.2.2.2.2.1
  obtain ⟨⟨_, _⟩, ⟨_, _, _⟩, ⟨_, _⟩, ⟨_, _⟩, ⟨_, _⟩, _, _, _, _⟩ := id gn
  have lw : LW D R (setA n 17 8) := ⟨by rw [setA_n _ _ (by decide)]; exact l9, by rw [setA_n _ _ (by decide)]; exact l11, by rw [setA_n _ _ (by decide)]; exact l12, by rw [setA_n _ _ (by decide)]; exact l13, by rw [setA_n _ _ (by decide)]; exact l14, setA_s _ _ _⟩
  have gb : cGeo D W R G hd (zC σ 17) := g.congr (yC_1 17 1 (by decide)) (yC_1 17 9 (by decide))
  have ws0 : WS (zC σ 17) (zC σ 17) := ⟨fun _ _ _ => rfl, fun i _ => yC_s2 17 i, fun j => by rw [yC_2 17 12 (by decide)]; exact hz j⟩
  have h9 : setA n 17 8 9 = R * D := lw.1
  obtain ⟨τ, t1, t2, t3⟩ := lp (L := D_RK_writeAll_L7 F (setA n 17 8)) (N := D) (I := fun m τ => WS (zC σ 17) τ ∧ ∀ row q, row < R → q < m → CE (hd row q * (R + 1) + row) (if q < W * G then q + 1 else 0) τ) (Q := fun τ => WS (zC σ 17) τ ∧ ∀ row q, row < R → q < D → CE (hd row q * (R + 1) + row) (if q < W * G then q + 1 else 0) τ)
    (fun k τ p hp ⟨q1, q2⟩ => by
      have g1 : cGeo D W R G hd τ := gb.congr (q1.1 1 (by decide) (by decide)) (q1.1 9 (by decide) (by decide))
      have i1 := idx_c gn (hh 0 p) (show 0 ≤ R by omega)
      have i3 := lt2 (show 0 < R by omega) hp
      obtain ⟨υ, u1, u2, u3, u4⟩ := e_st17 (F := F) (t := if p < W * G then p + 1 else 0) lw q1 hF i1.1 i1.2
      obtain ⟨ω, w1, w2, w3, w4⟩ := e_wa55 (F := F) ge lw gb u2 hF hp u3
      refine Or.inl ⟨ω, ⟨w2, fun row q hr hq => ?_⟩, ?_⟩
      · by_cases e : q = p
        · rw [e]; exact w3 row hr
        · refine w4 _ _ (fun r hr1 z => ?_) (u4 _ _ (fun z => ?_) (q2 row q hr (by omega)))
          · obtain ⟨z1, z2⟩ := cell_inj (R := R) (by omega) (by omega) z
            subst z2
            exact e (inj row q p (by omega) hp z1)
          · obtain ⟨z1, z2⟩ := cell_inj (R := R) (by omega) (by omega) z
            subst z2
            exact e (inj 0 q p (by omega) hp z1)
      · have w1 : D_RK_writeAll_L55 F (setA n 17 8) (nI (hd 0 p * (R + 1) + 0)) (nI p) F υ 1 = some ω := w1
        have e9 : τ.1 9 p = nI (hd 0 p * (R + 1) + 0) := by
          have := g1.2 0 p (by omega) hp
          rw [Nat.zero_mul, Nat.zero_add] at this
          exact this
        rw [D_RK_writeAll_L7, g1.1.1, if_neg (by rw [nI_leI (by omega) (by omega)]; omega), grd_in (by omega) (by omega), nI_clamp (by omega), e9]
        simp only [nm_q, jn_q, nI_1]
        rw [g1.1.2.2.2.2.2.2.1]
        by_cases e : p < W * G
        · rw [if_neg (by rw [nI_leI (by omega) (by omega)]; omega)]
          rw [if_pos e] at u1
          rw [u1, Option.bind_some, w1, Option.bind_some]
        · rw [if_pos (by rw [nI_leI (by omega) (by omega)]; omega)]
          rw [if_neg e] at u1
          rw [show D_RK_store_17 F (setA n 17 8) τ (nI (hd 0 p * (R + 1) + 0)) 0 = some υ from u1, Option.bind_some, w1, Option.bind_some])
    (fun k τ ⟨q1, q2⟩ => by
      have g1 : cGeo D W R G hd τ := gb.congr (q1.1 1 (by decide) (by decide)) (q1.1 9 (by decide) (by decide))
      exact ⟨τ, by rw [D_RK_writeAll_L7, g1.1.1, if_pos (Int32.le_refl _)], q1, q2⟩)
    D 0 F (zC σ 17) (Nat.zero_add _) (by omega) ⟨ws0, fun _ q _ h => by omega⟩
  have t1 : D_RK_writeAll_L7 F (setA n 17 8) F (zC σ 17) 0 = some τ := t1
  have g1 : cGeo D W R G hd τ := gb.congr (t2.1 1 (by decide) (by decide)) (t2.1 9 (by decide) (by decide))
  have iR : ∀ d, d < D → d * (R + 1) + R < D * (R + 1) ∧ d * (R + 1) + R < 1040 := fun d hd1 => idx_c gn hd1 (Nat.le_refl R)
  obtain ⟨υ, u1, u2, u3, u4⟩ := e_st17 (F := F) (c := 0 * (R + 1) + R) (t := 0) lw t2 hF (iR 0 (by omega)).1 (iR 0 (by omega)).2
  obtain ⟨ω, w1, w2, w3, w4⟩ := lp (L := D_RK_writeAll_L118 F (setA n 17 8)) (N := D) (I := fun m ω => 1 ≤ m ∧ WS (zC σ 17) ω ∧ (∀ d, d < m → CE (d * (R + 1) + R) 0 ω) ∧ ∀ row q, row < R → q < D → CE (hd row q * (R + 1) + row) (if q < W * G then q + 1 else 0) ω) (Q := fun ω => WS (zC σ 17) ω ∧ (∀ d, d < D → CE (d * (R + 1) + R) 0 ω) ∧ ∀ row q, row < R → q < D → CE (hd row q * (R + 1) + row) (if q < W * G then q + 1 else 0) ω)
    (fun k ω d hd1 ⟨q0, q1, q2, q3⟩ => by
      have g2 : cGeo D W R G hd ω := gb.congr (q1.1 1 (by decide) (by decide)) (q1.1 9 (by decide) (by decide))
      obtain ⟨χ, x1, x2, x3, x4⟩ := e_like (F := F) lw q1 (c := d * (R + 1) + R) (iR 0 (by omega)).1 (iR d hd1).1 (by omega) (q2 0 (by omega))
      refine Or.inl ⟨χ, ⟨by omega, x2, fun d1 h1 => ?_, fun row q hr hq => x4 _ _ (fun z => by have := (cell_inj (R := R) (by omega) (Nat.le_refl R) z).2; omega) (q3 row q hr hq)⟩, ?_⟩
      · by_cases e : d1 = d
        · rw [e]; exact x3
        · exact x4 _ _ (fun z => e (cell_inj (R := R) (Nat.le_refl R) (Nat.le_refl R) z).1) (q2 d1 (by omega))
      · have e0 : D_LA_logOf F (setA n 17 8) ω 0 = some (nI (0 * (R + 1) + R)) := e_LA_logOf g2 0
        rw [D_RK_writeAll_L118, g2.1.1, if_neg (by rw [nI_leI (by omega) (by omega)]; omega), e0, Option.bind_some, e_LA_logOf g2, Option.bind_some, x1, Option.bind_some, nm_q, nI_1])
    (fun k ω ⟨q0, q1, q2, q3⟩ => by
      have g2 : cGeo D W R G hd ω := gb.congr (q1.1 1 (by decide) (by decide)) (q1.1 9 (by decide) (by decide))
      exact ⟨ω, by rw [D_RK_writeAll_L118, g2.1.1, if_pos (Int32.le_refl _)], q1, q2, q3⟩)
    (D - 1) 1 F υ (by omega) (by omega) ⟨Nat.le_refl _, u2, fun d hd1 => by
      have : d = 0 := by omega
      subst this
      exact u3, fun row q hr hq => u4 _ _ (fun z => by have := (cell_inj (R := R) (by omega) (Nat.le_refl R) z).2; omega) (t3 row q hr hq)⟩
  have w1 : D_RK_writeAll_L118 F (setA n 17 8) F υ 1 = some ω := w1
  have u1 : D_RK_store_17 F (setA n 17 8) τ (nI (0 * (R + 1) + R)) 0 = some υ := u1
  refine ⟨ω, ?_, fun a h1 h2 h3 => by rw [w2.1 a h1 h2]; exact yC_1 17 a h3, fun d o hd1 ho => ?_⟩
  · have e0 : D_LA_logOf F (setA n 17 8) τ 0 = some (nI (0 * (R + 1) + R)) := e_LA_logOf g1 0
    rw [D_RK_writeAll, grd_t (by decide)]
    simp only [nm_q]
    rw [show ((8 : Int32)).toNatClampNeg = 8 from rfl, t1, Option.bind_some, e0, Option.bind_some, u1, Option.bind_some, w1, Option.bind_some]
  · unfold K0
    rw [if_pos ⟨hd1, ho⟩]
    by_cases e : o < R
    · rw [if_pos e]
      obtain ⟨q, hq, rfl⟩ := ge.2.2.2.2.2.2 o d hd1
      rw [tgf_at ge hq]
      exact w4 o q e hq
    · rw [if_neg e]
      have : o = R := by omega
      subst this
      exact w3 d hd1
theorem e_RK_init (ge : Geo D W R G hd) (l9 : n 9 = R * D) (g : cGeo D W R G hd σ) (hF : 100 ≤ F) : ∃ n1 τ, D_RK_init F n σ = some (n1, τ) ∧ (n1 9 = R * D ∧ n1 10 = D ∧ n1 11 = D * (R + 1) * 9 ∧ n1 12 = D * (R + 1) * 9 ∧ n1 13 = D * (R + 1) ∧ n1 14 = D * (R + 1)) ∧ cGeo D W R G hd τ ∧ cLive D (fun d => decide (d < D)) τ ∧ cK D R (K0 D R (W * G) hd) τ := by
  have gn := ge.num
  obtain ⟨⟨_, _⟩, ⟨_, _, _⟩, ⟨_, _⟩, ⟨_, _⟩, ⟨_, _⟩, _, _, _, _⟩ := id gn
  have x0 : ∀ τ : HS, τ.1 1 = σ.1 1 → τ.1 1 0 = nI D := fun τ h => by rw [h]; exact g.1.1
  have x8 : ∀ τ : HS, τ.1 1 = σ.1 1 → τ.1 1 8 = nI (D * (R + 1)) := fun τ h => by rw [h]; exact g.1.2.2.2.2.2.2.2.2
  have a2 : (zC σ 10).1 1 = σ.1 1 := yC_1 10 1 (by decide)
  have a4 : (zC (zC σ 10) 11).1 1 = σ.1 1 := by rw [yC_1 11 1 (by decide)]; exact a2
  have a6 : (zC (zC (zC σ 10) 11) 12).1 1 = σ.1 1 := by rw [yC_1 12 1 (by decide)]; exact a4
  have a8 : (zC (zC (zC (zC σ 10) 11) 12) 13).1 1 = σ.1 1 := by rw [yC_1 13 1 (by decide)]; exact a6
  rw [D_RK_init, x0 σ rfl, grd_t (okN_t (by omega) (by omega))]
  simp only [nm_q]
  rw [x8 _ a2, x8 _ a4, x8 _ a6, x8 _ a8, show (9 : Int32) = nI 9 from rfl, pk_mul, grd_t (okN_t (by omega) (by omega)), grd_t (okN_t (by omega) (by omega)), grd_t (okN_t (by omega) (by omega)), grd_t (okN_t (by omega) (by omega)), nI_clamp (by omega), nI_clamp (by omega), nI_clamp (by omega)]
  generalize hn' : setA (setA (setA (setA (setA n 10 D) 11 (D * (R + 1) * 9)) 12 (D * (R + 1) * 9)) 13 (D * (R + 1))) 14 (D * (R + 1)) = n'
  have m9 : n' 9 = R * D := by rw [← hn', setA_n _ _ (by decide), setA_n _ _ (by decide), setA_n _ _ (by decide), setA_n _ _ (by decide), setA_n _ _ (by decide)]; exact l9
  have m10 : n' 10 = D := by rw [← hn', setA_n _ _ (by decide), setA_n _ _ (by decide), setA_n _ _ (by decide), setA_n _ _ (by decide), setA_s]
  have m11 : n' 11 = D * (R + 1) * 9 := by rw [← hn', setA_n _ _ (by decide), setA_n _ _ (by decide), setA_n _ _ (by decide), setA_s]
  have m12 : n' 12 = D * (R + 1) * 9 := by rw [← hn', setA_n _ _ (by decide), setA_n _ _ (by decide), setA_s]
  have m13 : n' 13 = D * (R + 1) := by rw [← hn', setA_n _ _ (by decide), setA_s]
  have m14 : n' 14 = D * (R + 1) := by rw [← hn', setA_s]
  generalize hσ' : stC (zC (zC (zC (zC (zC σ 10) 11) 12) 13) 14) 2 _ = σ'
  have b1 : ∀ a, a ≠ 2 → a ≠ 10 → a ≠ 11 → a ≠ 12 → a ≠ 13 → a ≠ 14 → σ'.1 a = σ.1 a := fun a h2 h10 h11 h12 h13 h14 => by
    rw [← hσ', ytC_1 2 _ a h2, yC_1 14 a h14, yC_1 13 a h13, yC_1 12 a h12, yC_1 11 a h11, yC_1 10 a h10]
  have b12 : ∀ j, σ'.2 12 j = 0 := fun j => by
    rw [← hσ']
    show (zC (zC (zC (zC (zC σ 10) 11) 12) 13) 14).2 12 j = 0
    rw [yC_2 14 12 (by decide), yC_2 13 12 (by decide), yC_s2]
  have g' : cGeo D W R G hd σ' := g.congr (b1 1 (by decide) (by decide) (by decide) (by decide) (by decide) (by decide)) (b1 9 (by decide) (by decide) (by decide) (by decide) (by decide) (by decide))
  obtain ⟨τ, t1, t2, t3, t4⟩ := lp (L := D_RK_init_L67 F n') (N := D) (I := fun m τ => (∀ a, a ≠ 10 → τ.1 a = σ'.1 a) ∧ τ.2 = σ'.2 ∧ ∀ d, d < m → τ.1 10 d = nI 1) (Q := fun τ => (∀ a, a ≠ 10 → τ.1 a = σ'.1 a) ∧ τ.2 = σ'.2 ∧ ∀ d, d < D → τ.1 10 d = nI 1)
    (fun k τ d hd1 ⟨q1, q2, q3⟩ => by
      have g1 : cGeo D W R G hd τ := g'.congr (q1 1 (by decide)) (q1 9 (by decide))
      refine Or.inl ⟨stI τ 10 d (nI 1), ⟨fun a h => by rw [stI_1 a h]; exact q1 a h, q2, fun e he => ?_⟩, ?_⟩
      · rw [stI_s, upd_a]
        by_cases z : e = d
        · rw [if_pos z]
        · rw [if_neg z]; exact q3 e (by omega)
      · rw [D_RK_init_L67, g1.1.1, if_neg (by rw [nI_leI (by omega) (by omega)]; omega), grd_in (by omega) (by omega), nI_clamp (by omega), nm_q, nm_q, nI_1]; rfl)
    (fun k τ ⟨q1, q2, q3⟩ => by
      have g1 : cGeo D W R G hd τ := g'.congr (q1 1 (by decide)) (q1 9 (by decide))
      exact ⟨τ, by rw [D_RK_init_L67, g1.1.1, if_pos (Int32.le_refl _)], q1, q2, q3⟩)
    D 0 F σ' (Nat.zero_add _) (by omega) ⟨fun _ _ => rfl, rfl, fun d h => by omega⟩
  have t1 : D_RK_init_L67 F n' F σ' 0 = some τ := t1
  have g1 : cGeo D W R G hd τ := g'.congr (t2 1 (by decide)) (t2 9 (by decide))
  obtain ⟨υ, u1, u2, u3⟩ := e_writeAll (F := F) ge m9 m11 m12 m13 m14 g1 (fun j => by rw [t3]; exact b12 j) hF
  rw [t1, Option.bind_some, u1, Option.bind_some]
  refine ⟨setA n' 17 8, υ, rfl, ⟨by rw [setA_n _ _ (by decide)]; exact m9, by rw [setA_n _ _ (by decide)]; exact m10, by rw [setA_n _ _ (by decide)]; exact m11, by rw [setA_n _ _ (by decide)]; exact m12, by rw [setA_n _ _ (by decide)]; exact m13, by rw [setA_n _ _ (by decide)]; exact m14⟩, g1.congr (u2 1 (by decide) (by decide) (by decide)) (u2 9 (by decide) (by decide) (by decide)), fun d hd1 => ?_, u3⟩
  rw [u2 10 (by decide) (by decide) (by decide), t4 d hd1]
  show nI 1 = b2i (decide (d < D))
  rw [decide_eq_true hd1]; rfl
end CC
