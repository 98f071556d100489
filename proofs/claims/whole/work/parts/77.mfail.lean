section MFA
variable {D W R G : Nat} {hd : Nat → Nat → Nat} {F : Nat} {n : Nat → Nat} {σ : HS} {s : PS} {pl : Nat → Nat → Option Nat} {live : Nat → Bool} {tb nx cb : Nat} {tp ol : Nat → Int64} {V : Nat → Nat → Int64} {dp : Bool}
theorem e_fails (b : Bool) (c : Int32) : D_MD_fails F n σ (b2i b) c = some (stF σ 20 0 (if b = true then c else 0), b2i b) := by
  rw [D_MD_fails]
  simp only [nm_q, isB_g]
  cases b
  · rw [if_pos (by rfl), if_neg (by decide)]
  · rw [if_neg (by decide), if_pos rfl]
theorem e_MD_fail123 (cx : Ctx D W R G hd n F) (g : mGeo D W R G hd σ) (hon : σ.1 20 12 = nI 1) (hpl : ∀ row p, row < R → p < W * G → σ.1 26 (16 * row + p) = pI (pl row p)) (pw : PW D R (W * G) pl) {x : Nat} (hx : x < D) : ∃ τ, D_MD_fail_L123 F n (nI x) F σ (nI 0) = some τ ∧ FG [26] [] σ τ ∧ ∀ row p, row < R → p < W * G → τ.1 26 (16 * row + p) = pI (rmP pl x row p) := by
  obtain ⟨ge, ln, hF⟩ := id cx
  obtain ⟨⟨_, _⟩, ⟨_, _, _⟩, ⟨_, _⟩, ⟨_, _⟩, ⟨_, _⟩, _, _, _, _⟩ := ge.num
  have n26 : n 26 = 1024 := ln.2.2.2.2.2.2.1
  exact lp (L := D_MD_fail_L123 F n (nI x)) (N := 16 * R) (I := fun i τ => FG [26] [] σ τ ∧ ∀ row p, row < R → p < W * G → τ.1 26 (16 * row + p) = if 16 * row + p < i then pI (rmP pl x row p) else pI (pl row p)) (Q := fun τ => FG [26] [] σ τ ∧ ∀ row p, row < R → p < W * G → τ.1 26 (16 * row + p) = pI (rmP pl x row p))
    (fun k τ i hi ⟨f1, f2⟩ => by
      have g1 : mGeo D W R G hd τ := g.congr (fun j _ => f1.2.2 j (by simp)) (f1.1 21 (by decide) (by decide))
      have hst : D_MD_fail_L123 F n (nI x) (k + 1) τ (nI i) = if W * G ≤ i % 16 then D_MD_fail_L123 F n (nI x) k τ (nI (i + 1)) else if τ.1 26 i = nI x then D_MD_fail_L123 F n (nI x) k (stI τ 26 i (-1)) (nI (i + 1)) else D_MD_fail_L123 F n (nI x) k τ (nI (i + 1)) := by
        rw [D_MD_fail_L123, g1.1.2.2.1, show (16 : Int32) = nI 16 from rfl, pk_mul, if_neg (by rw [nI_leI (by omega) (by omega)]; omega), f1.2.2 12 (by simp), hon, if_neg (by decide), g1.1.2.1, g1.1.2.2.2, pk_mul, pk_rem (by omega) (by omega) (by omega)]
        simp only [nm_q, nI_1]
        by_cases e : W * G ≤ i % 16
        · rw [if_pos (by rw [nI_leI (by omega) (by omega)]; exact e), if_pos e]
        · rw [if_neg (by rw [nI_leI (by omega) (by omega)]; exact e), if_neg e, grd_in (by omega) (by omega), grd_in (by omega) (by omega), nI_clamp (by omega)]
      rw [hst]
      by_cases e : W * G ≤ i % 16
      · rw [if_pos e]
        refine Or.inl ⟨τ, ⟨f1, fun row p hr hp => ?_⟩, rfl⟩
        rw [f2 row p hr hp]
        by_cases z : 16 * row + p < i
        · rw [if_pos z, if_pos (by omega)]
        · rw [if_neg z, if_neg (by omega)]
      · rw [if_neg e]
        obtain ⟨row, p, hr, hp, rfl⟩ : ∃ row p, row < R ∧ p < W * G ∧ i = 16 * row + p := ⟨i / 16, i % 16, by omega, by omega, by omega⟩
        have v := f2 row p hr hp
        rw [if_neg (by omega)] at v
        rw [v]
        have sm : ∀ e, pl row p = some e → e < 2 ^ 31 := fun e z => by have := pw.1 row p e hr hp z; omega
        by_cases z : pl row p = some x
        · rw [if_pos ((pI_eq sm (by omega)).mpr z)]
          refine Or.inl ⟨stI τ 26 (16 * row + p) (-1), ⟨⟨fun a e e2 => ?_, f1.2.1, fun j e => ?_⟩, fun r q hr1 hq => ?_⟩, rfl⟩
          · rw [stI_1 a (fun z => e (by simp [z]))]; exact f1.1 a e e2
          · rw [stI_1 20 (by decide)]; exact f1.2.2 j e
          · rw [stI_s, upd_a]
            by_cases y : 16 * r + q = 16 * row + p
            · have y2 : r = row ∧ q = p := by omega
              rw [if_pos y, y2.1, y2.2, if_pos (by omega)]
              unfold rmP
              rw [if_pos z]; rfl
            · rw [if_neg y, f2 r q hr1 hq]
              by_cases y2 : 16 * r + q < 16 * row + p
              · rw [if_pos y2, if_pos (by omega)]
              · rw [if_neg y2, if_neg (by omega)]
        · rw [if_neg (fun w => z ((pI_eq sm (by omega)).mp w))]
          refine Or.inl ⟨τ, ⟨f1, fun r q hr1 hq => ?_⟩, rfl⟩
          rw [f2 r q hr1 hq]
          by_cases y : 16 * r + q = 16 * row + p
          · have y2 : r = row ∧ q = p := by omega
            rw [if_neg (by omega), if_pos (by omega), y2.1, y2.2]
            unfold rmP
            rw [if_neg z]
          · by_cases y2 : 16 * r + q < 16 * row + p
            · rw [if_pos y2, if_pos (by omega)]
            · rw [if_neg y2, if_neg (by omega)])
    (fun k τ ⟨f1, f2⟩ => by
      have g1 : mGeo D W R G hd τ := g.congr (fun j _ => f1.2.2 j (by simp)) (f1.1 21 (by decide) (by decide))
      exact ⟨τ, by rw [D_MD_fail_L123, g1.1.2.2.1, show (16 : Int32) = nI 16 from rfl, pk_mul, if_pos (Int32.le_refl _)], f1, fun row p hr hp => by rw [f2 row p hr hp, if_pos (by omega)]⟩)
    (16 * R) 0 F σ (Nat.zero_add _) (by omega) ⟨FG.rf, fun row p hr hp => by rw [if_neg (by omega)]; exact hpl row p hr hp⟩
theorem e_MD_fail123_off (cx : Ctx D W R G hd n F) (g : mGeo D W R G hd σ) (hon : σ.1 20 12 = nI 0) {x : Int32} : D_MD_fail_L123 F n x F σ (nI 0) = some σ := by
  obtain ⟨ge, ln, hF⟩ := id cx
  obtain ⟨⟨_, _⟩, ⟨_, _, _⟩, ⟨_, _⟩, ⟨_, _⟩, ⟨_, _⟩, _, _, _, _⟩ := ge.num
  obtain ⟨k, hk⟩ : ∃ k, F = k + 1 := ⟨F - 1, by omega⟩
  have : ∀ F1, D_MD_fail_L123 F1 n x F σ (nI 0) = some σ := by
    intro F1
    rw [hk, D_MD_fail_L123, hon, if_pos (show nI 0 = 0 from nI_0)]
    split <;> rfl
  exact this F
theorem e_MD_fail193 (cx : Ctx D W R G hd n F) (mx : MX W R G tb tp nx V ol cb true σ) (hcb : cb < R * G * (W - 1)) : ∃ τ, D_MD_fail_L193 F n F σ (nI 0) = some τ ∧ FG [28] [] σ τ ∧ ∀ b1 k, b1 < R * G * (W - 1) → k < 64 → τ.1 28 (64 * b1 + k) = byR (setV V cb ol b1) k := by
  obtain ⟨ge, ln, hF⟩ := id cx
  have h768 := nb768 ge.num
  have n28 : n 28 = 49152 := ln.2.2.2.2.2.2.2.2.1
  have n29 : n 29 = 64 := ln.2.2.2.2.2.2.2.2.2.1
  obtain ⟨⟨a1, a2, a3, a4⟩, c1, c2, c3⟩ := mx
  exact lp (L := D_MD_fail_L193 F n) (N := 64) (I := fun m τ => FG [28] [] σ τ ∧ ∀ b1 k, b1 < R * G * (W - 1) → k < 64 → τ.1 28 (64 * b1 + k) = if b1 = cb ∧ k < m then byR ol k else byR (V b1) k)
    (Q := fun τ => FG [28] [] σ τ ∧ ∀ b1 k, b1 < R * G * (W - 1) → k < 64 → τ.1 28 (64 * b1 + k) = byR (setV V cb ol b1) k)
    (fun k τ i hi ⟨f1, f3⟩ => by
      refine Or.inl ⟨stI τ 28 (64 * cb + i) (byR ol i), ⟨⟨fun a e e2 => ?_, f1.2.1, fun j e => ?_⟩, fun b1 j hb1 hj => ?_⟩, ?_⟩
      · rw [stI_1 a (fun z => e (by simp [z]))]; exact f1.1 a e e2
      · rw [stI_1 20 (by decide)]; exact f1.2.2 j e
      · rw [stI_s, upd_a, f3 b1 j hb1 hj]
        by_cases e : b1 = cb
        · by_cases e2 : j = i
          · rw [if_pos (by omega), if_pos (by omega), e2]
          · rw [if_neg (by omega)]
            by_cases e3 : j < i
            · rw [if_pos ⟨e, e3⟩, if_pos (by omega)]
            · rw [if_neg (by omega), if_neg (by omega)]
        · rw [if_neg (by omega), if_neg (fun z => e z.1), if_neg (fun z => e z.1)]
      · rw [D_MD_fail_L193, if_neg (by rw [show (64 : Int32) = nI 64 from rfl, nI_leI (by omega) (by omega)]; omega), f1.2.2 19 (by simp), a4 rfl, show (64 : Int32) = nI 64 from rfl, pk_mul, nI_add]
        simp only [nm_q, nI_1]
        rw [grd_in (by omega) (by omega), grd_in (by omega) (by omega), nI_clamp (by omega), nI_clamp (by omega), f1.1 29 (by decide) (by decide), c3 rfl i hi])
    (fun k τ ⟨f1, f3⟩ => ⟨τ, by rw [D_MD_fail_L193, if_pos (by decide)], f1, fun b1 j hb1 hj => by
      rw [f3 b1 j hb1 hj]
      unfold setV
      by_cases e : b1 = cb
      · rw [if_pos ⟨e, hj⟩, if_pos e]
      · rw [if_neg (fun z => e z.1), if_neg e]⟩)
    64 0 F σ (Nat.zero_add _) (by omega) ⟨FG.rf, fun b1 j hb1 hj => by rw [if_neg (by omega), c2 b1 j hb1 hj]⟩
theorem e_MD_rep84 (cx : Ctx D W R G hd n F) {x o : Nat} (hx : x < D) (ho : o ≤ R) : ∃ τ, D_MD_replace_L84 F n (nI o) (nI x) F σ (nI (70 * (65 * x + o))) = some τ ∧ (∀ a, a ≠ 25 → τ.1 a = σ.1 a) ∧ τ.2 = σ.2 ∧ ∀ i, i < 70 * (65 * x + o) ∨ 70 * (65 * x + o) + 70 ≤ i → τ.1 25 i = σ.1 25 i := by
  obtain ⟨ge, ln, hF⟩ := id cx
  obtain ⟨⟨_, _⟩, ⟨_, _, _⟩, ⟨_, _⟩, ⟨_, _⟩, ⟨_, _⟩, _, _, _, _⟩ := ge.num
  have n25 : n 25 = 72800 := ln.2.2.2.2.2.1
  exact lp (L := D_MD_replace_L84 F n (nI o) (nI x)) (N := 70 * (65 * x + o) + 70) (I := fun j τ => 70 * (65 * x + o) ≤ j ∧ (∀ a, a ≠ 25 → τ.1 a = σ.1 a) ∧ τ.2 = σ.2 ∧ ∀ i, i < 70 * (65 * x + o) ∨ 70 * (65 * x + o) + 70 ≤ i → τ.1 25 i = σ.1 25 i)
    (Q := fun τ => (∀ a, a ≠ 25 → τ.1 a = σ.1 a) ∧ τ.2 = σ.2 ∧ ∀ i, i < 70 * (65 * x + o) ∨ 70 * (65 * x + o) + 70 ≤ i → τ.1 25 i = σ.1 25 i)
    (fun k τ j hj ⟨q0, q1, q2, q3⟩ => by
      refine Or.inl ⟨stI τ 25 j (vp_nar .byte (0 : Int32)), ⟨by omega, fun a z => by rw [stI_1 a z]; exact q1 a z, q2, fun i hi => by rw [stI_s, upd_n (by omega)]; exact q3 i hi⟩, ?_⟩
      rw [D_MD_replace_L84, e_MD_at, Option.bind_some, show (70 : Int32) = nI 70 from rfl, pk_mul, nI_add, if_neg (by rw [nI_leI (by omega) (by omega)]; omega), grd_in (by omega) (by omega), nm_q, nm_q, nI_1, nI_clamp (by omega)])
    (fun k τ ⟨q0, q1, q2, q3⟩ => ⟨τ, by rw [D_MD_replace_L84, e_MD_at, Option.bind_some, show (70 : Int32) = nI 70 from rfl, pk_mul, nI_add, if_pos (Int32.le_refl _)], q1, q2, q3⟩)
    70 (70 * (65 * x + o)) F σ rfl (by omega) ⟨Nat.le_refl _, fun _ _ => rfl, rfl, fun _ _ => rfl⟩
theorem e_MD_rep45 (cx : Ctx D W R G hd n F) (g : mGeo D W R G hd σ) {x : Nat} (hx : x < D) : ∃ τ, D_MD_replace_L45 F n (nI x) F σ (nI 0) = some τ ∧ FG [23, 24, 25] [] σ τ ∧ (∀ o, o ≤ R → τ.1 23 (65 * x + o) = nI 0) ∧ (∀ i, i < 65 * x ∨ 65 * x + R < i → τ.1 23 i = σ.1 23 i ∧ τ.1 24 i = σ.1 24 i) ∧ ∀ i, i < 70 * (65 * x) ∨ 70 * (65 * x + R) + 70 ≤ i → τ.1 25 i = σ.1 25 i := by
  obtain ⟨ge, ln, hF⟩ := id cx
  obtain ⟨⟨_, _⟩, ⟨_, _, _⟩, ⟨_, _⟩, ⟨_, _⟩, ⟨_, _⟩, _, _, _, _⟩ := ge.num
  have n23 : n 23 = 1040 := ln.2.2.2.1
  have n24 : n 24 = 1040 := ln.2.2.2.2.1
  obtain ⟨τ, e1, f1, f2, f3, f4⟩ := lp (L := D_MD_replace_L45 F n (nI x)) (N := R + 1) (I := fun m τ => FG [23, 24, 25] [] σ τ ∧ (∀ o, o < m → τ.1 23 (65 * x + o) = nI 0) ∧ (∀ i, i < 65 * x ∨ 65 * x + R < i → τ.1 23 i = σ.1 23 i ∧ τ.1 24 i = σ.1 24 i) ∧ ∀ i, i < 70 * (65 * x) ∨ 70 * (65 * x + R) + 70 ≤ i → τ.1 25 i = σ.1 25 i)
    (Q := fun τ => FG [23, 24, 25] [] σ τ ∧ (∀ o, o < R + 1 → τ.1 23 (65 * x + o) = nI 0) ∧ (∀ i, i < 65 * x ∨ 65 * x + R < i → τ.1 23 i = σ.1 23 i ∧ τ.1 24 i = σ.1 24 i) ∧ ∀ i, i < 70 * (65 * x) ∨ 70 * (65 * x + R) + 70 ≤ i → τ.1 25 i = σ.1 25 i)
    (fun k τ o ho ⟨f1, f2, f3, f4⟩ => by
      have g1 : mGeo D W R G hd τ := g.congr (fun j _ => f1.2.2 j (by simp)) (f1.1 21 (by decide) (by decide))
      obtain ⟨υ, u1, u2, u3, u4⟩ := e_MD_rep84 (σ := stI (stI τ 23 (65 * x + o) (nI 0)) 24 (65 * x + o) 0) cx hx (show o ≤ R by omega)
      refine Or.inl ⟨υ, ⟨⟨fun a e e2 => ?_, by rw [u3]; exact f1.2.1, fun j e => ?_⟩, fun o1 ho1 => ?_, fun i hi => ⟨?_, ?_⟩, fun i hi => ?_⟩, ?_⟩
      · rw [u2 a (fun z => e (by simp [z])), stI_1 a (fun z => e (by simp [z])), stI_1 a (fun z => e (by simp [z]))]; exact f1.1 a e e2
      · rw [u2 20 (by decide), stI_1 20 (by decide), stI_1 20 (by decide)]; exact f1.2.2 j e
      · rw [u2 23 (by decide), stI_1 23 (by decide), stI_s, upd_a]
        by_cases e : o1 = o
        · rw [if_pos (by omega)]
        · rw [if_neg (by omega)]; exact f2 o1 (by omega)
      · rw [u2 23 (by decide), stI_1 23 (by decide), stI_s, upd_n (by omega)]; exact (f3 i hi).1
      · rw [u2 24 (by decide), stI_s, upd_n (by omega), stI_1 24 (by decide)]; exact (f3 i hi).2
      · rw [u4 i (by omega), stI_1 25 (by decide), stI_1 25 (by decide)]; exact f4 i hi
      · rw [D_MD_replace_L45, g1.1.2.2.1, if_neg (by rw [nI_ltI (by omega) (by omega)]; omega)]
        simp only [e_MD_at, Option.bind_some, nm_q, nI_1]
        rw [grd_in (by omega) (by omega), grd_in (by omega) (by omega), nI_clamp (by omega), show vp_nar .boolean (0 : Int32) = nI 0 from rfl, show (70 : Int32) = nI 70 from rfl, pk_mul, u1, Option.bind_some])
    (fun k τ ⟨f1, f2, f3, f4⟩ => by
      have g1 : mGeo D W R G hd τ := g.congr (fun j _ => f1.2.2 j (by simp)) (f1.1 21 (by decide) (by decide))
      exact ⟨τ, by rw [D_MD_replace_L45, g1.1.2.2.1, if_pos (by rw [nI_ltI (by omega) (by omega)]; omega)], f1, f2, f3, f4⟩)
    (R + 1) 0 F σ (Nat.zero_add _) (by omega) ⟨FG.rf, fun o h => by omega, fun _ _ => ⟨rfl, rfl⟩, fun _ _ => rfl⟩
  exact ⟨τ, e1, f1, fun o ho => f2 o (by omega), f3, f4⟩
end MFA
