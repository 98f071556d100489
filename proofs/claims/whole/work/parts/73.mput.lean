/-- what puts leaves alone -/
def FM (σ τ : HS) : Prop := (∀ a, a ≠ 20 → a ≠ 23 → a ≠ 24 → a ≠ 25 → τ.1 a = σ.1 a) ∧ τ.2 = σ.2 ∧ ∀ j, j ≠ 12 → j ≠ 13 → j ≠ 14 → τ.1 20 j = σ.1 20 j
theorem FM.rf {σ : HS} : FM σ σ := ⟨fun _ _ _ _ _ => rfl, rfl, fun _ _ _ _ => rfl⟩
theorem FM.tr {σ τ υ : HS} (h : FM σ τ) (h2 : FM τ υ) : FM σ υ := ⟨fun a e1 e2 e3 e4 => (h2.1 a e1 e2 e3 e4).trans (h.1 a e1 e2 e3 e4), h2.2.1.trans h.2.1, fun j e1 e2 e3 => (h2.2.2 j e1 e2 e3).trans (h.2.2 j e1 e2 e3)⟩
theorem mGeo.congr {D W R G : Nat} {hd : Nat → Nat → Nat} {σ τ : HS} (h : mGeo D W R G hd σ) (h20 : ∀ j, j = 1 ∨ j = 2 ∨ j = 3 ∨ j = 4 ∨ j = 6 → τ.1 20 j = σ.1 20 j) (h21 : τ.1 21 = σ.1 21) : mGeo D W R G hd τ := by
  obtain ⟨⟨a1, a2, a3, a4⟩, mn, u, ⟨b1, b2, b3⟩, b4, b5⟩ := h
  exact ⟨⟨by rw [h20 1 (by omega)]; exact a1, by rw [h20 2 (by omega)]; exact a2, by rw [h20 3 (by omega)]; exact a3, by rw [h20 4 (by omega)]; exact a4⟩, mn, u, ⟨b1, b2, by rw [h20 6 (by omega)]; exact b3⟩, fun i hi => by rw [h21]; exact b4 i hi, b5⟩
section MP
variable {D W R G : Nat} {hd : Nat → Nat → Nat} {F : Nat} {n : Nat → Nat} {σ : HS} {s : PS} {pl : Nat → Nat → Option Nat} {live : Nat → Bool}
theorem e_MD_placeOf (cx : Ctx D W R G hd n F) (mr : MR D W R G hd live pl s σ) (lk : LK live s.1) (kw : KW D R s.1) {row p : Nat} (hr : row < R) (hp : p < W * G) : D_MD_placeOf F n σ (nI row) (nI p) = some (pI (epl D (W * G) hd s.1 pl s.2.1 row p)) := by
  obtain ⟨ge, ln, hF⟩ := id cx
  obtain ⟨⟨_, _⟩, ⟨_, _, _⟩, ⟨_, _⟩, ⟨_, _⟩, ⟨_, _⟩, _, _, _, _⟩ := ge.num
  obtain ⟨m1, m2, m3, m4, m5, m6⟩ := mr
  rw [D_MD_placeOf, m5]
  unfold epl
  cases ho : s.2.1 with
  | false => rw [if_pos (by rfl), if_neg (by decide), e_MD_found cx m1 m2 m3 lk kw.k0 hr hp]; rfl
  | true =>
    rw [if_neg (by decide), if_pos rfl, show (16 : Int32) = nI 16 from rfl, pk_mul, nI_add, grd_in (by rw [ln.2.2.2.2.2.2.1]; omega) (by omega), nI_clamp (by omega), m4 ho row p hr hp]
theorem epl_PW (ge : Geo D W R G hd) (pw : s.2.1 = true → PW D R (W * G) pl) : PW D R (W * G) (epl D (W * G) hd s.1 pl s.2.1) := by
  unfold epl
  cases ho : s.2.1 with
  | false => rw [if_neg (by decide)]; exact fnd_PW ge
  | true => rw [if_pos rfl]; exact pw ho
theorem MR.mb (cx : Ctx D W R G hd n F) (mr : MR D W R G hd live pl s σ) (lk : LK live s.1) (kw : KW D R s.1) (pw : s.2.1 = true → PW D R (W * G) pl) : MB D W R G hd F n live s.1 (epl D (W * G) hd s.1 pl s.2.1) σ :=
  ⟨mr.1, mr.2.1, mr.2.2.1, lk, kw.k0, fun row p hr hp => e_MD_placeOf cx mr lk kw hr hp, epl_PW cx.1 pw⟩
theorem at_inj {R d o d1 o1 : Nat} (hR : R ≤ 64) (h : o ≤ R) (h1 : o1 ≤ R) (e : 65 * d + o = 65 * d1 + o1) : d = d1 ∧ o = o1 := ⟨by omega, by omega⟩
theorem sx_0 : sx 0 = 0 := rfl
theorem byR_zr (k : Nat) : byR zr k = 0 := by_0 (by omega)
theorem e_MD_puts (cx : Ctx D W R G hd n F) (mr : MR D W R G hd live pl s σ) {d o t : Nat} (hd1 : d < D) (ho : o ≤ R) (P : Nat → Int64) : ∃ τ, D_MD_puts F n σ (nI d) (nI o) (nI t) = some (τ, b2i (aput s d o (t, P, zr)).2) ∧ FM σ τ ∧ MR D W R G hd live pl (aput s d o (t, P, zr)).1 τ := by
  obtain ⟨ge, ln, hF⟩ := id cx
  obtain ⟨⟨_, _⟩, ⟨_, _, _⟩, ⟨_, _⟩, ⟨_, _⟩, ⟨_, _⟩, _, _, _, _⟩ := ge.num
  obtain ⟨m1, m2, m3, m4, m5, m6, m7, m8⟩ := mr
  have n23 : n 23 = 1040 := ln.2.2.2.1
  have n24 : n 24 = 1040 := ln.2.2.2.2.1
  have n25 : n 25 = 72800 := ln.2.2.2.2.2.1
  rw [D_MD_puts, m6]
  unfold aput
  by_cases e1 : s.2.2.1 = 1
  · rw [e1, if_pos (by rfl), if_pos rfl]
    refine ⟨stF (stF σ 20 12 0) 20 13 (-1), rfl, ⟨fun a z1 z2 z3 z4 => ?_, rfl, fun j z1 z2 z3 => ?_⟩, m1.congr (fun j hj => ?_) ?_, fun d hd => ?_, fun d1 o1 hd1 ho1 hl => ?_, fun z => ?_, ?_, ?_, ?_, by show 0 < 2 ^ 31; omega⟩
    · rw [stF_1 a z1, stF_1 a z1]
    · rw [stF_s, upd_n z2, stF_s, upd_n z1]
    · rw [stF_s, upd_n (by omega), stF_s, upd_n (by omega)]
    · rw [stF_1 21 (by decide), stF_1 21 (by decide)]
    · rw [stF_1 22 (by decide), stF_1 22 (by decide)]; exact m2 d hd
    · have := m3 d1 o1 hd1 ho1 hl
      unfold mCell at *
      rw [stF_1 23 (by decide), stF_1 23 (by decide), stF_1 24 (by decide), stF_1 24 (by decide), stF_1 25 (by decide), stF_1 25 (by decide)]
      exact this
    · exact absurd z (show ¬ (false = true) by decide)
    · rw [stF_s, upd_n (by decide), stF_s, upd_s]; rfl
    · rw [stF_s, upd_s]; rfl
    · rw [stF_s, upd_n (by decide), stF_s, upd_n (by decide)]; exact m7
  · rw [if_neg e1]
    have hne : ¬ nI s.2.2.1 - 1 = 0 := by
      intro z
      by_cases e0 : s.2.2.1 = 0
      · rw [e0] at z; exact absurd z (by decide)
      · rw [nI_sub1 (by omega), ← nI_0, nI_eq (by omega) (by omega)] at z; omega
    rw [if_neg hne]
    -- the state with what is left
    obtain ⟨σ1, hσ1, f1⟩ : ∃ σ1 : HS, (if nI s.2.2.1 - 1 ≤ 0 then σ else stF σ 20 13 (nI s.2.2.1 - 1 - 1)) = σ1 ∧ ((∀ a, a ≠ 20 → σ1.1 a = σ.1 a) ∧ σ1.2 = σ.2 ∧ (∀ j, j ≠ 13 → σ1.1 20 j = σ.1 20 j) ∧ σ1.1 20 13 = nI (s.2.2.1 - 1) - 1) := by
      refine ⟨_, rfl, ?_⟩
      by_cases e0 : s.2.2.1 = 0
      · rw [if_pos (by rw [e0]; decide)]
        exact ⟨fun _ _ => rfl, rfl, fun _ _ => rfl, by rw [m6, e0]⟩
      · rw [if_neg (by rw [nI_sub1 (by omega), ← nI_0, nI_leI (by omega) (by omega)]; omega), nI_sub1 (by omega)]
        exact ⟨fun a z => stF_1 a z, rfl, fun j z => by rw [stF_s, upd_n z], by rw [stF_s, upd_s]⟩
    obtain ⟨f1a, f1b, f1c, f1d⟩ := f1
    obtain ⟨τ, t1, q1, q2, q3⟩ := lp (L := D_MD_puts_L78 F n (nI d) (nI o)) (N := 70 * (65 * d + o) + 70) (I := fun x τ => 70 * (65 * d + o) ≤ x ∧ (∀ a, a ≠ 25 → τ.1 a = (stI (stI (stF σ1 20 14 (s.2.2.2 + 1)) 23 (65 * d + o) (nI 1)) 24 (65 * d + o) (nI t)).1 a) ∧ τ.2 = σ.2 ∧ ∀ i, τ.1 25 i = if 70 * (65 * d + o) ≤ i ∧ i < x then 0 else σ.1 25 i)
      (Q := fun τ => (∀ a, a ≠ 25 → τ.1 a = (stI (stI (stF σ1 20 14 (s.2.2.2 + 1)) 23 (65 * d + o) (nI 1)) 24 (65 * d + o) (nI t)).1 a) ∧ τ.2 = σ.2 ∧ ∀ i, τ.1 25 i = if 70 * (65 * d + o) ≤ i ∧ i < 70 * (65 * d + o) + 70 then 0 else σ.1 25 i)
      (fun k τ x hx ⟨q0, q1, q2, q3⟩ => by
        refine Or.inl ⟨stI τ 25 x 0, ⟨by omega, fun a z => by rw [stI_1 a z]; exact q1 a z, q2, fun i => ?_⟩, ?_⟩
        · rw [stI_s, upd_a, q3]
          by_cases e : i = x
          · rw [if_pos e, if_pos (by omega)]
          · rw [if_neg e]
            by_cases e2 : 70 * (65 * d + o) ≤ i ∧ i < x
            · rw [if_pos e2, if_pos (by omega)]
            · rw [if_neg e2, if_neg (by omega)]
        · rw [D_MD_puts_L78, e_MD_at, Option.bind_some, show (70 : Int32) = nI 70 from rfl, pk_mul, nI_add, if_neg (by rw [nI_leI (by omega) (by omega)]; omega), grd_in (by omega) (by omega), nm_q, nm_q, nI_1, nI_clamp (by omega)]
          rfl)
      (fun k τ ⟨q0, q1, q2, q3⟩ => ⟨τ, by rw [D_MD_puts_L78, e_MD_at, Option.bind_some, show (70 : Int32) = nI 70 from rfl, pk_mul, nI_add, if_pos (Int32.le_refl _)], q1, q2, q3⟩)
      70 (70 * (65 * d + o)) F (stI (stI (stF σ1 20 14 (s.2.2.2 + 1)) 23 (65 * d + o) (nI 1)) 24 (65 * d + o) (nI t)) rfl (by omega) ⟨Nat.le_refl _, fun _ _ => rfl, f1b, fun i => by rw [if_neg (by omega), stI_1 25 (by decide), stI_1 25 (by decide), stF_1 25 (by decide), f1a 25 (by decide)]⟩
    have h14 : σ1.1 20 14 = s.2.2.2 := by rw [f1c 14 (by decide)]; exact m7
    have tail : ∀ υ, υ = σ1 → (nm (stF υ 20 14 ((υ.1 20 14) + (1 : Int32))) (fun σ4 => (D_MD_at F n σ4 (nI d) (nI o)).bind (fun (x5 : Int32) => grd (inb x5 (n 23)) (nm (stI σ4 23 (x5).toNatClampNeg (vp_nar .boolean (1 : Int32))) (fun σ7 => (D_MD_at F n σ7 (nI d) (nI o)).bind (fun (x8 : Int32) => grd (inb x8 (n 24)) (nm (stI σ7 24 (x8).toNatClampNeg (nI t)) (fun σ10 => (D_MD_at F n σ10 (nI d) (nI o)).bind (fun (x11 : Int32) => nm ((70 : Int32) * x11) (fun x12 => (D_MD_puts_L78 F n (nI d) (nI o) F σ10 x12).bind (fun (σ22 : HS) => some (σ22, (1 : Int32)))))))))))) = some (τ, (1 : Int32))) := by
      intro υ hυ
      subst hυ
      simp only [nm_q, e_MD_at, Option.bind_some]
      rw [grd_in (by omega) (by omega), grd_in (by omega) (by omega), nI_clamp (by omega), h14, show (70 : Int32) = nI 70 from rfl, pk_mul, show vp_nar .boolean (1 : Int32) = nI 1 from rfl, t1]; rfl
    have e20 : ∀ j, τ.1 20 j = if j = 14 then s.2.2.2 + 1 else σ1.1 20 j := by
      intro j
      rw [q1 20 (by decide), stI_1 20 (by decide), stI_1 20 (by decide), stF_s, upd_a]
    refine ⟨τ, ?_, ⟨fun a z1 z2 z3 z4 => ?_, q2, fun j z1 z2 z3 => ?_⟩, m1.congr (fun j hj => ?_) ?_, fun x hx => ?_, fun d1 o1 hd1 ho1 hl => ?_, fun z row p hr hp => ?_, ?_, ?_, ?_, ?_⟩
    · simp only [jn_q]
      have hs : ∀ (A B : Option (HS × Int32)) (c : Prop) [Decidable c], (c → A = some (τ, (1 : Int32))) → (¬ c → B = some (τ, (1 : Int32))) → (if c then A else B) = some (τ, (1 : Int32)) := by
        intro A B c _ h1 h2
        by_cases hc : c
        · rw [if_pos hc]; exact h1 hc
        · rw [if_neg hc]; exact h2 hc
      refine hs _ _ _ (fun hc => ?_) (fun hc => ?_)
      · rw [if_pos hc] at hσ1
        exact tail σ hσ1
      · rw [if_neg hc] at hσ1
        exact tail _ hσ1
    · rw [q1 a z4, stI_1 a z3, stI_1 a z2, stF_1 a z1, f1a a z1]
    · rw [e20, if_neg z3, f1c j z2]
    · rw [e20, if_neg (by omega), f1c j (by omega)]
    · rw [q1 21 (by decide), stI_1 21 (by decide), stI_1 21 (by decide), stF_1 21 (by decide), f1a 21 (by decide)]
    · rw [q1 22 (by decide), stI_1 22 (by decide), stI_1 22 (by decide), stF_1 22 (by decide), f1a 22 (by decide)]; exact m2 x hx
    · show mCell (setK s.1 d o (some (t, P, zr)) d1 o1) τ (65 * d1 + o1)
      have a23 : τ.1 23 = upd (σ.1 23) (65 * d + o) (nI 1) := by rw [q1 23 (by decide), stI_1 23 (by decide), stI_s, stF_1 23 (by decide), f1a 23 (by decide)]
      have a24 : τ.1 24 = upd (σ.1 24) (65 * d + o) (nI t) := by rw [q1 24 (by decide), stI_s, stI_1 24 (by decide), stF_1 24 (by decide), f1a 24 (by decide)]
      unfold setK
      by_cases e : d1 = d ∧ o1 = o
      · rw [if_pos e, e.1, e.2]
        refine ⟨by rw [a23, upd_s], by rw [a24, upd_s], fun k hk => ?_⟩
        show _ = sx (byR zr k)
        rw [q3, if_pos (by omega), byR_zr]; rfl
      · rw [if_neg e]
        have hne : 65 * d1 + o1 ≠ 65 * d + o := fun z => e (at_inj (R := R) (by omega) ho1 ho z)
        have := m3 d1 o1 hd1 ho1 hl
        unfold mCell at *
        cases hk : s.1 d1 o1 with
        | none => rw [hk] at this; show τ.1 23 _ = _; rw [a23, upd_n hne]; exact this
        | some v =>
          rw [hk] at this
          refine ⟨by rw [a23, upd_n hne]; exact this.1, by rw [a24, upd_n hne]; exact this.2.1, fun k hk => ?_⟩
          rw [q3, if_neg (by omega)]; exact this.2.2 k hk
    · rw [q1 26 (by decide), stI_1 26 (by decide), stI_1 26 (by decide), stF_1 26 (by decide), f1a 26 (by decide)]; exact m4 z row p hr hp
    · rw [e20, if_neg (by decide), f1c 12 (by decide)]; exact m5
    · rw [e20, if_neg (by decide)]; exact f1d
    · rw [e20, if_pos rfl]
    · show s.2.2.1 - 1 < 2 ^ 31
      omega
end MP
