def q1 {α : Type} (p : Int32) (T : Int32 → α) : α := if p < (6 : Int32) then T 8 else (if (16 : Int32) < p then T 8 else T p)
def q2 {α : Type} (x2 p : Int32) (T : Int32 → α) : α := if p < (3 : Int32) then T 3 else (if (8 : Int32) < p then T 3 else (if x2 ≤ p then T 3 else T p))
def q3 {α : Type} (p : Int32) (T : Int32 → α) : α := if p < (48 : Int32) then T 48 else (if (64 : Int32) < p then T 48 else T p)
def m1_ {α : Type} (p : Int32) (T : Int32 → α) : α := if p < (6 : Int32) then T 8 else (if p ≤ (16 : Int32) then T p else T 8)
def m2_ {α : Type} (x2 p : Int32) (T : Int32 → α) : α := if p < (3 : Int32) then T 3 else (if (8 : Int32) < p then T 3 else (if p < x2 then T p else T 3))
def m3_ {α : Type} (p : Int32) (T : Int32 → α) : α := if p < (48 : Int32) then T 48 else (if p ≤ (64 : Int32) then T p else T 48)
theorem bet {p : Int32} {lo hi : Nat} (hh : hi < 2 ^ 31) (h1 : ¬ p < nI lo) (h2 : ¬ nI hi < p) (hl : lo < 2 ^ 31) : ∃ k, lo ≤ k ∧ k ≤ hi ∧ p = nI k := by
  have h0 : ¬ p < 0 := fun z => h1 (by
    rw [Int32.lt_iff_toInt_lt] at z ⊢
    rw [nI_toInt hl]
    have : (0 : Int32).toInt = 0 := rfl
    omega)
  obtain ⟨k, hk, rfl⟩ := nI_of h0
  rw [nI_ltI hk hl] at h1
  rw [nI_ltI hh hk] at h2
  exact ⟨k, by omega, by omega, rfl⟩
theorem sel_D (p : Int32) : ∃ D, (6 ≤ D ∧ D ≤ 16) ∧ (∀ (α : Type) (T : Int32 → α), q1 p T = T (nI D)) ∧ ∀ (α : Type) (T : Int32 → α), m1_ p T = T (nI D) := by
  by_cases h1 : p < 6
  · exact ⟨8, by omega, fun α T => by unfold q1; rw [if_pos h1]; rfl, fun α T => by unfold m1_; rw [if_pos h1]; rfl⟩
  by_cases h2 : (16 : Int32) < p
  · exact ⟨8, by omega, fun α T => by unfold q1; rw [if_neg h1, if_pos h2]; rfl, fun α T => by unfold m1_; rw [if_neg h1, if_neg (i_nle h2)]; rfl⟩
  · obtain ⟨k, k1, k2, rfl⟩ := bet (lo := 6) (hi := 16) (by omega) h1 h2 (by omega)
    exact ⟨k, ⟨k1, k2⟩, fun α T => by unfold q1; rw [if_neg h1, if_neg h2], fun α T => by unfold m1_; rw [if_neg h1, if_pos (i_le h2)]⟩
theorem sel_R (p : Int32) : ∃ R, (48 ≤ R ∧ R ≤ 64) ∧ (∀ (α : Type) (T : Int32 → α), q3 p T = T (nI R)) ∧ ∀ (α : Type) (T : Int32 → α), m3_ p T = T (nI R) := by
  by_cases h1 : p < 48
  · exact ⟨48, by omega, fun α T => by unfold q3; rw [if_pos h1]; rfl, fun α T => by unfold m3_; rw [if_pos h1]; rfl⟩
  by_cases h2 : (64 : Int32) < p
  · exact ⟨48, by omega, fun α T => by unfold q3; rw [if_neg h1, if_pos h2]; rfl, fun α T => by unfold m3_; rw [if_neg h1, if_neg (i_nle h2)]; rfl⟩
  · obtain ⟨k, k1, k2, rfl⟩ := bet (lo := 48) (hi := 64) (by omega) h1 h2 (by omega)
    exact ⟨k, ⟨k1, k2⟩, fun α T => by unfold q3; rw [if_neg h1, if_neg h2], fun α T => by unfold m3_; rw [if_neg h1, if_pos (i_le h2)]⟩
theorem sel_W {D : Nat} (hD : 6 ≤ D ∧ D ≤ 16) (p : Int32) : ∃ W, (3 ≤ W ∧ W ≤ 8 ∧ W < D) ∧ (∀ (α : Type) (T : Int32 → α), q2 (nI D) p T = T (nI W)) ∧ ∀ (α : Type) (T : Int32 → α), m2_ (nI D) p T = T (nI W) := by
  by_cases h1 : p < 3
  · exact ⟨3, by omega, fun α T => by unfold q2; rw [if_pos h1]; rfl, fun α T => by unfold m2_; rw [if_pos h1]; rfl⟩
  by_cases h2 : (8 : Int32) < p
  · exact ⟨3, by omega, fun α T => by unfold q2; rw [if_neg h1, if_pos h2]; rfl, fun α T => by unfold m2_; rw [if_neg h1, if_pos h2]; rfl⟩
  by_cases h3 : nI D ≤ p
  · exact ⟨3, by omega, fun α T => by unfold q2; rw [if_neg h1, if_neg h2, if_pos h3]; rfl, fun α T => by unfold m2_; rw [if_neg h1, if_neg h2, if_neg (fun z => i_nle z h3)]; rfl⟩
  · obtain ⟨k, k1, k2, rfl⟩ := bet (lo := 3) (hi := 8) (by omega) h1 h2 (by omega)
    have hk : k < D := by rw [nI_leI (by omega) (by omega)] at h3; omega
    exact ⟨k, ⟨k1, k2, hk⟩, fun α T => by unfold q2; rw [if_neg h1, if_neg h2, if_neg h3], fun α T => by unfold m2_; rw [if_neg h1, if_neg h2, if_pos (i_lt h3)]⟩
def laB (F : Nat) (n : Nat → Nat) (σ : HS) (x2 x4 x6 : Int32) : Option ((Nat → Nat) × HS) :=
        grd (decide (¬ x4 = 0)) (
        nm ((x2 - (1 : Int32)) / x4) (fun x8 =>
        nm (x6 * x8) (fun x9 =>
        nm (x4 - (1 : Int32)) (fun x10 =>
        nm (x9 * x10) (fun x11 =>
        nm (x4 * x8) (fun x12 =>
        nm (x2 * (x6 + (1 : Int32))) (fun x13 =>
        (D_LA_homes F n σ x2 x6).bind (fun (qkc14 : (Nat → Nat) × HS) => nm2 qkc14 (fun (n : Nat → Nat) (σ16 : HS) =>
        nm (stC σ16 1 (fun (j : Nat) => (cond (Nat.beq j 0) (x2) (cond (Nat.beq j 1) (x4) (cond (Nat.beq j 2) (x6) (cond (Nat.beq j 3) (x8) (cond (Nat.beq j 4) (x9) (cond (Nat.beq j 5) (x11) (cond (Nat.beq j 6) (x12) (cond (Nat.beq j 7) (x10) (cond (Nat.beq j 8) (x13) (cond (Nat.beq j 9) (0) (0)))))))))) : Int32))) (fun σ17 =>
        some (n, σ17)))))))))))
section CB
variable {F : Nat} {n : Nat → Nat} {σ : HS} {D W R : Nat}
theorem la_eq (p1 p2 p3 : Int32) : D_LA_init F n σ p1 p2 p3 = q1 p1 (fun x2 => q2 x2 p2 (fun x4 => q3 p3 (fun x6 => laB F n σ x2 x4 x6))) := rfl
theorem e_laB (hD : 6 ≤ D ∧ D ≤ 16) (hW : 3 ≤ W ∧ W ≤ 8 ∧ W < D) (hR : 48 ≤ R ∧ R ≤ 64) (hF : 100 ≤ F) : ∃ n1 τ, laB F n σ (nI D) (nI W) (nI R) = some (n1, τ) ∧ n1 9 = R * D ∧ cGeo D W R ((D - 1) / W) (hdf D) τ := by
  obtain ⟨n1, τ, t1, t2, t3⟩ := e_homes (F := F) (n := n) (σ := σ) hD hR hF
  have e8 : (nI D - (1 : Int32)) / nI W = nI ((D - 1) / W) := by rw [nI_sub1 (by omega), pk_div (by omega) (by omega) (by omega)]
  unfold laB
  rw [grd_z (by omega) (by omega)]
  simp only [nm_q, nm2_q]
  rw [e8, nI_sub1 (a := W) (by omega), nI_1]
  simp only [pk_mul]
  rw [t1, Option.bind_some]
  refine ⟨_, _, rfl, t2, ⟨?_, ?_, ?_, ?_, ?_, ?_, ?_, ?_, ?_⟩, fun row p hr hp => ?_⟩
  · rw [ytC_s]; rfl
  · rw [ytC_s]; rfl
  · rw [ytC_s]; rfl
  · rw [ytC_s]; rfl
  · rw [ytC_s]; rfl
  · rw [ytC_s]; rfl
  · rw [ytC_s]; rfl
  · rw [ytC_s]; rfl
  · rw [ytC_s]; rfl
  · rw [ytC_1 1 _ 9 (by decide)]; exact t3 row p hr hp
/-- cell c has been written with the tag t and zeros -/
def CE (c t : Nat) (σ : HS) : Prop := cellR (some (t, zr, zr)) σ c
def WS (σb σ : HS) : Prop := (∀ a, a ≠ 13 → a ≠ 14 → σ.1 a = σb.1 a) ∧ (∀ i, i < 8 → σ.2 17 i = 0) ∧ ∀ j, σ.2 12 j = 0
def LW (D R : Nat) (n : Nat → Nat) : Prop := n 9 = R * D ∧ n 11 = D * (R + 1) * 9 ∧ n 12 = D * (R + 1) * 9 ∧ n 13 = D * (R + 1) ∧ n 14 = D * (R + 1) ∧ n 17 = 8
theorem e_st17 {σb : HS} (lw : LW D R n) (ws : WS σb σ) (hF : 100 ≤ F) {c t : Nat} (hc : c < D * (R + 1)) (hc2 : c < 1040) : ∃ τ, D_RK_store_17 F n σ (nI c) (nI t) = some τ ∧ WS σb τ ∧ CE c t τ ∧ ∀ c1 t1, c1 ≠ c → CE c1 t1 σ → CE c1 t1 τ := by
  obtain ⟨l1, l2, l3, l4, l5, l6⟩ := lw
  obtain ⟨w1, w2, w3⟩ := ws
  obtain ⟨τ, t1, ts⟩ := e_store (b := 17) (c := c) (t := t) (F := F) (n := n) (σ := σ) l6 (by decide) (by decide) (by omega) (by omega) (by omega) (by omega) (by omega) hF
  obtain ⟨s1, s2, s3, s4, s5, s6⟩ := ts.blk (Q := zr) (fun i hi => w2 i hi)
  refine ⟨τ, by rw [G_store_17]; exact t1, ⟨fun a h1 h2 => by rw [s1 a h1 h2]; exact w1 a h1 h2, fun i hi => by rw [s4 17 (by decide) (by decide)]; exact w2 i hi, fun j => ?_⟩, ⟨by rw [s2, upd_s], by rw [s3, upd_s]; show nI 1 = b2i (z9 zr); rw [z9_zr]; rfl, fun j hj => (s6 j hj).1, fun j hj => (s6 j hj).2⟩, fun c1 t1 hne h => ?_⟩
  · by_cases e : j < c * 9 ∨ c * 9 + 9 ≤ j
    · rw [(s5 j e).2]; exact w3 j
    · have := (s6 (j - c * 9) (by omega)).1
      rw [show c * 9 + (j - c * 9) = j by omega] at this
      exact this
  · exact cellR.congr h (by rw [s2, upd_n hne]) (by rw [s3, upd_n hne]) (fun j hj => (s5 _ (by omega)).1) (fun j hj => (s5 _ (by omega)).2)
theorem e_like {σb : HS} (lw : LW D R n) (ws : WS σb σ) {c1 c t : Nat} (hc1 : c1 < D * (R + 1)) (hc : c < D * (R + 1)) (hb : D * (R + 1) ≤ 1040) (h1 : CE c1 t σ) : ∃ τ, D_RK_storeLike F n σ (nI c1) (nI c) = some τ ∧ WS σb τ ∧ CE c t τ ∧ ∀ c2 t2, c2 ≠ c → CE c2 t2 σ → CE c2 t2 τ := by
  obtain ⟨l1, l2, l3, l4, l5, l6⟩ := lw
  obtain ⟨w1, w2, w3⟩ := ws
  obtain ⟨e1, e2, e3, e4⟩ := id h1
  rw [D_RK_storeLike, show (9 : Int32) = nI 9 from rfl, pk_mul, pk_mul, grd_t (show cpok (nI (c1 * 9)) (nI (c * 9)) (nI 9) (n 11) (n 11) = true from by
    unfold cpok
    rw [nI_clamp (by omega), nI_clamp (by omega), nI_clamp (by omega)]
    exact decide_eq_true ⟨nI_pos (by omega), nI_pos (by omega), nI_pos (by omega), by omega, by omega⟩)]
  simp only [nm_q]
  rw [grd_in (by omega) (by omega), grd_in (by omega) (by omega), nI_clamp (by omega), nI_clamp (by omega), nI_clamp (by omega), nI_clamp (by omega)]
  refine ⟨_, rfl, ⟨fun a h1 h2 => by rw [stI_1 a h2, stI_1 a h1]; exact w1 a h1 h2, fun i hi => w2 i hi, fun j => w3 j⟩, ⟨?_, ?_, fun j hj => w3 _, fun j hj => ?_⟩, fun c2 t2 hne h => ?_⟩
  · rw [stI_1 13 (by decide), stI_s, upd_s]; rfl
  · rw [stI_s, upd_s]; show vp_nar .boolean (1 : Int32) = b2i (z9 zr); rw [z9_zr]; rfl
  · show va_cpy (σ.2 11) (σ.2 11) (c1 * 9) (c * 9) 9 (c * 9 + j) = _
    rw [pk_cpy_in (by omega) (by omega), show c1 * 9 + (c * 9 + j - c * 9) = c1 * 9 + j by omega]
    exact e4 j hj
  · refine cellR.congr h ?_ ?_ (fun j hj => ?_) (fun j hj => rfl)
    · rw [stI_1 13 (by decide), stI_s, upd_n hne]; rfl
    · rw [stI_s, upd_n hne, stI_1 14 (by decide)]; rfl
    · show va_cpy (σ.2 11) (σ.2 11) (c1 * 9) (c * 9) 9 (c2 * 9 + j) = _
      rw [pk_cpy_out (by omega)]
end CB
