/-- cell i of the class bears c -/
def cellR (c : Option CellV) (σ : HS) (i : Nat) : Prop := match c with
  | none => σ.1 13 i = nI 0 ∧ σ.1 14 i = nI 0
  | some v => σ.1 13 i = nI 1 ∧ σ.1 14 i = b2i (z9 v.2.2) ∧ (∀ j, j < 9 → σ.2 12 (i * 9 + j) = v.2.2 j) ∧ ∀ j, j < 9 → σ.2 11 (i * 9 + j) = wds v j
def cK (D R : Nat) (K : Rk) (σ : HS) : Prop := ∀ d o, d < D → o ≤ R → cellR (K d o) σ (d * (R + 1) + o)
/-- what holds of every written cell -/
def vOK (v : CellV) : Prop := v.1 < 65536 ∧ (∀ i, 48 ≤ i → i < 64 → gb (v.2.2 8) i = false) ∧ (cok v.2.2 = true → z9 v.2.2 = true)
def KW (D R : Nat) (K : Rk) : Prop := ∀ d o v, d < D → o ≤ R → K d o = some v → vOK v
theorem cell_inj {R d o d1 o1 : Nat} (h : o ≤ R) (h1 : o1 ≤ R) (e : d * (R + 1) + o = d1 * (R + 1) + o1) : d = d1 ∧ o = o1 := by
  have e1 : (d * (R + 1) + o) / (R + 1) = d := by rw [Nat.add_comm, Nat.add_mul_div_right _ _ (by omega), Nat.div_eq_of_lt (by omega), Nat.zero_add]
  have e2 : (d1 * (R + 1) + o1) / (R + 1) = d1 := by rw [Nat.add_comm, Nat.add_mul_div_right _ _ (by omega), Nat.div_eq_of_lt (by omega), Nat.zero_add]
  rw [e, e2] at e1
  subst e1
  exact ⟨rfl, by omega⟩
theorem cellR.congr {c : Option CellV} {σ τ : HS} {i : Nat} (h : cellR c σ i) (h13 : τ.1 13 i = σ.1 13 i) (h14 : τ.1 14 i = σ.1 14 i) (h11 : ∀ j, j < 9 → τ.2 11 (i * 9 + j) = σ.2 11 (i * 9 + j)) (h12 : ∀ j, j < 9 → τ.2 12 (i * 9 + j) = σ.2 12 (i * 9 + j)) : cellR c τ i := by
  cases c with
  | none => exact ⟨h13.trans h.1, h14.trans h.2⟩
  | some v => exact ⟨h13.trans h.1, h14.trans h.2.1, fun j hj => (h12 j hj).trans (h.2.2.1 j hj), fun j hj => (h11 j hj).trans (h.2.2.2 j hj)⟩
theorem cK.congr {D R : Nat} {K : Rk} {σ τ : HS} (h : cK D R K σ) (h13 : τ.1 13 = σ.1 13) (h14 : τ.1 14 = σ.1 14) (h11 : τ.2 11 = σ.2 11) (h12 : τ.2 12 = σ.2 12) : cK D R K τ :=
  fun d o hd ho => (h d o hd ho).congr (by rw [h13]) (by rw [h14]) (fun _ _ => by rw [h11]) (fun _ _ => by rw [h12])
def Stored (c t : Nat) (blk : Nat → Int64) (σ τ : HS) : Prop := (∀ a, a ≠ 13 → a ≠ 14 → τ.1 a = σ.1 a) ∧ τ.1 13 = upd (σ.1 13) c (nI 1) ∧ τ.1 14 = upd (σ.1 14) c (nI 1) ∧ (∀ a, a ≠ 11 → a ≠ 12 → τ.2 a = σ.2 a) ∧ (∀ j, j < c * 9 ∨ c * 9 + 9 ≤ j → τ.2 11 j = σ.2 11 j ∧ τ.2 12 j = σ.2 12 j) ∧ ∀ j, j < 9 → τ.2 12 (c * 9 + j) = 0 ∧ τ.2 11 (c * 9 + j) = wds (t, blk, zr) j
theorem cK.stored {D R : Nat} {K : Rk} {σ τ : HS} {d o t : Nat} {blk : Nat → Int64} (h : cK D R K σ) (ho : o ≤ R) (hs : Stored (d * (R + 1) + o) t blk σ τ) : cK D R (setK K d o (some (t, blk, zr))) τ := by
  intro d1 o1 hd1 ho1
  obtain ⟨s1, s2, s3, s4, s5, s6⟩ := hs
  unfold setK
  by_cases e : d1 = d ∧ o1 = o
  · rw [if_pos e, e.1, e.2]
    refine ⟨by rw [s2, upd_s], ?_, fun j hj => (s6 j hj).1, fun j hj => (s6 j hj).2⟩
    rw [s3, upd_s]
    show _ = b2i (z9 zr)
    rw [z9_zr]; rfl
  · rw [if_neg e]
    have hne : d1 * (R + 1) + o1 ≠ d * (R + 1) + o := fun q => e (cell_inj ho1 ho q)
    refine (h d1 o1 hd1 ho1).congr (by rw [s2, upd_n hne]) (by rw [s3, upd_n hne]) (fun j hj => ?_) (fun j hj => ?_)
    · exact (s5 _ (by omega)).1
    · exact (s5 _ (by omega)).2
section RK
variable {D W R G : Nat} {hd : Nat → Nat → Nat} {F : Nat} {n : Nat → Nat} {σ : HS} {K : Rk}
theorem idx_c {d o : Nat} (gn : GN D W R G) (h : d < D) (ho : o ≤ R) : d * (R + 1) + o < D * (R + 1) ∧ d * (R + 1) + o < 1040 := by
  obtain ⟨⟨_, _⟩, ⟨_, _, _⟩, ⟨_, _⟩, ⟨_, _⟩, ⟨_, _⟩, _, _, _, _⟩ := gn
  have := lt2 h (show o < R + 1 by omega)
  exact ⟨this, by omega⟩
theorem e_RK_isWritten (gn : GN D W R G) (ln : LenC D W R G n) (h : cK D R K σ) {d o : Nat} (hd : d < D) (ho : o ≤ R) : D_RK_isWritten F n σ (nI (d * (R + 1) + o)) = some (b2i (K d o).isSome) := by
  have i1 := idx_c gn hd ho
  have e : σ.1 13 (d * (R + 1) + o) = b2i (K d o).isSome := by
    have := h d o hd ho
    cases hk : K d o with
    | none => rw [hk] at this; exact this.1
    | some v => rw [hk] at this; exact this.1
  rw [D_RK_isWritten, grd_in (by rw [ln.1.2.2.2.2.2.1]; exact i1.1) (by omega), nI_clamp (by omega), e, isB_b2i]
theorem e_valid (h : cK D R K σ) {d o : Nat} (hd : d < D) (ho : o ≤ R) : σ.1 14 (d * (R + 1) + o) = b2i (isv (K d o)) := by
  have := h d o hd ho
  cases hk : K d o with
  | none => rw [hk] at this; exact this.2
  | some v => rw [hk] at this; exact this.2.1
theorem e_RK_isValid (gn : GN D W R G) (ln : LenC D W R G n) (h : cK D R K σ) {d o : Nat} (hd : d < D) (ho : o ≤ R) : D_RK_isValid F n σ (nI (d * (R + 1) + o)) = some (b2i (isv (K d o))) := by
  have i1 := idx_c gn hd ho
  rw [D_RK_isValid, if_neg (nI_m1 (by omega)), grd_in (by rw [ln.1.2.2.2.2.2.2.1]; exact i1.1) (by omega), nI_clamp (by omega), e_valid h hd ho]
  cases isv (K d o) <;> rfl
theorem e_RK_isValid_m1 : D_RK_isValid F n σ (-1) = some (nI 0) := by rw [D_RK_isValid, if_pos rfl]; rfl
/-- a cell's number, of a disk or of none -/
def pc_ (R row : Nat) : Option Nat → Int32
  | none => -1
  | some d => nI (d * (R + 1) + row)
def isvo (K : Rk) (row : Nat) : Option Nat → Bool
  | none => false
  | some d => isv (K d row)
theorem e_RK_isValid_o (gn : GN D W R G) (ln : LenC D W R G n) (h : cK D R K σ) {row : Nat} {p : Option Nat} (hp : ∀ d, p = some d → d < D) (ho : row ≤ R) : D_RK_isValid F n σ (pc_ R row p) = some (b2i (isvo K row p)) := by
  cases p with
  | none => exact e_RK_isValid_m1
  | some d => exact e_RK_isValid gn ln h (hp d rfl) ho
theorem e_RK_tag (gn : GN D W R G) (ln : LenC D W R G n) (h : cK D R K σ) {d o : Nat} (hd : d < D) (ho : o ≤ R) {v : CellV} (hv : K d o = some v) (hz : z9 v.2.2 = true) (ht : v.1 < 65536) : D_RK_tag F n σ (nI (d * (R + 1) + o)) = some (nI v.1) := by
  have i1 := idx_c gn hd ho
  have i2 : (d * (R + 1) + o) * 9 + 8 < n 11 := by rw [ln.1.2.2.2.1]; omega
  have e : σ.2 11 ((d * (R + 1) + o) * 9 + 8) = tw v.1 v.2.1 := by
    have := h d o hd ho
    rw [hv] at this
    rw [this.2.2.2 8 (by omega)]
    show tw v.1 v.2.1 ^^^ v.2.2 8 = _
    rw [z9_iff.mp hz 8 (by omega)]
    exact Int64.xor_zero
  rw [D_RK_tag, show (9 : Int32) = nI 9 from rfl, show (8 : Int32) = nI 8 from rfl, pk_mul, nI_add, grd_in i2 (by omega), nI_clamp (by omega), e, tw_tag _ ht]
theorem e_RK_isAsWritten (gn : GN D W R G) (ln : LenC D W R G n) (c : Nat) (hc : c < D * (R + 1)) (hF : 100 ≤ F) : D_RK_isAsWritten F n σ (nI c) = some (b2i (z9 (fun i => σ.2 12 (c * 9 + i)))) := by
  obtain ⟨⟨_, _⟩, ⟨_, _, _⟩, ⟨_, _⟩, ⟨_, _⟩, ⟨_, _⟩, _, _, _, _⟩ := gn
  have hn : n 12 = D * (R + 1) * 9 := ln.1.2.2.2.2.1
  have key := lp_srch (L := fun k x => D_RK_isAsWritten_L2 F n σ (nI c) k x) (f := fun i => decide (¬ σ.2 12 (c * 9 + i) = 0)) (v := fun _ => (0 : Int32)) (N := 9) (lo := 0)
    (fun k => by show D_RK_isAsWritten_L2 F n σ (nI c) (k + 1) (nI 9) = _; rw [D_RK_isAsWritten_L2, if_pos (by decide)])
    (fun k i _ hi hf => by
      have hf : σ.2 12 (c * 9 + i) = 0 := by simpa using hf
      show D_RK_isAsWritten_L2 F n σ (nI c) (k + 1) (nI i) = _
      rw [D_RK_isAsWritten_L2, if_neg (by rw [show (9 : Int32) = nI 9 from rfl, nI_leI (by omega) (by omega)]; omega), show (9 : Int32) = nI 9 from rfl, pk_mul, nI_add, grd_in (by omega) (by omega), nI_clamp (by omega), if_pos ((lcmp0 _ _).mpr hf), nm_q, nI_1])
    (fun k i _ hi hf => by
      have hf : ¬ σ.2 12 (c * 9 + i) = 0 := by simpa using hf
      show D_RK_isAsWritten_L2 F n σ (nI c) (k + 1) (nI i) = _
      rw [D_RK_isAsWritten_L2, if_neg (by rw [show (9 : Int32) = nI 9 from rfl, nI_leI (by omega) (by omega)]; omega), show (9 : Int32) = nI 9 from rfl, pk_mul, nI_add, grd_in (by omega) (by omega), nI_clamp (by omega), if_neg (fun e => hf ((lcmp0 _ _).mp e))])
    9 0 F (Nat.le_refl _) rfl (by omega)
  have key : D_RK_isAsWritten_L2 F n σ (nI c) F (nI 0) = _ := key
  rw [D_RK_isAsWritten, ← nI_0, key, Option.bind_some]
  cases hs : srch (fun i => decide (¬ σ.2 12 (c * 9 + i) = 0)) 9 0 with
  | none =>
    have : z9 (fun i => σ.2 12 (c * 9 + i)) = true := z9_iff.mpr (fun i hi => by simpa using srch_none hs i (by omega) (by omega))
    rw [this]; rfl
  | some i =>
    obtain ⟨_, h2, h3, _⟩ := srch_some hs
    have : z9 (fun i => σ.2 12 (c * 9 + i)) = false := by
      cases hz : z9 (fun i => σ.2 12 (c * 9 + i)) with
      | false => rfl
      | true => exact absurd (z9_iff.mp hz i (by omega)) (by simpa using h3)
    rw [this]; rfl
end RK
