def Ctx (D W R G : Nat) (hd : Nat → Nat → Nat) (n : Nat → Nat) (F : Nat) : Prop := Geo D W R G hd ∧ Len D W R G n ∧ 5000 ≤ F
def cLive (D : Nat) (live : Nat → Bool) (σ : HS) : Prop := ∀ d, d < D → σ.1 10 d = b2i (live d)
def held (N : Nat) (pl : Nat → Nat → Option Nat) (row d : Nat) : Bool := (srch (fun p => decide (pl row p = some d)) N 0).isSome
theorem held_iff {N : Nat} {pl : Nat → Nat → Option Nat} {row d : Nat} : held N pl row d = true ↔ ∃ p, p < N ∧ pl row p = some d := by
  unfold held
  cases h : srch (fun p => decide (pl row p = some d)) N 0 with
  | none =>
    constructor
    · intro e; cases e
    · rintro ⟨p, hp, e⟩
      have := srch_none h p (by omega) (by omega)
      simp [e] at this
  | some p =>
    obtain ⟨_, h2, h3, _⟩ := srch_some h
    exact ⟨fun _ => ⟨p, by omega, by simpa using h3⟩, fun _ => rfl⟩
theorem held_no {N : Nat} {pl : Nat → Nat → Option Nat} {row d : Nat} : held N pl row d = false ↔ ∀ p, p < N → pl row p ≠ some d := by
  constructor
  · intro h p hp e
    rw [held_iff.mpr ⟨p, hp, e⟩] at h; cases h
  · intro h
    cases hh : held N pl row d with
    | false => rfl
    | true =>
      obtain ⟨p, hp, e⟩ := held_iff.mp hh
      exact absurd e (h p hp)
def fre (N : Nat) (pl : Nat → Nat → Option Nat) (live : Nat → Bool) (row d : Nat) : Bool := !(held N pl row d) && live d
def si (D row : Nat) : Option Nat → Int32
  | none => -1
  | some p => nI (row * D + p)
def ffs (D N : Nat) (hd : Nat → Nat → Nat) (pl : Nat → Nat → Option Nat) (live : Nat → Bool) (row : Nat) : Option Nat := (srch (fun q => fre N pl live row (hd row q)) (D - N) N).map (hd row)
def frb (N : Nat) (hd : Nat → Nat → Nat) (pl : Nat → Nat → Option Nat) (live : Nat → Bool) (row : Nat) : Option Nat := srch (fun p => decide (pl row p = none) && !live (hd row p)) N 0
def cbk (hd : Nat → Nat → Nat) (live : Nat → Bool) (K : Rk) (row p : Nat) : Bool := live (hd row p) && !(K (hd row p) row).isSome
def fcb (R N : Nat) (hd : Nat → Nat → Nat) (live : Nat → Bool) (K : Rk) : Option (Nat × Nat) := match srch (fun r => (srch (cbk hd live K r) N 0).isSome) R 0 with
  | none => none
  | some r => (srch (cbk hd live K r) N 0).map (fun p => (r, p))
section SC
variable {D W R G : Nat} {hd : Nat → Nat → Nat} {F : Nat} {n : Nat → Nat} {σ : HS} {K : Rk} {pl : Nat → Nat → Option Nat} {live : Nat → Bool}
theorem hold_m1 (gn : GN D W R G) (c : cPl D R (W * G) pl σ) {d row : Nat} (hd1 : d < D) (hr : row < R) : (σ.1 16 (d * (R + 1) + row) = -1) ↔ held (W * G) pl row d = false := by
  obtain ⟨⟨_, _⟩, ⟨_, _, _⟩, ⟨_, _⟩, ⟨_, _⟩, ⟨_, _⟩, _, _, _, _⟩ := gn
  have h := c.2 d row hd1 (by omega)
  constructor
  · intro e
    rw [held_no]
    intro p hp z
    rw [h.1 p hr hp z] at e
    have := lt2 hr (show p < D by omega)
    exact nI_m1 (by omega) e
  · intro e
    exact h.2 (Or.inr (held_no.mp e))
theorem e_PL_isFree (cx : Ctx D W R G hd n F) (g : cGeo D W R G hd σ) (c : cPl D R (W * G) pl σ) (lv : cLive D live σ) {d row : Nat} (hd1 : d < D) (hr : row < R) : D_PL_isFree F n σ (nI (d * (R + 1) + row)) = some (b2i (fre (W * G) pl live row d)) := by
  obtain ⟨ge, ln, _⟩ := cx
  have gn := ge.num
  obtain ⟨⟨_, _⟩, ⟨_, _, _⟩, ⟨_, _⟩, ⟨_, _⟩, ⟨_, _⟩, _, _, _, _⟩ := id gn
  have i1 := idx_c gn hd1 (show row ≤ R by omega)
  rw [D_PL_isFree, grd_in (by rw [ln.1.2.2.2.2.2.2.2.2]; omega) (by omega), nI_clamp (by omega)]
  unfold fre
  cases hh : held (W * G) pl row d with
  | false =>
    rw [if_pos ((hold_m1 gn c hd1 hr).mpr hh), e_LA_diskOf gn g d row hd1 (by omega), Option.bind_some, grd_in (by rw [ln.1.2.2.1]; omega) (by omega), nI_clamp (by omega), lv d hd1]
    cases live d <;> rfl
  | true => rw [if_neg (fun e => by rw [(hold_m1 gn c hd1 hr).mp e] at hh; cases hh)]; rfl
theorem e_PL_firstFreeSpare (cx : Ctx D W R G hd n F) (g : cGeo D W R G hd σ) (c : cPl D R (W * G) pl σ) (lv : cLive D live σ) {row : Nat} (hr : row < R) : D_PL_firstFreeSpare F n σ (nI row) = some (pc_ R row (ffs D (W * G) hd pl live row)) := by
  obtain ⟨ge, ln, hF⟩ := id cx
  have gn := ge.num
  have hh := ge.2.2.2.2.1
  obtain ⟨⟨_, _⟩, ⟨_, _, _⟩, ⟨_, _⟩, ⟨_, _⟩, ⟨_, _⟩, _, _, _, _⟩ := id gn
  have body : ∀ k q, q < D → D_PL_firstFreeSpare_L8 F n σ (nI row) (k + 1) (nI q) = if b2i (fre (W * G) pl live row (hd row q)) = 0 then D_PL_firstFreeSpare_L8 F n σ (nI row) k (nI (q + 1)) else some (Sum.inr (nI (hd row q * (R + 1) + row))) := by
    intro k q hq
    have i2 := lt2 hr hq
    rw [D_PL_firstFreeSpare_L8, g.1.1, if_neg (by rw [nI_leI (by omega) (by omega)]; omega), e_LA_slot g, Option.bind_some, grd_in (by rw [ln.1.2.1]; omega) (by omega), nm_q, nI_clamp (by omega), g.2 row q hr hq, e_PL_isFree cx g c lv (hh row q) hr, Option.bind_some, nm_q, nI_1]
  have key := lp_srch (L := fun k x => D_PL_firstFreeSpare_L8 F n σ (nI row) k x) (f := fun q => fre (W * G) pl live row (hd row q)) (v := fun q => nI (hd row q * (R + 1) + row)) (N := D) (lo := 0)
    (fun k => by show D_PL_firstFreeSpare_L8 F n σ (nI row) (k + 1) (nI D) = _; rw [D_PL_firstFreeSpare_L8, g.1.1, if_pos (Int32.le_refl _)])
    (fun k q _ hq hf => by
      show D_PL_firstFreeSpare_L8 F n σ (nI row) (k + 1) (nI q) = _
      rw [body k q hq, hf, if_pos (by rfl)])
    (fun k q _ hq hf => by
      show D_PL_firstFreeSpare_L8 F n σ (nI row) (k + 1) (nI q) = _
      rw [body k q hq, hf, if_neg (by decide)])
    (D - W * G) (W * G) F (Nat.zero_le _) (by omega) (by omega)
  have key : D_PL_firstFreeSpare_L8 F n σ (nI row) F (nI (W * G)) = _ := key
  rw [D_PL_firstFreeSpare, nm_q, g.1.2.2.2.2.2.2.1, key, Option.bind_some]
  unfold ffs
  cases srch (fun q => fre (W * G) pl live row (hd row q)) (D - W * G) (W * G) <;> rfl
theorem pc_m1 {R row : Nat} {p : Option Nat} (hb : ∀ d, p = some d → d * (R + 1) + row < 2 ^ 31) : (pc_ R row p = -1) ↔ p = none := by
  cases p with
  | none => exact ⟨fun _ => rfl, fun _ => rfl⟩
  | some d => exact ⟨fun e => absurd e (nI_m1 (hb d rfl)), fun e => by cases e⟩
theorem e_PL_firstToRebuild (cx : Ctx D W R G hd n F) (g : cGeo D W R G hd σ) (c : cPl D R (W * G) pl σ) (pw : PW D R (W * G) pl) (lv : cLive D live σ) {row : Nat} (hr : row < R) : D_PL_firstToRebuild F n σ (nI row) = some (si D row (frb (W * G) hd pl live row)) := by
  obtain ⟨ge, ln, hF⟩ := id cx
  have gn := ge.num
  have hh := ge.2.2.2.2.1
  obtain ⟨⟨_, _⟩, ⟨_, _, _⟩, ⟨_, _⟩, ⟨_, _⟩, ⟨_, _⟩, _, _, _, _⟩ := id gn
  have body : ∀ k p, p < W * G → D_PL_firstToRebuild_L2 F n σ (nI row) (k + 1) (nI p) = if (decide (pl row p = none) && !live (hd row p)) = true then some (Sum.inr (nI (row * D + p))) else D_PL_firstToRebuild_L2 F n σ (nI row) k (nI (p + 1)) := by
    intro k p hp
    have i2 := lt2 hr (show p < D by omega)
    rw [D_PL_firstToRebuild_L2, g.1.2.2.2.2.2.2.1, if_neg (by rw [nI_leI (by omega) (by omega)]; omega), e_LA_slot g, Option.bind_some, grd_in (by rw [ln.1.2.2.2.2.2.2.2.1]; omega) (by omega), nI_clamp (by omega), c.1 row p hr hp]
    by_cases hn : pl row p = none
    · rw [hn, if_pos (by rfl), grd_in (by rw [ln.1.2.1]; omega) (by omega), g.2 row p hr (by omega), e_LA_diskOf gn g _ row (hh row p) (by omega), Option.bind_some, grd_in (by rw [ln.1.2.2.1]; exact hh row p) (by have := hh row p; omega), nI_clamp (by have := hh row p; omega), lv _ (hh row p), nm_q, nI_1]
      cases live (hd row p) <;> rfl
    · have := pc_m1 (R := R) (row := row) (p := pl row p) (fun d e => by have := idx_c gn (pw.1 row p d hr hp e) (show row ≤ R by omega); omega)
      rw [if_neg (fun e => hn (this.mp e)), nm_q, nI_1, if_neg (by simp [hn])]
  have key := lp_srch (L := fun k x => D_PL_firstToRebuild_L2 F n σ (nI row) k x) (f := fun p => decide (pl row p = none) && !live (hd row p)) (v := fun p => nI (row * D + p)) (N := W * G) (lo := 0)
    (fun k => by show D_PL_firstToRebuild_L2 F n σ (nI row) (k + 1) (nI (W * G)) = _; rw [D_PL_firstToRebuild_L2, g.1.2.2.2.2.2.2.1, if_pos (Int32.le_refl _)])
    (fun k q _ hq hf => by
      show D_PL_firstToRebuild_L2 F n σ (nI row) (k + 1) (nI q) = _
      rw [body k q hq, if_neg (by rw [hf]; decide)])
    (fun k q _ hq hf => by
      show D_PL_firstToRebuild_L2 F n σ (nI row) (k + 1) (nI q) = _
      rw [body k q hq, if_pos hf])
    (W * G) 0 F (Nat.zero_le _) (by omega) (by omega)
  have key : D_PL_firstToRebuild_L2 F n σ (nI row) F (nI 0) = _ := key
  rw [D_PL_firstToRebuild, ← nI_0, key, Option.bind_some]
  unfold frb
  cases srch (fun p => decide (pl row p = none) && !live (hd row p)) (W * G) 0 <;> rfl
theorem e_PL_firstToCopyBack (cx : Ctx D W R G hd n F) (g : cGeo D W R G hd σ) (h : cK D R K σ) (lv : cLive D live σ) : D_PL_firstToCopyBack F n σ = some (match fcb R (W * G) hd live K with | none => -1 | some q => nI (q.1 * D + q.2)) := by
  obtain ⟨ge, ln, hF⟩ := id cx
  have gn := ge.num
  have hh := ge.2.2.2.2.1
  obtain ⟨⟨_, _⟩, ⟨_, _, _⟩, ⟨_, _⟩, ⟨_, _⟩, ⟨_, _⟩, _, _, _, _⟩ := id gn
  have body : ∀ row, row < R → ∀ k p, p < W * G → D_PL_firstToCopyBack_L15 F n σ (nI row) (k + 1) (nI p) = if cbk hd live K row p = true then some (Sum.inr (nI (row * D + p))) else D_PL_firstToCopyBack_L15 F n σ (nI row) k (nI (p + 1)) := by
    intro row hr k p hp
    have i2 := lt2 hr (show p < D by omega)
    rw [D_PL_firstToCopyBack_L15, g.1.2.2.2.2.2.2.1, if_neg (by rw [nI_leI (by omega) (by omega)]; omega), e_LA_slot g, Option.bind_some, grd_in (by rw [ln.1.2.1]; omega) (by omega), nm_q, nI_clamp (by omega), g.2 row p hr (by omega), e_LA_diskOf gn g _ row (hh row p) (by omega), Option.bind_some, grd_in (by rw [ln.1.2.2.1]; exact hh row p) (by have := hh row p; omega), nI_clamp (by have := hh row p; omega), lv _ (hh row p), nm_q, nI_1]
    unfold cbk
    cases live (hd row p) with
    | false => rfl
    | true =>
      rw [if_neg (by decide), e_RK_isWritten gn ln.c h (hh row p) (by omega), Option.bind_some]
      cases (K (hd row p) row).isSome <;> rfl
  have inner : ∀ row, row < R → D_PL_firstToCopyBack_L15 F n σ (nI row) F (nI 0) = some (match srch (cbk hd live K row) (W * G) 0 with | none => .inl () | some p => .inr (nI (row * D + p))) := by
    intro row hr
    exact lp_srch (L := fun k x => D_PL_firstToCopyBack_L15 F n σ (nI row) k x) (f := cbk hd live K row) (v := fun p => nI (row * D + p)) (N := W * G) (lo := 0)
      (fun k => by show D_PL_firstToCopyBack_L15 F n σ (nI row) (k + 1) (nI (W * G)) = _; rw [D_PL_firstToCopyBack_L15, g.1.2.2.2.2.2.2.1, if_pos (Int32.le_refl _)])
      (fun k q _ hq hf => by
        show D_PL_firstToCopyBack_L15 F n σ (nI row) (k + 1) (nI q) = _
        rw [body row hr k q hq, if_neg (by rw [hf]; decide)])
      (fun k q _ hq hf => by
        show D_PL_firstToCopyBack_L15 F n σ (nI row) (k + 1) (nI q) = _
        rw [body row hr k q hq, if_pos hf])
      (W * G) 0 F (Nat.zero_le _) (by omega) (by omega)
  have key := lp_srch (L := fun k x => D_PL_firstToCopyBack_L2 F n σ k x) (f := fun r => (srch (cbk hd live K r) (W * G) 0).isSome) (v := fun r => nI (r * D + (srch (cbk hd live K r) (W * G) 0).getD 0)) (N := R) (lo := 0)
    (fun k => by show D_PL_firstToCopyBack_L2 F n σ (k + 1) (nI R) = _; rw [D_PL_firstToCopyBack_L2, g.1.2.2.1, if_pos (Int32.le_refl _)])
    (fun k r _ hr hf => by
      show D_PL_firstToCopyBack_L2 F n σ (k + 1) (nI r) = D_PL_firstToCopyBack_L2 F n σ k (nI (r + 1))
      rw [D_PL_firstToCopyBack_L2, g.1.2.2.1, if_neg (by rw [nI_leI (by omega) (by omega)]; omega), ← nI_0, inner r hr, Option.bind_some]
      cases hs : srch (cbk hd live K r) (W * G) 0 with
      | none => simp only [nm_q, nI_1]
      | some p => rw [hs] at hf; cases hf)
    (fun k r _ hr hf => by
      show D_PL_firstToCopyBack_L2 F n σ (k + 1) (nI r) = _
      rw [D_PL_firstToCopyBack_L2, g.1.2.2.1, if_neg (by rw [nI_leI (by omega) (by omega)]; omega), ← nI_0, inner r hr, Option.bind_some]
      cases hs : srch (cbk hd live K r) (W * G) 0 with
      | none => rw [hs] at hf; cases hf
      | some p => rfl)
    R 0 F (Nat.zero_le _) (by omega) (by omega)
  have key : D_PL_firstToCopyBack_L2 F n σ F (nI 0) = _ := key
  rw [D_PL_firstToCopyBack, ← nI_0, key, Option.bind_some]
  unfold fcb
  cases hs : srch (fun r => (srch (cbk hd live K r) (W * G) 0).isSome) R 0 with
  | none => rfl
  | some r =>
    obtain ⟨_, _, h3, _⟩ := srch_some hs
    cases hs2 : srch (cbk hd live K r) (W * G) 0 with
    | none => rw [hs2] at h3; cases h3
    | some p =>
      show some (nI (r * D + (srch (cbk hd live K r) (W * G) 0).getD 0)) = some (match Option.map (fun p => (r, p)) (srch (cbk hd live K r) (W * G) 0) with | none => -1 | some q => nI (q.1 * D + q.2))
      rw [hs2]; rfl
theorem e_RK_countLive (cx : Ctx D W R G hd n F) (g : cGeo D W R G hd σ) (lv : cLive D live σ) : D_RK_countLive F n σ = some (nI (cnt live D 0)) := by
  obtain ⟨ge, ln, hF⟩ := id cx
  obtain ⟨⟨_, _⟩, ⟨_, _, _⟩, ⟨_, _⟩, ⟨_, _⟩, ⟨_, _⟩, _, _, _, _⟩ := ge.num
  have body : ∀ k i c, i < D → D_RK_countLive_L4 F n σ (k + 1) (nI i) (nI c) = if b2i (live i) = 0 then D_RK_countLive_L4 F n σ k (nI (i + 1)) (nI c) else D_RK_countLive_L4 F n σ k (nI (i + 1)) (nI (c + 1)) := by
    intro k i c hi
    rw [D_RK_countLive_L4, g.1.1, if_neg (by rw [nI_leI (by omega) (by omega)]; omega), grd_in (by rw [ln.1.2.2.1]; omega) (by omega), nI_clamp (by omega), lv i hi]
    simp only [nm_q, nI_1]
  have key := lp_cnt (L := fun k x c => D_RK_countLive_L4 F n σ k x c) (f := live) (N := D) (lo := 0)
    (fun k c => by show D_RK_countLive_L4 F n σ (k + 1) (nI D) c = _; rw [D_RK_countLive_L4, g.1.1, if_pos (Int32.le_refl _)])
    (fun k i c _ hi hf => by show D_RK_countLive_L4 F n σ (k + 1) (nI i) (nI c) = _; rw [body k i c hi, hf, if_pos (by rfl)])
    (fun k i c _ hi hf => by show D_RK_countLive_L4 F n σ (k + 1) (nI i) (nI c) = _; rw [body k i c hi, hf, if_neg (by decide)])
    D 0 F 0 (Nat.zero_le _) (by omega) (by omega)
  have key : D_RK_countLive_L4 F n σ F (nI 0) (nI 0) = _ := key
  rw [D_RK_countLive, ← nI_0, key, Option.bind_some, Nat.zero_add]
end SC
