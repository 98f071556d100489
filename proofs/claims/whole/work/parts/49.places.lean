/-- the place that opening finds: home, if it is written; else the first spare that is valid and bears the tag -/
def fnd (D N : Nat) (hd : Nat → Nat → Nat) (K : Rk) (row p : Nat) : Option Nat := if (K (hd row p) row).isSome then some (hd row p) else (srch (fun q => ist (K (hd row q) row) (p + 1)) (D - N) N).map (hd row)
/-- the class's rows place and holder -/
def cPl (D R N : Nat) (pl : Nat → Nat → Option Nat) (σ : HS) : Prop := (∀ row p, row < R → p < N → σ.1 15 (row * D + p) = pc_ R row (pl row p)) ∧ ∀ d o, d < D → o ≤ R → (∀ p, o < R → p < N → pl o p = some d → σ.1 16 (d * (R + 1) + o) = nI (o * D + p)) ∧ ((o = R ∨ ∀ p, p < N → pl o p ≠ some d) → σ.1 16 (d * (R + 1) + o) = -1)
/-- places are disks, and no two positions of a row have one place -/
def PW (D R N : Nat) (pl : Nat → Nat → Option Nat) : Prop := (∀ row p d, row < R → p < N → pl row p = some d → d < D) ∧ ∀ row p q d, row < R → p < N → q < N → pl row p = some d → pl row q = some d → p = q
def setP (pl : Nat → Nat → Option Nat) (row p : Nat) (x : Option Nat) : Nat → Nat → Option Nat := fun r q => if r = row ∧ q = p then x else pl r q
theorem cPl.congr {D R N : Nat} {pl : Nat → Nat → Option Nat} {σ τ : HS} (h : cPl D R N pl σ) (h15 : τ.1 15 = σ.1 15) (h16 : τ.1 16 = σ.1 16) : cPl D R N pl τ := by
  unfold cPl at *
  rw [h15, h16]
  exact h
theorem slot_inj {D row p row1 p1 : Nat} (h : p < D) (h1 : p1 < D) (e : row * D + p = row1 * D + p1) : row = row1 ∧ p = p1 := by
  have e1 : (row * D + p) / D = row := by rw [Nat.add_comm, Nat.add_mul_div_right _ _ (by omega), Nat.div_eq_of_lt (by omega), Nat.zero_add]
  have e2 : (row1 * D + p1) / D = row1 := by rw [Nat.add_comm, Nat.add_mul_div_right _ _ (by omega), Nat.div_eq_of_lt (by omega), Nat.zero_add]
  rw [e, e2] at e1
  subst e1
  exact ⟨rfl, by omega⟩
theorem cPl.skip {D R N : Nat} {pl : Nat → Nat → Option Nat} {σ τ : HS} {row p : Nat} (h : cPl D R N pl σ) (hN : N ≤ D) (hp : p < N) (hn : pl row p = none) (h15 : τ.1 15 = upd (σ.1 15) (row * D + p) (-1)) (h16 : τ.1 16 = σ.1 16) : cPl D R N pl τ := by
  refine ⟨fun r q hr hq => ?_, fun d o hd ho => by rw [h16]; exact h.2 d o hd ho⟩
  rw [h15, upd_a]
  by_cases e : r * D + q = row * D + p
  · obtain ⟨e1, e2⟩ := slot_inj (by omega) (by omega) e
    subst e1 e2
    rw [if_pos rfl, hn]; rfl
  · rw [if_neg e]; exact h.1 r q hr hq
theorem cPl.set {D R N : Nat} {pl : Nat → Nat → Option Nat} {σ τ : HS} {row p d : Nat} (h : cPl D R N pl σ) (hN : N ≤ D) (hr : row < R) (hp : p < N) (hfree : ∀ q, q < N → pl row q ≠ some d) (hn : pl row p = none) (h15 : τ.1 15 = upd (σ.1 15) (row * D + p) (nI (d * (R + 1) + row))) (h16 : τ.1 16 = upd (σ.1 16) (d * (R + 1) + row) (nI (row * D + p))) : cPl D R N (setP pl row p (some d)) τ := by
  refine ⟨fun r q hr1 hq => ?_, fun d1 o hd1 ho => ⟨fun q ho1 hq e => ?_, fun e => ?_⟩⟩
  · rw [h15, upd_a]
    unfold setP
    by_cases e : r * D + q = row * D + p
    · obtain ⟨e1, e2⟩ := slot_inj (by omega) (by omega) e
      subst e1 e2
      rw [if_pos rfl, if_pos ⟨rfl, rfl⟩]; rfl
    · rw [if_neg e, if_neg (fun z => e (by rw [z.1, z.2]))]; exact h.1 r q hr1 hq
  · rw [h16, upd_a]
    unfold setP at e
    by_cases c : o = row ∧ q = p
    · rw [if_pos c] at e
      cases e
      rw [c.1, c.2, if_pos rfl]
    · rw [if_neg c] at e
      have hne : d1 * (R + 1) + o ≠ d * (R + 1) + row := fun z => by
        obtain ⟨z1, z2⟩ := cell_inj ho (by omega) z
        subst z1 z2
        exact hfree q hq e
      rw [if_neg hne]
      exact (h.2 d1 o hd1 ho).1 q ho1 hq e
  · rw [h16, upd_a]
    have hne : d1 * (R + 1) + o ≠ d * (R + 1) + row := fun z => by
      obtain ⟨z1, z2⟩ := cell_inj ho (by omega) z
      subst z1 z2
      rcases e with e | e
      · omega
      · exact e p hp (by unfold setP; rw [if_pos ⟨rfl, rfl⟩])
    rw [if_neg hne]
    refine (h.2 d1 o hd1 ho).2 (e.imp id (fun e q hq z => ?_))
    by_cases c : o = row ∧ q = p
    · rw [c.1, c.2, hn] at z; cases z
    · exact e q hq (by unfold setP; rw [if_neg c]; exact z)
theorem cPl.clr {D R N : Nat} {pl : Nat → Nat → Option Nat} {σ τ : HS} {row p d : Nat} (h : cPl D R N pl σ) (pw : PW D R N pl) (hN : N ≤ D) (hr : row < R) (hp : p < N) (hn : pl row p = some d) (h15 : τ.1 15 = upd (σ.1 15) (row * D + p) (-1)) (h16 : τ.1 16 = upd (σ.1 16) (d * (R + 1) + row) (-1)) : cPl D R N (setP pl row p none) τ := by
  refine ⟨fun r q hr1 hq => ?_, fun d1 o hd1 ho => ⟨fun q ho1 hq e => ?_, fun e => ?_⟩⟩
  · rw [h15, upd_a]
    unfold setP
    by_cases e : r * D + q = row * D + p
    · obtain ⟨e1, e2⟩ := slot_inj (by omega) (by omega) e
      subst e1 e2
      rw [if_pos rfl, if_pos ⟨rfl, rfl⟩]; rfl
    · rw [if_neg e, if_neg (fun z => e (by rw [z.1, z.2]))]; exact h.1 r q hr1 hq
  · rw [h16, upd_a]
    unfold setP at e
    by_cases c : o = row ∧ q = p
    · rw [if_pos c] at e; cases e
    · rw [if_neg c] at e
      have hne : d1 * (R + 1) + o ≠ d * (R + 1) + row := fun z => by
        obtain ⟨z1, z2⟩ := cell_inj ho (by omega) z
        subst z1 z2
        exact c ⟨rfl, pw.2 o q p d1 ho1 hq hp e hn⟩
      rw [if_neg hne]
      exact (h.2 d1 o hd1 ho).1 q ho1 hq e
  · rw [h16, upd_a]
    by_cases z : d1 * (R + 1) + o = d * (R + 1) + row
    · rw [if_pos z]
    · rw [if_neg z]
      refine (h.2 d1 o hd1 ho).2 (e.imp id (fun e q hq y => ?_))
      by_cases c : o = row ∧ q = p
      · rw [c.1, c.2, hn] at y
        cases y
        exact z (by rw [c.1])
      · exact e q hq (by unfold setP; rw [if_neg c]; exact y)
section PL
variable {D W R G : Nat} {hd : Nat → Nat → Nat} {F : Nat} {n : Nat → Nat} {σ : HS} {K : Rk}
theorem ist_iff {c : Option CellV} {t : Nat} : ist c t = true ↔ ∃ v, c = some v ∧ z9 v.2.2 = true ∧ v.1 = t := by
  cases c with
  | none => simp [ist]
  | some v => simp [ist]
theorem e_PL_found (ge : Geo D W R G hd) (ln : LenC D W R G n) (g : cGeo D W R G hd σ) (h : cK D R K σ) (kw : KW D R K) (hF : 100 ≤ F) {row p : Nat} (hr : row < R) (hp : p < W * G) : D_PL_found F n σ (nI row) (nI (row * D + p)) = some (pc_ R row (fnd D (W * G) hd K row p)) := by
  have gn := ge.num
  obtain ⟨⟨_, _⟩, ⟨_, _, _⟩, ⟨_, _⟩, ⟨_, _⟩, ⟨_, _⟩, _, _, _, _⟩ := id gn
  have i1 := lt2 hr (show p < D by omega)
  have hh := ge.2.2.2.2.1
  have key := lp_srch (L := fun k x => D_PL_found_L37 F n σ (nI row) (nI (row * D + p)) k x) (f := fun q => ist (K (hd row q) row) (p + 1)) (v := fun q => nI (hd row q * (R + 1) + row)) (N := D) (lo := 0)
    (fun k => by show D_PL_found_L37 F n σ (nI row) (nI (row * D + p)) (k + 1) (nI D) = _; rw [D_PL_found_L37, g.1.1, if_pos (Int32.le_refl _)])
    (fun k q _ hq hf => by
      have i2 := lt2 hr hq
      have i3 := idx_c gn (hh row q) (show row ≤ R by omega)
      show D_PL_found_L37 F n σ (nI row) (nI (row * D + p)) (k + 1) (nI q) = D_PL_found_L37 F n σ (nI row) (nI (row * D + p)) k (nI (q + 1))
      rw [D_PL_found_L37, g.1.1, if_neg (by rw [nI_leI (by omega) (by omega)]; omega), e_LA_slot g, Option.bind_some, grd_in (by rw [ln.1.2.1]; omega) (by omega), nm_q, nI_clamp (by omega), g.2 row q hr hq, e_RK_isValid gn ln h (hh row q) (by omega), Option.bind_some]
      cases hv : isv (K (hd row q) row) with
      | false => rw [if_pos (by rfl), nm_q, nI_1]
      | true =>
        obtain ⟨v, hk⟩ : ∃ v, K (hd row q) row = some v := by
          cases hk : K (hd row q) row with
          | none => rw [hk] at hv; cases hv
          | some v => exact ⟨v, rfl⟩
        have hz : z9 v.2.2 = true := by rw [hk] at hv; exact hv
        have ht := (kw _ _ v (hh row q) (show row ≤ R by omega) hk).1
        have hne : v.1 ≠ p + 1 := fun e => by
          rw [ist_iff.mpr ⟨v, hk, hz, e⟩] at hf; cases hf
        rw [if_neg (by decide), e_RK_tag gn ln h (hh row q) (by omega) hk hz ht, Option.bind_some, e_LA_tagOf gn g row p hr (by omega), Option.bind_some, if_neg (by rw [nI_eq (by omega) (by omega)]; exact hne), nm_q, nI_1])
    (fun k q _ hq hf => by
      have i2 := lt2 hr hq
      have i3 := idx_c gn (hh row q) (show row ≤ R by omega)
      obtain ⟨v, hk, hz, ht1⟩ := ist_iff.mp hf
      have ht := (kw _ _ v (hh row q) (show row ≤ R by omega) hk).1
      have hv : isv (K (hd row q) row) = true := by rw [hk]; exact hz
      show D_PL_found_L37 F n σ (nI row) (nI (row * D + p)) (k + 1) (nI q) = _
      rw [D_PL_found_L37, g.1.1, if_neg (by rw [nI_leI (by omega) (by omega)]; omega), e_LA_slot g, Option.bind_some, grd_in (by rw [ln.1.2.1]; omega) (by omega), nm_q, nI_clamp (by omega), g.2 row q hr hq, e_RK_isValid gn ln h (hh row q) (by omega), Option.bind_some, hv, if_neg (by decide), e_RK_tag gn ln h (hh row q) (by omega) hk hz ht, Option.bind_some, e_LA_tagOf gn g row p hr (by omega), Option.bind_some, ht1, if_pos rfl])
    (D - W * G) (W * G) F (Nat.zero_le _) (by omega) (by omega)
  have key : D_PL_found_L37 F n σ (nI row) (nI (row * D + p)) F (nI (W * G)) = _ := key
  rw [D_PL_found, grd_in (by rw [ln.1.2.1]; omega) (by omega), nI_clamp (by omega), g.2 row p hr (by omega), e_RK_isWritten gn ln h (hh row p) (by omega), Option.bind_some]
  unfold fnd
  cases hs : (K (hd row p) row).isSome with
  | false =>
    rw [if_pos (by rfl), nm_q, g.1.2.2.2.2.2.2.1, key, Option.bind_some, if_neg (by decide)]
    cases srch (fun q => ist (K (hd row q) row) (p + 1)) (D - W * G) (W * G) with
    | none => rfl
    | some q => rfl
  | true =>
    rw [if_neg (by decide), grd_in (by rw [ln.1.2.1]; omega) (by omega), if_pos rfl]; rfl
theorem fnd_lt (ge : Geo D W R G hd) {row p d : Nat} (h : fnd D (W * G) hd K row p = some d) : d < D := by
  have hh := ge.2.2.2.2.1
  unfold fnd at h
  split at h
  · cases h; exact hh _ _
  · obtain ⟨q, _, e⟩ := Option.map_eq_some_iff.mp h
    rw [← e]; exact hh _ _
theorem fnd_inj (ge : Geo D W R G hd) {row p q d : Nat} (hp : p < W * G) (hq : q < W * G) (h : fnd D (W * G) hd K row p = some d) (h2 : fnd D (W * G) hd K row q = some d) : p = q := by
  have hi := ge.2.2.2.2.2.1 row
  obtain ⟨⟨_, _⟩, ⟨_, _, _⟩, ⟨_, _⟩, ⟨_, _⟩, ⟨_, _⟩, _, _, _, _⟩ := ge.num
  unfold fnd at h h2
  split at h
  · cases h
    split at h2
    · exact hi p q (by omega) (by omega) (Option.some.inj h2).symm
    · obtain ⟨x, hx, e⟩ := Option.map_eq_some_iff.mp h2
      obtain ⟨z1, z2, _, _⟩ := srch_some hx
      have := hi x p (by omega) (by omega) e
      omega
  · obtain ⟨x, hx, e⟩ := Option.map_eq_some_iff.mp h
    obtain ⟨z1, z2, z3, _⟩ := srch_some hx
    split at h2
    · have := hi x q (by omega) (by omega) (e.trans (Option.some.inj h2).symm)
      omega
    · obtain ⟨y, hy, e1⟩ := Option.map_eq_some_iff.mp h2
      obtain ⟨y1, y2, y3, _⟩ := srch_some hy
      have exy := hi x y (by omega) (by omega) (e.trans e1.symm)
      subst exy
      obtain ⟨v, hv, _, t1⟩ := ist_iff.mp z3
      obtain ⟨v2, hv2, _, t2⟩ := ist_iff.mp y3
      rw [hv] at hv2
      cases hv2
      omega
theorem fnd_PW (ge : Geo D W R G hd) : PW D R (W * G) (fnd D (W * G) hd K) := ⟨fun row p d _ _ h => fnd_lt ge h, fun row p q d _ hp hq h h2 => fnd_inj ge hp hq h h2⟩
end PL
