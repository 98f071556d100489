def V0 : Nat → Nat → Int64 := fun _ _ => 0
theorem idl_0 {W G row p i : Nat} : idl W G V0 V0 row p i = 0 := by
  unfold idl
  split
  · exact xorN_0 (fun _ _ => rfl)
  · rfl
section CD
variable {F : Nat} {n : Nat → Nat} {σ : HS} {D W R G : Nat} {hd : Nat → Nat → Nat}
def lv0 (D : Nat) : Nat → Bool := fun d => decide (d < D)
theorem K0_at {d o : Nat} (hd1 : d < D) (ho : o ≤ R) : K0 D R (W * G) hd d o = some ((if o < R then tgf (W * G) hd o d else 0), zr, zr) := if_pos ⟨hd1, ho⟩
theorem K0_some {d o : Nat} {v : CellV} (h : K0 D R (W * G) hd d o = some v) : d < D ∧ o ≤ R ∧ v = ((if o < R then tgf (W * G) hd o d else 0), zr, zr) := by
  unfold K0 at h
  split at h
  · rename_i e
    cases h
    exact ⟨e.1, e.2, rfl⟩
  · cases h
theorem K0_home (ge : Geo D W R G hd) {row p : Nat} (hr : row < R) (hp : p < W * G) : K0 D R (W * G) hd (hd row p) row = some (p + 1, zr, zr) := by
  obtain ⟨⟨_, _⟩, ⟨_, _, _⟩, ⟨_, _⟩, ⟨_, _⟩, ⟨_, _⟩, _, _, _, _⟩ := ge.num
  rw [K0_at (ge.2.2.2.2.1 row p) (by omega), if_pos hr, tgf_at ge (by omega), if_pos hp]
theorem K0_fnd (ge : Geo D W R G hd) {row p : Nat} (hr : row < R) (hp : p < W * G) : fnd D (W * G) hd (K0 D R (W * G) hd) row p = some (hd row p) := fnd_home (by rw [K0_home ge hr hp]; rfl)
theorem K0_kw (ge : Geo D W R G hd) : KW D R (K0 D R (W * G) hd) := by
  obtain ⟨⟨_, _⟩, ⟨_, _, _⟩, ⟨_, _⟩, ⟨_, _⟩, ⟨_, _⟩, _, _, _, _⟩ := ge.num
  intro d o v hd1 ho e
  obtain ⟨_, _, rfl⟩ := K0_some e
  refine vOK_zr ?_
  split
  · obtain ⟨q, hq, rfl⟩ := ge.2.2.2.2.2.2 o d hd1
    rw [tgf_at ge hq]
    split <;> omega
  · omega
theorem K0_gon (ge : Geo D W R G hd) : GON D W R G hd (lv0 D) (K0 D R (W * G) hd) (fnd D (W * G) hd (K0 D R (W * G) hd)) V0 := by
  obtain ⟨⟨_, _⟩, ⟨_, _, _⟩, ⟨_, _⟩, ⟨_, _⟩, ⟨_, _⟩, _, _, _, _⟩ := ge.num
  have lg : ∀ d v, K0 D R (W * G) hd d R = some v → v.1 = 0 := fun d v e => by
    obtain ⟨_, _, rfl⟩ := K0_some e
    exact if_neg (Nat.lt_irrefl R)
  have sp : ∀ row q v, row < R → W * G ≤ q → q < D → K0 D R (W * G) hd (hd row q) row = some v → v.1 = 0 := fun row q v hr h1 h2 e => by
    obtain ⟨_, _, rfl⟩ := K0_some e
    show (if row < R then tgf (W * G) hd row (hd row q) else 0) = 0
    rw [if_pos hr, tgf_at ge h2, if_neg (by omega)]
  refine ⟨⟨⟨fun d hd1 => decide_eq_false (by omega), fun d o e => ?_, K0_kw ge, fnd_PW ge⟩, fun row p v hr hp e => ?_, fun row q v hr h1 h2 e => ?_, fun row p d hr hp e => ?_, fun d v e => ?_, fun row gi hr hg => ?_, by omega, by omega, by omega⟩, fun row q v p hr h1 h2 hp e ez et => ?_, lg⟩
  · unfold K0
    rw [if_neg (fun z => of_decide_eq_false e z.1)]
  · rw [K0_home ge hr hp] at e
    cases e
    exact ⟨rfl, K0_fnd ge hr hp, fun i _ => idl_0.symm⟩
  · have := sp row q v hr h1 h2 e
    exact ⟨by omega, fun p _ y => by omega⟩
  · rw [K0_fnd ge hr hp] at e
    cases e
    exact ⟨_, K0_home ge hr hp, rfl⟩
  · refine ⟨?_, Or.inl (lg d v e)⟩
    obtain ⟨_, _, rfl⟩ := K0_some e
    exact z9_zr
  · rw [cnt_false (fun j _ hj => ?_)]
    · omega
    · rw [K0_fnd ge hr (pos_lt hg (show j < W by omega))]
      show (!isv (K0 D R (W * G) hd (hd row (W * gi + j)) row)) = false
      rw [K0_home ge hr (pos_lt hg (show j < W by omega))]
      show (!z9 zr) = false
      rw [z9_zr]; rfl
  · have := sp row q v hr h1 h2 e
    omega
theorem e_PL_init (ge : Geo D W R G hd) (l : n 9 = R * D ∧ n 10 = D ∧ n 11 = D * (R + 1) * 9 ∧ n 12 = D * (R + 1) * 9 ∧ n 13 = D * (R + 1) ∧ n 14 = D * (R + 1)) (g : cGeo D W R G hd σ) (lv : cLive D (lv0 D) σ) (hk : cK D R (K0 D R (W * G) hd) σ) (hF : 5000 ≤ F) : ∃ n1 τ, D_PL_init F n σ = some (n1, τ) ∧ LenC D W R G n1 ∧ cGeo D W R G hd τ ∧ cLive D (lv0 D) τ ∧ cK D R (K0 D R (W * G) hd) τ ∧ cPl D R (W * G) (fnd D (W * G) hd (K0 D R (W * G) hd)) τ := by
  obtain ⟨⟨_, _⟩, ⟨_, _, _⟩, ⟨_, _⟩, ⟨_, _⟩, ⟨_, _⟩, _, _, _, _⟩ := ge.num
  obtain ⟨l9, l10, l11, l12, l13, l14⟩ := l
  rw [D_PL_init, g.1.2.2.1, g.1.1, pk_mul, grd_t (okN_t (by omega) (by omega))]
  simp only [nm_q]
  rw [yC_1 15 1 (by decide), g.1.2.2.2.2.2.2.2.2, grd_t (okN_t (by omega) (by omega)), nI_clamp (by omega), nI_clamp (by omega)]
  generalize hn' : setA (setA n 15 (R * D)) 16 (D * (R + 1)) = n'
  generalize hσ' : stC (zC (zC σ 15) 16) 3 _ = σ'
  have m : ∀ a, a ≠ 15 → a ≠ 16 → n' a = n a := fun a h1 h2 => by rw [← hn', setA_n _ _ h2, setA_n _ _ h1]
  have ln : LenC D W R G n' := ⟨⟨trivial, by rw [m 9 (by decide) (by decide)]; exact l9, by rw [m 10 (by decide) (by decide)]; exact l10, by rw [m 11 (by decide) (by decide)]; exact l11, by rw [m 12 (by decide) (by decide)]; exact l12, by rw [m 13 (by decide) (by decide)]; exact l13, by rw [m 14 (by decide) (by decide)]; exact l14, by rw [← hn', setA_n _ _ (by decide), setA_s], by rw [← hn', setA_s]⟩, trivial⟩
  have b1 : ∀ a, a ≠ 3 → a ≠ 15 → a ≠ 16 → σ'.1 a = σ.1 a := fun a h3 h15 h16 => by rw [← hσ', ytC_1 3 _ a h3, yC_1 16 a h16, yC_1 15 a h15]
  have b2 : ∀ a, a ≠ 15 → a ≠ 16 → σ'.2 a = σ.2 a := fun a h15 h16 => by
    rw [← hσ']
    show (zC (zC σ 15) 16).2 a = _
    rw [yC_2 16 a h16, yC_2 15 a h15]
  have g' : cGeo D W R G hd σ' := g.congr (b1 1 (by decide) (by decide) (by decide)) (b1 9 (by decide) (by decide) (by decide))
  have hk' : cK D R (K0 D R (W * G) hd) σ' := hk.congr (b1 13 (by decide) (by decide) (by decide)) (b1 14 (by decide) (by decide) (by decide)) (b2 11 (by decide) (by decide)) (b2 12 (by decide) (by decide))
  obtain ⟨τ, t1, t2, t3⟩ := e_PL_find (F := F) ge ln g' hk' (K0_kw ge) (by omega)
  rw [t1, Option.bind_some]
  exact ⟨n', τ, rfl, ln, t2.geo g', fun d hd1 => by rw [t2.2 10 (by decide) (by decide), b1 10 (by decide) (by decide) (by decide)]; exact lv d hd1, t2.cK hk', t3⟩
theorem e_SF_init (p1 p2 p3 : Int32) (hF : 5000 ≤ F) {D W R : Nat} (hD : 6 ≤ D ∧ D ≤ 16) (hW : 3 ≤ W ∧ W ≤ 8 ∧ W < D) (hR : 48 ≤ R ∧ R ≤ 64) (e1 : ∀ (α : Type) (T : Int32 → α), q1 p1 T = T (nI D)) (e2 : ∀ (α : Type) (T : Int32 → α), q2 (nI D) p2 T = T (nI W)) (e3 : ∀ (α : Type) (T : Int32 → α), q3 p3 T = T (nI R)) : ∃ n1 τ, D_SF_init F n0_ σ0_ p1 p2 p3 = some (n1, τ) ∧ LenC D W R ((D - 1) / W) n1 ∧ (n1 5 = 8 ∧ n1 6 = 8 ∧ n1 7 = 8 ∧ n1 8 = 8) ∧ CI D W R ((D - 1) / W) (hdf D) (lv0 D) (fnd D (W * ((D - 1) / W)) (hdf D) (K0 D R (W * ((D - 1) / W)) (hdf D))) (K0 D R (W * ((D - 1) / W)) (hdf D), true, 0, 0) 0 zr 0 τ := by
  have ge := geo_ok hD hW hR
  obtain ⟨n1, τ1, a1, a2, a3⟩ := e_laB (F := F) (n := n0_) (σ := σ0_) hD hW hR (by omega)
  obtain ⟨n2, τ2, b1, b2, b3, b4, b5⟩ := e_RK_init (F := F) ge a2 a3 (by omega)
  obtain ⟨n3, τ3, c1, c2, c3, c4, c5, c6⟩ := e_PL_init (F := F) ge b2 b3 b4 b5 hF
  have eL : D_LA_init F n0_ σ0_ p1 p2 p3 = some (n1, τ1) := by rw [la_eq, e1, e2, e3]; exact a1
  rw [D_SF_init, eL, Option.bind_some, nm2_q]
  dsimp only
  rw [b1, Option.bind_some, nm2_q]
  dsimp only
  rw [c1, Option.bind_some, nm2_q]
  dsimp only
  simp only [nm_q]
  rw [grd_t (show okN (8 : Int32) 8 = true by decide), grd_t (show okN (8 : Int32) 8 = true by decide), grd_t (show okN (8 : Int32) 8 = true by decide), grd_t (show okN (8 : Int32) 8 = true by decide), show ((8 : Int32)).toNatClampNeg = 8 from rfl]
  generalize hn' : setA (setA (setA (setA n3 5 8) 6 8) 7 8) 8 8 = n'
  generalize hσ4 : stC τ3 4 _ = σ4
  have s4 : σ4.1 4 0 = 1 ∧ σ4.1 4 1 = 0 ∧ σ4.1 4 2 = 0 := by rw [← hσ4, ytC_s]; exact ⟨rfl, rfl, rfl⟩
  have s41 : ∀ a, a ≠ 4 → σ4.1 a = τ3.1 a := fun a h => by rw [← hσ4]; exact ytC_1 4 _ a h
  have s42 : σ4.2 = τ3.2 := by rw [← hσ4]; rfl
  generalize hσ' : stC (zC (zC (zC (zC σ4 5) 6) 7) 8) 0 _ = σ'
  have m : ∀ a, a ≠ 5 → a ≠ 6 → a ≠ 7 → a ≠ 8 → n' a = n3 a := fun a h5 h6 h7 h8 => by rw [← hn', setA_n _ _ h8, setA_n _ _ h7, setA_n _ _ h6, setA_n _ _ h5]
  have d1 : ∀ a, a ≠ 0 → a ≠ 5 → a ≠ 6 → a ≠ 7 → a ≠ 8 → σ'.1 a = σ4.1 a := fun a h0 h5 h6 h7 h8 => by rw [← hσ', ytC_1 0 _ a h0, yC_1 8 a h8, yC_1 7 a h7, yC_1 6 a h6, yC_1 5 a h5]
  have d2 : ∀ a, a ≠ 5 → a ≠ 6 → a ≠ 7 → a ≠ 8 → σ'.2 a = σ4.2 a := fun a h5 h6 h7 h8 => by
    rw [← hσ']
    show (zC (zC (zC (zC σ4 5) 6) 7) 8).2 a = _
    rw [yC_2 8 a h8, yC_2 7 a h7, yC_2 6 a h6, yC_2 5 a h5]
  have dd : ∀ a, a ≠ 0 → a ≠ 4 → a ≠ 5 → a ≠ 6 → a ≠ 7 → a ≠ 8 → σ'.1 a = τ3.1 a := fun a h0 h4 h5 h6 h7 h8 => by rw [d1 a h0 h5 h6 h7 h8, s41 a h4]
  have dl : ∀ a, a ≠ 5 → a ≠ 6 → a ≠ 7 → a ≠ 8 → σ'.2 a = τ3.2 a := fun a h5 h6 h7 h8 => by rw [d2 a h5 h6 h7 h8, s42]
  refine ⟨n', σ', rfl, ⟨⟨trivial, by rw [m 9 (by decide) (by decide) (by decide) (by decide)]; exact c2.1.2.1, by rw [m 10 (by decide) (by decide) (by decide) (by decide)]; exact c2.1.2.2.1, by rw [m 11 (by decide) (by decide) (by decide) (by decide)]; exact c2.1.2.2.2.1, by rw [m 12 (by decide) (by decide) (by decide) (by decide)]; exact c2.1.2.2.2.2.1, by rw [m 13 (by decide) (by decide) (by decide) (by decide)]; exact c2.1.2.2.2.2.2.1, by rw [m 14 (by decide) (by decide) (by decide) (by decide)]; exact c2.1.2.2.2.2.2.2.1, by rw [m 15 (by decide) (by decide) (by decide) (by decide)]; exact c2.1.2.2.2.2.2.2.2.1, by rw [m 16 (by decide) (by decide) (by decide) (by decide)]; exact c2.1.2.2.2.2.2.2.2.2⟩, trivial⟩, ?_, ⟨?_, ?_, ?_, ⟨?_, ?_, ?_, by show 0 < 2 ^ 31; omega⟩, ?_⟩, fun _ => ?_, ?_, ?_, ?_, fun i hi => ?_⟩
  · rw [← hn']
    exact ⟨by rw [setA_n _ _ (by decide), setA_n _ _ (by decide), setA_n _ _ (by decide), setA_s], by rw [setA_n _ _ (by decide), setA_n _ _ (by decide), setA_s], by rw [setA_n _ _ (by decide), setA_s], by rw [setA_s]⟩
  · exact c3.congr (dd 1 (by decide) (by decide) (by decide) (by decide) (by decide) (by decide)) (dd 9 (by decide) (by decide) (by decide) (by decide) (by decide) (by decide))
  · exact fun d hd1 => by rw [dd 10 (by decide) (by decide) (by decide) (by decide) (by decide) (by decide)]; exact c4 d hd1
  · exact c5.congr (dd 13 (by decide) (by decide) (by decide) (by decide) (by decide) (by decide)) (dd 14 (by decide) (by decide) (by decide) (by decide) (by decide) (by decide)) (dl 11 (by decide) (by decide) (by decide) (by decide)) (dl 12 (by decide) (by decide) (by decide) (by decide))
  · rw [d1 4 (by decide) (by decide) (by decide) (by decide) (by decide), s4.1]; rfl
  · rw [d1 4 (by decide) (by decide) (by decide) (by decide) (by decide), s4.2.1]; rfl
  · rw [d1 4 (by decide) (by decide) (by decide) (by decide) (by decide), s4.2.2]
  · intro i hi
    rw [← hσ']
    show (zC (zC (zC (zC σ4 5) 6) 7) 8).2 8 i = 0
    rw [yC_s2]
  · exact c6.congr (dd 15 (by decide) (by decide) (by decide) (by decide) (by decide) (by decide)) (dd 16 (by decide) (by decide) (by decide) (by decide) (by decide) (by decide))
  · rw [← hσ', ytC_s]; rfl
  · rw [← hσ', ytC_s]; rfl
  · rw [← hσ', ytC_s]; rfl
  · rw [← hσ']
    show (zC (zC (zC (zC σ4 5) 6) 7) 8).2 5 i = zr i
    rw [yC_2 8 5 (by decide), yC_2 7 5 (by decide), yC_2 6 5 (by decide), yC_s2]; rfl
end CD
