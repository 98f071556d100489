def mdB (F : Nat) (n : Nat → Nat) (σ18 : HS) (x20 x22 x24 : Int32) : Option ((Nat → Nat) × HS) :=
        grd (decide (¬ x22 = 0)) (
        nm ((x20 - (1 : Int32)) / x22) (fun x26 =>
        nm (stC σ18 20 (fun (j : Nat) => (cond (Nat.beq j 0) (0) (cond (Nat.beq j 1) (x20) (cond (Nat.beq j 2) (x22) (cond (Nat.beq j 3) (x24) (cond (Nat.beq j 4) (x26) (cond (Nat.beq j 5) (0) (cond (Nat.beq j 6) (0) (cond (Nat.beq j 7) (0) (cond (Nat.beq j 8) (0) (cond (Nat.beq j 9) (0) (cond (Nat.beq j 10) (0) (cond (Nat.beq j 11) (0) (cond (Nat.beq j 12) ((1 : Int32)) (cond (Nat.beq j 13) ((-1 : Int32)) (cond (Nat.beq j 14) (0) (cond (Nat.beq j 15) (0) (cond (Nat.beq j 16) (0) (cond (Nat.beq j 17) (0) (cond (Nat.beq j 18) (0) (cond (Nat.beq j 19) ((-1 : Int32)) (cond (Nat.beq j 20) (0) (cond (Nat.beq j 21) (0) (0)))))))))))))))))))))) : Int32))) (fun σ27 =>
        (D_MD_init_L184 F n  F σ27 (1 : Int32)).bind (fun (σ57 : HS) =>
        (D_MD_init_L280 F n  F σ57 (0 : Int32)).bind (fun (σ82 : HS) =>
          (D_MD_init_L337 F n  F σ82 (0 : Int32)).bind (fun (σ109 : HS) =>
            some (n, σ109)))))))
def nM (n : Nat → Nat) : Nat → Nat := setA (setA (setA (setA (setA (setA (setA (setA (setA n 21 16) 22 16) 23 1040) 24 1040) 25 72800) 26 1024) 27 64) 28 49152) 29 64
def sM (σ : HS) : HS := zC (zC (zC (zC (zC (zC (zC (zC (zC σ 21) 22) 23) 24) 25) 26) 27) 28) 29
section CE2
variable {F : Nat} {n : Nat → Nat} {σ : HS} {D W R G : Nat} {hd : Nat → Nat → Nat}
theorem md_eq (p1 p2 p3 : Int32) : D_MD_init F n σ p1 p2 p3 = m1_ p1 (fun x20 => m2_ x20 p2 (fun x22 => m3_ p3 (fun x24 => mdB F (nM n) (sM σ) x20 x22 x24))) := by
  rw [D_MD_init, grd_t (show okN (16 : Int32) 16 = true by decide)]
  simp only [nm_q]
  rw [grd_t (show okN (16 : Int32) 16 = true by decide), grd_t (show okN (1040 : Int32) 1040 = true by decide), grd_t (show okN (1040 : Int32) 1040 = true by decide), grd_t (show okN (72800 : Int32) 72800 = true by decide), grd_t (show okN (1024 : Int32) 1024 = true by decide), grd_t (show okN (64 : Int32) 64 = true by decide), grd_t (show okN (49152 : Int32) 49152 = true by decide), grd_t (show okN (64 : Int32) 64 = true by decide)]
  rw [show ((16 : Int32)).toNatClampNeg = 16 from rfl, show ((1040 : Int32)).toNatClampNeg = 1040 from rfl, show ((72800 : Int32)).toNatClampNeg = 72800 from rfl, show ((1024 : Int32)).toNatClampNeg = 1024 from rfl, show ((64 : Int32)).toNatClampNeg = 64 from rfl, show ((49152 : Int32)).toNatClampNeg = 49152 from rfl]
  rfl
theorem e_md199 (hD : D ≤ 16) (h1 : σ.1 20 1 = nI D) {u : Nat} (hu : u ≤ 16) : ∀ m x k b, x + m = u + 1 → 2 ≤ x → m < k → D_MD_init_L199 F n σ (nI u) k (nI x) (b2i b) = some (b2i (b && (srch (fun x => decide (u % x = 0) && decide (D % x = 0)) m x).isNone)) := by
  have z : ∀ y, y < 2 ^ 31 → ((nI y = 0) ↔ y = 0) := fun y hy => by rw [← nI_0, nI_eq hy (by omega)]
  intro m
  induction m with
  | zero =>
    intro x k b hx _ hk
    obtain ⟨k, rfl⟩ : ∃ j, k = j + 1 := ⟨k - 1, by omega⟩
    rw [D_MD_init_L199, if_pos (by rw [nI_ltI (by omega) (by omega)]; omega)]
    show some (b2i b) = some (b2i (b && true))
    rw [Bool.and_true]
  | succ m ih =>
    intro x k b hx h2 hk
    obtain ⟨k, rfl⟩ : ∃ j, k = j + 1 := ⟨k - 1, by omega⟩
    have i0 : D_MD_init_L199 F n σ (nI u) k (nI (x + 1)) 0 = _ := ih (x + 1) k false (by omega) (by omega) (by omega)
    have i1 : D_MD_init_L199 F n σ (nI u) k (nI (x + 1)) 1 = _ := ih (x + 1) k true (by omega) (by omega) (by omega)
    have m1 := Nat.mod_lt u (show 0 < x by omega)
    have m2 := Nat.mod_lt D (show 0 < x by omega)
    rw [D_MD_init_L199, if_neg (by rw [nI_ltI (by omega) (by omega)]; omega), h1]
    simp only [nm_q, nI_1, grd_z (show 0 < x by omega) (show x < 2 ^ 31 by omega), pk_rem (show u < 2 ^ 31 by omega) (show 0 < x by omega) (show x < 2 ^ 31 by omega), pk_rem (show D < 2 ^ 31 by omega) (show 0 < x by omega) (show x < 2 ^ 31 by omega)]
    rw [i0, i1, srch]
    cases b with
    | false => rfl
    | true =>
      rw [if_neg (by decide)]
      by_cases e : u % x = 0
      · rw [if_pos ((z _ (by omega)).mpr e), decide_eq_true e]
        by_cases e2 : D % x = 0
        · rw [if_pos ((z _ (by omega)).mpr e2), decide_eq_true e2]; rfl
        · rw [if_neg (fun y => e2 ((z _ (by omega)).mp y)), decide_eq_false e2]; rfl
      · rw [if_neg (fun y => e ((z _ (by omega)).mp y)), decide_eq_false e]; rfl
theorem e_md184 (hn : n 21 = 16) (hF : 100 ≤ F) (hD : 6 ≤ D ∧ D ≤ 16) (h1 : σ.1 20 1 = nI D) (h6 : σ.1 20 6 = 0) : ∃ τ, D_MD_init_L184 F n F σ (nI 1) = some τ ∧ FG [21] [6] σ τ ∧ τ.1 20 6 = nI (mnf D) ∧ ∀ i, i < mnf D → τ.1 21 i = nI (uf D i) := by
  have hc := clst_t hD
  obtain ⟨_, m1, m2⟩ := uok_t hD
  obtain ⟨τ, t1, t2, t3, t4⟩ := lp (L := D_MD_init_L184 F n) (N := D) (I := fun u τ => 1 ≤ u ∧ FG [21] [6] σ τ ∧ τ.1 20 6 = nI (clst D u).length ∧ ∀ i, i < (clst D u).length → τ.1 21 i = nI ((clst D u).getD i 0)) (Q := fun τ => FG [21] [6] σ τ ∧ τ.1 20 6 = nI (clst D D).length ∧ ∀ i, i < (clst D D).length → τ.1 21 i = nI ((clst D D).getD i 0))
    (fun k τ u hu ⟨q0, q1, q2, q3⟩ => by
      have hl := clst_len (D := D) u
      have hd1 : τ.1 20 1 = nI D := by rw [q1.2.2 1 (by decide)]; exact h1
      have e199 : D_MD_init_L199 F n τ (nI u) F 2 1 = some (b2i (cop D u)) := by
        have := e_md199 (F := F) (n := n) (σ := τ) hD.2 hd1 (u := u) (by omega) (u - 1) 2 F true (by omega) (Nat.le_refl _) (by omega)
        rw [Bool.true_and] at this
        exact this
      rw [D_MD_init_L184, hd1, if_neg (by rw [nI_leI (by omega) (by omega)]; omega), e199, Option.bind_some]
      simp only [nm_q, nI_1]
      cases hcp : cop D u with
      | false =>
        have e : clst D (u + 1) = clst D u := by rw [clst, if_neg (fun z => by rw [hcp] at z; cases z.2)]
        rw [if_pos (by rfl)]
        exact Or.inl ⟨τ, ⟨by omega, q1, by rw [e]; exact q2, by rw [e]; exact q3⟩, rfl⟩
      | true =>
        have e : clst D (u + 1) = clst D u ++ [u] := by rw [clst, if_pos ⟨q0, hcp⟩]
        have el : (clst D (u + 1)).length = (clst D u).length + 1 := by rw [e, List.length_append]; rfl
        rw [if_neg (by decide), q2, grd_in (by omega) (by omega), nI_clamp (by omega), stI_1 20 (by decide), q2, nI_1]
        refine Or.inl ⟨_, ⟨by omega, ?_, ?_, fun i hi => ?_⟩, rfl⟩
        · exact (q1.tr ((FG.stI 21 _ _ (by decide)).mono (by simp) (by simp))).tr ((FG.st 6 _).mono (by simp) (by simp))
        · rw [stF_s, upd_s, el]
        · rw [el] at hi
          rw [stF_1 21 (by decide), stI_s, upd_a, e, getD_app hi]
          by_cases z : i = (clst D u).length
          · rw [if_pos z, if_pos z]
          · rw [if_neg z, if_neg z]; exact q3 i (by omega))
    (fun k τ ⟨q0, q1, q2, q3⟩ => ⟨τ, by rw [D_MD_init_L184, q1.2.2 1 (by decide), h1, if_pos (Int32.le_refl _)], q1, q2, q3⟩)
    (D - 1) 1 F σ (by omega) (by omega) ⟨Nat.le_refl _, FG.rf, by
      have c1 : (clst D 1).length = 0 := by
        have := clst_len (D := D) 1
        omega
      rw [c1, h6]; rfl, fun i hi => by
      have := clst_len (D := D) 1
      omega⟩
  rw [hc] at t3 t4
  exact ⟨τ, t1, t2, t3, t4⟩
theorem e_md280 (hn22 : n 22 = 16) (hn23 : n 23 = 1040) (hF : 100 ≤ F) (hD : 6 ≤ D ∧ D ≤ 16) (hR : 48 ≤ R ∧ R ≤ 64) (h1 : σ.1 20 1 = nI D) (h3 : σ.1 20 3 = nI R) : ∃ τ, D_MD_init_L280 F n F σ (nI 0) = some τ ∧ FG [22, 23] [] σ τ ∧ (∀ d, d < D → τ.1 22 d = nI 1) ∧ ∀ d o, d < D → o ≤ R → τ.1 23 (65 * d + o) = nI 1 := by
  have inner : ∀ d τ, d < D → FG [22, 23] [] σ τ → ∃ υ, D_MD_init_L300 F n (nI d) F τ (nI 0) = some υ ∧ FG [23] [] τ υ ∧ (∀ i, i < 65 * d → υ.1 23 i = τ.1 23 i) ∧ ∀ o, o ≤ R → υ.1 23 (65 * d + o) = nI 1 := by
    intro d τ hd1 f0
    obtain ⟨υ, u1, u2, u3, u4⟩ := lp (L := D_MD_init_L300 F n (nI d)) (N := R + 1) (I := fun m υ => FG [23] [] τ υ ∧ (∀ i, i < 65 * d → υ.1 23 i = τ.1 23 i) ∧ ∀ o, o < m → υ.1 23 (65 * d + o) = nI 1) (Q := fun υ => FG [23] [] τ υ ∧ (∀ i, i < 65 * d → υ.1 23 i = τ.1 23 i) ∧ ∀ o, o < R + 1 → υ.1 23 (65 * d + o) = nI 1)
      (fun k υ o ho ⟨q1, q2, q3⟩ => by
        refine Or.inl ⟨stI υ 23 (65 * d + o) (nI 1), ⟨q1.tr (FG.stI 23 _ _ (by decide)), fun i hi => by rw [stI_s, upd_n (by omega)]; exact q2 i hi, fun o1 ho1 => ?_⟩, ?_⟩
        · rw [stI_s, upd_a]
          by_cases e : o1 = o
          · rw [if_pos (by omega)]
          · rw [if_neg (by omega)]; exact q3 o1 (by omega)
        · rw [D_MD_init_L300, q1.2.2 3 (by simp), f0.2.2 3 (by simp), h3, if_neg (by rw [nI_ltI (by omega) (by omega)]; omega), e_MD_at, Option.bind_some, grd_in (by omega) (by omega), nI_clamp (by omega), nm_q, nm_q, nI_1]; rfl)
      (fun k υ ⟨q1, q2, q3⟩ => ⟨υ, by rw [D_MD_init_L300, q1.2.2 3 (by simp), f0.2.2 3 (by simp), h3, if_pos (by rw [nI_ltI (by omega) (by omega)]; omega)], q1, q2, q3⟩)
      (R + 1) 0 F τ (Nat.zero_add _) (by omega) ⟨FG.rf, fun _ _ => rfl, fun o h => by omega⟩
    exact ⟨υ, u1, u2, u3, fun o ho => u4 o (by omega)⟩
  exact lp (L := D_MD_init_L280 F n) (N := D) (I := fun m τ => FG [22, 23] [] σ τ ∧ (∀ d, d < m → τ.1 22 d = nI 1) ∧ ∀ d o, d < m → o ≤ R → τ.1 23 (65 * d + o) = nI 1) (Q := fun τ => FG [22, 23] [] σ τ ∧ (∀ d, d < D → τ.1 22 d = nI 1) ∧ ∀ d o, d < D → o ≤ R → τ.1 23 (65 * d + o) = nI 1)
    (fun k τ d hd1 ⟨q1, q2, q3⟩ => by
      have f1 : FG [22, 23] [] σ (stI τ 22 d (nI 1)) := q1.tr ((FG.stI 22 _ _ (by decide)).mono (by simp) (by simp))
      obtain ⟨υ, u1, u2, u3, u4⟩ := inner d (stI τ 22 d (nI 1)) hd1 f1
      have u1 : D_MD_init_L300 F n (nI d) F (stI τ 22 d (nI 1)) 0 = some υ := u1
      refine Or.inl ⟨υ, ⟨f1.tr (u2.mono (by simp) (by simp)), fun e he => ?_, fun e o he ho => ?_⟩, ?_⟩
      · rw [u2.1 22 (by decide) (by decide), stI_s, upd_a]
        by_cases z : e = d
        · rw [if_pos z]
        · rw [if_neg z]; exact q2 e (by omega)
      · by_cases z : e = d
        · rw [z]; exact u4 o ho
        · rw [u3 _ (by omega), stI_1 23 (by decide)]; exact q3 e o (by omega) ho
      · rw [D_MD_init_L280, q1.2.2 1 (by simp), h1, if_neg (by rw [nI_leI (by omega) (by omega)]; omega), grd_in (by omega) (by omega), nI_clamp (by omega), nm_q, show vp_nar .boolean (1 : Int32) = nI 1 from rfl, u1, Option.bind_some, nm_q, nI_1])
    (fun k τ ⟨q1, q2, q3⟩ => ⟨τ, by rw [D_MD_init_L280, q1.2.2 1 (by simp), h1, if_pos (Int32.le_refl _)], q1, q2, q3⟩)
    D 0 F σ (Nat.zero_add _) (by omega) ⟨FG.rf, fun d h => by omega, fun d o h => by omega⟩
theorem e_disk (gn : GN D W R G) (hn : n 21 = 16) (g : mGeo D W R G hd σ) {row p : Nat} (hr : row ≤ R) (hp : p < D) : D_MD_diskOf F n σ (nI row) (nI p) = some (nI (hd row p)) := by
  obtain ⟨⟨_, _⟩, ⟨_, _, _⟩, ⟨_, _⟩, ⟨_, _⟩, ⟨_, _⟩, _, _, _, _⟩ := gn
  obtain ⟨g1, mn, u, ⟨m1, m2, m3⟩, gu, gh⟩ := g
  have hm := Nat.mod_lt row m1
  have hu := gu (row % mn) hm
  have hb : p * u (row % mn) ≤ 16 * 16 := Nat.mul_le_mul (by omega) hu.2
  rw [D_MD_diskOf, m3, grd_z m1 (by omega), pk_rem (by omega) m1 (by omega), grd_in (by rw [hn]; omega) (by omega), nI_clamp (by omega), hu.1, pk_mul, nI_add, g1.1, grd_z (by omega) (by omega), pk_rem (by omega) (by omega) (by omega), gh]
theorem e_md337 (ge : Geo D W R G hd) (hn21 : n 21 = 16) (hn24 : n 24 = 1040) (hn26 : n 26 = 1024) (hF : 100 ≤ F) (g : mGeo D W R G hd σ) (h24 : ∀ i, σ.1 24 i = 0) : ∃ τ, D_MD_init_L337 F n F σ (nI 0) = some τ ∧ FG [24, 26] [] σ τ ∧ (∀ row p, row < R → p < W * G → τ.1 26 (16 * row + p) = nI (hd row p)) ∧ (∀ row q, row < R → q < D → τ.1 24 (65 * hd row q + row) = nI (if q < W * G then q + 1 else 0)) ∧ ∀ d, d < D → τ.1 24 (65 * d + R) = 0 := by
  have gn := ge.num
  have hh := ge.2.2.2.2.1
  have inj := ge.2.2.2.2.2.1
  obtain ⟨⟨_, _⟩, ⟨_, _, _⟩, ⟨_, _⟩, ⟨_, _⟩, ⟨_, _⟩, _, _, _, _⟩ := id gn
  have inner : ∀ row τ, row < R → FG [24, 26] [] σ τ → (∀ q, q < D → τ.1 24 (65 * hd row q + row) = 0) → ∃ υ, D_MD_init_L349 F n (nI row) F τ (nI 0) = some υ ∧ FG [24, 26] [] τ υ ∧ (∀ i, i < 16 * row → υ.1 26 i = τ.1 26 i) ∧ (∀ p, p < W * G → υ.1 26 (16 * row + p) = nI (hd row p)) ∧ (∀ q, q < D → υ.1 24 (65 * hd row q + row) = nI (if q < W * G then q + 1 else 0)) ∧ ∀ d o, d < D → o ≤ R → o ≠ row → υ.1 24 (65 * d + o) = τ.1 24 (65 * d + o) := by
    intro row τ hr f0 h0
    exact lp (L := D_MD_init_L349 F n (nI row)) (N := W * G) (I := fun m υ => FG [24, 26] [] τ υ ∧ (∀ i, i < 16 * row → υ.1 26 i = τ.1 26 i) ∧ (∀ p, p < m → υ.1 26 (16 * row + p) = nI (hd row p)) ∧ (∀ q, q < D → υ.1 24 (65 * hd row q + row) = nI (if q < m then q + 1 else 0)) ∧ ∀ d o, d < D → o ≤ R → o ≠ row → υ.1 24 (65 * d + o) = τ.1 24 (65 * d + o)) (Q := fun υ => FG [24, 26] [] τ υ ∧ (∀ i, i < 16 * row → υ.1 26 i = τ.1 26 i) ∧ (∀ p, p < W * G → υ.1 26 (16 * row + p) = nI (hd row p)) ∧ (∀ q, q < D → υ.1 24 (65 * hd row q + row) = nI (if q < W * G then q + 1 else 0)) ∧ ∀ d o, d < D → o ≤ R → o ≠ row → υ.1 24 (65 * d + o) = τ.1 24 (65 * d + o))
      (fun k υ p hp ⟨q1, q2, q3, q4, q5⟩ => by
        have f1 : FG [24, 26] [] σ υ := f0.tr q1
        have g1 : mGeo D W R G hd υ := g.congr (fun j _ => f1.2.2 j (by simp)) (f1.1 21 (by decide) (by decide))
        have g2 : mGeo D W R G hd (stI υ 26 (16 * row + p) (nI (hd row p))) := g1.congr (fun j _ => by rw [stI_1 20 (by decide)]) (stI_1 21 (by decide))
        have hdp := hh row p
        refine Or.inl ⟨stI (stI υ 26 (16 * row + p) (nI (hd row p))) 24 (65 * hd row p + row) (nI (p + 1)), ⟨(q1.tr ((FG.stI 26 _ _ (by decide)).mono (by simp) (by simp))).tr ((FG.stI 24 _ _ (by decide)).mono (by simp) (by simp)), fun i hi => ?_, fun p1 hp1 => ?_, fun q hq => ?_, fun d o hd1 ho hne => ?_⟩, ?_⟩
        · rw [stI_1 26 (by decide), stI_s, upd_n (by omega)]; exact q2 i hi
        · rw [stI_1 26 (by decide), stI_s, upd_a]
          by_cases e : p1 = p
          · rw [if_pos (by omega), e]
          · rw [if_neg (by omega)]; exact q3 p1 (by omega)
        · rw [stI_s, upd_a, stI_1 24 (by decide)]
          by_cases e : q = p
          · rw [if_pos (by rw [e]), if_pos (by omega), e]
          · have hne : 65 * hd row q + row ≠ 65 * hd row p + row := fun z => e (inj row q p hq (by omega) (by omega))
            rw [if_neg hne, q4 q hq]
            by_cases e2 : q < p
            · rw [if_pos e2, if_pos (by omega)]
            · rw [if_neg e2, if_neg (by omega)]
        · rw [stI_s, upd_n (fun z => hne (at_inj (R := R) (by omega) ho (by omega) z).2), stI_1 24 (by decide)]; exact q5 d o hd1 ho hne
        · rw [D_MD_init_L349, g1.1.2.1, g1.1.2.2.2, pk_mul, if_neg (by rw [nI_leI (by omega) (by omega)]; omega), e_disk gn hn21 g1 (by omega) (by omega), Option.bind_some, show (16 : Int32) = nI 16 from rfl, pk_mul, nI_add, grd_in (by omega) (by omega), nI_clamp (by omega), nm_q, e_disk gn hn21 g2 (by omega) (by omega), Option.bind_some, e_MD_at, Option.bind_some, grd_in (by omega) (by omega), nI_clamp (by omega), nm_q, nm_q, nI_1])
      (fun k υ ⟨q1, q2, q3, q4, q5⟩ => by
        have f1 : FG [24, 26] [] σ υ := f0.tr q1
        have g1 : mGeo D W R G hd υ := g.congr (fun j _ => f1.2.2 j (by simp)) (f1.1 21 (by decide) (by decide))
        exact ⟨υ, by rw [D_MD_init_L349, g1.1.2.1, g1.1.2.2.2, pk_mul, if_pos (Int32.le_refl _)], q1, q2, q3, q4, q5⟩)
      (W * G) 0 F τ (Nat.zero_add _) (by omega) ⟨FG.rf, fun _ _ => rfl, fun p h => by omega, fun q hq => by rw [h0 q hq, if_neg (by omega)]; rfl, fun _ _ _ _ _ => rfl⟩
  obtain ⟨τ, t1, t2, t3, t4, t5⟩ := lp (L := D_MD_init_L337 F n) (N := R) (I := fun m τ => FG [24, 26] [] σ τ ∧ (∀ row p, row < m → p < W * G → τ.1 26 (16 * row + p) = nI (hd row p)) ∧ (∀ row q, row < m → q < D → τ.1 24 (65 * hd row q + row) = nI (if q < W * G then q + 1 else 0)) ∧ ∀ d o, d < D → m ≤ o → o ≤ R → τ.1 24 (65 * d + o) = 0) (Q := fun τ => FG [24, 26] [] σ τ ∧ (∀ row p, row < R → p < W * G → τ.1 26 (16 * row + p) = nI (hd row p)) ∧ (∀ row q, row < R → q < D → τ.1 24 (65 * hd row q + row) = nI (if q < W * G then q + 1 else 0)) ∧ ∀ d o, d < D → R ≤ o → o ≤ R → τ.1 24 (65 * d + o) = 0)
    (fun k τ row hr ⟨q1, q2, q3, q4⟩ => by
      have g1 : mGeo D W R G hd τ := g.congr (fun j _ => q1.2.2 j (by simp)) (q1.1 21 (by decide) (by decide))
      obtain ⟨υ, u1, u2, u3, u4, u5, u6⟩ := inner row τ hr q1 (fun q hq => q4 _ row (hh row q) (Nat.le_refl _) (by omega))
      have u1 : D_MD_init_L349 F n (nI row) F τ 0 = some υ := u1
      refine Or.inl ⟨υ, ⟨q1.tr u2, fun r p hr1 hp => ?_, fun r q hr1 hq => ?_, fun d o hd1 h1 h2 => ?_⟩, ?_⟩
      · by_cases e : r = row
        · rw [e]; exact u4 p hp
        · rw [u3 _ (by omega)]; exact q2 r p (by omega) hp
      · by_cases e : r = row
        · rw [e]; exact u5 q hq
        · rw [u6 _ r (hh r q) (by omega) e]; exact q3 r q (by omega) hq
      · rw [u6 d o hd1 h2 (by omega)]; exact q4 d o hd1 (by omega) h2
      · rw [D_MD_init_L337, g1.1.2.2.1, if_neg (by rw [nI_leI (by omega) (by omega)]; omega), u1, Option.bind_some, nm_q, nI_1])
    (fun k τ ⟨q1, q2, q3, q4⟩ => by
      have g1 : mGeo D W R G hd τ := g.congr (fun j _ => q1.2.2 j (by simp)) (q1.1 21 (by decide) (by decide))
      exact ⟨τ, by rw [D_MD_init_L337, g1.1.2.2.1, if_pos (Int32.le_refl _)], q1, q2, q3, q4⟩)
    R 0 F σ (Nat.zero_add _) (by omega) ⟨FG.rf, fun _ p h => by omega, fun _ q h => by omega, fun d o _ _ _ => h24 _⟩
  exact ⟨τ, t1, t2, t3, t4, fun d hd1 => t5 d R hd1 (Nat.le_refl R) (Nat.le_refl R)⟩
theorem sM_z {a : Nat} (h : 21 ≤ a ∧ a ≤ 29) (i : Nat) : (sM σ).1 a i = 0 := by
  have hc : a = 21 ∨ a = 22 ∨ a = 23 ∨ a = 24 ∨ a = 25 ∨ a = 26 ∨ a = 27 ∨ a = 28 ∨ a = 29 := by omega
  rcases hc with rfl | rfl | rfl | rfl | rfl | rfl | rfl | rfl | rfl <;> rfl
theorem e_mdB (hF : 5000 ≤ F) (hD : 6 ≤ D ∧ D ≤ 16) (hW : 3 ≤ W ∧ W ≤ 8 ∧ W < D) (hR : 48 ≤ R ∧ R ≤ 64) : ∃ τ, mdB F (nM n) (sM σ) (nI D) (nI W) (nI R) = some (nM n, τ) ∧ MR D W R ((D - 1) / W) (hdf D) (lv0 D) (fnd D (W * ((D - 1) / W)) (hdf D) (K0 D R (W * ((D - 1) / W)) (hdf D))) (K0 D R (W * ((D - 1) / W)) (hdf D), true, 0, 0) τ ∧ MX W R ((D - 1) / W) 0 zr 0 V0 zr 0 false τ := by
  have ge := geo_ok hD hW hR
  have gn := ge.num
  obtain ⟨⟨_, _⟩, ⟨_, _, _⟩, ⟨_, _⟩, ⟨_, _⟩, ⟨_, _⟩, _, _, _, _⟩ := id gn
  obtain ⟨_, mm1, mm2⟩ := uok_t hD
  have e8 : (nI D - (1 : Int32)) / nI W = nI ((D - 1) / W) := by rw [nI_sub1 (by omega), pk_div (by omega) (by omega) (by omega)]
  unfold mdB
  rw [grd_z (by omega) (by omega)]
  simp only [nm_q]
  rw [e8]
  generalize hσ1 : stC (sM σ) 20 _ = σ1
  have s20 : σ1.1 20 1 = nI D ∧ σ1.1 20 2 = nI W ∧ σ1.1 20 3 = nI R ∧ σ1.1 20 4 = nI ((D - 1) / W) ∧ σ1.1 20 6 = 0 ∧ σ1.1 20 12 = 1 ∧ σ1.1 20 13 = -1 ∧ σ1.1 20 14 = 0 ∧ σ1.1 20 15 = 0 ∧ σ1.1 20 17 = 0 ∧ σ1.1 20 20 = 0 := by
    rw [← hσ1, ytC_s]
    exact ⟨rfl, rfl, rfl, rfl, rfl, rfl, rfl, rfl, rfl, rfl, rfl⟩
  obtain ⟨y1, y2, y3, y4, y6, y12, y13, y14, y15, y17, y20⟩ := s20
  have sz : ∀ a, 21 ≤ a → a ≤ 29 → ∀ i, σ1.1 a i = 0 := fun a h1 h2 i => by rw [← hσ1, ytC_1 20 _ a (by omega)]; exact sM_z ⟨h1, h2⟩ i
  obtain ⟨τ1, t1, t2, t3, t4⟩ := e_md184 (F := F) (n := nM n) (σ := σ1) rfl (by omega) hD y1 y6
  have t1 : D_MD_init_L184 F (nM n) F σ1 1 = some τ1 := t1
  obtain ⟨τ2, u1, u2, u3, u4⟩ := e_md280 (F := F) (n := nM n) (σ := τ1) rfl rfl (by omega) hD hR (by rw [t2.2.2 1 (by decide)]; exact y1) (by rw [t2.2.2 3 (by decide)]; exact y3)
  have u1 : D_MD_init_L280 F (nM n) F τ1 0 = some τ2 := u1
  have f2 : FG [21, 22, 23] [6] σ1 τ2 := (t2.mono (by simp) (by simp)).tr (u2.mono (by simp) (by simp))
  have g2 : mGeo D W R ((D - 1) / W) (hdf D) τ2 := by
    refine ⟨⟨by rw [f2.2.2 1 (by decide)]; exact y1, by rw [f2.2.2 2 (by decide)]; exact y2, by rw [f2.2.2 3 (by decide)]; exact y3, by rw [f2.2.2 4 (by decide)]; exact y4⟩, mnf D, uf D, ⟨mm1, by show (utb D).length ≤ 16; omega, by rw [u2.2.2 6 (by simp)]; exact t3⟩, fun i hi => ⟨by rw [u2.1 21 (by decide) (by decide)]; exact t4 i hi, (uf_ok hD hi).1⟩, fun row p => rfl⟩
  obtain ⟨τ3, v1, v2, v3, v4, v5⟩ := e_md337 (F := F) (n := nM n) (σ := τ2) ge rfl rfl rfl (by omega) g2 (fun i => by rw [f2.1 24 (by decide) (by decide)]; exact sz 24 (by omega) (by omega) i)
  have v1 : D_MD_init_L337 F (nM n) F τ2 0 = some τ3 := v1
  have f3 : FG [21, 22, 23, 24, 26] [6] σ1 τ3 := (f2.mono (by simp) (by simp)).tr (v2.mono (by simp) (by simp))
  rw [t1, Option.bind_some, u1, Option.bind_some, v1, Option.bind_some]
  refine ⟨τ3, rfl, ⟨g2.congr (fun j _ => v2.2.2 j (by simp)) (v2.1 21 (by decide) (by decide)), fun d hd1 => ?_, fun d o hd1 ho _ => ?_, fun _ row p hr hp => ?_, ?_, ?_, ?_, by show 0 < 2 ^ 31; omega⟩, ⟨?_, ?_, ?_, fun z => (by cases z)⟩, fun k hk => by omega, fun b k _ _ => ?_, fun z => (by cases z)⟩
  · rw [v2.1 22 (by decide) (by decide), u3 d hd1]
    show nI 1 = b2i (decide (d < D))
    rw [decide_eq_true hd1]; rfl
  · show mCell (K0 D R (W * ((D - 1) / W)) (hdf D) d o) τ3 (65 * d + o)
    rw [K0_at hd1 ho]
    refine ⟨by rw [v2.1 23 (by decide) (by decide)]; exact u4 d o hd1 ho, ?_, fun k hk => ?_⟩
    · show τ3.1 24 (65 * d + o) = nI (if o < R then tgf (W * ((D - 1) / W)) (hdf D) o d else 0)
      by_cases e : o < R
      · rw [if_pos e]
        obtain ⟨q, hq, rfl⟩ := ge.2.2.2.2.2.2 o d hd1
        rw [tgf_at ge hq]
        exact v4 o q e hq
      · have : o = R := by omega
        rw [if_neg e, this]
        exact v5 d hd1
    · rw [f3.1 25 (by decide) (by decide), sz 25 (by omega) (by omega)]
      show 0 = sx (byR zr k)
      rw [byR_zr]; rfl
  · rw [v3 row p hr hp, K0_fnd ge hr hp]; rfl
  · rw [f3.2.2 12 (by decide), y12]; rfl
  · rw [f3.2.2 13 (by decide), y13]; rfl
  · rw [f3.2.2 14 (by decide), y14]
  · rw [f3.2.2 15 (by decide), y15]; rfl
  · rw [f3.2.2 17 (by decide), y17]; rfl
  · rw [f3.2.2 20 (by decide), y20]; rfl
  · rw [f3.1 28 (by decide) (by decide), sz 28 (by omega) (by omega)]
    exact (byR_zr k).symm
end CE2
