/-- rack and power -/
abbrev PS : Type := Rk × Bool × Nat × Int32
def aput (s : PS) (d o : Nat) (c : CellV) : PS × Bool := if s.2.2.1 = 1 then ((s.1, false, 0, s.2.2.2), false) else ((setK s.1 d o (some c), s.2.1, s.2.2.1 - 1, s.2.2.2 + 1), true)
abbrev CRs (D W R G : Nat) (hd : Nat → Nat → Nat) (live : Nat → Bool) (pl : Nat → Nat → Option Nat) (s : PS) (σ : HS) : Prop := CR D W R G hd live s.1 pl s.2.1 s.2.2.1 s.2.2.2 σ
def G_put (b : Nat) (F : Nat) (n : Nat → Nat) (σ : HS) (p1 : Int32) (p3 : Int32) : Option (HS × Int32) :=
(D_PW_spendWrite F n σ ).bind (fun (qx1 : HS × Int32) => nm2 qx1 (fun (σ2 : HS) (x1 : Int32) =>
  (if x1 = 0 then
    some (σ2, (0 : Int32))
  else
    (G_store b F n σ2 p1 p3).bind (fun (σ5 : HS) =>
    some (σ5, (1 : Int32))))))
theorem G_put_6 (F : Nat) (n : Nat → Nat) (σ : HS) (p1 p3 : Int32) : D_SF_putCell_6 F n σ p1 p3 = G_put 6 F n σ p1 p3 := by rw [D_SF_putCell_6, G_put]; simp only [G_store_6]
theorem G_put_7 (F : Nat) (n : Nat → Nat) (σ : HS) (p1 p3 : Int32) : D_SF_putCell_7 F n σ p1 p3 = G_put 7 F n σ p1 p3 := by rw [D_SF_putCell_7, G_put]; simp only [G_store_7]
theorem G_put_8 (F : Nat) (n : Nat → Nat) (σ : HS) (p1 p3 : Int32) : D_SF_putCell_8 F n σ p1 p3 = G_put 8 F n σ p1 p3 := by rw [D_SF_putCell_8, G_put]; simp only [G_store_8]
theorem isB_g {α : Type} {k : Option α} {b : Bool} : grd (isB (b2i b)) k = k := isB_b2i b
theorem tw_congr {t : Nat} {P Q : Nat → Int64} (h : ∀ i, i < 8 → P i = Q i) : tw t P = tw t Q := by
  unfold tw
  have : crcW (w0 t P) = crcW (w0 t Q) := by
    unfold crcW
    rw [crcB_congr (c := byR (w0 t Q))]
    intro j _ hj
    unfold byR w0
    by_cases e : j / 8 < 8
    · rw [if_pos e, if_pos e, h _ e]
    · rw [if_neg e, if_neg e]
  rw [this]
theorem Stored.blk {c t : Nat} {P Q : Nat → Int64} {σ τ : HS} (h : ∀ i, i < 8 → P i = Q i) (hs : Stored c t P σ τ) : Stored c t Q σ τ := by
  obtain ⟨s1, s2, s3, s4, s5, s6⟩ := hs
  refine ⟨s1, s2, s3, s4, s5, fun j hj => ⟨(s6 j hj).1, ?_⟩⟩
  rw [(s6 j hj).2]
  show (if j < 8 then P j else tw t P) ^^^ _ = (if j < 8 then Q j else tw t Q) ^^^ _
  rw [tw_congr h]
  by_cases e : j < 8
  · rw [if_pos e, if_pos e, h j e]
  · rw [if_neg e, if_neg e]
section PT
variable {D W R G : Nat} {hd : Nat → Nat → Nat} {F : Nat} {n : Nat → Nat} {σ : HS} {s : PS} {pl : Nat → Nat → Option Nat} {live : Nat → Bool}
theorem nI_sub1 {a : Nat} (h : 1 ≤ a) : nI a - 1 = nI (a - 1) := pk_sub (a := a) (b := 1) h
theorem e_spend (cr : CRs D W R G hd live pl s σ) : ∃ τ, D_PW_spendWrite F n σ = some (τ, b2i (decide (s.2.2.1 ≠ 1))) ∧ Fr [4] [] σ τ ∧ (s.2.2.1 = 1 → cPow false 0 s.2.2.2 τ) ∧ (s.2.2.1 ≠ 1 → cPow s.2.1 (s.2.2.1 - 1) (s.2.2.2 + 1) τ) := by
  obtain ⟨h1, h2, h3, h4⟩ := cr.2.2.2.2.1
  rw [D_PW_spendWrite, h2]
  by_cases e : s.2.2.1 = 1
  · refine ⟨stF (stF σ 4 0 0) 4 1 0, ?_, ⟨fun a z => ?_, fun a _ => rfl⟩, fun _ => ⟨?_, ?_, ?_, by omega⟩, fun z => absurd e z⟩
    · rw [e, if_pos (by rfl), D_PW_cut]; rfl
    · rw [stF_1 a (by simpa using z), stF_1 a (by simpa using z)]
    · rw [stF_s, upd_n (by decide), stF_s, upd_s]; rfl
    · rw [stF_s, upd_s]; rfl
    · rw [stF_s, upd_n (by decide), stF_s, upd_n (by decide)]; exact h3
  · rw [if_neg (by rw [show (1 : Int32) = nI 1 from rfl, nI_eq h4 (by omega)]; exact e), show decide (s.2.2.1 ≠ 1) = true from decide_eq_true e]
    by_cases e2 : s.2.2.1 = 0
    · refine ⟨stF σ 4 2 (s.2.2.2 + 1), ?_, ⟨fun a z => stF_1 a (by simpa using z), fun a _ => rfl⟩, fun z => absurd z e, fun _ => ⟨?_, ?_, ?_, by omega⟩⟩
      · rw [if_pos (by rw [e2]; decide), h3]; rfl
      · rw [stF_s, upd_n (by decide)]; exact h1
      · rw [stF_s, upd_n (by decide), h2, e2]
      · rw [stF_s, upd_s]
    · refine ⟨stF (stF σ 4 1 (nI (s.2.2.1 - 1))) 4 2 (s.2.2.2 + 1), ?_, ⟨fun a z => ?_, fun a _ => rfl⟩, fun z => absurd z e, fun _ => ⟨?_, ?_, ?_, by omega⟩⟩
      · rw [if_neg (by rw [show (1 : Int32) = nI 1 from rfl, nI_leI h4 (by omega)]; omega), nI_sub1 (by omega), nm_q, nm_q, stF_s, upd_n (by decide), h3]; rfl
      · rw [stF_1 a (by simpa using z), stF_1 a (by simpa using z)]
      · rw [stF_s, upd_n (by decide), stF_s, upd_n (by decide)]; exact h1
      · rw [stF_s, upd_n (by decide), stF_s, upd_s]
      · rw [stF_s, upd_s]
theorem e_put {b : Nat} (cx : Ctx D W R G hd n F) (cr : CRs D W R G hd live pl s σ) (hb : b = 6 ∨ b = 7 ∨ b = 8) {d o t : Nat} {P : Nat → Int64} (hP : ∀ i, i < 8 → σ.2 b i = P i) (hd1 : d < D) (ho : o ≤ R) : ∃ τ, G_put b F n σ (nI (d * (R + 1) + o)) (nI t) = some (τ, b2i (aput s d o (t, P, zr)).2) ∧ Fr [4, 13, 14] [11, 12] σ τ ∧ CRs D W R G hd live pl (aput s d o (t, P, zr)).1 τ := by
  obtain ⟨ge, ln, hF⟩ := id cx
  have gn := ge.num
  have i1 := idx_c gn hd1 ho
  obtain ⟨τ, e1, f1, p1, p2⟩ := e_spend (F := F) (n := n) cr
  obtain ⟨c1, c2, c3, c4, c5, c6⟩ := cr
  rw [G_put, e1, Option.bind_some, nm2_q]
  unfold aput
  by_cases e : s.2.2.1 = 1
  · rw [if_pos e, show decide (s.2.2.1 ≠ 1) = false from decide_eq_false (fun z => z e), if_pos (by rfl)]
    refine ⟨τ, rfl, f1.mono (by simp) (by simp), c1.congr (f1.1 1 (by decide)) (f1.1 9 (by decide)), fun d hd => by rw [f1.1 10 (by decide)]; exact c2 d hd, c3.congr (f1.1 13 (by decide)) (f1.1 14 (by decide)) (f1.2 11 (by decide)) (f1.2 12 (by decide)), c4.congr (f1.1 15 (by decide)) (f1.1 16 (by decide)), p1 e, fun i hi => by rw [f1.2 8 (by decide)]; exact c6 i hi⟩
  · have hn8 : n b = 8 := by
      rcases hb with rfl | rfl | rfl
      · exact ln.1.1.2.1
      · exact ln.1.1.2.2.1
      · exact ln.1.1.2.2.2
    obtain ⟨υ, e2, hs⟩ := e_store (b := b) (c := d * (R + 1) + o) (t := t) (F := F) (n := n) (σ := τ) hn8 (by omega) (by omega) (by rw [ln.1.2.2.2.1]; omega) (by rw [ln.1.2.2.2.2.1]; omega) (by rw [ln.1.2.2.2.2.2.1]; omega) (by rw [ln.1.2.2.2.2.2.2.1]; omega) (by omega) (by omega)
    rw [if_neg e, show decide (s.2.2.1 ≠ 1) = true from decide_eq_true e, if_neg (show ¬ b2i true = 0 by decide), e2]
    have hbb : τ.2 b = σ.2 b := f1.2 b (by simp)
    rw [hbb] at hs
    have hs := hs.blk hP
    have hs0 := hs
    obtain ⟨s1, s2, s3, s4, s5, s6⟩ := hs
    have k3 : cK D R s.1 τ := c3.congr (f1.1 13 (by decide)) (f1.1 14 (by decide)) (f1.2 11 (by decide)) (f1.2 12 (by decide))
    refine ⟨υ, rfl, ⟨fun a z => ?_, fun a z => ?_⟩, c1.congr ?_ ?_, fun d hd => ?_, k3.stored ho hs0, c4.congr ?_ ?_, ?_, fun i hi => ?_⟩
    · simp only [List.mem_cons, List.not_mem_nil, or_false, not_or] at z
      rw [s1 a z.2.1 z.2.2, f1.1 a (by simpa using z.1)]
    · simp only [List.mem_cons, List.not_mem_nil, or_false, not_or] at z
      rw [s4 a z.1 z.2, f1.2 a (by simp)]
    · rw [s1 1 (by decide) (by decide), f1.1 1 (by decide)]
    · rw [s1 9 (by decide) (by decide), f1.1 9 (by decide)]
    · rw [s1 10 (by decide) (by decide), f1.1 10 (by decide)]; exact c2 d hd
    · rw [s1 15 (by decide) (by decide), f1.1 15 (by decide)]
    · rw [s1 16 (by decide) (by decide), f1.1 16 (by decide)]
    · unfold cPow
      rw [s1 4 (by decide) (by decide)]
      exact p2 e
    · rw [s4 8 (by decide) (by decide), f1.2 8 (by decide)]; exact c6 i hi
theorem e_putColumn_6 (cx : Ctx D W R G hd n F) (cr : CRs D W R G hd live pl s σ) {row gi j d : Nat} (hr : row < R) (hg : gi < G) (hj : j < W) (hp : pl row (W * gi + j) = some d) (hd1 : d < D) {P : Nat → Int64} (hP : ∀ i, i < 8 → σ.2 6 i = P i) : ∃ τ, D_SF_putColumn_6 F n σ (nI (row * G + gi)) (nI j) = some (τ, b2i (aput s d row (W * gi + j + 1, P, zr)).2) ∧ Fr [4, 13, 14] [11, 12] σ τ ∧ CRs D W R G hd live pl (aput s d row (W * gi + j + 1, P, zr)).1 τ := by
  obtain ⟨ge, ln, hF⟩ := id cx
  have gn := ge.num
  obtain ⟨⟨_, _⟩, ⟨_, _, _⟩, ⟨_, _⟩, ⟨_, _⟩, ⟨_, _⟩, _, _, _, _⟩ := id gn
  have hpp := pos_lt hg hj
  have i1 := lt2 hr (show W * gi + j < D by omega)
  obtain ⟨τ, e1, e2, e3⟩ := e_put (b := 6) (t := W * gi + j + 1) cx cr (Or.inl rfl) hP hd1 (show row ≤ R by omega)
  refine ⟨τ, ?_, e2, e3⟩
  rw [D_SF_putColumn_6, e_LA_slotOf gn cr.1 row gi j hr hg, Option.bind_some, grd_in (by rw [ln.1.2.2.2.2.2.2.2.1]; omega) (by omega), e_LA_tagOf gn cr.1 row _ hr (by omega), Option.bind_some, nI_clamp (by omega), cr.2.2.2.1.1 row _ hr hpp, hp, G_put_6, show pc_ R row (some d) = nI (d * (R + 1) + row) from rfl, e1, Option.bind_some, nm2_q, isB_g]
theorem e_putColumn_7 (cx : Ctx D W R G hd n F) (cr : CRs D W R G hd live pl s σ) {row gi j d : Nat} (hr : row < R) (hg : gi < G) (hj : j < W) (hp : pl row (W * gi + j) = some d) (hd1 : d < D) {P : Nat → Int64} (hP : ∀ i, i < 8 → σ.2 7 i = P i) : ∃ τ, D_SF_putColumn_7 F n σ (nI (row * G + gi)) (nI j) = some (τ, b2i (aput s d row (W * gi + j + 1, P, zr)).2) ∧ Fr [4, 13, 14] [11, 12] σ τ ∧ CRs D W R G hd live pl (aput s d row (W * gi + j + 1, P, zr)).1 τ := by
  obtain ⟨ge, ln, hF⟩ := id cx
  have gn := ge.num
  obtain ⟨⟨_, _⟩, ⟨_, _, _⟩, ⟨_, _⟩, ⟨_, _⟩, ⟨_, _⟩, _, _, _, _⟩ := id gn
  have hpp := pos_lt hg hj
  have i1 := lt2 hr (show W * gi + j < D by omega)
  obtain ⟨τ, e1, e2, e3⟩ := e_put (b := 7) (t := W * gi + j + 1) cx cr (Or.inr (Or.inl rfl)) hP hd1 (show row ≤ R by omega)
  refine ⟨τ, ?_, e2, e3⟩
  rw [D_SF_putColumn_7, e_LA_slotOf gn cr.1 row gi j hr hg, Option.bind_some, grd_in (by rw [ln.1.2.2.2.2.2.2.2.1]; omega) (by omega), e_LA_tagOf gn cr.1 row _ hr (by omega), Option.bind_some, nI_clamp (by omega), cr.2.2.2.1.1 row _ hr hpp, hp, G_put_7, show pc_ R row (some d) = nI (d * (R + 1) + row) from rfl, e1, Option.bind_some, nm2_q, isB_g]
theorem PW.setN {D R N row p : Nat} {pl : Nat → Nat → Option Nat} (h : PW D R N pl) : PW D R N (setP pl row p none) := by
  refine ⟨fun r q d hr hq e => ?_, fun r q1 q2 d hr h1 h2 e1 e2 => ?_⟩
  · unfold setP at e
    split at e
    · cases e
    · exact h.1 r q d hr hq e
  · unfold setP at e1 e2
    split at e1
    · cases e1
    · split at e2
      · cases e2
      · exact h.2 r q1 q2 d hr h1 h2 e1 e2
theorem setP_setP (pl : Nat → Nat → Option Nat) (row p : Nat) (x y : Option Nat) : setP (setP pl row p x) row p y = setP pl row p y := by
  funext r q
  unfold setP
  split <;> rfl
theorem setP_at (pl : Nat → Nat → Option Nat) (row p : Nat) (x : Option Nat) : setP pl row p x row p = x := if_pos ⟨rfl, rfl⟩
theorem setP_ne {pl : Nat → Nat → Option Nat} {row p r q : Nat} {x : Option Nat} (h : ¬ (r = row ∧ q = p)) : setP pl row p x r q = pl r q := if_neg h
/-- a position moves to another cell -/
theorem e_move (cx : Ctx D W R G hd n F) (c : cPl D R (W * G) pl σ) (pw : PW D R (W * G) pl) {row p d : Nat} (hr : row < R) (hp : p < W * G) (hd1 : d < D) (hfree : ∀ q, q < W * G → pl row q ≠ some d) : ∃ τ, D_PL_move F n σ (nI (row * D + p)) (nI (d * (R + 1) + row)) = some τ ∧ PlOnly σ τ ∧ cPl D R (W * G) (setP pl row p (some d)) τ := by
  obtain ⟨ge, ln, hF⟩ := id cx
  have gn := ge.num
  obtain ⟨⟨_, _⟩, ⟨_, _, _⟩, ⟨_, _⟩, ⟨_, _⟩, ⟨_, _⟩, _, _, _, _⟩ := id gn
  have i1 := lt2 hr (show p < D by omega)
  have i2 := idx_c gn hd1 (show row ≤ R by omega)
  have n15 : n 15 = R * D := ln.1.2.2.2.2.2.2.2.1
  have n16 : n 16 = D * (R + 1) := ln.1.2.2.2.2.2.2.2.2
  rw [D_PL_move]
  simp only [jn_q, nm_q]
  rw [grd_in (by omega) (by omega), nI_clamp (by omega), nI_clamp (by omega), c.1 row p hr hp]
  cases h0 : pl row p with
  | none =>
    rw [if_pos (by rfl), grd_in (by omega) (by omega), grd_in (by omega) (by omega)]
    refine ⟨_, rfl, ⟨rfl, fun a z1 z2 => (stI_1 a z2).trans (stI_1 a z1)⟩, ?_⟩
    exact c.set (by omega) hr hp hfree h0 ((stI_1 15 (by decide)).trans stI_s) (stI_s.trans (by rw [stI_1 16 (by decide)]))
  | some d0 =>
    have hd0 := pw.1 row p d0 hr hp h0
    have i3 := idx_c gn hd0 (show row ≤ R by omega)
    rw [show pc_ R row (some d0) = nI (d0 * (R + 1) + row) from rfl, if_neg (nI_m1 (by omega)), grd_in (by omega) (by omega), grd_in (by omega) (by omega), grd_in (by omega) (by omega), grd_in (by omega) (by omega), nI_clamp (by omega)]
    refine ⟨_, rfl, ⟨rfl, fun a z1 z2 => (stI_1 a z2).trans ((stI_1 a z1).trans (stI_1 a z2))⟩, ?_⟩
    have k : cPl D R (W * G) (setP pl row p none) (stI (stI σ 15 (row * D + p) (-1)) 16 (d0 * (R + 1) + row) (-1)) := c.clr pw (by omega) hr hp h0 ((stI_1 15 (by decide)).trans stI_s) (stI_s.trans (by rw [stI_1 16 (by decide)]))
    have k2 := k.set (τ := stI (stI (stI σ 16 (d0 * (R + 1) + row) (-1)) 15 (row * D + p) (nI (d * (R + 1) + row))) 16 (d * (R + 1) + row) (nI (row * D + p))) (d := d) (by omega) hr hp (fun q hq => ?_) (setP_at _ _ _ _) ?_ ?_
    · rw [setP_setP] at k2; exact k2
    · by_cases e : q = p
      · rw [e, setP_at]; exact fun z => by cases z
      · rw [setP_ne (by omega)]; exact hfree q hq
    · rw [stI_1 15 (by decide), stI_s, stI_1 15 (by decide), stI_1 15 (by decide), stI_s]
      funext j
      simp only [upd_a]
      split <;> rfl
    · rw [stI_s, stI_1 16 (by decide), stI_s, stI_s, stI_1 16 (by decide)]
end PT
