/-- what stays, at the reference: all arrays but A, all fields but J -/
def FG (A J : List Nat) (σ τ : HS) : Prop := (∀ a, a ∉ A → a ≠ 20 → τ.1 a = σ.1 a) ∧ τ.2 = σ.2 ∧ ∀ j, j ∉ J → τ.1 20 j = σ.1 20 j
theorem FG.rf {A J : List Nat} {σ : HS} : FG A J σ σ := ⟨fun _ _ _ => rfl, rfl, fun _ _ => rfl⟩
theorem FG.tr {A J : List Nat} {σ τ υ : HS} (h : FG A J σ τ) (h2 : FG A J τ υ) : FG A J σ υ := ⟨fun a e1 e2 => (h2.1 a e1 e2).trans (h.1 a e1 e2), h2.2.1.trans h.2.1, fun j e => (h2.2.2 j e).trans (h.2.2 j e)⟩
theorem FG.mono {A J A1 J1 : List Nat} {σ τ : HS} (h : FG A J σ τ) (hA : A ⊆ A1) (hJ : J ⊆ J1) : FG A1 J1 σ τ := ⟨fun a e e2 => h.1 a (fun z => e (hA z)) e2, h.2.1, fun j e => h.2.2 j (fun z => e (hJ z))⟩
theorem FM.fg {σ τ : HS} (h : FM σ τ) : FG [23, 24, 25] [12, 13, 14] σ τ := ⟨fun a e e2 => h.1 a e2 (fun z => e (by simp [z])) (fun z => e (by simp [z])) (fun z => e (by simp [z])), h.2.1, fun j e => h.2.2 j (fun z => e (by simp [z])) (fun z => e (by simp [z])) (fun z => e (by simp [z]))⟩
theorem FG.st {σ : HS} (j : Nat) (v : Int32) : FG [] [j] σ (stF σ 20 j v) := ⟨fun a _ e => stF_1 a e, rfl, fun i e => by rw [stF_s, upd_n (fun z => e (by simp [z]))]⟩
theorem mK.congr {D R : Nat} {live : Nat → Bool} {K : Rk} {σ τ : HS} (h : mK D R live K σ) (h23 : τ.1 23 = σ.1 23) (h24 : τ.1 24 = σ.1 24) (h25 : τ.1 25 = σ.1 25) : mK D R live K τ := fun d o a b c => by
  have := h d o a b c
  unfold mCell at *
  rw [h23, h24, h25]
  exact this
theorem MR.congr {D W R G : Nat} {hd : Nat → Nat → Nat} {live : Nat → Bool} {pl : Nat → Nat → Option Nat} {s : PS} {σ τ : HS} (h : MR D W R G hd live pl s σ) (f : FG [27, 28, 29] [0, 15, 17, 19, 20] σ τ) : MR D W R G hd live pl s τ := by
  obtain ⟨m1, m2, m3, m4, m5, m6, m7, m8⟩ := h
  refine ⟨m1.congr (fun j hj => f.2.2 j (by simp; omega)) (f.1 21 (by decide) (by decide)), fun d hd => ?_, m3.congr (f.1 23 (by decide) (by decide)) (f.1 24 (by decide) (by decide)) (f.1 25 (by decide) (by decide)), fun ho row p hr hp => ?_, ?_, ?_, ?_, m8⟩
  · rw [f.1 22 (by decide) (by decide)]; exact m2 d hd
  · rw [f.1 26 (by decide) (by decide)]; exact m4 ho row p hr hp
  · rw [f.2.2 12 (by decide)]; exact m5
  · rw [f.2.2 13 (by decide)]; exact m6
  · rw [f.2.2 14 (by decide)]; exact m7
/-- what puts keep -/
theorem aput_on {s : PS} {d o : Nat} {c : CellV} (h : (aput s d o c).2 = true) : (aput s d o c).1.2.1 = s.2.1 := by
  unfold aput at *
  split
  · rename_i e; rw [if_pos e] at h; cases h
  · rfl
theorem aput_off {s : PS} {d o : Nat} {c : CellV} (h : (aput s d o c).2 = false) : (aput s d o c).1 = (s.1, false, 0, s.2.2.2) := by
  unfold aput at *
  split
  · rfl
  · rename_i e; rw [if_neg e] at h; cases h
theorem aput_ok {s : PS} {d o : Nat} {c : CellV} (h : (aput s d o c).2 = true) : (aput s d o c).1 = (setK s.1 d o (some c), s.2.1, s.2.2.1 - 1, s.2.2.2 + 1) := by
  unfold aput at *
  split
  · rename_i e; rw [if_pos e] at h; cases h
  · rfl
theorem LK.put {live : Nat → Bool} {s : PS} {d o : Nat} {c : CellV} (h : LK live s.1) (hl : live d = true) : LK live (aput s d o c).1.1 := by
  unfold aput
  split
  · exact h
  · intro d1 o1 e
    show setK s.1 d o (some c) d1 o1 = none
    unfold setK
    rw [if_neg (fun z => by rw [z.1, hl] at e; cases e)]
    exact h d1 o1 e
theorem vOK_zr {t : Nat} {P : Nat → Int64} (ht : t < 65536) : vOK (t, P, zr) := ⟨ht, fun i _ _ => gb_0 i, fun _ => z9_zr⟩
theorem KW.put {D R : Nat} {s : PS} {d o t : Nat} {P : Nat → Int64} (h : KW D R s.1) (ht : t < 65536) : KW D R (aput s d o (t, P, zr)).1.1 := by
  unfold aput
  split
  · exact h
  · intro d1 o1 v hd ho e
    have e : setK s.1 d o (some (t, P, zr)) d1 o1 = some v := e
    unfold setK at e
    split at e
    · cases e; exact vOK_zr ht
    · exact h d1 o1 v hd ho e
/-- replay, and whether the parity is still that of the old block -/
def rRep (W R : Nat) (pl : Nat → Nat → Option Nat) (row gi j d : Nat) (x : PS × Bool) : (PS × Bool) × Bool := (((aRep W x.1 pl R row gi j d).1, if aCan W x.1.1 pl row gi j d = true ∧ x.1.2.2.1 ≠ 1 then false else x.2), (aRep W x.1 pl R row gi j d).2)
def rReps (W G R : Nat) (pl : Nat → Nat → Option Nat) : Nat → Nat → PS × Bool → (PS × Bool) × Bool
  | 0, _, x => (x, true)
  | m + 1, d, x => if vt (x.1.1 d R) = 0 then rReps W G R pl m (d + 1) x else if (rRep W R pl ((vt (x.1.1 d R) - 1) / 8 / G) ((vt (x.1.1 d R) - 1) / 8 % G) ((vt (x.1.1 d R) - 1) % 8) d x).2 = true then rReps W G R pl m (d + 1) (rRep W R pl ((vt (x.1.1 d R) - 1) / 8 / G) ((vt (x.1.1 d R) - 1) / 8 % G) ((vt (x.1.1 d R) - 1) % 8) d x).1 else rRep W R pl ((vt (x.1.1 d R) - 1) / 8 / G) ((vt (x.1.1 d R) - 1) / 8 % G) ((vt (x.1.1 d R) - 1) % 8) d x
theorem rReps_a {W G R : Nat} {pl : Nat → Nat → Option Nat} : ∀ m d (x : PS × Bool), aReps W G R pl m d x.1 = ((rReps W G R pl m d x).1.1, (rReps W G R pl m d x).2) := by
  intro m
  induction m with
  | zero => intro d x; rfl
  | succ m ih =>
    intro d x
    rw [aReps, rReps]
    by_cases e : vt (x.1.1 d R) = 0
    · rw [if_pos e, if_pos e]; exact ih (d + 1) x
    · rw [if_neg e, if_neg e]
      unfold andT
      by_cases e2 : (aRep W x.1 pl R ((vt (x.1.1 d R) - 1) / 8 / G) ((vt (x.1.1 d R) - 1) / 8 % G) ((vt (x.1.1 d R) - 1) % 8) d).2 = true
      · rw [if_pos e2, if_pos (show (rRep W R pl ((vt (x.1.1 d R) - 1) / 8 / G) ((vt (x.1.1 d R) - 1) / 8 % G) ((vt (x.1.1 d R) - 1) % 8) d x).2 = true from e2)]
        exact ih (d + 1) (rRep W R pl ((vt (x.1.1 d R) - 1) / 8 / G) ((vt (x.1.1 d R) - 1) / 8 % G) ((vt (x.1.1 d R) - 1) % 8) d x).1
      · rw [if_neg e2, if_neg (show ¬ (rRep W R pl ((vt (x.1.1 d R) - 1) / 8 / G) ((vt (x.1.1 d R) - 1) / 8 % G) ((vt (x.1.1 d R) - 1) % 8) d x).2 = true from e2)]
        rfl
/-- the whole of opening, after the places are found -/
def rOpen (D W G R : Nat) (hd : Nat → Nat → Nat) (pl : Nat → Nat → Option Nat) (x : PS × Bool) : (PS × Bool) × Bool := if (rReps W G R pl D 0 x).2 = true then (((aClr D (W * G) hd pl R 0 (rReps W G R pl D 0 x).1.1).1, (rReps W G R pl D 0 x).1.2), (aClr D (W * G) hd pl R 0 (rReps W G R pl D 0 x).1.1).2) else rReps W G R pl D 0 x
theorem aput_b {s : PS} {d o : Nat} {c : CellV} : (aput s d o c).2 = decide (s.2.2.1 ≠ 1) := by
  unfold aput
  by_cases e : s.2.2.1 = 1
  · rw [if_pos e, decide_eq_false (fun z => z e)]
  · rw [if_neg e, decide_eq_true e]
theorem epl_on {D N : Nat} {hd : Nat → Nat → Nat} {K : Rk} {pl : Nat → Nat → Option Nat} {on : Bool} (h : on = true) : epl D N hd K pl on = pl := by unfold epl; rw [if_pos h]
theorem epl_off {D N : Nat} {hd : Nat → Nat → Nat} {K : Rk} {pl : Nat → Nat → Option Nat} {on : Bool} (h : on = false) : epl D N hd K pl on = fnd D N hd K := by unfold epl; rw [if_neg (by rw [h]; decide)]
section MO
variable {D W R G : Nat} {hd : Nat → Nat → Nat} {F : Nat} {n : Nat → Nat} {σ : HS} {s : PS} {pl : Nat → Nat → Option Nat} {live : Nat → Bool}
theorem LK.rep {row gi j d : Nat} (h : LK live s.1) (hl : live d = true) : LK live (aRep W s pl R row gi j d).1.1 := by
  unfold aRep
  split
  · unfold andT
    split
    · exact LK.put (LK.put h hl) hl
    · exact LK.put h hl
  · exact LK.put h hl
theorem KW.rep {row gi j d : Nat} (h : KW D R s.1) (ht : W * gi + (W - 1) + 1 < 65536) : KW D R (aRep W s pl R row gi j d).1.1 := by
  unfold aRep
  split
  · unfold andT
    split
    · exact KW.put (KW.put h ht) (by omega)
    · exact KW.put h ht
  · exact KW.put h (by omega)
theorem aRep_on {row gi j d : Nat} (h : (aRep W s pl R row gi j d).2 = true) : (aRep W s pl R row gi j d).1.2.1 = s.2.1 := by
  unfold aRep at *
  split
  · rename_i e
    rw [if_pos e] at h
    unfold andT at *
    split
    · rename_i e2
      rw [if_pos e2] at h
      rw [aput_on h, aput_on e2]
    · rename_i e2
      rw [if_neg e2] at h
      exact absurd h e2
  · rename_i e
    rw [if_neg e] at h
    exact aput_on h
set_option maxHeartbeats 1000000 in
theorem e_MD_unlogs (cx : Ctx D W R G hd n F) (mr : MR D W R G hd live pl s σ) (on : s.2.1 = true) (lk : LK live s.1) (kw : KW D R s.1) (pw : PW D R (W * G) pl) {dp : Bool} (h20 : σ.1 20 20 = b2i dp) {row gi j d : Nat} (hr : row < R) (hg : gi < G) (hj : j < W - 1) (hd1 : d < D) (ht : vt (s.1 d R) = 1 + 8 * (row * G + gi) + j) : ∃ τ, D_MD_unlogs F n σ (nI d) = some (τ, b2i (rRep W R pl row gi j d (s, dp)).2) ∧ FG [23, 24, 25] [12, 13, 14, 20] σ τ ∧ MR D W R G hd live pl (rRep W R pl row gi j d (s, dp)).1.1 τ ∧ τ.1 20 20 = b2i (rRep W R pl row gi j d (s, dp)).1.2 := by
  obtain ⟨ge, ln, hF⟩ := id cx
  have gn := ge.num
  obtain ⟨⟨_, _⟩, ⟨_, _, _⟩, ⟨_, _⟩, ⟨_, _⟩, ⟨_, _⟩, _, _, _, _⟩ := id gn
  have n24 : n 24 = 1040 := ln.2.2.2.2.1
  have i1 := lt2 hr hg
  have hqq := pos_lt hg (show W - 1 < W by omega)
  have hpp := pos_lt hg (show j < W by omega)
  obtain ⟨v, hk, hz, hvt⟩ := vt_pos (c := s.1 d R) (by omega)
  have hlive := lk.alive (d := d) (o := R) (by rw [hk]; rfl)
  have htag : σ.1 24 (65 * d + R) = nI (1 + 8 * (row * G + gi) + j) := by rw [m_tag mr.2.2.1 hd1 (Nat.le_refl R) hlive hk, ← hvt, ht]
  have d0 : nI (1 + 8 * (row * G + gi) + j) - (1 : Int32) = nI (8 * (row * G + gi) + j) := by rw [nI_sub1 (by omega)]; congr 1; omega
  have d1 : nI (8 * (row * G + gi) + j) / (8 : Int32) = nI (row * G + gi) := by
    rw [show (8 : Int32) = nI 8 from rfl, pk_div (by omega) (by omega) (by omega)]
    congr 1; omega
  have d2 : nI (8 * (row * G + gi) + j) - nI (8 * (row * G + gi) + j) / (8 : Int32) * (8 : Int32) = nI j := by
    rw [show (8 : Int32) = nI 8 from rfl, pk_rem (by omega) (by omega) (by omega)]
    congr 1; omega
  have e10 : (row * G + gi) / G = row := (st_dm hg).1
  have e11 : (row * G + gi) % G = gi := (st_dm hg).2
  have d3 : nI (row * G + gi) / nI G = nI row := by rw [pk_div (by omega) (by omega) (by omega), e10]
  have d4 : nI (row * G + gi) - nI (row * G + gi) / nI G * nI G = nI gi := by rw [pk_rem (by omega) (by omega) (by omega), e11]
  have d5 : nI (W * gi + W) - (1 : Int32) = nI (W * gi + (W - 1)) := by rw [nI_sub1 (by omega)]; congr 1; omega
  have sm : ∀ p, p < W * G → ∀ e, pl row p = some e → e < 2 ^ 31 := fun p hp e z => by have := pw.1 row p e hr hp z; omega
  have cond : ∀ (A B : Option (HS × Int32)), (if pI (pl row (W * gi + (W - 1))) = nI d then (if pI (pl row (W * gi + j)) < 0 then B else (D_MD_isValid F n σ (pI (pl row (W * gi + j))) (nI row)).bind (fun x => if x = 0 then B else A)) else B) = if aCan W s.1 pl row gi j d = true then A else B := by
    intro A B
    unfold aCan
    by_cases hq : pl row (W * gi + (W - 1)) = some d
    · rw [if_pos ((pI_eq (sm _ hqq) (by omega)).mpr hq), decide_eq_true hq, Bool.true_and]
      cases hp : pl row (W * gi + j) with
      | none => rw [if_pos (by decide)]; rfl
      | some dd =>
        have hdd := pw.1 row _ dd hr hpp hp
        rw [show pI (some dd) = nI dd from rfl, if_neg (nI_pos (by omega)), e_MD_isValid cx mr.2.1 mr.2.2.1 lk kw.k0 hdd (by omega), Option.bind_some, z_if]
        rfl
    · rw [if_neg (fun z => hq ((pI_eq (sm _ hqq) (by omega)).mp z)), decide_eq_false hq, Bool.false_and, if_neg (by decide)]
  have ep := epl_on (D := D) (N := W * G) (hd := hd) (K := s.1) (pl := pl) on
  have P1 := e_MD_placeOf cx mr lk kw hr hpp
  have P2 := e_MD_placeOf cx mr lk kw hr hqq
  rw [ep] at P1 P2
  rw [D_MD_unlogs, mr.1.1.2.2.1, e_MD_at, Option.bind_some, grd_in (by omega) (by omega), nI_clamp (by omega), htag, mr.1.1.2.2.2, mr.1.1.2.1]
  simp only [nm_q, jn_q, nm2_q]
  rw [d0, d2, d1, d4, d3, grd_z (by omega) (by omega)]
  simp only [grd_z (show 0 < G by omega) (show G < 2 ^ 31 by omega), pk_mul, nI_add]
  rw [d5, P1, Option.bind_some, P2, Option.bind_some, cond]
  unfold rRep aRep
  dsimp only
  cases hc : aCan W s.1 pl row gi j d with
  | false =>
    rw [if_neg (by decide), if_pos trivial, if_pos trivial, mr.1.1.2.2.1, if_neg (show ¬ false = true by decide), if_neg (fun z => by cases z.1)]
    obtain ⟨τ, t1, t2, t3⟩ := e_MD_puts (t := 0) cx mr hd1 (Nat.le_refl R) zr
    rw [← nI_0, t1, Option.bind_some, isB_g]
    exact ⟨τ, rfl, t2.fg.mono (by simp) (by simp), t3, by rw [t2.2.2 20 (by decide) (by decide) (by decide)]; exact h20⟩
  | true =>
    rw [if_pos rfl, if_neg (by decide), if_pos rfl]
    obtain ⟨τ, t1, t2, t3⟩ := e_MD_puts (t := W * gi + (W - 1) + 1) cx mr hd1 (show row ≤ R by omega) (fun i => rw_ (s.1 d R) i ^^^ rwo s.1 row (pl row (W * gi + j)) i)
    rw [nI_1, t1, Option.bind_some]
    dsimp only
    have hb := aput_b (s := s) (d := d) (o := row) (c := (W * gi + (W - 1) + 1, fun i => rw_ (s.1 d R) i ^^^ rwo s.1 row (pl row (W * gi + j)) i, zr))
    rw [z_if]
    unfold andT
    by_cases e1 : s.2.2.1 = 1
    · rw [decide_eq_false (fun z => z e1)] at hb
      rw [hb, if_neg (by decide), if_neg (by decide), if_neg (fun z => z.2 e1), hb]
      exact ⟨τ, rfl, t2.fg.mono (by simp) (by simp), t3, by rw [t2.2.2 20 (by decide) (by decide) (by decide)]; exact h20⟩
    · rw [decide_eq_true e1] at hb
      rw [hb, if_pos rfl, if_pos rfl, if_neg (show ¬ (1 : Int32) = 0 by decide), if_pos (show true = true ∧ s.2.2.1 ≠ 1 from ⟨rfl, e1⟩)]
      have f2 : FG [23, 24, 25] [12, 13, 14, 20] τ (stF τ 20 20 0) := (FG.st 20 0).mono (by simp) (by simp)
      have mr2 := t3.congr (τ := stF τ 20 20 0) ((FG.st 20 0).mono (by simp) (by simp))
      obtain ⟨υ, u1, u2, u3⟩ := e_MD_puts (t := 0) cx mr2 hd1 (Nat.le_refl R) zr
      rw [mr2.1.1.2.2.1, show D_MD_puts F n (stF τ 20 20 0) (nI d) (nI R) 0 = _ from u1, Option.bind_some, isB_g]
      exact ⟨υ, rfl, ((t2.fg.mono (by simp) (by simp)).tr f2).tr (u2.fg.mono (by simp) (by simp)), u3, by rw [u2.2.2 20 (by decide) (by decide) (by decide), stF_s, upd_s]; rfl⟩
end MO
