/-- the reference's tape, cursor, values, and the last cut -/
def MX (W R G : Nat) (tb : Nat) (tp : Nat → Int64) (nx : Nat) (V : Nat → Nat → Int64) (ol : Nat → Int64) (cb : Nat) (dp : Bool) (σ : HS) : Prop :=
  (σ.1 20 15 = nI nx ∧ σ.1 20 17 = nI tb ∧ σ.1 20 20 = b2i dp ∧ (dp = true → σ.1 20 19 = nI cb)) ∧ (∀ k, k < tb → σ.1 27 k = byR tp k) ∧ (∀ b k, b < R * G * (W - 1) → k < 64 → σ.1 28 (64 * b + k) = byR (V b) k) ∧ (dp = true → ∀ k, k < 64 → σ.1 29 k = byR ol k)
theorem MX.congr {W R G tb nx cb : Nat} {tp ol : Nat → Int64} {V : Nat → Nat → Int64} {dp dp1 : Bool} {A J : List Nat} {σ τ : HS} (h : MX W R G tb tp nx V ol cb dp σ) (f : FG A J σ τ) (hA : 27 ∉ A ∧ 28 ∉ A ∧ 29 ∉ A) (hJ : 15 ∉ J ∧ 17 ∉ J ∧ 19 ∉ J) (h20 : τ.1 20 20 = b2i dp1) (hdp : dp1 = true → dp = true) : MX W R G tb tp nx V ol cb dp1 τ := by
  obtain ⟨⟨a1, a2, a3, a4⟩, b1, b2, b3⟩ := h
  refine ⟨⟨by rw [f.2.2 15 hJ.1]; exact a1, by rw [f.2.2 17 hJ.2.1]; exact a2, h20, fun z => by rw [f.2.2 19 hJ.2.2]; exact a4 (hdp z)⟩, fun k hk => by rw [f.1 27 hA.1 (by decide)]; exact b1 k hk, fun b k hb hk => by rw [f.1 28 hA.2.1 (by decide)]; exact b2 b k hb hk, fun z k hk => by rw [f.1 29 hA.2.2 (by decide)]; exact b3 (hdp z) k hk⟩
theorem MX.same {W R G tb nx cb : Nat} {tp ol : Nat → Int64} {V : Nat → Nat → Int64} {dp : Bool} {A J : List Nat} {σ τ : HS} (h : MX W R G tb tp nx V ol cb dp σ) (f : FG A J σ τ) (hA : 27 ∉ A ∧ 28 ∉ A ∧ 29 ∉ A) (hJ : 15 ∉ J ∧ 17 ∉ J ∧ 19 ∉ J ∧ 20 ∉ J) : MX W R G tb tp nx V ol cb dp τ := h.congr f hA ⟨hJ.1, hJ.2.1, hJ.2.2.1⟩ (by rw [f.2.2 20 hJ.2.2.2]; exact h.1.2.2.1) id
def setV (V : Nat → Nat → Int64) (b : Nat) (P : Nat → Int64) : Nat → Nat → Int64 := fun c => if c = b then P else V c
theorem nb768 {D W R G : Nat} (gn : GN D W R G) : R * G * (W - 1) ≤ 768 := by
  obtain ⟨⟨_, _⟩, ⟨_, _, _⟩, ⟨_, _⟩, ⟨_, _⟩, ⟨_, _⟩, _, _, _, _⟩ := gn
  have h : G * (W - 1) ≤ 12 := by
    have : G = 1 ∨ G = 2 ∨ G = 3 ∨ G = 4 ∨ G = 5 := by omega
    rcases this with rfl | rfl | rfl | rfl | rfl <;> omega
  rw [Nat.mul_assoc]
  exact Nat.le_trans (Nat.mul_le_mul (show R ≤ 64 by omega) h) (by decide)
/-- whether a write makes the block another; whether it leaves the parity behind -/
def wch (lg : Bool) (lf : Nat) : Bool := decide (lf ≠ 1) && (!lg || decide (lf ≠ 2))
def wdp (lg : Bool) (lf : Nat) : Bool := lg && decide (lf = 3)
def zt (tb : Nat) (tp : Nat → Int64) : Prop := tb ≤ 64 ∧ ∀ k, tb ≤ k → k < 64 → byR tp k = 0
section MWR
variable {D W R G : Nat} {hd : Nat → Nat → Nat} {F : Nat} {n : Nat → Nat} {σ : HS} {s : PS} {pl : Nat → Nat → Option Nat} {live : Nat → Bool} {tb nx cb : Nat} {tp ol : Nat → Int64} {V : Nat → Nat → Int64} {dp : Bool}
theorem e_MD_becomes (cx : Ctx D W R G hd n F) (mx : MX W R G tb tp nx V ol cb dp σ) (ht : zt tb tp) {b : Nat} (hb : b < R * G * (W - 1)) : ∃ τ, D_MD_becomes F n σ (nI b) = some τ ∧ FG [28, 29] [] σ τ ∧ (∀ k, k < 64 → τ.1 29 k = byR (V b) k) ∧ ∀ b1 k, b1 < R * G * (W - 1) → k < 64 → τ.1 28 (64 * b1 + k) = byR (setV V b tp b1) k := by
  obtain ⟨ge, ln, hF⟩ := id cx
  have h768 := nb768 ge.num
  have n27 : n 27 = 64 := ln.2.2.2.2.2.2.2.1
  have n28 : n 28 = 49152 := ln.2.2.2.2.2.2.2.2.1
  have n29 : n 29 = 64 := ln.2.2.2.2.2.2.2.2.2.1
  obtain ⟨⟨a1, a2, a3, a4⟩, c1, c2, c3⟩ := mx
  obtain ⟨τ, e1, q⟩ := lp (L := D_MD_becomes_L2 F n (nI b)) (N := 64) (I := fun m τ => FG [28, 29] [] σ τ ∧ (∀ k, k < m → τ.1 29 k = byR (V b) k) ∧ ∀ b1 k, b1 < R * G * (W - 1) → k < 64 → τ.1 28 (64 * b1 + k) = if b1 = b ∧ k < m then byR tp k else byR (V b1) k)
    (Q := fun τ => FG [28, 29] [] σ τ ∧ (∀ k, k < 64 → τ.1 29 k = byR (V b) k) ∧ ∀ b1 k, b1 < R * G * (W - 1) → k < 64 → τ.1 28 (64 * b1 + k) = byR (setV V b tp b1) k)
    (fun k τ i hi ⟨f1, f2, f3⟩ => by
      have v28 : τ.1 28 (64 * b + i) = byR (V b) i := by rw [f3 b i hb hi, if_neg (by omega)]
      refine Or.inl ⟨stI (stI τ 29 i (byR (V b) i)) 28 (64 * b + i) (byR tp i), ⟨⟨fun a e e2 => ?_, f1.2.1, fun j e => ?_⟩, fun j hj => ?_, fun b1 j hb1 hj => ?_⟩, ?_⟩
      · rw [stI_1 a (fun z => e (by simp [z])), stI_1 a (fun z => e (by simp [z]))]; exact f1.1 a e e2
      · rw [stI_1 20 (by decide), stI_1 20 (by decide)]; exact f1.2.2 j e
      · rw [stI_1 29 (by decide), stI_s, upd_a]
        by_cases e : j = i
        · rw [if_pos e, e]
        · rw [if_neg e]; exact f2 j (by omega)
      · rw [stI_s, upd_a, stI_1 28 (by decide), f3 b1 j hb1 hj]
        by_cases e : b1 = b
        · by_cases e2 : j = i
          · rw [if_pos (by omega), if_pos (by omega), e2]
          · rw [if_neg (by omega)]
            by_cases e3 : j < i
            · rw [if_pos ⟨e, e3⟩, if_pos (by omega)]
            · rw [if_neg (by omega), if_neg (by omega)]
        · rw [if_neg (by omega), if_neg (fun z => e z.1), if_neg (fun z => e z.1)]
      · rw [D_MD_becomes_L2, if_neg (by rw [show (64 : Int32) = nI 64 from rfl, nI_leI (by omega) (by omega)]; omega), show (64 : Int32) = nI 64 from rfl, pk_mul, nI_add]
        simp only [nm_q, nI_1]
        rw [grd_in (by omega) (by omega), grd_in (by omega) (by omega), nI_clamp (by omega), nI_clamp (by omega), v28, stI_1 20 (by decide), f1.2.2 17 (by simp), a2]
        by_cases e : tb ≤ i
        · rw [if_pos (by rw [nI_leI (by omega) (by omega)]; exact e), ht.2 i e hi, grd_in (by omega) (by omega)]
        · have h64 := ht.1
          rw [if_neg (by rw [nI_leI (by omega) (by omega)]; exact e), grd_in (by omega) (by omega), grd_in (by omega) (by omega), stI_1 27 (by decide), f1.1 27 (by decide) (by decide), c1 i (by omega)])
    (fun k τ ⟨f1, f2, f3⟩ => ⟨τ, by rw [D_MD_becomes_L2, if_pos (by decide)], f1, f2, fun b1 j hb1 hj => by
      rw [f3 b1 j hb1 hj]
      unfold setV
      by_cases e : b1 = b
      · rw [if_pos ⟨e, hj⟩, if_pos e]
      · rw [if_neg (fun z => e z.1), if_neg e]⟩)
    64 0 F σ (Nat.zero_add _) (by omega) ⟨FG.rf, fun j h => by omega, fun b1 j hb1 hj => by rw [if_neg (by omega), c2 b1 j hb1 hj]⟩
  exact ⟨τ, by rw [D_MD_becomes, ← nI_0, e1]; rfl, q⟩
theorem MX.bec {σ τ : HS} (mx : MX W R G tb tp nx V ol cb false σ) {b : Nat} (f : FG [28, 29] [] σ τ) (h28 : ∀ b1 k, b1 < R * G * (W - 1) → k < 64 → τ.1 28 (64 * b1 + k) = byR (setV V b tp b1) k) : MX W R G tb tp nx (setV V b tp) ol cb false τ := by
  obtain ⟨⟨a1, a2, a3, a4⟩, c1, c2, c3⟩ := mx
  exact ⟨⟨by rw [f.2.2 15 (by simp)]; exact a1, by rw [f.2.2 17 (by simp)]; exact a2, by rw [f.2.2 20 (by simp)]; exact a3, fun z => by cases z⟩, fun k hk => by rw [f.1 27 (by decide) (by decide)]; exact c1 k hk, h28, fun z => by cases z⟩
theorem aput_lf {s : PS} {d o : Nat} {c : CellV} (h : (aput s d o c).2 = true) : (aput s d o c).1.2.2.1 = s.2.2.1 - 1 := by rw [aput_ok h]
set_option maxHeartbeats 2000000 in
theorem e_MD_writes (cx : Ctx D W R G hd n F) (mr : MR D W R G hd live pl s σ) (on : s.2.1 = true) (lk : LK live s.1) (kw : KW D R s.1) (pw : PW D R (W * G) pl) (mx : MX W R G tb tp nx V ol cb false σ) (ht : zt tb tp) {row gi j : Nat} (hr : row < R) (hg : gi < G) (hj : j < W - 1) (hne : pl row (W * gi + (W - 1)) = none → pl row (W * gi + j) ≠ none) (P : Nat → Int64) :
    ∃ τ, D_MD_writes F n σ (nI ((row * G + gi) * (W - 1) + j)) = some (τ, b2i (aWrite W G s pl R row gi j P).2) ∧ FG [23, 24, 25, 28, 29] [12, 13, 14, 19, 20] σ τ ∧ MR D W R G hd live pl (aWrite W G s pl R row gi j P).1 τ ∧
      MX W R G tb tp nx (if wch ((pl row (W * gi + (W - 1))).isSome && (pl row (W * gi + j)).isSome) s.2.2.1 = true then setV V ((row * G + gi) * (W - 1) + j) tp else V) (V ((row * G + gi) * (W - 1) + j)) ((row * G + gi) * (W - 1) + j) (wdp ((pl row (W * gi + (W - 1))).isSome && (pl row (W * gi + j)).isSome) s.2.2.1) τ := by
  obtain ⟨ge, ln, hF⟩ := id cx
  have gn := ge.num
  have h768 := nb768 gn
  obtain ⟨⟨_, _⟩, ⟨_, _, _⟩, ⟨_, _⟩, ⟨_, _⟩, ⟨_, _⟩, _, _, _, _⟩ := id gn
  have i1 := lt2 hr hg
  have i2 := lt2 i1 hj
  have hqq := pos_lt hg (show W - 1 < W by omega)
  have hpp := pos_lt hg (show j < W by omega)
  have b1 : ((row * G + gi) * (W - 1) + j) / (W - 1) = row * G + gi := by rw [Nat.add_comm, Nat.add_mul_div_right _ _ (by omega), Nat.div_eq_of_lt hj, Nat.zero_add]
  have b2 : ((row * G + gi) * (W - 1) + j) % (W - 1) = j := by rw [Nat.add_comm, Nat.add_mul_mod_self_right, Nat.mod_eq_of_lt hj]
  have d1 : nI ((row * G + gi) * (W - 1) + j) / nI (W - 1) = nI (row * G + gi) := by rw [pk_div (by omega) (by omega) (by omega), b1]
  have d2 : nI ((row * G + gi) * (W - 1) + j) - nI ((row * G + gi) * (W - 1) + j) / nI (W - 1) * nI (W - 1) = nI j := by rw [pk_rem (by omega) (by omega) (by omega), b2]
  have d3 : nI (row * G + gi) / nI G = nI row := by rw [pk_div (by omega) (by omega) (by omega), (st_dm hg).1]
  have d4 : nI (row * G + gi) - nI (row * G + gi) / nI G * nI G = nI gi := by rw [pk_rem (by omega) (by omega) (by omega), (st_dm hg).2]
  have d5 : nI (W * gi + W) - (1 : Int32) = nI (W * gi + (W - 1)) := by rw [nI_sub1 (by omega)]; congr 1; omega
  have ep := epl_on (D := D) (N := W * G) (hd := hd) (K := s.1) (pl := pl) on
  have P1 := e_MD_placeOf cx mr lk kw hr hpp
  have P2 := e_MD_placeOf cx mr lk kw hr hqq
  rw [ep] at P1 P2
  -- one put, then the block becomes the tape
  have one : ∀ (d t : Nat) (Q : Nat → Int64), d < D → ∃ τ, ((D_MD_puts F n σ (nI d) (nI row) (nI t)).bind (fun (qx17 : HS × Int32) => (if qx17.2 = 0 then some (qx17.1, (0 : Int32)) else (D_MD_becomes F n qx17.1 (nI ((row * G + gi) * (W - 1) + j))).bind (fun (σ21 : HS) => some (σ21, (1 : Int32)))))) = some (τ, b2i (aput s d row (t, Q, zr)).2) ∧ FG [23, 24, 25, 28, 29] [12, 13, 14, 19, 20] σ τ ∧ MR D W R G hd live pl (aput s d row (t, Q, zr)).1 τ ∧ MX W R G tb tp nx (if decide (s.2.2.1 ≠ 1) = true then setV V ((row * G + gi) * (W - 1) + j) tp else V) (V ((row * G + gi) * (W - 1) + j)) ((row * G + gi) * (W - 1) + j) false τ := by
    intro d t Q hd1
    obtain ⟨τ, t1, t2, t3⟩ := e_MD_puts (t := t) cx mr hd1 (show row ≤ R by omega) Q
    rw [t1, Option.bind_some]
    show ∃ τ1, (if b2i (aput s d row (t, Q, zr)).2 = 0 then some (τ, (0 : Int32)) else (D_MD_becomes F n τ (nI ((row * G + gi) * (W - 1) + j))).bind (fun (σ21 : HS) => some (σ21, (1 : Int32)))) = _ ∧ _
    have mx1 := mx.same t2.fg (by decide) (by decide)
    rw [z_if]
    rw [aput_b]
    by_cases e : s.2.2.1 = 1
    · rw [decide_eq_false (fun z => z e), if_neg (by decide), if_neg (by decide)]
      exact ⟨τ, rfl, t2.fg.mono (by simp) (by simp), t3, ⟨mx1.1.1, mx1.1.2.1, mx1.1.2.2.1, fun z => by cases z⟩, mx1.2.1, mx1.2.2.1, fun z => by cases z⟩
    · rw [decide_eq_true e, if_pos rfl, if_pos rfl]
      obtain ⟨υ, u1, u2, u3, u4⟩ := e_MD_becomes cx mx1 ht i2
      rw [u1, Option.bind_some]
      have mx2 := mx1.bec u2 u4
      exact ⟨υ, rfl, (t2.fg.mono (by simp) (by simp)).tr (u2.mono (by simp) (by simp)), t3.congr (u2.mono (by simp) (by simp)), ⟨mx2.1.1, mx2.1.2.1, mx2.1.2.2.1, fun z => by cases z⟩, mx2.2.1, mx2.2.2.1, fun z => by cases z⟩
  rw [D_MD_writes, mr.1.1.2.1, mr.1.1.2.2.2, mr.1.1.2.2.1, nI_sub1 (a := W) (by omega)]
  simp only [nm_q, jn_q, nm2_q]
  rw [d2, d1, d4, d3]
  simp only [grd_z (show 0 < G by omega) (show G < 2 ^ 31 by omega), grd_z (show 0 < W - 1 by omega) (show W - 1 < 2 ^ 31 by omega), pk_mul, nI_add]
  rw [d5, P1, Option.bind_some, P2, Option.bind_some]
  unfold aWrite
  cases hq : pl row (W * gi + (W - 1)) with
  | none =>
    cases hp : pl row (W * gi + j) with
    | none => exact absurd hp (hne hq)
    | some dd =>
      have hdd := pw.1 row _ dd hr hpp hp
      rw [show pI (some dd) = nI dd from rfl, show pI none = -1 from rfl, if_neg (nI_pos (by omega)), if_neg (by decide), if_pos (nI_pos' (by omega)), if_pos (nI_pos' (by omega)), nI_1]
      obtain ⟨τ, t1, t2, t3, t4⟩ := one dd (W * gi + j + 1) P hdd
      refine ⟨τ, t1, t2, t3, ?_⟩
      show MX W R G tb tp nx (if wch (false && true) s.2.2.1 = true then _ else _) _ _ (wdp (false && true) s.2.2.1) τ
      rw [show wch (false && true) s.2.2.1 = decide (s.2.2.1 ≠ 1) from by unfold wch; simp, show wdp (false && true) s.2.2.1 = false from rfl]
      exact t4
  | some dq =>
    have hdq := pw.1 row _ dq hr hqq hq
    cases hp : pl row (W * gi + j) with
    | none =>
      rw [show pI (some dq) = nI dq from rfl, show pI none = -1 from rfl, if_pos (by decide), if_neg (by decide), if_neg (by decide), nI_1]
      obtain ⟨τ, t1, t2, t3, t4⟩ := one dq (W * gi + (W - 1) + 1) (fun i => otd W s.1 pl row gi j i ^^^ P i) hdq
      refine ⟨τ, t1, t2, t3, ?_⟩
      show MX W R G tb tp nx (if wch (true && false) s.2.2.1 = true then _ else _) _ _ (wdp (true && false) s.2.2.1) τ
      rw [show wch (true && false) s.2.2.1 = decide (s.2.2.1 ≠ 1) from by unfold wch; simp, show wdp (true && false) s.2.2.1 = false from rfl]
      exact t4
    | some dd =>
      have hdd := pw.1 row _ dd hr hpp hp
      rw [show pI (some dd) = nI dd from rfl, show pI (some dq) = nI dq from rfl, if_neg (nI_pos (by omega)), if_pos (nI_pos' (by omega))]
      show ∃ τ, _ = some (τ, b2i (aWriteL W G s dq dd R row gi j (otd W s.1 pl row gi j) P).2) ∧ _ ∧ MR D W R G hd live pl (aWriteL W G s dq dd R row gi j (otd W s.1 pl row gi j) P).1 τ ∧ MX W R G tb tp nx (if wch true s.2.2.1 = true then _ else _) _ _ (wdp true s.2.2.1) τ
      have e8 : (1 : Int32) + (8 : Int32) * nI (row * G + gi) + nI j = nI (1 + 8 * (row * G + gi) + j) := by rw [show (8 : Int32) = nI 8 from rfl, show (1 : Int32) = nI 1 from rfl, pk_mul, nI_add, nI_add]
      rw [e8]
      unfold aWriteL
      obtain ⟨τ1, t1, t2, t3⟩ := e_MD_puts (t := 1 + 8 * (row * G + gi) + j) cx mr hdq (Nat.le_refl R) (otd W s.1 pl row gi j)
      rw [t1, Option.bind_some]
      have mx1 := mx.same t2.fg (by decide) (by decide)
      have F1 : FG [23, 24, 25, 28, 29] [12, 13, 14, 19, 20] σ τ1 := t2.fg.mono (by simp) (by simp)
      generalize hs1 : aput s dq R (1 + 8 * (row * G + gi) + j, otd W s.1 pl row gi j, zr) = a1 at *
      have ab1 : a1.2 = decide (s.2.2.1 ≠ 1) := by rw [← hs1]; exact aput_b
      unfold andT
      simp only [z_if]
      cases hb1 : a1.2 with
      | false =>
        have e1 : s.2.2.1 = 1 := by
          rw [hb1] at ab1
          exact Decidable.not_not.mp (of_decide_eq_false ab1.symm)
        rw [if_neg (by decide), if_neg (by decide), hb1, e1]
        exact ⟨τ1, rfl, F1, t3, ⟨mx1.1.1, mx1.1.2.1, mx1.1.2.2.1, fun z => by cases z⟩, mx1.2.1, mx1.2.2.1, fun z => by cases z⟩
      | true =>
        have e1 : s.2.2.1 ≠ 1 := by
          rw [hb1] at ab1
          exact of_decide_eq_true ab1.symm
        have l1 : a1.1.2.2.1 = s.2.2.1 - 1 := by rw [← hs1] at hb1 ⊢; exact aput_lf hb1
        rw [if_pos rfl, if_pos rfl, nI_1]
        obtain ⟨τ2, u1, u2, u3⟩ := e_MD_puts (t := W * gi + j + 1) cx t3 hdd (show row ≤ R by omega) P
        rw [u1, Option.bind_some]
        simp only [z_if]
        have mx2 := mx1.same u2.fg (by decide) (by decide)
        have F2 : FG [23, 24, 25, 28, 29] [12, 13, 14, 19, 20] σ τ2 := F1.tr (u2.fg.mono (by simp) (by simp))
        generalize hs2 : aput a1.1 dd row (W * gi + j + 1, P, zr) = a2 at *
        have ab2 : a2.2 = decide (a1.1.2.2.1 ≠ 1) := by rw [← hs2]; exact aput_b
        cases hb2 : a2.2 with
        | false =>
          have e2 : s.2.2.1 = 2 := by
            rw [hb2, l1] at ab2
            have := Decidable.not_not.mp (of_decide_eq_false ab2.symm)
            omega
          rw [if_neg (by decide), if_neg (by decide), hb2, e2]
          exact ⟨τ2, rfl, F2, u3, ⟨mx2.1.1, mx2.1.2.1, mx2.1.2.2.1, fun z => by cases z⟩, mx2.2.1, mx2.2.2.1, fun z => by cases z⟩
        | true =>
          have e2 : s.2.2.1 ≠ 2 := by
            rw [hb2, l1] at ab2
            have := of_decide_eq_true ab2.symm
            omega
          have l2 : a2.1.2.2.1 = s.2.2.1 - 2 := by rw [← hs2] at hb2 ⊢; rw [aput_lf hb2, l1]; omega
          rw [if_pos rfl, if_pos rfl]
          obtain ⟨τ3, v1, v2, v3, v4⟩ := e_MD_becomes cx mx2 ht i2
          rw [v1, Option.bind_some]
          have mx3 := mx2.bec v2 v4
          have mr3 := u3.congr (v2.mono (by simp) (by simp))
          have F3 : FG [23, 24, 25, 28, 29] [12, 13, 14, 19, 20] σ τ3 := F2.tr (v2.mono (by simp) (by simp))
          -- cutBlock and cutDeep
          have mr4 : MR D W R G hd live pl a2.1 (stF (stF τ3 20 19 (nI ((row * G + gi) * (W - 1) + j))) 20 20 1) := (mr3.congr ((FG.st 19 _).mono (by simp) (by simp))).congr ((FG.st 20 _).mono (by simp) (by simp))
          have F4 : FG [23, 24, 25, 28, 29] [12, 13, 14, 19, 20] σ (stF (stF τ3 20 19 (nI ((row * G + gi) * (W - 1) + j))) 20 20 1) := (F3.tr ((FG.st 19 _).mono (by simp) (by simp))).tr ((FG.st 20 _).mono (by simp) (by simp))
          have mx4 : MX W R G tb tp nx (setV V ((row * G + gi) * (W - 1) + j) tp) (V ((row * G + gi) * (W - 1) + j)) ((row * G + gi) * (W - 1) + j) true (stF (stF τ3 20 19 (nI ((row * G + gi) * (W - 1) + j))) 20 20 1) := by
            obtain ⟨⟨a1, a2, a3, a4⟩, c1, c2, c3⟩ := mx3
            refine ⟨⟨?_, ?_, ?_, fun _ => ?_⟩, c1, c2, fun _ => v3⟩
            · rw [stF_s, upd_n (by decide), stF_s, upd_n (by decide)]; exact a1
            · rw [stF_s, upd_n (by decide), stF_s, upd_n (by decide)]; exact a2
            · rw [stF_s, upd_s]; rfl
            · rw [stF_s, upd_n (by decide), stF_s, upd_s]
          obtain ⟨τ5, w1, w2, w3⟩ := e_MD_puts (t := W * gi + (W - 1) + 1) cx mr4 hdq (show row ≤ R by omega) (fun i => otd W s.1 pl row gi j i ^^^ P i)
          rw [nI_1, w1, Option.bind_some]
          simp only [z_if]
          have mx5 := mx4.same w2.fg (by decide) (by decide)
          have F5 := F4.tr (w2.fg.mono (A1 := [23, 24, 25, 28, 29]) (J1 := [12, 13, 14, 19, 20]) (by simp) (by simp))
          generalize hs3 : aput a2.1 dq row (W * gi + (W - 1) + 1, fun i => otd W s.1 pl row gi j i ^^^ P i, zr) = a3 at *
          have ab3 : a3.2 = decide (a2.1.2.2.1 ≠ 1) := by rw [← hs3]; exact aput_b
          cases hb3 : a3.2 with
          | false =>
            have e3 : s.2.2.1 = 3 := by
              rw [hb3, l2] at ab3
              have := Decidable.not_not.mp (of_decide_eq_false ab3.symm)
              omega
            rw [if_neg (by decide), if_neg (by decide), hb3, e3]
            exact ⟨τ5, rfl, F5, w3, mx5⟩
          | true =>
            have e3 : s.2.2.1 ≠ 3 := by
              rw [hb3, l2] at ab3
              have := of_decide_eq_true ab3.symm
              omega
            rw [if_pos rfl, if_pos rfl]
            have mr6 := w3.congr (τ := stF τ5 20 20 0) ((FG.st 20 0).mono (by simp) (by simp))
            obtain ⟨τ7, x1, x2, x3⟩ := e_MD_puts (t := 0) cx mr6 hdq (Nat.le_refl R) zr
            rw [mr6.1.1.2.2.1, ← nI_0] at *
            rw [x1, Option.bind_some, isB_g]
            refine ⟨τ7, rfl, (F5.tr ((FG.st 20 _).mono (by simp) (by simp))).tr (x2.fg.mono (by simp) (by simp)), x3, ?_⟩
            rw [show wch true s.2.2.1 = true from by unfold wch; simp [e1, e2], if_pos rfl, show wdp true s.2.2.1 = false from by unfold wdp; simp [e3]]
            have mx6 : MX W R G tb tp nx (setV V ((row * G + gi) * (W - 1) + j) tp) (V ((row * G + gi) * (W - 1) + j)) ((row * G + gi) * (W - 1) + j) false (stF τ5 20 20 (nI 0)) := mx5.congr (FG.st 20 (nI 0)) (by decide) (by decide) (by rw [stF_s, upd_s]; rfl) (fun z => by cases z)
            exact mx6.same x2.fg (by decide) (by decide)
end MWR
