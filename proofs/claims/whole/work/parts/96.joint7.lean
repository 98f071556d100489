/-- the mask's bytes that count -/
def lowb (p4 : Int32) (p5 : Int64) : Int64 := if p4 < (8 : Int32) then p5 &&& (((1 : Int64) <<< ((((8 : Int32) * p4)).toInt64 &&& 63)) - (1 : Int64)) else p5
def vld (D R : Nat) (p1 p2 p3 p4 : Int32) (p5 : Int64) : Prop := ¬ p1 < 0 ∧ p1 < nI D ∧ ¬ p2 < 0 ∧ p2 < nI R ∧ ¬ p4 < 1 ∧ p4 ≤ 8 ∧ ¬ p3 < 0 ∧ p3 ≤ 70 - p4 ∧ ¬ lowb p4 p5 = 0
def spC (Dd Rr p1 p2 p4 : Int32) (p5 : Int64) (A B : Option (HS × Int32)) (x25 : Int32) : Option (HS × Int32) :=
  (if p1 < 0 then A else (if Dd ≤ p1 then A else (if p2 < 0 then A else (if Rr ≤ p2 then A else (if x25 = 0 then A else (if p4 = (8 : Int32) then (if (lg_cmp p5 (0 : Int64)) = 0 then A else B) else (if (lg_cmp (p5 &&& (((1 : Int64) <<< ((((8 : Int32) * p4)).toInt64 &&& 63)) - (1 : Int64))) (0 : Int64)) = 0 then A else B)))))))
def spH (Dd Rr p1 p2 p3 p4 : Int32) (p5 : Int64) (A B : Option (HS × Int32)) : Option (HS × Int32) :=
  (if p4 ≤ 0 then spC Dd Rr p1 p2 p4 p5 A B 0 else (if (9 : Int32) ≤ p4 then spC Dd Rr p1 p2 p4 p5 A B 0 else (if p3 < 0 then spC Dd Rr p1 p2 p4 p5 A B 0 else (if ((70 : Int32) - p4) < p3 then spC Dd Rr p1 p2 p4 p5 A B 0 else spC Dd Rr p1 p2 p4 p5 A B 1))))
def spB (F : Nat) (n : Nat → Nat) (p1 p2 p3 p4 : Int32) (p5 : Int64) (σ2 : HS) : Option (HS × Int32) := (D_MD_at F n σ2 p1 p2).bind (fun (x3 : Int32) => (D_MD_turn F n σ2 (((70 : Int32) * x3) + p3) p4 p5).bind (fun (σ5 : HS) => some (σ5, (0 : Int32))))
def spW (F : Nat) (n : Nat → Nat) (p1 p2 p3 p4 : Int32) (p5 : Int64) (σ9 : HS) : Option (HS × Int32) :=
      (if (σ9.1 20 12) = 0 then
        some (σ9, (0 : Int32))
      else
        grd (inb p1 (n 22)) (
        (if (σ9.1 22 (p1).toNatClampNeg) = 0 then
          some (σ9, (0 : Int32))
        else
          (D_MD_holder F n σ9 p2 p1).bind (fun (x14 : Int32) =>
          (if 0 ≤ x14 then
            (D_MD_at F n σ9 p1 p2).bind (fun (x16 : Int32) =>
            (D_MD_turn F n σ9 (((70 : Int32) * x16) + p3) p4 p5).bind (fun (σ18 : HS) =>
            (D_MD_bad F n σ18 p2 x14 (-1 : Int32)).bind (fun (x19 : Int32) =>
            (if (2 : Int32) ≤ x19 then
              spB F n p1 p2 p3 p4 p5 σ18
            else
              (D_MD_at F n σ18 p1 p2).bind (fun (x21 : Int32) =>
              (D_MD_isUnseen F n σ18 x21).bind (fun (x22 : Int32) =>
              (if x22 = 0 then
                some (σ18, (1 : Int32))
              else
                spB F n p1 p2 p3 p4 p5 σ18)))))))
          else
            some (σ9, (0 : Int32)))))))
section J7
variable {D W R G : Nat} {hd : Nat → Nat → Nat} {F : Nat} {n : Nat → Nat} {σ τ : HS} {live : Nat → Bool} {pl : Nat → Nat → Option Nat} {s : PS} {tb : Nat} {tp : Nat → Int64} {nx : Nat} {V : Nat → Nat → Int64} {ol : Nat → Int64} {cb : Nat} {dp : Bool}
theorem sp_eq (p1 p2 p3 p4 : Int32) (p5 : Int64) : D_MD_spoil F n σ p1 p2 p3 p4 p5 = spH (σ.1 20 1) (σ.1 20 3) p1 p2 p3 p4 p5 (some (stF σ 20 0 1, 0)) (spW F n p1 p2 p3 p4 p5 (stF σ 20 0 0)) := by
  have e1 : (D_MD_fails F n σ 1 (1 : Int32)).bind (fun (qx8 : HS × Int32) => nm2 qx8 (fun (σ9 : HS) (x8 : Int32) => (if x8 = 0 then spW F n p1 p2 p3 p4 p5 σ9 else some (σ9, (0 : Int32))))) = some (stF σ 20 0 1, 0) := by
    rw [f_1, Option.bind_some, nm2_q, if_neg (show ¬ (1 : Int32) = 0 by decide)]
  have e0 : (D_MD_fails F n σ 0 (1 : Int32)).bind (fun (qx8 : HS × Int32) => nm2 qx8 (fun (σ9 : HS) (x8 : Int32) => (if x8 = 0 then spW F n p1 p2 p3 p4 p5 σ9 else some (σ9, (0 : Int32))))) = spW F n p1 p2 p3 p4 p5 (stF σ 20 0 0) := by
    rw [f_0, Option.bind_some, nm2_q, if_pos rfl]
  rw [← e1, ← e0]
  rfl
theorem spC_a {Dd Rr p1 p2 p4 : Int32} {p5 : Int64} {A B : Option (HS × Int32)} {x25 : Int32} (h : p1 < 0 ∨ Dd ≤ p1 ∨ p2 < 0 ∨ Rr ≤ p2 ∨ x25 = 0) : spC Dd Rr p1 p2 p4 p5 A B x25 = A := by
  unfold spC
  by_cases h1 : p1 < 0
  · rw [if_pos h1]
  rw [if_neg h1]
  by_cases h2 : Dd ≤ p1
  · rw [if_pos h2]
  rw [if_neg h2]
  by_cases h3 : p2 < 0
  · rw [if_pos h3]
  rw [if_neg h3]
  by_cases h4 : Rr ≤ p2
  · rw [if_pos h4]
  rw [if_neg h4]
  by_cases h5 : x25 = 0
  · rw [if_pos h5]
  rcases h with h | h | h | h | h
  · exact absurd h h1
  · exact absurd h h2
  · exact absurd h h3
  · exact absurd h h4
  · exact absurd h h5
theorem i_le {x y : Int32} (h : ¬ x < y) : y ≤ x := by rw [Int32.lt_iff_toInt_lt] at h; rw [Int32.le_iff_toInt_le]; omega
theorem i_nle {x y : Int32} (h : x < y) : ¬ y ≤ x := by rw [Int32.lt_iff_toInt_lt] at h; rw [Int32.le_iff_toInt_le]; omega
theorem i_lt {x y : Int32} (h : ¬ y ≤ x) : x < y := by rw [Int32.le_iff_toInt_le] at h; rw [Int32.lt_iff_toInt_lt]; omega
theorem i01 {x : Int32} : x ≤ 0 ↔ x < 1 := by
  rw [Int32.lt_iff_toInt_lt, Int32.le_iff_toInt_le]
  have h1 : (1 : Int32).toInt = 1 := rfl
  have h2 : (0 : Int32).toInt = 0 := rfl
  omega
theorem i89 {x : Int32} : (9 : Int32) ≤ x ↔ ¬ x ≤ 8 := by
  rw [Int32.le_iff_toInt_le, Int32.le_iff_toInt_le]
  have h1 : (9 : Int32).toInt = 9 := rfl
  have h2 : (8 : Int32).toInt = 8 := rfl
  omega
theorem i_78 {x : Int32} (h : x ≤ 8) (hn : ¬ x = 8) : x < 8 := by
  refine i_lt (fun z => hn ?_)
  rw [Int32.le_iff_toInt_le] at h z
  exact Int32.toInt_inj.mp (by omega)
theorem spH_v {p1 p2 p3 p4 : Int32} {p5 : Int64} {A B : Option (HS × Int32)} (h : vld D R p1 p2 p3 p4 p5) : spH (nI D) (nI R) p1 p2 p3 p4 p5 A B = B := by
  obtain ⟨h1, h2, h3, h4, h5, h6, h7, h8, h9⟩ := h
  unfold spH
  rw [if_neg (fun z => h5 (i01.mp z)), if_neg (fun z => i89.mp z h6), if_neg h7, if_neg (fun z => i_nle z h8)]
  unfold spC
  rw [if_neg h1, if_neg (i_nle h2), if_neg h3, if_neg (i_nle h4), if_neg (by decide)]
  unfold lowb at h9
  by_cases e : p4 = 8
  · rw [if_pos e]
    rw [e, if_neg (by decide)] at h9
    rw [if_neg (fun z => h9 ((lcmp0 _ _).mp z))]
  · rw [if_neg e]
    rw [if_pos (i_78 h6 e)] at h9
    rw [if_neg (fun z => h9 ((lcmp0 _ _).mp z))]
theorem spH_n {p1 p2 p3 p4 : Int32} {p5 : Int64} {A B : Option (HS × Int32)} (h : ¬ vld D R p1 p2 p3 p4 p5) : spH (nI D) (nI R) p1 p2 p3 p4 p5 A B = A := by
  unfold spH
  by_cases h5 : p4 ≤ 0
  · rw [if_pos h5]; exact spC_a (Or.inr (Or.inr (Or.inr (Or.inr rfl))))
  rw [if_neg h5]
  by_cases h6 : (9 : Int32) ≤ p4
  · rw [if_pos h6]; exact spC_a (Or.inr (Or.inr (Or.inr (Or.inr rfl))))
  rw [if_neg h6]
  by_cases h7 : p3 < 0
  · rw [if_pos h7]; exact spC_a (Or.inr (Or.inr (Or.inr (Or.inr rfl))))
  rw [if_neg h7]
  by_cases h8 : (70 : Int32) - p4 < p3
  · rw [if_pos h8]; exact spC_a (Or.inr (Or.inr (Or.inr (Or.inr rfl))))
  rw [if_neg h8]
  by_cases hb : p1 < 0 ∨ nI D ≤ p1 ∨ p2 < 0 ∨ nI R ≤ p2
  · exact spC_a (by
      rcases hb with z | z | z | z
      · exact Or.inl z
      · exact Or.inr (Or.inl z)
      · exact Or.inr (Or.inr (Or.inl z))
      · exact Or.inr (Or.inr (Or.inr (Or.inl z))))
  have h1 : ¬ p1 < 0 := fun z => hb (Or.inl z)
  have h2 : ¬ nI D ≤ p1 := fun z => hb (Or.inr (Or.inl z))
  have h3 : ¬ p2 < 0 := fun z => hb (Or.inr (Or.inr (Or.inl z)))
  have h4 : ¬ nI R ≤ p2 := fun z => hb (Or.inr (Or.inr (Or.inr z)))
  have h68 : p4 ≤ 8 := Decidable.byContradiction (fun z => h6 (i89.mpr z))
  have h9 : lowb p4 p5 = 0 := Decidable.byContradiction (fun z => h ⟨h1, i_lt h2, h3, i_lt h4, fun y => h5 (i01.mpr y), h68, h7, i_le h8, z⟩)
  unfold spC
  rw [if_neg h1, if_neg h2, if_neg h3, if_neg h4, if_neg (by decide)]
  unfold lowb at h9
  by_cases e : p4 = 8
  · rw [if_pos e]
    rw [e, if_neg (by decide)] at h9
    rw [if_pos ((lcmp0 _ _).mpr h9)]
  · rw [if_neg e]
    rw [if_pos (i_78 h68 e)] at h9
    rw [if_pos ((lcmp0 _ _).mpr h9)]
/-- the class, past its arguments -/
def scW (F : Nat) (n : Nat → Nat) (σ : HS) (p1 p2 p3 p4 : Int32) (p5 : Int64) : Option (HS × (Int32 ⊕ Nat)) :=
                    (D_LA_cell F n σ p1 p2).bind (fun (x11 : Int32) =>
                    (if (σ.1 4 0) = 0 then
                      some (σ, Sum.inl (0 : Int32))
                    else
                      grd (inb p1 (n 10)) (
                      (if (σ.1 10 (p1).toNatClampNeg) = 0 then
                        some (σ, Sum.inl (0 : Int32))
                      else
                        grd (inb x11 (n 16)) (
                        (if (σ.1 16 (x11).toNatClampNeg) = (-1 : Int32) then
                          some (σ, Sum.inl (0 : Int32))
                        else
                          (D_SF_spoilPlace F n σ x11 p3 p4 p5).bind (fun (qx17 : HS × Int32) => nm2 qx17 (fun (σ18 : HS) (x17 : Int32) =>
                          grd (isB x17) (
                          some (σ18, Sum.inl x17))))))))))
theorem sc_v {p1 p2 p3 p4 : Int32} {p5 : Int64} (g : cGeo D W R G hd σ) (h : vld D R p1 p2 p3 p4 p5) : D_SF_spoil F n σ p1 p2 p3 p4 p5 = scW F n σ p1 p2 p3 p4 p5 := by
  obtain ⟨h1, h2, h3, h4, h5, h6, h7, h8, h9⟩ := h
  have el : D_SF_lowestBytes F n σ p4 p5 = some (lowb p4 p5) := by
    rw [D_SF_lowestBytes]
    unfold lowb
    split <;> rfl
  rw [D_SF_spoil, g.1.1, g.1.2.2.1, if_neg h1, if_pos h2, if_neg h3, if_pos h4, if_neg h5, if_pos h6, if_neg h7, if_pos h8, el, Option.bind_some, if_neg (fun z => h9 ((lcmp0 _ _).mp z))]
  rfl
theorem sc_n {p1 p2 p3 p4 : Int32} {p5 : Int64} (g : cGeo D W R G hd σ) (h : ¬ vld D R p1 p2 p3 p4 p5) : D_SF_spoil F n σ p1 p2 p3 p4 p5 = some (σ, Sum.inr 1) := by
  have el : D_SF_lowestBytes F n σ p4 p5 = some (lowb p4 p5) := by
    rw [D_SF_lowestBytes]
    unfold lowb
    split <;> rfl
  rw [D_SF_spoil, g.1.1, g.1.2.2.1]
  by_cases h1 : p1 < 0
  · rw [if_pos h1]
  rw [if_neg h1]
  by_cases h2 : p1 < nI D
  case neg => rw [if_neg h2]
  rw [if_pos h2]
  by_cases h3 : p2 < 0
  · rw [if_pos h3]
  rw [if_neg h3]
  by_cases h4 : p2 < nI R
  case neg => rw [if_neg h4]
  rw [if_pos h4]
  by_cases h5 : p4 < 1
  · rw [if_pos h5]
  rw [if_neg h5]
  by_cases h6 : p4 ≤ 8
  case neg => rw [if_neg h6]
  rw [if_pos h6]
  by_cases h7 : p3 < 0
  · rw [if_pos h7]
  rw [if_neg h7]
  by_cases h8 : p3 ≤ 70 - p4
  case neg => rw [if_neg h8]
  rw [if_pos h8, el, Option.bind_some]
  have h9 : lowb p4 p5 = 0 := Decidable.byContradiction (fun z => h ⟨h1, h2, h3, h4, h5, h6, h7, h8, z⟩)
  rw [if_pos ((lcmp0 _ _).mpr h9)]
theorem e_placeOf_on (cx : Ctx D W R G hd n F) (m5 : σ.1 20 12 = nI 1) (m4 : ∀ row p, row < R → p < W * G → σ.1 26 (16 * row + p) = pI (pl row p)) {row p : Nat} (hr : row < R) (hp : p < W * G) : D_MD_placeOf F n σ (nI row) (nI p) = some (pI (pl row p)) := by
  obtain ⟨ge, ln, hF⟩ := id cx
  obtain ⟨⟨_, _⟩, ⟨_, _, _⟩, ⟨_, _⟩, ⟨_, _⟩, ⟨_, _⟩, _, _, _, _⟩ := ge.num
  rw [D_MD_placeOf, m5, if_neg (by decide), show (16 : Int32) = nI 16 from rfl, pk_mul, nI_add, grd_in (by rw [ln.2.2.2.2.2.2.1]; omega) (by omega), nI_clamp (by omega), m4 row p hr hp]
set_option maxHeartbeats 1000000 in
theorem j_spoil (cx : Ctx D W R G hd n F) (ji : JI D W R G hd σ) (p1 p2 p3 p4 : Int32) (p5 : Int64) : ∃ τ c, D_LW_spoil_0_30 F n σ p1 p2 p3 p4 p5 = some (τ, c) ∧ ∃ υ r, D_MD_spoil F n τ p1 p2 p3 p4 p5 = some (υ, r) ∧ υ.1 20 0 = c ∧ (c = 0 → (r = 0 → υ.2 30 0 = 0) ∧ (¬ r = 0 → υ.2 30 0 = 1)) ∧ JI D W R G hd υ := by
  obtain ⟨ge, ln, hF⟩ := id cx
  have gn := ge.num
  obtain ⟨⟨_, _⟩, ⟨_, _, _⟩, ⟨_, _⟩, ⟨_, _⟩, ⟨_, _⟩, _, _, _, _⟩ := id gn
  have ji0 := ji
  obtain ⟨live, pl, s, tb, tp, nx, V, ol, cb, dp, ci, mr, mx, gi, hz, hnx⟩ := ji
  obtain ⟨⟨a1, a2, a3, a4, a5⟩, b1, b2⟩ := id ci
  have n10 : n 10 = D := ln.1.2.2.1
  have n16 : n 16 = D * (R + 1) := ln.1.2.2.2.2.2.2.2.2
  have n22 : n 22 = 16 := ln.2.2.1
  have n25 : n 25 = 72800 := ln.2.2.2.2.2.1
  by_cases hv : vld D R p1 p2 p3 p4 p5
  case neg =>
    refine ⟨σ, 1, ?_, stF σ 20 0 1, 0, ?_, thr_s, fun z => absurd z (by decide), ji0.thr 1⟩
    · rw [D_LW_spoil_0_30, sc_n a1 hv]; rfl
    · rw [sp_eq, mr.1.1.1, mr.1.1.2.2.1, spH_n hv]
  obtain ⟨h1, h2, h3, h4, h5, h6, h7, h8, h9⟩ := id hv
  obtain ⟨x, hx0, rfl⟩ := nI_of h1
  obtain ⟨row, hr0, rfl⟩ := nI_of h3
  have hx : x < D := (nI_ltI hx0 (by omega)).mp h2
  have hr : row < R := (nI_ltI hr0 (by omega)).mp h4
  obtain ⟨m, hm0, rfl⟩ := nI_of (x := p4) (fun z => h5 (i01.mp (by rw [Int32.le_iff_toInt_le]; rw [Int32.lt_iff_toInt_lt] at z; omega)))
  have hm : m ≤ 8 := (nI_leI (a := m) (b := 8) hm0 (by omega)).mp h6
  obtain ⟨at_, ha0, rfl⟩ := nI_of h7
  have hat : at_ + m ≤ 70 := by
    rw [show (70 : Int32) = nI 70 from rfl, pk_sub (by omega), nI_leI ha0 (by omega)] at h8
    omega
  have i1 := idx_c gn hx (show row ≤ R by omega)
  -- nothing is done
  have idle : scW F n σ (nI x) (nI row) (nI at_) (nI m) p5 = some (σ, Sum.inl 0) → spW F n (nI x) (nI row) (nI at_) (nI m) p5 (stF (stL σ 30 0 0) 20 0 0) = some (stF (stL σ 30 0 0) 20 0 0, 0) → ∃ τ c, D_LW_spoil_0_30 F n σ (nI x) (nI row) (nI at_) (nI m) p5 = some (τ, c) ∧ ∃ υ r, D_MD_spoil F n τ (nI x) (nI row) (nI at_) (nI m) p5 = some (υ, r) ∧ υ.1 20 0 = c ∧ (c = 0 → (r = 0 → υ.2 30 0 = 0) ∧ (¬ r = 0 → υ.2 30 0 = 1)) ∧ JI D W R G hd υ := by
    intro e1 e2
    refine ⟨stL σ 30 0 0, 0, ?_, stF (stL σ 30 0 0) 20 0 0, 0, ?_, thr_s, fun _ => ⟨fun _ => by rw [stF_2, out_s], fun z => absurd rfl z⟩, (ji0.out 0).thr 0⟩
    · rw [D_LW_spoil_0_30, sc_v a1 hv, e1]
      simp only [Option.bind_some, nm2_q, xc_l, in30 ln]; rfl
    · rw [sp_eq, show (stL σ 30 0 0).1 20 1 = nI D from mr.1.1.1, show (stL σ 30 0 0).1 20 3 = nI R from mr.1.1.2.2.1, spH_v hv, e2]
  have mrO := (mr.hi (Hi.out (σ := σ) (v := 0))).thr 0
  cases hs : s.2.1 with
  | false =>
    refine idle ?_ ?_
    · unfold scW
      rw [e_LA_cell a1, Option.bind_some, a4.1, if_pos (on_i.mpr hs)]
    · unfold spW
      rw [mrO.2.2.2.2.1, if_pos (on_i.mpr hs)]
  | true =>
    have hn : ¬ b2i s.2.1 = 0 := fun z => by rw [on_i.mp z] at hs; cases hs
    cases hl : live x with
    | false =>
      have hlx : b2i (live x) = 0 := by rw [hl]; rfl
      refine idle ?_ ?_
      · unfold scW
        rw [e_LA_cell a1, Option.bind_some, a4.1, if_neg hn, grd_in (by omega) (by omega), nI_clamp (by omega), a2 x hx, if_pos hlx]
      · unfold spW
        rw [mrO.2.2.2.2.1, if_neg hn, grd_in (by omega) (by omega), nI_clamp (by omega), mrO.2.1 x hx, if_pos hlx]
    | true =>
      have hlx : ¬ b2i (live x) = 0 := by rw [hl]; decide
      obtain ⟨lk, kw, lv⟩ := gi.base
      have pw := gi.pw hs
      have cr := ci.cr hs
      obtain ⟨gon, hdp⟩ := gi.1 hs
      have mbO := mrO.mb cx lk kw gi.pw
      rw [epl_on hs] at mbO
      cases hsr : srch (fun p => decide (pl row p = some x)) (W * G) 0 with
      | none =>
        have hh : held (W * G) pl row x = false := by unfold held; rw [hsr]; rfl
        refine idle ?_ ?_
        · unfold scW
          rw [e_LA_cell a1, Option.bind_some, a4.1, if_neg hn, grd_in (by omega) (by omega), nI_clamp (by omega), a2 x hx, if_neg hlx, grd_in (by omega) (by omega), nI_clamp (by omega), if_pos ((hold_m1 gn cr.2.2.2.1 hx hr).mpr hh)]
        · unfold spW
          rw [mrO.2.2.2.2.1, if_neg hn, grd_in (by omega) (by omega), nI_clamp (by omega), mrO.2.1 x hx, if_neg hlx, e_MD_holder cx mbO hr hx, hsr, Option.bind_some, if_neg (by decide)]
      | some p =>
        obtain ⟨_, s2, s3, _⟩ := srch_some hsr
        have hp : p < W * G := by omega
        have hpx : pl row p = some x := of_decide_eq_true s3
        have hh : ¬ held (W * G) pl row x = false := fun z => held_no.mp z p hp hpx
        obtain ⟨v, k1, k2⟩ := gon.1.2.2.2.1 row p x hr hp hpx
        obtain ⟨t, P, dm⟩ := v
        have hvk := kw x row _ hx (show row ≤ R by omega) k1
        have hpW := Nat.div_add_mod p W
        have hg : p / W < G := Nat.div_lt_of_lt_mul hp
        have hj : p % W < W := Nat.mod_lt _ (by omega)
        have hpe : pl row (W * (p / W) + p % W) = some x := by rw [hpW]; exact hpx
        obtain ⟨τ1, t1, t2, t3⟩ := e_SF_spoilPlace cx a1 a3 cr.2.2.2.1 pw hr hg hj hpe k1 hvk hm hat p5
        have htop : ∀ i, 48 ≤ i → i < 64 → gb (dmx dm at_ m p5 8) i = false := fun i h1 h2 => by
          show gb (dm 8 ^^^ msk at_ p5 m 8) i = false
          rw [gb_xor, hvk.2.1 i h1 h2, msk_top hm hat i h1 h2]; rfl
        have hsame := spoil_same (D := D) (K := s.1) (pl := pl) (t := t) (P := P) (dm2 := dmx dm at_ m p5) pw gon.1.2.2.2.2.2.1 hr hg hj hpe
        have hspo := fun (ha : alw W s.1 pl row (p / W) (p % W) (dmx dm at_ m p5) = true) => gon.spoil ge hr hg hj hpe k1 htop ha
        generalize hal : alw W s.1 pl row (p / W) (p % W) (dmx dm at_ m p5) = al at *
        -- the class
        have ciA : CI D W R G hd live pl (if al = true then setK s.1 x row (some (t, P, dmx dm at_ m p5)) else s.1, s.2) tb tp nx τ1 := ⟨⟨a1.congr (t2.1 1 (by decide)) (t2.1 9 (by decide)), fun d hd1 => by rw [t2.1 10 (by decide)]; exact a2 d hd1, t3, a4.congr (t2.1 4 (by decide)), fun i hi => by rw [t2.2 8 (by decide)]; exact a5 i hi⟩, fun z => (b1 hs).congr (t2.1 15 (by decide)) (t2.1 16 (by decide)), b2.fr t2 (by decide) (by decide)⟩
        have hi : Hi σ (bout τ1 al) := fun a h => by show τ1.1 a = _; rw [t2.1 a (by simp; omega)]
        have eW : D_LW_spoil_0_30 F n σ (nI x) (nI row) (nI at_) (nI m) p5 = some (bout τ1 al, 0) := by
          rw [D_LW_spoil_0_30, sc_v a1 hv]
          unfold scW
          rw [e_LA_cell a1, Option.bind_some, a4.1, if_neg hn, grd_in (by omega) (by omega), nI_clamp (by omega), a2 x hx, if_neg hlx, grd_in (by omega) (by omega), nI_clamp (by omega), if_neg (fun z => hh ((hold_m1 gn cr.2.2.2.1 hx hr).mp z)), t1]
          simp only [Option.bind_some, nm_q, nm2_q, xc_l, in30 ln, isB_g]
          unfold bout
          cases al
          · rw [if_pos (by rfl)]; rfl
          · rw [if_neg (by decide)]; rfl
        -- the reference
        have mr1 := (mr.hi hi).thr 0
        have mx1 := (mx.hi hi).thr 0
        have ciB : CI D W R G hd live pl (if al = true then setK s.1 x row (some (t, P, dmx dm at_ m p5)) else s.1, s.2) tb tp nx (stF (bout τ1 al) 20 0 0) := (ciA.lo (Lo.out : Lo τ1 (bout τ1 al))).lo (Lo.thr (v := 0))
        have hout1 : (stF (bout τ1 al) 20 0 0).2 30 0 = if al = true then 1 else 0 := by
          rw [stF_2]; unfold bout; rw [out_s]
        have hthr1 : (stF (bout τ1 al) 20 0 0).1 20 0 = 0 := thr_s
        have eSp : D_MD_spoil F n (bout τ1 al) (nI x) (nI row) (nI at_) (nI m) p5 = spW F n (nI x) (nI row) (nI at_) (nI m) p5 (stF (bout τ1 al) 20 0 0) := by
          rw [sp_eq, (mr.hi hi).1.1.1, (mr.hi hi).1.1.2.2.1, spH_v hv]
        generalize hσ1 : stF (bout τ1 al) 20 0 0 = σ1 at *
        have mb1 := mr1.mb cx lk kw gi.pw
        rw [epl_on hs] at mb1
        have hcell := mr1.2.2.1 x row hx (show row ≤ R by omega) hl
        rw [k1] at hcell
        have hcell : σ1.1 23 (65 * x + row) = nI 1 ∧ σ1.1 24 (65 * x + row) = nI t ∧ ∀ k, k < 70 → σ1.1 25 (70 * (65 * x + row) + k) = sx (byR dm k) := hcell
        obtain ⟨τ5, u1, u2, u3, u4, u5⟩ := e_MD_turn (σ := σ1) n25 (show 100 ≤ F by omega) (show 65 * x + row < 1040 by omega) hm hat p5 hcell.2.2
        have fT : FG [25] [] σ1 τ5 := ⟨fun a e _ => u2 a (fun z => e (by simp [z])), u3, fun j _ => by rw [u2 20 (by decide)]⟩
        -- the damaged state
        have mkD : ∀ (K2 : Rk) (dm3 : Nat → Int64) (ω : HS), (∀ a, a ≠ 25 → ω.1 a = σ1.1 a) → (∀ j, j < 70 * (65 * x + row) ∨ 70 * (65 * x + row) + 70 ≤ j → ω.1 25 j = σ1.1 25 j) → (∀ k, k < 70 → ω.1 25 (70 * (65 * x + row) + k) = sx (byR dm3 k)) → K2 = setK s.1 x row (some (t, P, dm3)) → mK D R live K2 ω := by
          intro K2 dm3 ω w1 w2 w3 e d o hd1 ho hld
          rw [e]
          by_cases z : d = x ∧ o = row
          · rw [z.1, z.2, setK_at]
            exact ⟨by rw [w1 23 (by decide)]; exact hcell.1, by rw [w1 24 (by decide)]; exact hcell.2.1, w3⟩
          · rw [setK_ne z]
            have := mr1.2.2.1 d o hd1 ho hld
            unfold mCell at *
            cases hk : s.1 d o with
            | none => rw [hk] at this; show ω.1 23 _ = _; rw [w1 23 (by decide)]; exact this
            | some v =>
              rw [hk] at this
              have hne : 65 * d + o ≠ 65 * x + row := fun y => z (at_inj (R := R) (by omega) ho (by omega) y)
              exact ⟨by rw [w1 23 (by decide)]; exact this.1, by rw [w1 24 (by decide)]; exact this.2.1, fun k hk1 => by rw [w2 _ (by omega)]; exact this.2.2 k hk1⟩
        have mrD : ∀ (K2 : Rk) (ω : HS), FG [25] [] σ1 ω → mK D R live K2 ω → MR D W R G hd live pl (K2, s.2) ω := by
          intro K2 ω f hk
          obtain ⟨m1, m2, m3, m4, m5, m6, m7, m8⟩ := mr1
          exact ⟨m1.congr (fun j _ => f.2.2 j (by simp)) (f.1 21 (by decide) (by decide)), fun d hd1 => by rw [f.1 22 (by decide) (by decide)]; exact m2 d hd1, hk, fun ho row p hr hp => by rw [f.1 26 (by decide) (by decide)]; exact m4 ho row p hr hp, by rw [f.2.2 12 (by simp)]; exact m5, by rw [f.2.2 13 (by simp)]; exact m6, by rw [f.2.2 14 (by simp)]; exact m7, m8⟩
        have mk5 := mkD _ (dmx dm at_ m p5) τ5 u2 u4 u5 rfl
        have mr5 := mrD _ τ5 fT mk5
        have kw0 : KW0 D R (setK s.1 x row (some (t, P, dmx dm at_ m p5))) := by
          intro d o v hd1 ho e
          by_cases z : d = x ∧ o = row
          · rw [z.1, z.2, setK_at] at e; cases e; exact ⟨hvk.1, htop, trivial⟩
          · rw [setK_ne z] at e; exact kw.k0 d o v hd1 ho e
        have mb5 : MB D W R G hd F n live (setK s.1 x row (some (t, P, dmx dm at_ m p5))) pl τ5 := ⟨mr5.1, mr5.2.1, mk5, lk.set hl, kw0, fun r q hr1 hq => e_placeOf_on cx (by rw [mr5.2.2.2.2.1]; show b2i s.2.1 = _; rw [hs]; rfl) (mr5.2.2.2.1 hs) hr1 hq, pw⟩
        have eb := e_MD_bad cx mb5 hr hg hj (-1) (fun j1 => !isvo (setK s.1 x row (some (t, P, dmx dm at_ m p5))) row (pl row (W * (p / W) + j1))) (fun j1 hj1 => by
          rw [show decide (pI (pl row (W * (p / W) + j1)) = -1 ∧ pl row (W * (p / W) + j1) ≠ none) = false from decide_eq_false (fun z => by
            cases he : pl row (W * (p / W) + j1) with
            | none => exact z.2 he
            | some d1 =>
              have hdd := pw.1 row _ d1 hr (pos_lt hg hj1) he
              rw [he] at z
              exact nI_m1 (n := d1) (by omega) z.1), Bool.or_false])
        rw [hpW] at eb
        have eu := e_MD_isUnseen (σ := τ5) n25 (show 100 ≤ F by omega) (show 65 * x + row < 1040 by omega) htop u5
        -- turned back
        obtain ⟨τ6, v1, v2, v3, v4, v5⟩ := e_MD_turn (σ := τ5) n25 (show 100 ≤ F by omega) (show 65 * x + row < 1040 by omega) hm hat p5 u5
        rw [dmx_dmx] at v5
        have fT6 : FG [25] [] σ1 τ6 := ⟨fun a e _ => by rw [v2 a (fun z => e (by simp [z])), u2 a (fun z => e (by simp [z]))], by rw [v3, u3], fun j _ => by rw [v2 20 (by decide), u2 20 (by decide)]⟩
        have mk6 : mK D R live s.1 τ6 := mkD s.1 dm τ6 (fun a h => by rw [v2 a h, u2 a h]) (fun j hj => by rw [v4 j hj, u4 j hj]) v5 (by
          funext d o
          by_cases z : d = x ∧ o = row
          · rw [z.1, z.2, setK_at]; exact k1
          · rw [setK_ne z])
        have mr6 := mrD _ τ6 fT6 mk6
        have eB : spB F n (nI x) (nI row) (nI at_) (nI m) p5 τ5 = some (τ6, 0) := by
          unfold spB
          rw [e_MD_at, Option.bind_some, show (70 : Int32) = nI 70 from rfl, pk_mul, nI_add, v1, Option.bind_some]
        have eS : spW F n (nI x) (nI row) (nI at_) (nI m) p5 σ1 = if al = true then some (τ5, 1) else some (τ6, 0) := by
          unfold spW
          rw [mr1.2.2.2.2.1, if_neg hn, grd_in (by omega) (by omega), nI_clamp (by omega), mr1.2.1 x hx, if_neg hlx, e_MD_holder cx mb1 hr hx, hsr, Option.bind_some, show pI (some p) = nI p from rfl, if_pos (nI_pos' (by omega)), e_MD_at, Option.bind_some, show (70 : Int32) = nI 70 from rfl, pk_mul, nI_add, u1, Option.bind_some, eb, Option.bind_some, eB, e_MD_at, Option.bind_some, eu, Option.bind_some]
          rw [← hsame]
          have hcl := cnt_le (f := fun j1 => !isvo (setK s.1 x row (some (t, P, dmx dm at_ m p5))) row (pl row (W * (p / W) + j1))) (m := W) (a := 0)
          by_cases e : 2 ≤ cnt (fun j1 => !isvo (setK s.1 x row (some (t, P, dmx dm at_ m p5))) row (pl row (W * (p / W) + j1))) W 0
          · rw [if_pos (show (2 : Int32) ≤ nI _ from nI_le (a := 2) e (by omega)), decide_eq_true e]; rfl
          · rw [if_neg (show ¬ (2 : Int32) ≤ nI (cnt (fun j1 => !isvo (setK s.1 x row (some (t, P, dmx dm at_ m p5))) row (pl row (W * (p / W) + j1))) W 0) from fun z => e ((nI_leI (a := 2) (by omega) (by omega)).mp z)), decide_eq_false e]
            cases (!z9 (dmx dm at_ m p5) && cok (dmx dm at_ m p5)) <;> rfl
        rw [eS] at eSp
        cases hb : al with
        | true =>
          rw [hb] at eW eSp ciB hout1
          rw [if_pos rfl] at eSp ciB hout1
          refine ⟨_, 0, eW, τ5, 1, eSp, by rw [fT.2.2 0 (by simp)]; exact hthr1, fun _ => ⟨fun z => absurd z (by decide), fun _ => by rw [fT.2.1]; exact hout1⟩, live, pl, _, tb, tp, nx, V, ol, cb, dp, ciB.lo (fT.lo (by decide)), mr5, mx1.same fT (by decide) (by decide), ⟨fun _ => ⟨hspo hb, hdp⟩, fun z => ?_⟩, hz, hnx⟩
          have z : s.2.1 = false := z
          rw [hs] at z; cases z
        | false =>
          rw [hb] at eW eSp ciB hout1
          rw [if_neg (by decide)] at eSp ciB hout1
          exact ⟨_, 0, eW, τ6, 0, eSp, by rw [fT6.2.2 0 (by simp)]; exact hthr1, fun _ => ⟨fun _ => by rw [fT6.2.1]; exact hout1, fun z => absurd rfl z⟩, live, pl, s, tb, tp, nx, V, ol, cb, dp, ciB.lo (fT6.lo (by decide)), mr6, mx1.same fT6 (by decide) (by decide), gi, hz, hnx⟩
end J7
