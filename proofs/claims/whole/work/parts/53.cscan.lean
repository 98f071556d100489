section CS
variable {D W R G : Nat} {hd : Nat → Nat → Nat} {F : Nat} {n : Nat → Nat} {σ : HS} {K : Rk} {pl : Nat → Nat → Option Nat} {live : Nat → Bool}
theorem hold_c (cx : Ctx D W R G hd n F) (c : cPl D R (W * G) pl σ) {i : Nat} (hi : i < D * (R + 1)) : (σ.1 16 i = -1) ↔ (decide (i % (R + 1) < R) && held (W * G) pl (i % (R + 1)) (i / (R + 1))) = false := by
  have gn := cx.1.num
  have e : i = (i / (R + 1)) * (R + 1) + i % (R + 1) := (Nat.div_add_mod' i (R + 1)).symm
  have hdv : i / (R + 1) < D := Nat.div_lt_of_lt_mul (by rw [Nat.mul_comm]; exact hi)
  have hmd := Nat.mod_lt i (show 0 < R + 1 by omega)
  by_cases z : i % (R + 1) < R
  · have := hold_m1 gn c hdv z
    rw [← e] at this
    rw [this]
    simp [z]
  · have h2 := (c.2 (i / (R + 1)) (i % (R + 1)) hdv (by omega)).2 (Or.inl (by omega))
    rw [← e] at h2
    simp [h2, z]
theorem e_PL_countPlaces (cx : Ctx D W R G hd n F) (g : cGeo D W R G hd σ) (h : cK D R K σ) (c : cPl D R (W * G) pl σ) (pw : PW D R (W * G) pl) (ov : Bool) : D_PL_countPlaces F n σ (b2i ov) = some (nI (cnt2 (hsl pl (fun d row => !ov || isv (K d row))) (W * G) R 0)) := by
  obtain ⟨ge, ln, hF⟩ := id cx
  have gn := ge.num
  obtain ⟨⟨_, _⟩, ⟨_, _, _⟩, ⟨_, _⟩, ⟨_, _⟩, ⟨_, _⟩, _, _, _, _⟩ := id gn
  have body : ∀ k i c1, i < D * (R + 1) → D_PL_countPlaces_L4 F n σ (b2i ov) (k + 1) (nI i) (nI c1) = if hcl R (W * G) pl (fun d row => !ov || isv (K d row)) i = false then D_PL_countPlaces_L4 F n σ (b2i ov) k (nI (i + 1)) (nI c1) else D_PL_countPlaces_L4 F n σ (b2i ov) k (nI (i + 1)) (nI (c1 + 1)) := by
    intro k i c1 hi
    have e : i = (i / (R + 1)) * (R + 1) + i % (R + 1) := (Nat.div_add_mod' i (R + 1)).symm
    have hdv : i / (R + 1) < D := Nat.div_lt_of_lt_mul (by rw [Nat.mul_comm]; exact hi)
    have hmd := Nat.mod_lt i (show 0 < R + 1 by omega)
    have hv := e_RK_isValid (F := F) gn ln.c h hdv (show i % (R + 1) ≤ R by omega)
    rw [← e] at hv
    rw [D_PL_countPlaces_L4, g.1.2.2.2.2.2.2.2.2, if_neg (by rw [nI_leI (by omega) (by omega)]; omega), grd_in (by rw [ln.1.2.2.2.2.2.2.2.2]; omega) (by omega), nI_clamp (by omega)]
    simp only [nm_q, nI_1]
    unfold hcl
    cases hh : (decide (i % (R + 1) < R) && held (W * G) pl (i % (R + 1)) (i / (R + 1))) with
    | false => rw [if_pos ((hold_c cx c hi).mpr hh)]; rfl
    | true =>
      rw [if_neg (fun z => by rw [(hold_c cx c hi).mp z] at hh; cases hh)]
      cases ov with
      | false => rfl
      | true =>
        rw [if_neg (by decide), hv, Option.bind_some]
        show _ = if (true && (!true || isv (K (i / (R + 1)) (i % (R + 1))))) = false then _ else _
        cases isv (K (i / (R + 1)) (i % (R + 1))) <;> rfl
  have key := lp_cnt (L := fun k x c => D_PL_countPlaces_L4 F n σ (b2i ov) k x c) (f := hcl R (W * G) pl (fun d row => !ov || isv (K d row))) (N := D * (R + 1)) (lo := 0)
    (fun k c => by show D_PL_countPlaces_L4 F n σ (b2i ov) (k + 1) (nI (D * (R + 1))) c = _; rw [D_PL_countPlaces_L4, g.1.2.2.2.2.2.2.2.2, if_pos (Int32.le_refl _)])
    (fun k i c _ hi hf => by show D_PL_countPlaces_L4 F n σ (b2i ov) (k + 1) (nI i) (nI c) = _; rw [body k i c hi, if_pos hf])
    (fun k i c _ hi hf => by show D_PL_countPlaces_L4 F n σ (b2i ov) (k + 1) (nI i) (nI c) = _; rw [body k i c hi, if_neg (by rw [hf]; decide)])
    (D * (R + 1)) 0 F 0 (Nat.zero_le _) (by omega) (by omega)
  have key : D_PL_countPlaces_L4 F n σ (b2i ov) F (nI 0) (nI 0) = _ := key
  rw [D_PL_countPlaces, ← nI_0, key, Option.bind_some, Nat.zero_add, count_bij _ pw]
/-- a position without a place; a position whose place is spoilt -/
def lst (pl : Nat → Nat → Option Nat) (row p : Nat) : Bool := decide (pl row p = none)
def spo (K : Rk) (pl : Nat → Nat → Option Nat) (row p : Nat) : Bool := match pl row p with
  | none => false
  | some d => !isv (K d row)
theorem e_PL_countLost (cx : Ctx D W R G hd n F) (g : cGeo D W R G hd σ) (h : cK D R K σ) (c : cPl D R (W * G) pl σ) (pw : PW D R (W * G) pl) : D_PL_countLost F n σ = some (nI (cnt2 (lst pl) (W * G) R 0)) := by
  have h1 := e_PL_countPlaces cx g h c pw false
  rw [D_PL_countLost, show (0 : Int32) = b2i false from rfl, h1, Option.bind_some, g.1.2.2.1, g.1.2.2.2.2.2.2.1, pk_mul]
  have e : cnt2 (lst pl) (W * G) R 0 = cnt2 (fun r p => !hsl pl (fun d row => !false || isv (K d row)) r p) (W * G) R 0 := by
    refine cnt2_congr (fun r p _ _ _ => ?_)
    unfold lst hsl
    cases pl r p <;> simp
  have e2 := cnt2_not (f := hsl pl (fun d row => !false || isv (K d row))) (N := W * G) (m := R) (a := 0)
  rw [e, pk_sub (by omega)]
  congr 2
  omega
theorem e_PL_countSpoilt (cx : Ctx D W R G hd n F) (g : cGeo D W R G hd σ) (h : cK D R K σ) (c : cPl D R (W * G) pl σ) (pw : PW D R (W * G) pl) : D_PL_countSpoilt F n σ = some (nI (cnt2 (spo K pl) (W * G) R 0)) := by
  have h1 := e_PL_countPlaces cx g h c pw false
  have h2 := e_PL_countPlaces cx g h c pw true
  rw [D_PL_countSpoilt, show (0 : Int32) = b2i false from rfl, h1, Option.bind_some, show (1 : Int32) = b2i true from rfl, h2, Option.bind_some]
  have e := cnt2_split (f := hsl pl (fun d row => !false || isv (K d row))) (g := fun r p => hsl pl (fun d row => !true || isv (K d row)) r p) (N := W * G) (m := R) (a := 0)
  have e1 : cnt2 (fun r p => hsl pl (fun d row => !false || isv (K d row)) r p && hsl pl (fun d row => !true || isv (K d row)) r p) (W * G) R 0 = cnt2 (hsl pl (fun d row => !true || isv (K d row))) (W * G) R 0 := by
    refine cnt2_congr (fun r p _ _ _ => ?_)
    unfold hsl
    cases pl r p <;> simp
  have e2 : cnt2 (fun r p => hsl pl (fun d row => !false || isv (K d row)) r p && !hsl pl (fun d row => !true || isv (K d row)) r p) (W * G) R 0 = cnt2 (spo K pl) (W * G) R 0 := by
    refine cnt2_congr (fun r p _ _ _ => ?_)
    unfold hsl spo
    cases pl r p <;> simp
  rw [e1, e2] at e
  rw [pk_sub (by omega)]
  congr 2
  omega
def fsp (N : Nat) (hd : Nat → Nat → Nat) (pl : Nat → Nat → Option Nat) (live : Nat → Bool) (row q : Nat) : Bool := fre N pl live row (hd row (N + q))
theorem cnt_shift {f : Nat → Bool} : ∀ {m a b : Nat}, cnt (fun i => f (a + i)) m b = cnt f m (a + b) := by
  intro m
  induction m with
  | zero => intro a b; rfl
  | succ m ih => intro a b; rw [cnt, cnt, ih, Nat.add_assoc]
theorem e_PL_countFreeSpares (cx : Ctx D W R G hd n F) (g : cGeo D W R G hd σ) (c : cPl D R (W * G) pl σ) (lv : cLive D live σ) : D_PL_countFreeSpares F n σ = some (nI (cnt2 (fsp (W * G) hd pl live) (D - W * G) R 0)) := by
  obtain ⟨ge, ln, hF⟩ := id cx
  have gn := ge.num
  have hh := ge.2.2.2.2.1
  obtain ⟨⟨_, _⟩, ⟨_, _, _⟩, ⟨_, _⟩, ⟨_, _⟩, ⟨_, _⟩, _, _, _, _⟩ := id gn
  have inner : ∀ row, row < R → ∀ c0, D_PL_countFreeSpares_L23 F n σ (nI row) F (nI (W * G)) (nI c0) = some (nI (c0 + cnt (fsp (W * G) hd pl live row) (D - W * G) 0)) := by
    intro row hr c0
    have body : ∀ k i c1, i < D → D_PL_countFreeSpares_L23 F n σ (nI row) (k + 1) (nI i) (nI c1) = if fre (W * G) pl live row (hd row i) = false then D_PL_countFreeSpares_L23 F n σ (nI row) k (nI (i + 1)) (nI c1) else D_PL_countFreeSpares_L23 F n σ (nI row) k (nI (i + 1)) (nI (c1 + 1)) := by
      intro k i c1 hi
      have i2 := lt2 hr hi
      rw [D_PL_countFreeSpares_L23, g.1.1, if_neg (by rw [nI_leI (by omega) (by omega)]; omega), e_LA_slot g, Option.bind_some, grd_in (by rw [ln.1.2.1]; omega) (by omega), nI_clamp (by omega), g.2 row i hr hi, e_PL_isFree cx g c lv (hh row i) hr, Option.bind_some]
      simp only [nm_q, nI_1]
      cases fre (W * G) pl live row (hd row i) <;> rfl
    have := lp_cnt (L := fun k x c => D_PL_countFreeSpares_L23 F n σ (nI row) k x c) (f := fun q => fre (W * G) pl live row (hd row q)) (N := D) (lo := 0)
      (fun k c => by show D_PL_countFreeSpares_L23 F n σ (nI row) (k + 1) (nI D) c = _; rw [D_PL_countFreeSpares_L23, g.1.1, if_pos (Int32.le_refl _)])
      (fun k i c _ hi hf => by show D_PL_countFreeSpares_L23 F n σ (nI row) (k + 1) (nI i) (nI c) = _; rw [body k i c hi, if_pos hf])
      (fun k i c _ hi hf => by show D_PL_countFreeSpares_L23 F n σ (nI row) (k + 1) (nI i) (nI c) = _; rw [body k i c hi, if_neg (by rw [hf]; decide)])
      (D - W * G) (W * G) F c0 (Nat.zero_le _) (by omega) (by omega)
    have this : D_PL_countFreeSpares_L23 F n σ (nI row) F (nI (W * G)) (nI c0) = _ := this
    rw [this]
    congr 3
    exact (cnt_shift (f := fun q => fre (W * G) pl live row (hd row q)) (a := W * G) (b := 0)).symm
  have outer : ∀ m r k c0, r + m = R → m < k → D_PL_countFreeSpares_L4 F n σ k (nI r) (nI c0) = some (nI (c0 + cnt2 (fsp (W * G) hd pl live) (D - W * G) m r)) := by
    intro m
    induction m with
    | zero =>
      intro r k c0 hr hk
      obtain ⟨k, rfl⟩ : ∃ j, k = j + 1 := ⟨k - 1, by omega⟩
      have : r = R := by omega
      subst this
      rw [D_PL_countFreeSpares_L4, g.1.2.2.1, if_pos (Int32.le_refl _)]; rfl
    | succ m ih =>
      intro r k c0 hr hk
      obtain ⟨k, rfl⟩ : ∃ j, k = j + 1 := ⟨k - 1, by omega⟩
      rw [D_PL_countFreeSpares_L4, g.1.2.2.1, if_neg (by rw [nI_leI (by omega) (by omega)]; omega), nm_q, g.1.2.2.2.2.2.2.1, inner r (by omega), Option.bind_some, nm_q, nI_1, ih (r + 1) k _ (by omega) (by omega), cnt2, Nat.add_assoc]
  rw [D_PL_countFreeSpares, ← nI_0, outer R 0 F 0 (Nat.zero_add _) (by omega), Option.bind_some, Nat.zero_add]
end CS
