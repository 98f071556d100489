/-- the geometry: disks, width, rows, groups; where position p of a row lies -/
def Geo (D W R G : Nat) (hd : Nat → Nat → Nat) : Prop := (6 ≤ D ∧ D ≤ 16) ∧ (3 ≤ W ∧ W ≤ 8 ∧ W < D) ∧ (48 ≤ R ∧ R ≤ 64) ∧ G = (D - 1) / W ∧ (∀ row p, hd row p < D) ∧ (∀ row p q, p < D → q < D → hd row p = hd row q → p = q) ∧ ∀ row d, d < D → ∃ q, q < D ∧ hd row q = d
/-- the numbers that omega wants -/
def GN (D W R G : Nat) : Prop := (6 ≤ D ∧ D ≤ 16) ∧ (3 ≤ W ∧ W ≤ 8 ∧ W < D) ∧ (48 ≤ R ∧ R ≤ 64) ∧ (1 ≤ G ∧ G ≤ 5) ∧ (W * G < D ∧ W ≤ W * G) ∧ R * G ≤ 320 ∧ R * G * (W - 1) ≤ 960 ∧ D * (R + 1) ≤ 1040 ∧ R * D ≤ 1024
theorem Geo.num {D W R G : Nat} {hd : Nat → Nat → Nat} (h : Geo D W R G hd) : GN D W R G := by
  obtain ⟨⟨h1, h2⟩, ⟨h3, h4, h5⟩, ⟨h6, h7⟩, hG, -⟩ := h
  have g1 : W * G ≤ D - 1 := by rw [hG]; exact Nat.mul_div_le _ _
  have g0 : 1 ≤ G := by rw [hG]; exact (Nat.le_div_iff_mul_le (by omega)).mpr (by omega)
  have g2 : 3 * G ≤ W * G := Nat.mul_le_mul_right G h3
  have g3 : W * 1 ≤ W * G := Nat.mul_le_mul_left W g0
  have g4 : R * G ≤ 64 * 5 := Nat.mul_le_mul h7 (by omega)
  have g5 : R * D ≤ 64 * 16 := Nat.mul_le_mul h7 h2
  have g6 : D * (R + 1) ≤ 16 * 65 := Nat.mul_le_mul h2 (by omega)
  have g7 : G * (W - 1) ≤ 15 := by
    have : G * (W - 1) ≤ G * W := Nat.mul_le_mul_left G (by omega)
    have e : G * W = W * G := Nat.mul_comm _ _
    omega
  have g8 : R * G * (W - 1) ≤ 64 * 15 := by rw [Nat.mul_assoc]; exact Nat.mul_le_mul h7 g7
  exact ⟨⟨h1, h2⟩, ⟨h3, h4, h5⟩, ⟨h6, h7⟩, ⟨g0, by omega⟩, ⟨by omega, by omega⟩, by omega, by omega, by omega, by omega⟩
/-- the arrays' lengths -/
def Len (D W R G : Nat) (n : Nat → Nat) : Prop := ((n 5 = 8 ∧ n 6 = 8 ∧ n 7 = 8 ∧ n 8 = 8) ∧ n 9 = R * D ∧ n 10 = D ∧ n 11 = D * (R + 1) * 9 ∧ n 12 = D * (R + 1) * 9 ∧ n 13 = D * (R + 1) ∧ n 14 = D * (R + 1) ∧ n 15 = R * D ∧ n 16 = D * (R + 1)) ∧ n 21 = 16 ∧ n 22 = 16 ∧ n 23 = 1040 ∧ n 24 = 1040 ∧ n 25 = 72800 ∧ n 26 = 1024 ∧ n 27 = 64 ∧ n 28 = 49152 ∧ n 29 = 64 ∧ n 30 = 1
/-- of the class's arrays alone, those that are there before the tape -/
def LenC (D W R G : Nat) (n : Nat → Nat) : Prop := (True ∧ n 9 = R * D ∧ n 10 = D ∧ n 11 = D * (R + 1) * 9 ∧ n 12 = D * (R + 1) * 9 ∧ n 13 = D * (R + 1) ∧ n 14 = D * (R + 1) ∧ n 15 = R * D ∧ n 16 = D * (R + 1)) ∧ True
theorem Len.c {D W R G : Nat} {n : Nat → Nat} (h : Len D W R G n) : LenC D W R G n := ⟨⟨trivial, h.1.2⟩, trivial⟩
/-- the class's layout -/
def cGeo (D W R G : Nat) (hd : Nat → Nat → Nat) (σ : HS) : Prop := (σ.1 1 0 = nI D ∧ σ.1 1 1 = nI W ∧ σ.1 1 2 = nI R ∧ σ.1 1 3 = nI G ∧ σ.1 1 4 = nI (R * G) ∧ σ.1 1 5 = nI (R * G * (W - 1)) ∧ σ.1 1 6 = nI (W * G) ∧ σ.1 1 7 = nI (W - 1) ∧ σ.1 1 8 = nI (D * (R + 1))) ∧ ∀ row p, row < R → p < D → σ.1 9 (row * D + p) = nI (hd row p * (R + 1) + row)
theorem cGeo.congr {D W R G : Nat} {hd : Nat → Nat → Nat} {σ τ : HS} (h : cGeo D W R G hd σ) (h1 : τ.1 1 = σ.1 1) (h9 : τ.1 9 = σ.1 9) : cGeo D W R G hd τ := by
  unfold cGeo at *
  rw [h1, h9]
  exact h
section LA
variable {D W R G : Nat} {hd : Nat → Nat → Nat} {F : Nat} {n : Nat → Nat} {σ : HS}
theorem e_LA_cell (g : cGeo D W R G hd σ) (d o : Nat) : D_LA_cell F n σ (nI d) (nI o) = some (nI (d * (R + 1) + o)) := by
  simp only [nm_q, nm2_q, jn_q, Option.bind_some, lit_nI, nI_add, pk_mul, if_true, if_false, D_LA_cell, g.1.2.2.1]
theorem e_LA_diskOf (gn : GN D W R G) (g : cGeo D W R G hd σ) (d o : Nat) (hd : d < D) (ho : o ≤ R) : D_LA_diskOf F n σ (nI (d * (R + 1) + o)) = some (nI d) := by
  obtain ⟨⟨_, _⟩, ⟨_, _, _⟩, ⟨_, _⟩, ⟨_, _⟩, ⟨_, _⟩, _, _, _, _⟩ := gn
  have h1 := lt2 hd (show o < R + 1 by omega)
  rw [D_LA_diskOf, g.1.2.2.1, nI_1, grd_z (by omega) (by omega), pk_div (by omega) (by omega) (by omega)]
  congr 2
  rw [Nat.add_comm, Nat.add_mul_div_right _ _ (by omega), Nat.div_eq_of_lt (by omega), Nat.zero_add]
theorem e_LA_logOf (g : cGeo D W R G hd σ) (d : Nat) : D_LA_logOf F n σ (nI d) = some (nI (d * (R + 1) + R)) := by
  simp only [nm_q, nm2_q, jn_q, Option.bind_some, lit_nI, nI_add, pk_mul, if_true, if_false, D_LA_logOf, g.1.2.2.1, e_LA_cell g]
theorem e_LA_slot (g : cGeo D W R G hd σ) (row p : Nat) : D_LA_slot F n σ (nI row) (nI p) = some (nI (row * D + p)) := by
  simp only [nm_q, nm2_q, jn_q, Option.bind_some, lit_nI, nI_add, pk_mul, if_true, if_false, D_LA_slot, g.1.1]
theorem e_LA_slotOf (gn : GN D W R G) (g : cGeo D W R G hd σ) (row gi j : Nat) (hr : row < R) (hg : gi < G) : D_LA_slotOf F n σ (nI (row * G + gi)) (nI j) = some (nI (row * D + (W * gi + j))) := by
  obtain ⟨⟨_, _⟩, ⟨_, _, _⟩, ⟨_, _⟩, ⟨_, _⟩, ⟨_, _⟩, _, _, _, _⟩ := gn
  have h1 := lt2 hr hg
  have h2 : (row * G + gi) / G = row := by rw [Nat.add_comm, Nat.add_mul_div_right _ _ (by omega), Nat.div_eq_of_lt hg, Nat.zero_add]
  have h3 : (row * G + gi) % G = gi := by rw [Nat.add_comm, Nat.add_mul_mod_self_right, Nat.mod_eq_of_lt hg]
  rw [D_LA_slotOf, g.1.2.2.2.1, pk_rem (by omega) (by omega) (by omega), pk_div (by omega) (by omega) (by omega), h2, h3, g.1.2.1, pk_mul, nI_add, e_LA_slot g]
  simp (disch := omega) only [grd_z]
  (try simp only [nm_q, nm2_q, jn_q, Option.bind_some, lit_nI, nI_add, pk_mul, if_true, if_false])
theorem e_LA_stripeOfSlot (gn : GN D W R G) (g : cGeo D W R G hd σ) (row gi j : Nat) (hr : row < R) (hj : j < W) (hp : W * gi + j < D) : D_LA_stripeOfSlot F n σ (nI (row * D + (W * gi + j))) = some (nI (row * G + gi)) := by
  obtain ⟨⟨_, _⟩, ⟨_, _, _⟩, ⟨_, _⟩, ⟨_, _⟩, ⟨_, _⟩, _, _, _, _⟩ := gn
  have h1 := lt2 hr hp
  have h2 : (row * D + (W * gi + j)) / D = row := by rw [Nat.add_comm, Nat.add_mul_div_right _ _ (by omega), Nat.div_eq_of_lt hp, Nat.zero_add]
  have h3 : (row * D + (W * gi + j)) % D = W * gi + j := by rw [Nat.add_comm, Nat.add_mul_mod_self_right, Nat.mod_eq_of_lt hp]
  have h4 : (W * gi + j) / W = gi := by rw [Nat.mul_comm, Nat.add_comm, Nat.add_mul_div_right _ _ (by omega), Nat.div_eq_of_lt hj, Nat.zero_add]
  rw [D_LA_stripeOfSlot, g.1.1, pk_rem (by omega) (by omega) (by omega), pk_div (by omega) (by omega) (by omega), h2, h3, g.1.2.1, pk_div (by omega) (by omega) (by omega), h4, g.1.2.2.2.1]
  simp (disch := omega) only [grd_z]
  (try simp only [nm_q, nm2_q, jn_q, Option.bind_some, lit_nI, nI_add, pk_mul, if_true, if_false])
theorem e_LA_columnOfSlot (gn : GN D W R G) (g : cGeo D W R G hd σ) (row gi j : Nat) (hr : row < R) (hj : j < W) (hp : W * gi + j < D) : D_LA_columnOfSlot F n σ (nI (row * D + (W * gi + j))) = some (nI j) := by
  obtain ⟨⟨_, _⟩, ⟨_, _, _⟩, ⟨_, _⟩, ⟨_, _⟩, ⟨_, _⟩, _, _, _, _⟩ := gn
  have h1 := lt2 hr hp
  have h3 : (row * D + (W * gi + j)) % D = W * gi + j := by rw [Nat.add_comm, Nat.add_mul_mod_self_right, Nat.mod_eq_of_lt hp]
  have h4 : (W * gi + j) % W = j := by rw [Nat.mul_comm, Nat.add_comm, Nat.add_mul_mod_self_right, Nat.mod_eq_of_lt hj]
  rw [D_LA_columnOfSlot, g.1.1, pk_rem (by omega) (by omega) (by omega), h3, g.1.2.1, pk_rem (by omega) (by omega) (by omega), h4]
  simp (disch := omega) only [grd_z]
  (try simp only [nm_q, nm2_q, jn_q, Option.bind_some, lit_nI, nI_add, pk_mul, if_true, if_false])
theorem e_LA_tagOf (gn : GN D W R G) (g : cGeo D W R G hd σ) (row p : Nat) (hr : row < R) (hp : p < D) : D_LA_tagOf F n σ (nI (row * D + p)) = some (nI (p + 1)) := by
  obtain ⟨⟨_, _⟩, ⟨_, _, _⟩, ⟨_, _⟩, ⟨_, _⟩, ⟨_, _⟩, _, _, _, _⟩ := gn
  have h1 := lt2 hr hp
  have h3 : (row * D + p) % D = p := by rw [Nat.add_comm, Nat.add_mul_mod_self_right, Nat.mod_eq_of_lt hp]
  rw [D_LA_tagOf, g.1.1, pk_rem (by omega) (by omega) (by omega), h3]
  simp (disch := omega) only [grd_z]
  (try simp only [nm_q, nm2_q, jn_q, Option.bind_some, lit_nI, nI_add, pk_mul, if_true, if_false])
theorem e_LA_stripeOfBlock (gn : GN D W R G) (g : cGeo D W R G hd σ) (b : Nat) (hb : b < R * G * (W - 1)) : D_LA_stripeOfBlock F n σ (nI b) = some (nI (b / (W - 1))) := by
  obtain ⟨⟨_, _⟩, ⟨_, _, _⟩, ⟨_, _⟩, ⟨_, _⟩, ⟨_, _⟩, _, _, _, _⟩ := gn
  rw [D_LA_stripeOfBlock, g.1.2.2.2.2.2.2.2.1, grd_z (by omega) (by omega), pk_div (by omega) (by omega) (by omega)]
theorem e_LA_columnOfBlock (gn : GN D W R G) (g : cGeo D W R G hd σ) (b : Nat) (hb : b < R * G * (W - 1)) : D_LA_columnOfBlock F n σ (nI b) = some (nI (b % (W - 1))) := by
  obtain ⟨⟨_, _⟩, ⟨_, _, _⟩, ⟨_, _⟩, ⟨_, _⟩, ⟨_, _⟩, _, _, _, _⟩ := gn
  rw [D_LA_columnOfBlock, g.1.2.2.2.2.2.2.2.1, pk_rem (by omega) (by omega) (by omega)]
  simp (disch := omega) only [grd_z]
  (try simp only [nm_q, nm2_q, jn_q, Option.bind_some, lit_nI, nI_add, pk_mul, if_true, if_false])
end LA
