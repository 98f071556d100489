def D_LA_cell (F : Nat) (n : Nat → Nat) (σ : HS) (p1 : Int32) (p2 : Int32) : Option (Int32) :=
some ((p1 * ((σ.1 1 2) + (1 : Int32))) + p2)
set_option maxRecDepth 100000 in
set_option maxHeartbeats 4000000 in
theorem k_LA_cell (l : Launch) (E : EV) (ad n : Nat → Nat) (L : List Nat) (hL : ∀ a ∈ ([1] : List Nat), a ∈ L) (F : Nat) (σ  : HS) (p1 : Int32) (p2 : Int32) (r : Int32) (hD : D_LA_cell F n σ p1 p2 = some r) : CtI l E y_LA_cell c_LA_cell 3 (some FieldType.int) ({ frames := 0, cells := 0, slots := 0, locals := 0 }) [.ref (ad 1), .int p1, .int p2] (wl E ad n L σ) r (wl E ad n L σ) := by
  refine fun sz => ent (by decide) (Nat.le_of_ble_eq_true rfl) ?_
  intro p e s m below meth c hsz cx wo ls hl
  have hx := cx.1.1
  have hb := cx.1.2.1
  have hown := cx.1.2.2.2.1
  have hts := cx.1.2.2.2.2
  have hl : lv_has ls 3 [(0, .ref (ad 1)), (1, .int p1), (2, .int p2)] := hl
  have m1 : 1 ∈ L := hL 1 (by decide)
  rw [D_LA_cell] at hD
  refine lv_iload_n hx hb d_LA_cell_0 rfl (lv_at hl 1 rfl) ?_
  refine lv_aload_n hx hb d_LA_cell_1 rfl (lv_at hl 0 rfl) ?_
  refine g_get cx wo m1 (cel_1 E ad n σ) rfl in_LA 2 (by decide) wf_LA_16 rfl d_LA_cell_2 ?_
  refine lv_iconst (v := 1) hx hb d_LA_cell_5 (by decide) ?_
  refine lv_iadd hx hb d_LA_cell_6 ?_
  refine lv_imul hx hb d_LA_cell_7 ?_
  refine lv_iload_n hx hb d_LA_cell_8 rfl (lv_at hl 2 rfl) ?_
  refine lv_iadd hx hb d_LA_cell_9 ?_
  cases hD
  exact t_ireti cx wo rfl rfl d_LA_cell_10
def D_LA_diskOf (F : Nat) (n : Nat → Nat) (σ : HS) (p1 : Int32) : Option (Int32) :=
grd (decide (¬ ((σ.1 1 2) + (1 : Int32)) = 0)) (
  some (p1 / ((σ.1 1 2) + (1 : Int32))))
set_option maxRecDepth 100000 in
set_option maxHeartbeats 4000000 in
theorem k_LA_diskOf (l : Launch) (E : EV) (ad n : Nat → Nat) (L : List Nat) (hL : ∀ a ∈ ([1] : List Nat), a ∈ L) (F : Nat) (σ  : HS) (p1 : Int32) (r : Int32) (hD : D_LA_diskOf F n σ p1 = some r) : CtI l E y_LA_diskOf c_LA_diskOf 2 (some FieldType.int) ({ frames := 0, cells := 0, slots := 0, locals := 0 }) [.ref (ad 1), .int p1] (wl E ad n L σ) r (wl E ad n L σ) := by
  refine fun sz => ent (by decide) (Nat.le_of_ble_eq_true rfl) ?_
  intro p e s m below meth c hsz cx wo ls hl
  have hx := cx.1.1
  have hb := cx.1.2.1
  have hown := cx.1.2.2.2.1
  have hts := cx.1.2.2.2.2
  have hl : lv_has ls 2 [(0, .ref (ad 1)), (1, .int p1)] := hl
  have m1 : 1 ∈ L := hL 1 (by decide)
  rw [D_LA_diskOf] at hD
  refine lv_iload_n hx hb d_LA_diskOf_0 rfl (lv_at hl 1 rfl) ?_
  refine lv_aload_n hx hb d_LA_diskOf_1 rfl (lv_at hl 0 rfl) ?_
  refine g_get cx wo m1 (cel_1 E ad n σ) rfl in_LA 2 (by decide) wf_LA_16 rfl d_LA_diskOf_2 ?_
  refine lv_iconst (v := 1) hx hb d_LA_diskOf_5 (by decide) ?_
  refine lv_iadd hx hb d_LA_diskOf_6 ?_
  obtain ⟨g1, hD⟩ := grd_s hD
  refine lv_idiv hx hb d_LA_diskOf_7 (of_decide_eq_true g1) ?_
  cases hD
  exact t_ireti cx wo rfl rfl d_LA_diskOf_8
def D_LA_logOf (F : Nat) (n : Nat → Nat) (σ : HS) (p1 : Int32) : Option (Int32) :=
(D_LA_cell F n σ p1 (σ.1 1 2)).bind (fun (x1 : Int32) =>
  some x1)
set_option maxRecDepth 100000 in
set_option maxHeartbeats 4000000 in
theorem k_LA_logOf (l : Launch) (E : EV) (ad n : Nat → Nat) (L : List Nat) (hL : ∀ a ∈ ([1] : List Nat), a ∈ L) (F : Nat) (σ  : HS) (p1 : Int32) (r : Int32) (hD : D_LA_logOf F n σ p1 = some r) : CtI l E y_LA_logOf c_LA_logOf 2 (some FieldType.int) ({ frames := 1, cells := 0, slots := 0, locals := 22 }) [.ref (ad 1), .int p1] (wl E ad n L σ) r (wl E ad n L σ) := by
  refine fun sz => ent (by decide) (Nat.le_of_ble_eq_true rfl) ?_
  intro p e s m below meth c hsz cx wo ls hl
  have hx := cx.1.1
  have hb := cx.1.2.1
  have hown := cx.1.2.2.2.1
  have hts := cx.1.2.2.2.2
  have hl : lv_has ls 2 [(0, .ref (ad 1)), (1, .int p1)] := hl
  have m1 : 1 ∈ L := hL 1 (by decide)
  rw [D_LA_logOf] at hD
  refine lv_aload_n hx hb d_LA_logOf_0 rfl (lv_at hl 0 rfl) ?_
  refine lv_iload_n hx hb d_LA_logOf_1 rfl (lv_at hl 1 rfl) ?_
  refine lv_aload_n hx hb d_LA_logOf_2 rfl (lv_at hl 0 rfl) ?_
  refine g_get cx wo m1 (cel_1 E ad n σ) rfl in_LA 2 (by decide) wf_LA_16 rfl d_LA_logOf_3 ?_
  obtain ⟨x1, hcx1, hD⟩ := bd_s hD
  try dsimp only [nm2] at hD
  refine call_Vi cx wo (k_LA_cell l E ad n L (fun a h => hL a ((by decide : ∀ a ∈ ([1] : List Nat), a ∈ ([1] : List Nat)) a h)) F σ  p1 (σ.1 1 2) x1 hcx1) m1 (cel_1 E ad n σ) rfl rfl mw_LA_cell wm_LA_59 ⟨by decide, by decide⟩ ⟨by decide, by decide⟩ hl.1 rfl (Nat.le_of_ble_eq_true rfl) d_LA_logOf_6 (fun H locs wo => ?_)
  cases hD
  exact t_ireti cx wo rfl rfl d_LA_logOf_9
def D_LA_slot (F : Nat) (n : Nat → Nat) (σ : HS) (p1 : Int32) (p2 : Int32) : Option (Int32) :=
some ((p1 * (σ.1 1 0)) + p2)
set_option maxRecDepth 100000 in
set_option maxHeartbeats 4000000 in
theorem k_LA_slot (l : Launch) (E : EV) (ad n : Nat → Nat) (L : List Nat) (hL : ∀ a ∈ ([1] : List Nat), a ∈ L) (F : Nat) (σ  : HS) (p1 : Int32) (p2 : Int32) (r : Int32) (hD : D_LA_slot F n σ p1 p2 = some r) : CtI l E y_LA_slot c_LA_slot 3 (some FieldType.int) ({ frames := 0, cells := 0, slots := 0, locals := 0 }) [.ref (ad 1), .int p1, .int p2] (wl E ad n L σ) r (wl E ad n L σ) := by
  refine fun sz => ent (by decide) (Nat.le_of_ble_eq_true rfl) ?_
  intro p e s m below meth c hsz cx wo ls hl
  have hx := cx.1.1
  have hb := cx.1.2.1
  have hown := cx.1.2.2.2.1
  have hts := cx.1.2.2.2.2
  have hl : lv_has ls 3 [(0, .ref (ad 1)), (1, .int p1), (2, .int p2)] := hl
  have m1 : 1 ∈ L := hL 1 (by decide)
  rw [D_LA_slot] at hD
  refine lv_iload_n hx hb d_LA_slot_0 rfl (lv_at hl 1 rfl) ?_
  refine lv_aload_n hx hb d_LA_slot_1 rfl (lv_at hl 0 rfl) ?_
  refine g_get cx wo m1 (cel_1 E ad n σ) rfl in_LA 0 (by decide) wf_LA_7 rfl d_LA_slot_2 ?_
  refine lv_imul hx hb d_LA_slot_5 ?_
  refine lv_iload_n hx hb d_LA_slot_6 rfl (lv_at hl 2 rfl) ?_
  refine lv_iadd hx hb d_LA_slot_7 ?_
  cases hD
  exact t_ireti cx wo rfl rfl d_LA_slot_8
def D_LA_slotOf (F : Nat) (n : Nat → Nat) (σ : HS) (p1 : Int32) (p2 : Int32) : Option (Int32) :=
grd (decide (¬ (σ.1 1 3) = 0)) (
  grd (decide (¬ (σ.1 1 3) = 0)) (
  (D_LA_slot F n σ (p1 / (σ.1 1 3)) (((σ.1 1 1) * (p1 - p1 / (σ.1 1 3) * (σ.1 1 3))) + p2)).bind (fun (x3 : Int32) =>
  some x3)))
set_option maxRecDepth 100000 in
set_option maxHeartbeats 4000000 in
theorem k_LA_slotOf (l : Launch) (E : EV) (ad n : Nat → Nat) (L : List Nat) (hL : ∀ a ∈ ([1] : List Nat), a ∈ L) (F : Nat) (σ  : HS) (p1 : Int32) (p2 : Int32) (r : Int32) (hD : D_LA_slotOf F n σ p1 p2 = some r) : CtI l E y_LA_slotOf c_LA_slotOf 3 (some FieldType.int) ({ frames := 1, cells := 0, slots := 0, locals := 22 }) [.ref (ad 1), .int p1, .int p2] (wl E ad n L σ) r (wl E ad n L σ) := by
  refine fun sz => ent (by decide) (Nat.le_of_ble_eq_true rfl) ?_
  intro p e s m below meth c hsz cx wo ls hl
  have hx := cx.1.1
  have hb := cx.1.2.1
  have hown := cx.1.2.2.2.1
  have hts := cx.1.2.2.2.2
  have hl : lv_has ls 3 [(0, .ref (ad 1)), (1, .int p1), (2, .int p2)] := hl
  have m1 : 1 ∈ L := hL 1 (by decide)
  rw [D_LA_slotOf] at hD
  refine lv_aload_n hx hb d_LA_slotOf_0 rfl (lv_at hl 0 rfl) ?_
  refine lv_iload_n hx hb d_LA_slotOf_1 rfl (lv_at hl 1 rfl) ?_
  refine lv_aload_n hx hb d_LA_slotOf_2 rfl (lv_at hl 0 rfl) ?_
  refine g_get cx wo m1 (cel_1 E ad n σ) rfl in_LA 3 (by decide) wf_LA_19 rfl d_LA_slotOf_3 ?_
  obtain ⟨g1, hD⟩ := grd_s hD
  refine lv_idiv hx hb d_LA_slotOf_6 (of_decide_eq_true g1) ?_
  refine lv_aload_n hx hb d_LA_slotOf_7 rfl (lv_at hl 0 rfl) ?_
  refine g_get cx wo m1 (cel_1 E ad n σ) rfl in_LA 1 (by decide) wf_LA_13 rfl d_LA_slotOf_8 ?_
  refine lv_iload_n hx hb d_LA_slotOf_11 rfl (lv_at hl 1 rfl) ?_
  refine lv_aload_n hx hb d_LA_slotOf_12 rfl (lv_at hl 0 rfl) ?_
  refine g_get cx wo m1 (cel_1 E ad n σ) rfl in_LA 3 (by decide) wf_LA_19 rfl d_LA_slotOf_13 ?_
  obtain ⟨g2, hD⟩ := grd_s hD
  refine lv_irem hx hb d_LA_slotOf_16 (of_decide_eq_true g2) ?_
  refine lv_imul hx hb d_LA_slotOf_17 ?_
  refine lv_iload_n hx hb d_LA_slotOf_18 rfl (lv_at hl 2 rfl) ?_
  refine lv_iadd hx hb d_LA_slotOf_19 ?_
  obtain ⟨x3, hcx3, hD⟩ := bd_s hD
  try dsimp only [nm2] at hD
  refine call_Vi cx wo (k_LA_slot l E ad n L (fun a h => hL a ((by decide : ∀ a ∈ ([1] : List Nat), a ∈ ([1] : List Nat)) a h)) F σ  (p1 / (σ.1 1 3)) (((σ.1 1 1) * (p1 - p1 / (σ.1 1 3) * (σ.1 1 3))) + p2) x3 hcx3) m1 (cel_1 E ad n σ) rfl rfl mw_LA_slot wm_LA_63 ⟨by decide, by decide⟩ ⟨by decide, by decide⟩ hl.1 rfl (Nat.le_of_ble_eq_true rfl) d_LA_slotOf_20 (fun H locs wo => ?_)
  cases hD
  exact t_ireti cx wo rfl rfl d_LA_slotOf_23
def D_LA_stripeOfSlot (F : Nat) (n : Nat → Nat) (σ : HS) (p1 : Int32) : Option (Int32) :=
grd (decide (¬ (σ.1 1 0) = 0)) (
  grd (decide (¬ (σ.1 1 0) = 0)) (
  grd (decide (¬ (σ.1 1 1) = 0)) (
  some (((p1 / (σ.1 1 0)) * (σ.1 1 3)) + ((p1 - p1 / (σ.1 1 0) * (σ.1 1 0)) / (σ.1 1 1))))))
set_option maxRecDepth 100000 in
set_option maxHeartbeats 4000000 in
theorem k_LA_stripeOfSlot (l : Launch) (E : EV) (ad n : Nat → Nat) (L : List Nat) (hL : ∀ a ∈ ([1] : List Nat), a ∈ L) (F : Nat) (σ  : HS) (p1 : Int32) (r : Int32) (hD : D_LA_stripeOfSlot F n σ p1 = some r) : CtI l E y_LA_stripeOfSlot c_LA_stripeOfSlot 2 (some FieldType.int) ({ frames := 0, cells := 0, slots := 0, locals := 0 }) [.ref (ad 1), .int p1] (wl E ad n L σ) r (wl E ad n L σ) := by
  refine fun sz => ent (by decide) (Nat.le_of_ble_eq_true rfl) ?_
  intro p e s m below meth c hsz cx wo ls hl
  have hx := cx.1.1
  have hb := cx.1.2.1
  have hown := cx.1.2.2.2.1
  have hts := cx.1.2.2.2.2
  have hl : lv_has ls 2 [(0, .ref (ad 1)), (1, .int p1)] := hl
  have m1 : 1 ∈ L := hL 1 (by decide)
  rw [D_LA_stripeOfSlot] at hD
  refine lv_iload_n hx hb d_LA_stripeOfSlot_0 rfl (lv_at hl 1 rfl) ?_
  refine lv_aload_n hx hb d_LA_stripeOfSlot_1 rfl (lv_at hl 0 rfl) ?_
  refine g_get cx wo m1 (cel_1 E ad n σ) rfl in_LA 0 (by decide) wf_LA_7 rfl d_LA_stripeOfSlot_2 ?_
  obtain ⟨g1, hD⟩ := grd_s hD
  refine lv_idiv hx hb d_LA_stripeOfSlot_5 (of_decide_eq_true g1) ?_
  refine lv_aload_n hx hb d_LA_stripeOfSlot_6 rfl (lv_at hl 0 rfl) ?_
  refine g_get cx wo m1 (cel_1 E ad n σ) rfl in_LA 3 (by decide) wf_LA_19 rfl d_LA_stripeOfSlot_7 ?_
  refine lv_imul hx hb d_LA_stripeOfSlot_10 ?_
  refine lv_iload_n hx hb d_LA_stripeOfSlot_11 rfl (lv_at hl 1 rfl) ?_
  refine lv_aload_n hx hb d_LA_stripeOfSlot_12 rfl (lv_at hl 0 rfl) ?_
  refine g_get cx wo m1 (cel_1 E ad n σ) rfl in_LA 0 (by decide) wf_LA_7 rfl d_LA_stripeOfSlot_13 ?_
  obtain ⟨g2, hD⟩ := grd_s hD
  refine lv_irem hx hb d_LA_stripeOfSlot_16 (of_decide_eq_true g2) ?_
  refine lv_aload_n hx hb d_LA_stripeOfSlot_17 rfl (lv_at hl 0 rfl) ?_
  refine g_get cx wo m1 (cel_1 E ad n σ) rfl in_LA 1 (by decide) wf_LA_13 rfl d_LA_stripeOfSlot_18 ?_
  obtain ⟨g3, hD⟩ := grd_s hD
  refine lv_idiv hx hb d_LA_stripeOfSlot_21 (of_decide_eq_true g3) ?_
  refine lv_iadd hx hb d_LA_stripeOfSlot_22 ?_
  cases hD
  exact t_ireti cx wo rfl rfl d_LA_stripeOfSlot_23
def D_LA_columnOfSlot (F : Nat) (n : Nat → Nat) (σ : HS) (p1 : Int32) : Option (Int32) :=
grd (decide (¬ (σ.1 1 0) = 0)) (
  grd (decide (¬ (σ.1 1 1) = 0)) (
  some ((p1 - p1 / (σ.1 1 0) * (σ.1 1 0)) - (p1 - p1 / (σ.1 1 0) * (σ.1 1 0)) / (σ.1 1 1) * (σ.1 1 1))))
set_option maxRecDepth 100000 in
set_option maxHeartbeats 4000000 in
theorem k_LA_columnOfSlot (l : Launch) (E : EV) (ad n : Nat → Nat) (L : List Nat) (hL : ∀ a ∈ ([1] : List Nat), a ∈ L) (F : Nat) (σ  : HS) (p1 : Int32) (r : Int32) (hD : D_LA_columnOfSlot F n σ p1 = some r) : CtI l E y_LA_columnOfSlot c_LA_columnOfSlot 2 (some FieldType.int) ({ frames := 0, cells := 0, slots := 0, locals := 0 }) [.ref (ad 1), .int p1] (wl E ad n L σ) r (wl E ad n L σ) := by
  refine fun sz => ent (by decide) (Nat.le_of_ble_eq_true rfl) ?_
  intro p e s m below meth c hsz cx wo ls hl
  have hx := cx.1.1
  have hb := cx.1.2.1
  have hown := cx.1.2.2.2.1
  have hts := cx.1.2.2.2.2
  have hl : lv_has ls 2 [(0, .ref (ad 1)), (1, .int p1)] := hl
  have m1 : 1 ∈ L := hL 1 (by decide)
  rw [D_LA_columnOfSlot] at hD
  refine lv_iload_n hx hb d_LA_columnOfSlot_0 rfl (lv_at hl 1 rfl) ?_
  refine lv_aload_n hx hb d_LA_columnOfSlot_1 rfl (lv_at hl 0 rfl) ?_
  refine g_get cx wo m1 (cel_1 E ad n σ) rfl in_LA 0 (by decide) wf_LA_7 rfl d_LA_columnOfSlot_2 ?_
  obtain ⟨g1, hD⟩ := grd_s hD
  refine lv_irem hx hb d_LA_columnOfSlot_5 (of_decide_eq_true g1) ?_
  refine lv_aload_n hx hb d_LA_columnOfSlot_6 rfl (lv_at hl 0 rfl) ?_
  refine g_get cx wo m1 (cel_1 E ad n σ) rfl in_LA 1 (by decide) wf_LA_13 rfl d_LA_columnOfSlot_7 ?_
  obtain ⟨g2, hD⟩ := grd_s hD
  refine lv_irem hx hb d_LA_columnOfSlot_10 (of_decide_eq_true g2) ?_
  cases hD
  exact t_ireti cx wo rfl rfl d_LA_columnOfSlot_11
def D_LA_tagOf (F : Nat) (n : Nat → Nat) (σ : HS) (p1 : Int32) : Option (Int32) :=
grd (decide (¬ (σ.1 1 0) = 0)) (
  some ((p1 - p1 / (σ.1 1 0) * (σ.1 1 0)) + (1 : Int32)))
set_option maxRecDepth 100000 in
set_option maxHeartbeats 4000000 in
theorem k_LA_tagOf (l : Launch) (E : EV) (ad n : Nat → Nat) (L : List Nat) (hL : ∀ a ∈ ([1] : List Nat), a ∈ L) (F : Nat) (σ  : HS) (p1 : Int32) (r : Int32) (hD : D_LA_tagOf F n σ p1 = some r) : CtI l E y_LA_tagOf c_LA_tagOf 2 (some FieldType.int) ({ frames := 0, cells := 0, slots := 0, locals := 0 }) [.ref (ad 1), .int p1] (wl E ad n L σ) r (wl E ad n L σ) := by
  refine fun sz => ent (by decide) (Nat.le_of_ble_eq_true rfl) ?_
  intro p e s m below meth c hsz cx wo ls hl
  have hx := cx.1.1
  have hb := cx.1.2.1
  have hown := cx.1.2.2.2.1
  have hts := cx.1.2.2.2.2
  have hl : lv_has ls 2 [(0, .ref (ad 1)), (1, .int p1)] := hl
  have m1 : 1 ∈ L := hL 1 (by decide)
  rw [D_LA_tagOf] at hD
  refine lv_iload_n hx hb d_LA_tagOf_0 rfl (lv_at hl 1 rfl) ?_
  refine lv_aload_n hx hb d_LA_tagOf_1 rfl (lv_at hl 0 rfl) ?_
  refine g_get cx wo m1 (cel_1 E ad n σ) rfl in_LA 0 (by decide) wf_LA_7 rfl d_LA_tagOf_2 ?_
  obtain ⟨g1, hD⟩ := grd_s hD
  refine lv_irem hx hb d_LA_tagOf_5 (of_decide_eq_true g1) ?_
  refine lv_iconst (v := 1) hx hb d_LA_tagOf_6 (by decide) ?_
  refine lv_iadd hx hb d_LA_tagOf_7 ?_
  cases hD
  exact t_ireti cx wo rfl rfl d_LA_tagOf_8
def D_LA_stripeOfBlock (F : Nat) (n : Nat → Nat) (σ : HS) (p1 : Int32) : Option (Int32) :=
grd (decide (¬ (σ.1 1 7) = 0)) (
  some (p1 / (σ.1 1 7)))
set_option maxRecDepth 100000 in
set_option maxHeartbeats 4000000 in
theorem k_LA_stripeOfBlock (l : Launch) (E : EV) (ad n : Nat → Nat) (L : List Nat) (hL : ∀ a ∈ ([1] : List Nat), a ∈ L) (F : Nat) (σ  : HS) (p1 : Int32) (r : Int32) (hD : D_LA_stripeOfBlock F n σ p1 = some r) : CtI l E y_LA_stripeOfBlock c_LA_stripeOfBlock 2 (some FieldType.int) ({ frames := 0, cells := 0, slots := 0, locals := 0 }) [.ref (ad 1), .int p1] (wl E ad n L σ) r (wl E ad n L σ) := by
  refine fun sz => ent (by decide) (Nat.le_of_ble_eq_true rfl) ?_
  intro p e s m below meth c hsz cx wo ls hl
  have hx := cx.1.1
  have hb := cx.1.2.1
  have hown := cx.1.2.2.2.1
  have hts := cx.1.2.2.2.2
  have hl : lv_has ls 2 [(0, .ref (ad 1)), (1, .int p1)] := hl
  have m1 : 1 ∈ L := hL 1 (by decide)
  rw [D_LA_stripeOfBlock] at hD
  refine lv_iload_n hx hb d_LA_stripeOfBlock_0 rfl (lv_at hl 1 rfl) ?_
  refine lv_aload_n hx hb d_LA_stripeOfBlock_1 rfl (lv_at hl 0 rfl) ?_
  refine g_get cx wo m1 (cel_1 E ad n σ) rfl in_LA 7 (by decide) wf_LA_25 rfl d_LA_stripeOfBlock_2 ?_
  obtain ⟨g1, hD⟩ := grd_s hD
  refine lv_idiv hx hb d_LA_stripeOfBlock_5 (of_decide_eq_true g1) ?_
  cases hD
  exact t_ireti cx wo rfl rfl d_LA_stripeOfBlock_6
def D_LA_columnOfBlock (F : Nat) (n : Nat → Nat) (σ : HS) (p1 : Int32) : Option (Int32) :=
grd (decide (¬ (σ.1 1 7) = 0)) (
  some (p1 - p1 / (σ.1 1 7) * (σ.1 1 7)))
set_option maxRecDepth 100000 in
set_option maxHeartbeats 4000000 in
theorem k_LA_columnOfBlock (l : Launch) (E : EV) (ad n : Nat → Nat) (L : List Nat) (hL : ∀ a ∈ ([1] : List Nat), a ∈ L) (F : Nat) (σ  : HS) (p1 : Int32) (r : Int32) (hD : D_LA_columnOfBlock F n σ p1 = some r) : CtI l E y_LA_columnOfBlock c_LA_columnOfBlock 2 (some FieldType.int) ({ frames := 0, cells := 0, slots := 0, locals := 0 }) [.ref (ad 1), .int p1] (wl E ad n L σ) r (wl E ad n L σ) := by
  refine fun sz => ent (by decide) (Nat.le_of_ble_eq_true rfl) ?_
  intro p e s m below meth c hsz cx wo ls hl
  have hx := cx.1.1
  have hb := cx.1.2.1
  have hown := cx.1.2.2.2.1
  have hts := cx.1.2.2.2.2
  have hl : lv_has ls 2 [(0, .ref (ad 1)), (1, .int p1)] := hl
  have m1 : 1 ∈ L := hL 1 (by decide)
  rw [D_LA_columnOfBlock] at hD
  refine lv_iload_n hx hb d_LA_columnOfBlock_0 rfl (lv_at hl 1 rfl) ?_
  refine lv_aload_n hx hb d_LA_columnOfBlock_1 rfl (lv_at hl 0 rfl) ?_
  refine g_get cx wo m1 (cel_1 E ad n σ) rfl in_LA 7 (by decide) wf_LA_25 rfl d_LA_columnOfBlock_2 ?_
  obtain ⟨g1, hD⟩ := grd_s hD
  refine lv_irem hx hb d_LA_columnOfBlock_5 (of_decide_eq_true g1) ?_
  cases hD
  exact t_ireti cx wo rfl rfl d_LA_columnOfBlock_6
def D_PW_cut (F : Nat) (n : Nat → Nat) (σ : HS)  : Option (HS) :=
nm (stF σ 4 0 (0 : Int32)) (fun σ1 =>
  nm (stF σ1 4 1 (0 : Int32)) (fun σ2 =>
  some σ2))
set_option maxRecDepth 100000 in
set_option maxHeartbeats 4000000 in
theorem k_PW_cut (l : Launch) (E : EV) (ad n : Nat → Nat) (L : List Nat) (hL : ∀ a ∈ ([4] : List Nat), a ∈ L) (F : Nat) (σ σo : HS)   (hD : D_PW_cut F n σ  = some σo) : CtV l E y_PW_cut c_PW_cut 1 none ({ frames := 0, cells := 0, slots := 0, locals := 0 }) [.ref (ad 4)] (wl E ad n L σ) (wl E ad n L σo) := by
  refine fun sz => ent (by decide) (Nat.le_of_ble_eq_true rfl) ?_
  intro p e s m below meth c hsz cx wo ls hl
  have hx := cx.1.1
  have hb := cx.1.2.1
  have hown := cx.1.2.2.2.1
  have hts := cx.1.2.2.2.2
  have hl : lv_has ls 1 [(0, .ref (ad 4))] := hl
  have m4 : 4 ∈ L := hL 4 (by decide)
  rw [D_PW_cut] at hD
  refine lv_aload_n hx hb d_PW_cut_0 rfl (lv_at hl 0 rfl) ?_
  refine lv_iconst (v := 0) hx hb d_PW_cut_1 (by decide) ?_
  refine g_put cx wo m4 (cel_4 E ad n σ) rfl in_PW t_PW tok_PW n_PW 0 (by decide) wf_PW_7 rfl rfl rfl (Nat.le_of_ble_eq_true rfl) rfl d_PW_cut_2 (fun H locs wo => ?_)
  obtain ⟨σ1, eσ1⟩ : ∃ z, z = stF σ 4 0 (0 : Int32) := ⟨_, rfl⟩
  rw [← eσ1] at wo
  have hD := nm_at hD eσ1
  try dsimp only at hD
  refine lv_aload_n hx hb d_PW_cut_5 rfl (lv_at hl 0 rfl) ?_
  refine lv_iconst (v := 0) hx hb d_PW_cut_6 (by decide) ?_
  refine g_put cx wo m4 (cel_4 E ad n σ1) rfl in_PW t_PW tok_PW n_PW 1 (by decide) wf_PW_13 rfl rfl rfl (Nat.le_of_ble_eq_true rfl) rfl d_PW_cut_7 (fun H locs wo => ?_)
  obtain ⟨σ2, eσ2⟩ : ∃ z, z = stF σ1 4 1 (0 : Int32) := ⟨_, rfl⟩
  rw [← eσ2] at wo
  have hD := nm_at hD eσ2
  try dsimp only at hD
  cases hD
  exact t_vret cx wo d_PW_cut_10
def D_PW_spendWrite (F : Nat) (n : Nat → Nat) (σ : HS)  : Option (HS × Int32) :=
(if (σ.1 4 1) = (1 : Int32) then
    (D_PW_cut F n σ ).bind (fun (σ7 : HS) =>
    some (σ7, (0 : Int32)))
  else
    (if (σ.1 4 1) ≤ (1 : Int32) then
      nm (stF σ 4 2 ((σ.1 4 2) + (1 : Int32))) (fun σ3 =>
      some (σ3, (1 : Int32)))
    else
      nm (stF σ 4 1 ((σ.1 4 1) - (1 : Int32))) (fun σ4 =>
      nm (stF σ4 4 2 ((σ4.1 4 2) + (1 : Int32))) (fun σ5 =>
      some (σ5, (1 : Int32))))))
set_option maxRecDepth 100000 in
set_option maxHeartbeats 4000000 in
theorem k_PW_spendWrite (l : Launch) (E : EV) (ad n : Nat → Nat) (L : List Nat) (hL : ∀ a ∈ ([4] : List Nat), a ∈ L) (F : Nat) (σ σo : HS)  (r : Int32) (hD : D_PW_spendWrite F n σ  = some (σo, r)) : CtI l E y_PW_spendWrite c_PW_spendWrite 1 (some FieldType.boolean) ({ frames := 1, cells := 0, slots := 0, locals := 20 }) [.ref (ad 4)] (wl E ad n L σ) r (wl E ad n L σo) := by
  refine fun sz => ent (by decide) (Nat.le_of_ble_eq_true rfl) ?_
  intro p e s m below meth c hsz cx wo ls hl
  have hx := cx.1.1
  have hb := cx.1.2.1
  have hown := cx.1.2.2.2.1
  have hts := cx.1.2.2.2.2
  have hl : lv_has ls 1 [(0, .ref (ad 4))] := hl
  have m4 : 4 ∈ L := hL 4 (by decide)
  rw [D_PW_spendWrite] at hD
  refine lv_aload_n hx hb d_PW_spendWrite_0 rfl (lv_at hl 0 rfl) ?_
  refine g_get cx wo m4 (cel_4 E ad n σ) rfl in_PW 1 (by decide) wf_PW_13 rfl d_PW_spendWrite_1 ?_
  refine lv_iconst (v := 1) hx hb d_PW_spendWrite_4 (by decide) ?_
  refine lv_icmp_ne (tgt := 14) hx hb d_PW_spendWrite_5 (by decide) (fun c1 => ?_) (fun c1 => ?_)
  · have hD := ite_n hD c1
    refine lv_aload_n hx hb d_PW_spendWrite_14 rfl (lv_at hl 0 rfl) ?_
    refine g_get cx wo m4 (cel_4 E ad n σ) rfl in_PW 1 (by decide) wf_PW_13 rfl d_PW_spendWrite_15 ?_
    refine lv_iconst (v := 1) hx hb d_PW_spendWrite_18 (by decide) ?_
    refine lv_icmp_le (tgt := 32) hx hb d_PW_spendWrite_19 (by decide) (fun c2 => ?_) (fun c2 => ?_)
    · have hD := ite_p hD c2
      refine lv_aload_n hx hb d_PW_spendWrite_32 rfl (lv_at hl 0 rfl) ?_
      refine lv_dup hx hb d_PW_spendWrite_33 rfl ?_
      refine g_get cx wo m4 (cel_4 E ad n σ) rfl in_PW 2 (by decide) wf_PW_20 rfl d_PW_spendWrite_34 ?_
      refine lv_iconst (v := 1) hx hb d_PW_spendWrite_37 (by decide) ?_
      refine lv_iadd hx hb d_PW_spendWrite_38 ?_
      refine g_put cx wo m4 (cel_4 E ad n σ) rfl in_PW t_PW tok_PW n_PW 2 (by decide) wf_PW_20 rfl rfl rfl (Nat.le_of_ble_eq_true rfl) rfl d_PW_spendWrite_39 (fun H locs wo => ?_)
      obtain ⟨σ3, eσ3⟩ : ∃ z, z = stF σ 4 2 ((σ.1 4 2) + (1 : Int32)) := ⟨_, rfl⟩
      rw [← eσ3] at wo
      have hD := nm_at hD eσ3
      try dsimp only at hD
      refine lv_iconst (v := 1) hx hb d_PW_spendWrite_42 (by decide) ?_
      cases hD
      exact t_ireti cx wo rfl rfl d_PW_spendWrite_43
    · have hD := ite_n hD c2
      refine lv_aload_n hx hb d_PW_spendWrite_22 rfl (lv_at hl 0 rfl) ?_
      refine lv_dup hx hb d_PW_spendWrite_23 rfl ?_
      refine g_get cx wo m4 (cel_4 E ad n σ) rfl in_PW 1 (by decide) wf_PW_13 rfl d_PW_spendWrite_24 ?_
      refine lv_iconst (v := 1) hx hb d_PW_spendWrite_27 (by decide) ?_
      refine lv_isub hx hb d_PW_spendWrite_28 ?_
      refine g_put cx wo m4 (cel_4 E ad n σ) rfl in_PW t_PW tok_PW n_PW 1 (by decide) wf_PW_13 rfl rfl rfl (Nat.le_of_ble_eq_true rfl) rfl d_PW_spendWrite_29 (fun H locs wo => ?_)
      obtain ⟨σ4, eσ4⟩ : ∃ z, z = stF σ 4 1 ((σ.1 4 1) - (1 : Int32)) := ⟨_, rfl⟩
      rw [← eσ4] at wo
      have hD := nm_at hD eσ4
      try dsimp only at hD
      refine lv_aload_n hx hb d_PW_spendWrite_32 rfl (lv_at hl 0 rfl) ?_
      refine lv_dup hx hb d_PW_spendWrite_33 rfl ?_
      refine g_get cx wo m4 (cel_4 E ad n σ4) rfl in_PW 2 (by decide) wf_PW_20 rfl d_PW_spendWrite_34 ?_
      refine lv_iconst (v := 1) hx hb d_PW_spendWrite_37 (by decide) ?_
      refine lv_iadd hx hb d_PW_spendWrite_38 ?_
      refine g_put cx wo m4 (cel_4 E ad n σ4) rfl in_PW t_PW tok_PW n_PW 2 (by decide) wf_PW_20 rfl rfl rfl (Nat.le_of_ble_eq_true rfl) rfl d_PW_spendWrite_39 (fun H locs wo => ?_)
      obtain ⟨σ5, eσ5⟩ : ∃ z, z = stF σ4 4 2 ((σ4.1 4 2) + (1 : Int32)) := ⟨_, rfl⟩
      rw [← eσ5] at wo
      have hD := nm_at hD eσ5
      try dsimp only at hD
      refine lv_iconst (v := 1) hx hb d_PW_spendWrite_42 (by decide) ?_
      cases hD
      exact t_ireti cx wo rfl rfl d_PW_spendWrite_43
  · have hD := ite_p hD c1
    refine lv_aload_n hx hb d_PW_spendWrite_8 rfl (lv_at hl 0 rfl) ?_
    obtain ⟨σ7, hcx6, hD⟩ := bd_s hD
    try dsimp only [nm2] at hD
    refine call_Vv cx wo (k_PW_cut l E ad n L (fun a h => hL a ((by decide : ∀ a ∈ ([4] : List Nat), a ∈ ([4] : List Nat)) a h)) F σ σ7  hcx6) m4 (cel_4 E ad n σ) rfl rfl mw_PW_cut wm_PW_17 ⟨by decide, by decide⟩ ⟨by decide, by decide⟩ hl.1 rfl (Nat.le_of_ble_eq_true rfl) d_PW_spendWrite_9 (fun H locs wo => ?_)
    refine lv_iconst (v := 0) hx hb d_PW_spendWrite_12 (by decide) ?_
    cases hD
    exact t_ireti cx wo rfl rfl d_PW_spendWrite_13
def D_RK_isWritten (F : Nat) (n : Nat → Nat) (σ : HS) (p1 : Int32) : Option (Int32) :=
grd (inb p1 (n 13)) (
  grd (isB (σ.1 13 (p1).toNatClampNeg)) (
  some (σ.1 13 (p1).toNatClampNeg)))
set_option maxRecDepth 100000 in
set_option maxHeartbeats 4000000 in
theorem k_RK_isWritten (l : Launch) (E : EV) (ad n : Nat → Nat) (L : List Nat) (hL : ∀ a ∈ ([2, 13] : List Nat), a ∈ L) (F : Nat) (σ  : HS) (p1 : Int32) (r : Int32) (hD : D_RK_isWritten F n σ p1 = some r) : CtI l E y_RK_isWritten c_RK_isWritten 2 (some FieldType.boolean) ({ frames := 0, cells := 0, slots := 0, locals := 0 }) [.ref (ad 2), .int p1] (wl E ad n L σ) r (wl E ad n L σ) := by
  refine fun sz => ent (by decide) (Nat.le_of_ble_eq_true rfl) ?_
  intro p e s m below meth c hsz cx wo ls hl
  have hx := cx.1.1
  have hb := cx.1.2.1
  have hown := cx.1.2.2.2.1
  have hts := cx.1.2.2.2.2
  have hl : lv_has ls 2 [(0, .ref (ad 2)), (1, .int p1)] := hl
  have m2 : 2 ∈ L := hL 2 (by decide)
  have m13 : 13 ∈ L := hL 13 (by decide)
  rw [D_RK_isWritten] at hD
  refine lv_aload_n hx hb d_RK_isWritten_0 rfl (lv_at hl 0 rfl) ?_
  refine g_get cx wo m2 (cel_2 E ad n σ) rfl in_RK 4 (by decide) wf_RK_35 rfl d_RK_isWritten_1 ?_
  refine lv_iload_n hx hb d_RK_isWritten_4 rfl (lv_at hl 1 rfl) ?_
  obtain ⟨g1, hD⟩ := grd_s hD
  refine g_zald cx wo m13 (cel_13 E ad n σ) g1 d_RK_isWritten_5 ?_
  obtain ⟨g2, hD⟩ := grd_s hD
  cases hD
  exact t_ireti cx wo (isB_n g2) rfl d_RK_isWritten_6
def D_RK_isValid (F : Nat) (n : Nat → Nat) (σ : HS) (p1 : Int32) : Option (Int32) :=
(if p1 = (-1 : Int32) then
    some (0 : Int32)
  else
    grd (inb p1 (n 14)) (
    (if (σ.1 14 (p1).toNatClampNeg) = 0 then
      some (0 : Int32)
    else
      some (1 : Int32))))
set_option maxRecDepth 100000 in
set_option maxHeartbeats 4000000 in
theorem k_RK_isValid (l : Launch) (E : EV) (ad n : Nat → Nat) (L : List Nat) (hL : ∀ a ∈ ([2, 14] : List Nat), a ∈ L) (F : Nat) (σ  : HS) (p1 : Int32) (r : Int32) (hD : D_RK_isValid F n σ p1 = some r) : CtI l E y_RK_isValid c_RK_isValid 2 (some FieldType.boolean) ({ frames := 0, cells := 0, slots := 0, locals := 0 }) [.ref (ad 2), .int p1] (wl E ad n L σ) r (wl E ad n L σ) := by
  refine fun sz => ent (by decide) (Nat.le_of_ble_eq_true rfl) ?_
  intro p e s m below meth c hsz cx wo ls hl
  have hx := cx.1.1
  have hb := cx.1.2.1
  have hown := cx.1.2.2.2.1
  have hts := cx.1.2.2.2.2
  have hl : lv_has ls 2 [(0, .ref (ad 2)), (1, .int p1)] := hl
  have m2 : 2 ∈ L := hL 2 (by decide)
  have m14 : 14 ∈ L := hL 14 (by decide)
  rw [D_RK_isValid] at hD
  refine lv_iload_n hx hb d_RK_isValid_0 rfl (lv_at hl 1 rfl) ?_
  refine lv_iconst (v := -1) hx hb d_RK_isValid_1 (by decide) ?_
  refine lv_icmp_eq (tgt := 18) hx hb d_RK_isValid_2 (by decide) (fun c1 => ?_) (fun c1 => ?_)
  · have hD := ite_p hD c1
    refine lv_iconst (v := 0) hx hb d_RK_isValid_18 (by decide) ?_
    cases hD
    exact t_ireti cx wo rfl rfl d_RK_isValid_19
  · have hD := ite_n hD c1
    refine lv_aload_n hx hb d_RK_isValid_5 rfl (lv_at hl 0 rfl) ?_
    refine g_get cx wo m2 (cel_2 E ad n σ) rfl in_RK 5 (by decide) wf_RK_38 rfl d_RK_isValid_6 ?_
    refine lv_iload_n hx hb d_RK_isValid_9 rfl (lv_at hl 1 rfl) ?_
    obtain ⟨g2, hD⟩ := grd_s hD
    refine g_zald cx wo m14 (cel_14 E ad n σ) g2 d_RK_isValid_10 ?_
    refine lv_if_eq (tgt := 18) hx hb d_RK_isValid_11 (by decide) (fun c3 => ?_) (fun c3 => ?_)
    · have hD := ite_p hD c3
      refine lv_iconst (v := 0) hx hb d_RK_isValid_18 (by decide) ?_
      cases hD
      exact t_ireti cx wo rfl rfl d_RK_isValid_19
    · have hD := ite_n hD c3
      refine lv_iconst (v := 1) hx hb d_RK_isValid_14 (by decide) ?_
      refine lv_goto (tgt := 19) hx hb d_RK_isValid_15 (by decide) ?_
      cases hD
      exact t_ireti cx wo rfl rfl d_RK_isValid_19
def D_RK_tag (F : Nat) (n : Nat → Nat) (σ : HS) (p1 : Int32) : Option (Int32) :=
grd (inb ((p1 * (9 : Int32)) + (8 : Int32)) (n 11)) (
  some (((σ.2 11 (((p1 * (9 : Int32)) + (8 : Int32))).toNatClampNeg) &&& (65535 : Int64))).toInt32)
set_option maxRecDepth 100000 in
set_option maxHeartbeats 4000000 in
theorem k_RK_tag (l : Launch) (E : EV) (ad n : Nat → Nat) (L : List Nat) (hL : ∀ a ∈ ([2, 11] : List Nat), a ∈ L) (F : Nat) (σ  : HS) (p1 : Int32) (r : Int32) (hD : D_RK_tag F n σ p1 = some r) : CtI l E y_RK_tag c_RK_tag 2 (some FieldType.int) ({ frames := 0, cells := 0, slots := 0, locals := 0 }) [.ref (ad 2), .int p1] (wl E ad n L σ) r (wl E ad n L σ) := by
  refine fun sz => ent (by decide) (Nat.le_of_ble_eq_true rfl) ?_
  intro p e s m below meth c hsz cx wo ls hl
  have hx := cx.1.1
  have hb := cx.1.2.1
  have hown := cx.1.2.2.2.1
  have hts := cx.1.2.2.2.2
  have hl : lv_has ls 2 [(0, .ref (ad 2)), (1, .int p1)] := hl
  have m2 : 2 ∈ L := hL 2 (by decide)
  have m11 : 11 ∈ L := hL 11 (by decide)
  rw [D_RK_tag] at hD
  refine lv_aload_n hx hb d_RK_tag_0 rfl (lv_at hl 0 rfl) ?_
  refine g_get cx wo m2 (cel_2 E ad n σ) rfl in_RK 2 (by decide) wf_RK_28 rfl d_RK_tag_1 ?_
  refine lv_iload_n hx hb d_RK_tag_4 rfl (lv_at hl 1 rfl) ?_
  refine lv_bipush (v := 9) hx hb d_RK_tag_5 (by decide) ?_
  refine lv_imul hx hb d_RK_tag_7 ?_
  refine lv_bipush (v := 8) hx hb d_RK_tag_8 (by decide) ?_
  refine lv_iadd hx hb d_RK_tag_10 ?_
  obtain ⟨g1, hD⟩ := grd_s hD
  refine g_lald cx wo m11 (cel_11 E ad n σ) g1 d_RK_tag_11 ?_
  refine lv_ldc2 hx hb hown (hts _ wj_RK_89) d_RK_tag_12 ?_
  refine lv_land hx hb d_RK_tag_15 ?_
  refine lv_l2i hx hb d_RK_tag_16 rfl ?_
  cases hD
  exact t_ireti cx wo rfl rfl d_RK_tag_17
def D_RK_checkOf_L42 (F : Nat) (n : Nat → Nat)  : Nat → Int32 → Int32 → Option (Int32)
  | 0, _, _ => none
  | k9 + 1, x10, x11 =>
      (if (8 : Int32) ≤ x10 then
              some x11
            else
              (if (x11 &&& (1 : Int32)) = 0 then
                nm ((x11).toUInt32 >>> (((1 : Int32)).toUInt32 &&& Int32.toUInt32 31)).toInt32 (fun x14 =>
                nm (x10 + (1 : Int32)) (fun x15 =>
                D_RK_checkOf_L42 F n  k9 x15 x14))
              else
                nm (((x11).toUInt32 >>> (((1 : Int32)).toUInt32 &&& Int32.toUInt32 31)).toInt32 ^^^ (-2097792136 : Int32)) (fun x16 =>
                nm (x10 + (1 : Int32)) (fun x17 =>
                D_RK_checkOf_L42 F n  k9 x17 x16))))
def D_RK_checkOf_L4 (F : Nat) (n : Nat → Nat) (σ : HS) (p1 : Int32) : Nat → Int32 → Int32 → Option (Int32)
  | 0, _, _ => none
  | k2 + 1, x3, x4 =>
      (if (66 : Int32) ≤ x3 then
        some x4
      else
        grd (inb ((p1 * (9 : Int32)) + ((x3).toUInt32 >>> (((3 : Int32)).toUInt32 &&& Int32.toUInt32 31)).toInt32) (n 11)) (
        nm (x4 ^^^ (((((σ.2 11 (((p1 * (9 : Int32)) + ((x3).toUInt32 >>> (((3 : Int32)).toUInt32 &&& Int32.toUInt32 31)).toInt32)).toNatClampNeg)).toUInt64 >>> ((((8 : Int32) * (x3 &&& (7 : Int32)))).toInt64.toUInt64 &&& Int64.toUInt64 63)).toInt64).toInt32 &&& (255 : Int32))) (fun x7 =>
        (D_RK_checkOf_L42 F n  F (0 : Int32) x7).bind (fun (x18 : Int32) =>
        nm (x3 + (1 : Int32)) (fun x22 =>
          D_RK_checkOf_L4 F n σ p1 k2 x22 x18)))))
def D_RK_checkOf (F : Nat) (n : Nat → Nat) (σ : HS) (p1 : Int32) : Option (Int32) :=
(D_RK_checkOf_L4 F n σ p1 F (0 : Int32) (-1 : Int32)).bind (fun (x23 : Int32) =>
  some (x23 ^^^ (-1 : Int32)))
set_option maxRecDepth 100000 in
set_option maxHeartbeats 4000000 in
theorem k_RK_checkOf (l : Launch) (E : EV) (ad n : Nat → Nat) (L : List Nat) (hL : ∀ a ∈ ([2, 11] : List Nat), a ∈ L) (F : Nat) (σ  : HS) (p1 : Int32) (r : Int32) (hD : D_RK_checkOf F n σ p1 = some r) : CtI l E y_RK_checkOf c_RK_checkOf 5 (some FieldType.int) ({ frames := 0, cells := 0, slots := 0, locals := 0 }) [.ref (ad 2), .int p1] (wl E ad n L σ) r (wl E ad n L σ) := by
  refine fun sz => ent (by decide) (Nat.le_of_ble_eq_true rfl) ?_
  intro p e s m below meth c hsz cx wo ls hl
  have hx := cx.1.1
  have hb := cx.1.2.1
  have hown := cx.1.2.2.2.1
  have hts := cx.1.2.2.2.2
  have hl : lv_has ls 5 [(0, .ref (ad 2)), (1, .int p1)] := hl
  have m2 : 2 ∈ L := hL 2 (by decide)
  have m11 : 11 ∈ L := hL 11 (by decide)
  rw [D_RK_checkOf] at hD
  refine lv_iconst (v := -1) hx hb d_RK_checkOf_0 (by decide) ?_
  refine lv_istore_n (lv' := [(2, .int (-1 : Int32)), (0, .ref (ad 2)), (1, .int p1)]) hx hb d_RK_checkOf_1 rfl hl (by decide) rfl (fun ls hl => ?_)
  refine lv_iconst (v := 0) hx hb d_RK_checkOf_2 (by decide) ?_
  refine lv_istore_n (lv' := [(3, .int (0 : Int32)), (2, .int (-1 : Int32)), (0, .ref (ad 2)), (1, .int p1)]) hx hb d_RK_checkOf_3 rfl hl (by decide) rfl (fun ls hl => ?_)
  have lp24 : ∀ (k2 : Nat) (x3 : Int32) (x4 : Int32) (H : Heap) (locs : List Loc) (ls : Array Slot) (res1 : Int32), D_RK_checkOf_L4 F n σ p1 k2 x3 x4 = some res1 → (∀ (x23 : Int32) (H : Heap) (locs : List Loc) (ls : Array Slot), res1 = x23 → Wo E (va_A (wl E ad n L σ) sz) s.heap (wl E ad n L σ) H locs → lv_has ls 5 [(2, .int x23)] → W p l e ({ frames := 0, cells := 0, slots := 0, locals := 0 }) s m ([.ref (ad 2), .int p1] : List Value).toArray below meth c H locs 0 0 (MQ below (va_Qi (fun (x : Int32) (_ : Unit) => x = r) (fun _ t => va_P E.1 cls6 (wl E ad n L σ) t.heap ∧ va_D (va_A (wl E ad n L σ) sz) (wl E ad n L σ)) (va_A (wl E ad n L σ) sz)) ([.ref (ad 2), .int p1] : List Value).toArray s 0 0 (va_A (wl E ad n L σ) sz)) (F0 m 80 ls [])) → Wo E (va_A (wl E ad n L σ) sz) s.heap (wl E ad n L σ) H locs → lv_has ls 5 [(3, .int x3), (2, .int x4), (0, .ref (ad 2)), (1, .int p1)] → W p l e ({ frames := 0, cells := 0, slots := 0, locals := 0 }) s m ([.ref (ad 2), .int p1] : List Value).toArray below meth c H locs 0 0 (MQ below (va_Qi (fun (x : Int32) (_ : Unit) => x = r) (fun _ t => va_P E.1 cls6 (wl E ad n L σ) t.heap ∧ va_D (va_A (wl E ad n L σ) sz) (wl E ad n L σ)) (va_A (wl E ad n L σ) sz)) ([.ref (ad 2), .int p1] : List Value).toArray s 0 0 (va_A (wl E ad n L σ) sz)) (F0 m 4 ls []) := by
    intro k2
    induction k2 with
    | zero =>
      intro x3 x4 H locs ls res1 hD
      rw [D_RK_checkOf_L4.eq_1] at hD
      cases hD
    | succ k2 ih =>
      intro x3 x4 H locs ls res1 hD hex wo hl
      rw [D_RK_checkOf_L4.eq_2] at hD
      refine lv_iload_n hx hb d_RK_checkOf_4 rfl (lv_at hl 0 rfl) ?_
      refine lv_bipush (v := 66) hx hb d_RK_checkOf_5 (by decide) ?_
      refine lv_icmp_ge (tgt := 80) hx hb d_RK_checkOf_7 (by decide) (fun c5 => ?_) (fun c5 => ?_)
      · have hD := ite_p hD c5
        exact hex x4 _ _ _ (Option.some.inj hD).symm wo (lv_sub hl [1] rfl)
      · have hD := ite_n hD c5
        refine lv_iload_n hx hb d_RK_checkOf_10 rfl (lv_at hl 1 rfl) ?_
        refine lv_aload_n hx hb d_RK_checkOf_11 rfl (lv_at hl 2 rfl) ?_
        refine g_get cx wo m2 (cel_2 E ad n σ) rfl in_RK 2 (by decide) wf_RK_28 rfl d_RK_checkOf_12 ?_
        refine lv_iload_n hx hb d_RK_checkOf_15 rfl (lv_at hl 3 rfl) ?_
        refine lv_bipush (v := 9) hx hb d_RK_checkOf_16 (by decide) ?_
        refine lv_imul hx hb d_RK_checkOf_18 ?_
        refine lv_iload_n hx hb d_RK_checkOf_19 rfl (lv_at hl 0 rfl) ?_
        refine lv_iconst (v := 3) hx hb d_RK_checkOf_20 (by decide) ?_
        refine lv_iushr hx hb d_RK_checkOf_21 rfl ?_
        refine lv_iadd hx hb d_RK_checkOf_22 ?_
        obtain ⟨g6, hD⟩ := grd_s hD
        refine g_lald cx wo m11 (cel_11 E ad n σ) g6 d_RK_checkOf_23 ?_
        refine lv_bipush (v := 8) hx hb d_RK_checkOf_24 (by decide) ?_
        refine lv_iload_n hx hb d_RK_checkOf_26 rfl (lv_at hl 0 rfl) ?_
        refine lv_bipush (v := 7) hx hb d_RK_checkOf_27 (by decide) ?_
        refine lv_iand hx hb d_RK_checkOf_29 ?_
        refine lv_imul hx hb d_RK_checkOf_30 ?_
        refine lv_lushr hx hb d_RK_checkOf_31 rfl ?_
        refine lv_l2i hx hb d_RK_checkOf_32 rfl ?_
        refine lv_sipush (v := 255) hx hb d_RK_checkOf_33 (by decide) ?_
        refine lv_iand hx hb d_RK_checkOf_36 ?_
        refine lv_ixor hx hb d_RK_checkOf_37 ?_
        refine lv_topi (fun x7 ex7 => ?_)
        have hD := nm_at hD ex7
        try dsimp only at hD
        refine lv_istore_n (lv' := [(2, .int x7), (3, .int x3), (0, .ref (ad 2)), (1, .int p1)]) hx hb d_RK_checkOf_38 rfl hl (by decide) rfl (fun ls hl => ?_)
        refine lv_iconst (v := 0) hx hb d_RK_checkOf_39 (by decide) ?_
        refine lv_istore (lv' := [(4, .int (0 : Int32)), (2, .int x7), (3, .int x3), (0, .ref (ad 2)), (1, .int p1)]) hx hb d_RK_checkOf_40 hl (by decide) rfl (fun ls hl => ?_)
        have lp19 : ∀ (k9 : Nat) (x10 : Int32) (x11 : Int32) (H : Heap) (locs : List Loc) (ls : Array Slot) (res8 : Int32), D_RK_checkOf_L42 F n  k9 x10 x11 = some res8 → (∀ (x18 : Int32) (H : Heap) (locs : List Loc) (ls : Array Slot), res8 = x18 → Wo E (va_A (wl E ad n L σ) sz) s.heap (wl E ad n L σ) H locs → lv_has ls 5 [(2, .int x18), (3, .int x3), (0, .ref (ad 2)), (1, .int p1)] → W p l e ({ frames := 0, cells := 0, slots := 0, locals := 0 }) s m ([.ref (ad 2), .int p1] : List Value).toArray below meth c H locs 0 0 (MQ below (va_Qi (fun (x : Int32) (_ : Unit) => x = r) (fun _ t => va_P E.1 cls6 (wl E ad n L σ) t.heap ∧ va_D (va_A (wl E ad n L σ) sz) (wl E ad n L σ)) (va_A (wl E ad n L σ) sz)) ([.ref (ad 2), .int p1] : List Value).toArray s 0 0 (va_A (wl E ad n L σ) sz)) (F0 m 74 ls [])) → Wo E (va_A (wl E ad n L σ) sz) s.heap (wl E ad n L σ) H locs → lv_has ls 5 [(4, .int x10), (2, .int x11), (3, .int x3), (0, .ref (ad 2)), (1, .int p1)] → W p l e ({ frames := 0, cells := 0, slots := 0, locals := 0 }) s m ([.ref (ad 2), .int p1] : List Value).toArray below meth c H locs 0 0 (MQ below (va_Qi (fun (x : Int32) (_ : Unit) => x = r) (fun _ t => va_P E.1 cls6 (wl E ad n L σ) t.heap ∧ va_D (va_A (wl E ad n L σ) sz) (wl E ad n L σ)) (va_A (wl E ad n L σ) sz)) ([.ref (ad 2), .int p1] : List Value).toArray s 0 0 (va_A (wl E ad n L σ) sz)) (F0 m 42 ls []) := by
          intro k9
          induction k9 with
          | zero =>
            intro x10 x11 H locs ls res8 hD
            rw [D_RK_checkOf_L42.eq_1] at hD
            cases hD
          | succ k9 ih =>
            intro x10 x11 H locs ls res8 hD hex wo hl
            rw [D_RK_checkOf_L42.eq_2] at hD
            refine lv_iload hx hb d_RK_checkOf_42 (lv_at hl 0 rfl) ?_
            refine lv_bipush (v := 8) hx hb d_RK_checkOf_44 (by decide) ?_
            refine lv_icmp_ge (tgt := 74) hx hb d_RK_checkOf_46 (by decide) (fun c12 => ?_) (fun c12 => ?_)
            · have hD := ite_p hD c12
              exact hex x11 _ _ _ (Option.some.inj hD).symm wo (lv_sub hl [1, 2, 3, 4] rfl)
            · have hD := ite_n hD c12
              refine lv_iload_n hx hb d_RK_checkOf_49 rfl (lv_at hl 1 rfl) ?_
              refine lv_iconst (v := 1) hx hb d_RK_checkOf_50 (by decide) ?_
              refine lv_iand hx hb d_RK_checkOf_51 ?_
              refine lv_if_eq (tgt := 64) hx hb d_RK_checkOf_52 (by decide) (fun c13 => ?_) (fun c13 => ?_)
              · have hD := ite_p hD c13
                refine lv_iload_n hx hb d_RK_checkOf_64 rfl (lv_at hl 1 rfl) ?_
                refine lv_iconst (v := 1) hx hb d_RK_checkOf_65 (by decide) ?_
                refine lv_iushr hx hb d_RK_checkOf_66 rfl ?_
                refine lv_topi (fun x14 ex14 => ?_)
                have hD := nm_at hD ex14
                try dsimp only at hD
                refine lv_istore_n (lv' := [(2, .int x14), (4, .int x10), (3, .int x3), (0, .ref (ad 2)), (1, .int p1)]) hx hb d_RK_checkOf_67 rfl hl (by decide) rfl (fun ls hl => ?_)
                obtain ⟨x15, ex15⟩ : ∃ y : Int32, y = x10 + (1 : Int32) := ⟨_, rfl⟩
                have hD := nm_at hD ex15
                try dsimp only at hD
                refine lv_iinc (v := x15) (lv' := [(4, .int x15), (2, .int x14), (3, .int x3), (0, .ref (ad 2)), (1, .int p1)]) hx hb d_RK_checkOf_68 hl (k := 1) rfl (by rw [ex15]; rfl) (by decide) rfl (fun ls hl => ?_)
                refine lv_goto (tgt := 42) hx hb d_RK_checkOf_71 (by decide) ?_
                exact ih x15 x14 _ _ _ _ hD hex wo (lv_sub hl [0, 1, 2, 3, 4] rfl)
              · have hD := ite_n hD c13
                refine lv_iload_n hx hb d_RK_checkOf_55 rfl (lv_at hl 1 rfl) ?_
                refine lv_iconst (v := 1) hx hb d_RK_checkOf_56 (by decide) ?_
                refine lv_iushr hx hb d_RK_checkOf_57 rfl ?_
                refine lv_ldc hx hb hown (hts _ wc_RK_81) d_RK_checkOf_58 ?_
                refine lv_ixor hx hb d_RK_checkOf_60 ?_
                refine lv_goto (tgt := 67) hx hb d_RK_checkOf_61 (by decide) ?_
                refine lv_topi (fun x16 ex16 => ?_)
                have hD := nm_at hD ex16
                try dsimp only at hD
                refine lv_istore_n (lv' := [(2, .int x16), (4, .int x10), (3, .int x3), (0, .ref (ad 2)), (1, .int p1)]) hx hb d_RK_checkOf_67 rfl hl (by decide) rfl (fun ls hl => ?_)
                obtain ⟨x17, ex17⟩ : ∃ y : Int32, y = x10 + (1 : Int32) := ⟨_, rfl⟩
                have hD := nm_at hD ex17
                try dsimp only at hD
                refine lv_iinc (v := x17) (lv' := [(4, .int x17), (2, .int x16), (3, .int x3), (0, .ref (ad 2)), (1, .int p1)]) hx hb d_RK_checkOf_68 hl (k := 1) rfl (by rw [ex17]; rfl) (by decide) rfl (fun ls hl => ?_)
                refine lv_goto (tgt := 42) hx hb d_RK_checkOf_71 (by decide) ?_
                exact ih x17 x16 _ _ _ _ hD hex wo (lv_sub hl [0, 1, 2, 3, 4] rfl)
        obtain ⟨res20, hr21, hD⟩ := bd_s hD
        refine lp19 F (0 : Int32) x7 _ _ _ _ hr21 (fun x18 H locs ls hz wo hl => ?_) wo (lv_sub hl [0, 1, 2, 3, 4] rfl)
        have hz := hz.symm
        subst hz
        try dsimp only at hD
        obtain ⟨x22, ex22⟩ : ∃ y : Int32, y = x3 + (1 : Int32) := ⟨_, rfl⟩
        have hD := nm_at hD ex22
        try dsimp only at hD
        refine lv_iinc (v := x22) (lv' := [(3, .int x22), (2, .int x18), (0, .ref (ad 2)), (1, .int p1)]) hx hb d_RK_checkOf_74 hl (k := 1) rfl (by rw [ex22]; rfl) (by decide) rfl (fun ls hl => ?_)
        refine lv_goto (tgt := 4) hx hb d_RK_checkOf_77 (by decide) ?_
        exact ih x22 x18 _ _ _ _ hD hex wo (lv_sub hl [0, 1, 2, 3] rfl)
  obtain ⟨res25, hr26, hD⟩ := bd_s hD
  refine lp24 F (0 : Int32) (-1 : Int32) _ _ _ _ hr26 (fun x23 H locs ls hz wo hl => ?_) wo (lv_sub hl [0, 1, 2, 3] rfl)
  have hz := hz.symm
  subst hz
  try dsimp only at hD
  refine lv_iload_n hx hb d_RK_checkOf_80 rfl (lv_at hl 0 rfl) ?_
  refine lv_iconst (v := -1) hx hb d_RK_checkOf_81 (by decide) ?_
  refine lv_ixor hx hb d_RK_checkOf_82 ?_
  cases hD
  exact t_ireti cx wo rfl rfl d_RK_checkOf_83
def D_RK_addTo_7_L2 (F : Nat) (n : Nat → Nat) (p2 : Int32) : Nat → HS → Int32 → Option (HS)
  | 0, _, _ => none
  | k3 + 1, σ1, x4 =>
      (if (8 : Int32) ≤ x4 then
        some σ1
      else
        grd (inb x4 (n 7)) (
        grd (inb ((p2 * (9 : Int32)) + x4) (n 11)) (
        grd (inb x4 (n 7)) (
        nm (stL σ1 7 (x4).toNatClampNeg ((σ1.2 7 (x4).toNatClampNeg) ^^^ (σ1.2 11 (((p2 * (9 : Int32)) + x4)).toNatClampNeg))) (fun σ9 =>
        nm (x4 + (1 : Int32)) (fun x10 =>
        D_RK_addTo_7_L2 F n p2 k3 σ9 x10))))))
def D_RK_addTo_7 (F : Nat) (n : Nat → Nat) (σ : HS) (p2 : Int32) : Option (HS) :=
(D_RK_addTo_7_L2 F n p2 F σ (0 : Int32)).bind (fun (σ11 : HS) =>
  some σ11)
set_option maxRecDepth 100000 in
set_option maxHeartbeats 4000000 in
theorem k_RK_addTo_7 (l : Launch) (E : EV) (ad n : Nat → Nat) (L : List Nat) (hL : ∀ a ∈ ([2, 7, 11] : List Nat), a ∈ L) (F : Nat) (σ σo : HS) (p2 : Int32)  (hD : D_RK_addTo_7 F n σ p2 = some σo) : CtV l E y_RK_addTo c_RK_addTo 4 none ({ frames := 0, cells := 0, slots := 0, locals := 0 }) [.ref (ad 2), .ref (ad 7), .int p2] (wl E ad n L σ) (wl E ad n L σo) := by
  refine fun sz => ent (by decide) (Nat.le_of_ble_eq_true rfl) ?_
  intro p e s m below meth c hsz cx wo ls hl
  have hx := cx.1.1
  have hb := cx.1.2.1
  have hown := cx.1.2.2.2.1
  have hts := cx.1.2.2.2.2
  have hl : lv_has ls 4 [(0, .ref (ad 2)), (1, .ref (ad 7)), (2, .int p2)] := hl
  have m2 : 2 ∈ L := hL 2 (by decide)
  have m7 : 7 ∈ L := hL 7 (by decide)
  have m11 : 11 ∈ L := hL 11 (by decide)
  rw [D_RK_addTo_7] at hD
  refine lv_iconst (v := 0) hx hb d_RK_addTo_0 (by decide) ?_
  refine lv_istore_n (lv' := [(3, .int (0 : Int32)), (0, .ref (ad 2)), (1, .ref (ad 7)), (2, .int p2)]) hx hb d_RK_addTo_1 rfl hl (by decide) rfl (fun ls hl => ?_)
  have lp12 : ∀ (k3 : Nat) (σ1 : HS) (x4 : Int32) (H : Heap) (locs : List Loc) (ls : Array Slot) (res2 : HS), D_RK_addTo_7_L2 F n p2 k3 σ1 x4 = some res2 → (∀ (σ11 : HS) (H : Heap) (locs : List Loc) (ls : Array Slot), res2 = σ11 → Wo E (va_A (wl E ad n L σ) sz) s.heap (wl E ad n L σ11) H locs → lv_has ls 4 [] → W p l e ({ frames := 0, cells := 0, slots := 0, locals := 0 }) s m ([.ref (ad 2), .ref (ad 7), .int p2] : List Value).toArray below meth c H locs 0 0 (MQ below (va_Qv (fun (_ : Unit) => True) (fun _ t => va_P E.1 cls6 (wl E ad n L σo) t.heap ∧ va_D (va_A (wl E ad n L σ) sz) (wl E ad n L σo)) (va_A (wl E ad n L σ) sz)) ([.ref (ad 2), .ref (ad 7), .int p2] : List Value).toArray s 0 0 (va_A (wl E ad n L σ) sz)) (F0 m 31 ls [])) → Wo E (va_A (wl E ad n L σ) sz) s.heap (wl E ad n L σ1) H locs → lv_has ls 4 [(3, .int x4), (0, .ref (ad 2)), (1, .ref (ad 7)), (2, .int p2)] → W p l e ({ frames := 0, cells := 0, slots := 0, locals := 0 }) s m ([.ref (ad 2), .ref (ad 7), .int p2] : List Value).toArray below meth c H locs 0 0 (MQ below (va_Qv (fun (_ : Unit) => True) (fun _ t => va_P E.1 cls6 (wl E ad n L σo) t.heap ∧ va_D (va_A (wl E ad n L σ) sz) (wl E ad n L σo)) (va_A (wl E ad n L σ) sz)) ([.ref (ad 2), .ref (ad 7), .int p2] : List Value).toArray s 0 0 (va_A (wl E ad n L σ) sz)) (F0 m 2 ls []) := by
    intro k3
    induction k3 with
    | zero =>
      intro σ1 x4 H locs ls res2 hD
      rw [D_RK_addTo_7_L2.eq_1] at hD
      cases hD
    | succ k3 ih =>
      intro σ1 x4 H locs ls res2 hD hex wo hl
      rw [D_RK_addTo_7_L2.eq_2] at hD
      refine lv_iload_n hx hb d_RK_addTo_2 rfl (lv_at hl 0 rfl) ?_
      refine lv_bipush (v := 8) hx hb d_RK_addTo_3 (by decide) ?_
      refine lv_icmp_ge (tgt := 31) hx hb d_RK_addTo_5 (by decide) (fun c5 => ?_) (fun c5 => ?_)
      · have hD := ite_p hD c5
        exact hex σ1 _ _ _ (Option.some.inj hD).symm wo (lv_sub hl [] rfl)
      · have hD := ite_n hD c5
        refine lv_aload_n hx hb d_RK_addTo_8 rfl (lv_at hl 2 rfl) ?_
        refine lv_iload_n hx hb d_RK_addTo_9 rfl (lv_at hl 0 rfl) ?_
        refine lv_dup2_11 hx hb d_RK_addTo_10 rfl rfl ?_
        obtain ⟨g6, hD⟩ := grd_s hD
        refine g_lald cx wo m7 (cel_7 E ad n σ1) g6 d_RK_addTo_11 ?_
        refine lv_aload_n hx hb d_RK_addTo_12 rfl (lv_at hl 1 rfl) ?_
        refine g_get cx wo m2 (cel_2 E ad n σ1) rfl in_RK 2 (by decide) wf_RK_28 rfl d_RK_addTo_13 ?_
        refine lv_iload_n hx hb d_RK_addTo_16 rfl (lv_at hl 3 rfl) ?_
        refine lv_bipush (v := 9) hx hb d_RK_addTo_17 (by decide) ?_
        refine lv_imul hx hb d_RK_addTo_19 ?_
        refine lv_iload_n hx hb d_RK_addTo_20 rfl (lv_at hl 0 rfl) ?_
        refine lv_iadd hx hb d_RK_addTo_21 ?_
        obtain ⟨g7, hD⟩ := grd_s hD
        refine g_lald cx wo m11 (cel_11 E ad n σ1) g7 d_RK_addTo_22 ?_
        refine lv_lxor hx hb d_RK_addTo_23 ?_
        obtain ⟨g8, hD⟩ := grd_s hD
        refine g_last cx wo m7 (cel_7 E ad n) g8 d_RK_addTo_24 (fun H locs wo => ?_)
        obtain ⟨σ9, eσ9⟩ : ∃ z, z = stL σ1 7 (x4).toNatClampNeg ((σ1.2 7 (x4).toNatClampNeg) ^^^ (σ1.2 11 (((p2 * (9 : Int32)) + x4)).toNatClampNeg)) := ⟨_, rfl⟩
        rw [← eσ9] at wo
        have hD := nm_at hD eσ9
        try dsimp only at hD
        obtain ⟨x10, ex10⟩ : ∃ y : Int32, y = x4 + (1 : Int32) := ⟨_, rfl⟩
        have hD := nm_at hD ex10
        try dsimp only at hD
        refine lv_iinc (v := x10) (lv' := [(3, .int x10), (0, .ref (ad 2)), (1, .ref (ad 7)), (2, .int p2)]) hx hb d_RK_addTo_25 hl (k := 0) rfl (by rw [ex10]; rfl) (by decide) rfl (fun ls hl => ?_)
        refine lv_goto (tgt := 2) hx hb d_RK_addTo_28 (by decide) ?_
        exact ih σ9 x10 _ _ _ _ hD hex wo (lv_sub hl [0, 1, 2, 3] rfl)
  obtain ⟨res13, hr14, hD⟩ := bd_s hD
  refine lp12 F σ (0 : Int32) _ _ _ _ hr14 (fun σ11 H locs ls hz wo hl => ?_) wo (lv_sub hl [0, 1, 2, 3] rfl)
  have hz := hz.symm
  subst hz
  try dsimp only at hD
  cases hD
  exact t_vret cx wo d_RK_addTo_31
def D_RK_countLive_L4 (F : Nat) (n : Nat → Nat) (σ : HS)  : Nat → Int32 → Int32 → Option (Int32)
  | 0, _, _ => none
  | k2 + 1, x3, x4 =>
      (if (σ.1 1 0) ≤ x3 then
        some x4
      else
        grd (inb x3 (n 10)) (
        (if (σ.1 10 (x3).toNatClampNeg) = 0 then
          nm (x3 + (1 : Int32)) (fun x8 =>
          D_RK_countLive_L4 F n σ  k2 x8 x4)
        else
          nm (x4 + (1 : Int32)) (fun x9 =>
          nm (x3 + (1 : Int32)) (fun x10 =>
          D_RK_countLive_L4 F n σ  k2 x10 x9)))))
def D_RK_countLive (F : Nat) (n : Nat → Nat) (σ : HS)  : Option (Int32) :=
(D_RK_countLive_L4 F n σ  F (0 : Int32) (0 : Int32)).bind (fun (x11 : Int32) =>
  some x11)
set_option maxRecDepth 100000 in
set_option maxHeartbeats 4000000 in
theorem k_RK_countLive (l : Launch) (E : EV) (ad n : Nat → Nat) (L : List Nat) (hL : ∀ a ∈ ([1, 2, 10] : List Nat), a ∈ L) (F : Nat) (σ  : HS)  (r : Int32) (hD : D_RK_countLive F n σ  = some r) : CtI l E y_RK_countLive c_RK_countLive 3 (some FieldType.int) ({ frames := 0, cells := 0, slots := 0, locals := 0 }) [.ref (ad 2)] (wl E ad n L σ) r (wl E ad n L σ) := by
  refine fun sz => ent (by decide) (Nat.le_of_ble_eq_true rfl) ?_
  intro p e s m below meth c hsz cx wo ls hl
  have hx := cx.1.1
  have hb := cx.1.2.1
  have hown := cx.1.2.2.2.1
  have hts := cx.1.2.2.2.2
  have hl : lv_has ls 3 [(0, .ref (ad 2))] := hl
  have m1 : 1 ∈ L := hL 1 (by decide)
  have m2 : 2 ∈ L := hL 2 (by decide)
  have m10 : 10 ∈ L := hL 10 (by decide)
  rw [D_RK_countLive] at hD
  refine lv_iconst (v := 0) hx hb d_RK_countLive_0 (by decide) ?_
  refine lv_istore_n (lv' := [(1, .int (0 : Int32)), (0, .ref (ad 2))]) hx hb d_RK_countLive_1 rfl hl (by decide) rfl (fun ls hl => ?_)
  refine lv_iconst (v := 0) hx hb d_RK_countLive_2 (by decide) ?_
  refine lv_istore_n (lv' := [(2, .int (0 : Int32)), (1, .int (0 : Int32)), (0, .ref (ad 2))]) hx hb d_RK_countLive_3 rfl hl (by decide) rfl (fun ls hl => ?_)
  have lp12 : ∀ (k2 : Nat) (x3 : Int32) (x4 : Int32) (H : Heap) (locs : List Loc) (ls : Array Slot) (res1 : Int32), D_RK_countLive_L4 F n σ  k2 x3 x4 = some res1 → (∀ (x11 : Int32) (H : Heap) (locs : List Loc) (ls : Array Slot), res1 = x11 → Wo E (va_A (wl E ad n L σ) sz) s.heap (wl E ad n L σ) H locs → lv_has ls 3 [(1, .int x11)] → W p l e ({ frames := 0, cells := 0, slots := 0, locals := 0 }) s m ([.ref (ad 2)] : List Value).toArray below meth c H locs 0 0 (MQ below (va_Qi (fun (x : Int32) (_ : Unit) => x = r) (fun _ t => va_P E.1 cls6 (wl E ad n L σ) t.heap ∧ va_D (va_A (wl E ad n L σ) sz) (wl E ad n L σ)) (va_A (wl E ad n L σ) sz)) ([.ref (ad 2)] : List Value).toArray s 0 0 (va_A (wl E ad n L σ) sz)) (F0 m 33 ls [])) → Wo E (va_A (wl E ad n L σ) sz) s.heap (wl E ad n L σ) H locs → lv_has ls 3 [(2, .int x3), (1, .int x4), (0, .ref (ad 2))] → W p l e ({ frames := 0, cells := 0, slots := 0, locals := 0 }) s m ([.ref (ad 2)] : List Value).toArray below meth c H locs 0 0 (MQ below (va_Qi (fun (x : Int32) (_ : Unit) => x = r) (fun _ t => va_P E.1 cls6 (wl E ad n L σ) t.heap ∧ va_D (va_A (wl E ad n L σ) sz) (wl E ad n L σ)) (va_A (wl E ad n L σ) sz)) ([.ref (ad 2)] : List Value).toArray s 0 0 (va_A (wl E ad n L σ) sz)) (F0 m 4 ls []) := by
    intro k2
    induction k2 with
    | zero =>
      intro x3 x4 H locs ls res1 hD
      rw [D_RK_countLive_L4.eq_1] at hD
      cases hD
    | succ k2 ih =>
      intro x3 x4 H locs ls res1 hD hex wo hl
      rw [D_RK_countLive_L4.eq_2] at hD
      refine lv_iload_n hx hb d_RK_countLive_4 rfl (lv_at hl 0 rfl) ?_
      refine lv_aload_n hx hb d_RK_countLive_5 rfl (lv_at hl 2 rfl) ?_
      refine g_get cx wo m2 (cel_2 E ad n σ) rfl in_RK 1 (by decide) wf_RK_9 rfl d_RK_countLive_6 ?_
      refine g_get cx wo m1 (cel_1 E ad n σ) rfl in_LA 0 (by decide) wf_RK_15 rfl d_RK_countLive_9 ?_
      refine lv_icmp_ge (tgt := 33) hx hb d_RK_countLive_12 (by decide) (fun c5 => ?_) (fun c5 => ?_)
      · have hD := ite_p hD c5
        exact hex x4 _ _ _ (Option.some.inj hD).symm wo (lv_sub hl [1] rfl)
      · have hD := ite_n hD c5
        refine lv_aload_n hx hb d_RK_countLive_15 rfl (lv_at hl 2 rfl) ?_
        refine g_get cx wo m2 (cel_2 E ad n σ) rfl in_RK 0 (by decide) wf_RK_21 rfl d_RK_countLive_16 ?_
        refine lv_iload_n hx hb d_RK_countLive_19 rfl (lv_at hl 0 rfl) ?_
        obtain ⟨g6, hD⟩ := grd_s hD
        refine g_zald cx wo m10 (cel_10 E ad n σ) g6 d_RK_countLive_20 ?_
        refine lv_if_eq (tgt := 27) hx hb d_RK_countLive_21 (by decide) (fun c7 => ?_) (fun c7 => ?_)
        · have hD := ite_p hD c7
          obtain ⟨x8, ex8⟩ : ∃ y : Int32, y = x3 + (1 : Int32) := ⟨_, rfl⟩
          have hD := nm_at hD ex8
          try dsimp only at hD
          refine lv_iinc (v := x8) (lv' := [(2, .int x8), (1, .int x4), (0, .ref (ad 2))]) hx hb d_RK_countLive_27 hl (k := 0) rfl (by rw [ex8]; rfl) (by decide) rfl (fun ls hl => ?_)
          refine lv_goto (tgt := 4) hx hb d_RK_countLive_30 (by decide) ?_
          exact ih x8 x4 _ _ _ _ hD hex wo (lv_sub hl [0, 1, 2] rfl)
        · have hD := ite_n hD c7
          obtain ⟨x9, ex9⟩ : ∃ y : Int32, y = x4 + (1 : Int32) := ⟨_, rfl⟩
          have hD := nm_at hD ex9
          try dsimp only at hD
          refine lv_iinc (v := x9) (lv' := [(1, .int x9), (2, .int x3), (0, .ref (ad 2))]) hx hb d_RK_countLive_24 hl (k := 1) rfl (by rw [ex9]; rfl) (by decide) rfl (fun ls hl => ?_)
          obtain ⟨x10, ex10⟩ : ∃ y : Int32, y = x3 + (1 : Int32) := ⟨_, rfl⟩
          have hD := nm_at hD ex10
          try dsimp only at hD
          refine lv_iinc (v := x10) (lv' := [(2, .int x10), (1, .int x9), (0, .ref (ad 2))]) hx hb d_RK_countLive_27 hl (k := 1) rfl (by rw [ex10]; rfl) (by decide) rfl (fun ls hl => ?_)
          refine lv_goto (tgt := 4) hx hb d_RK_countLive_30 (by decide) ?_
          exact ih x10 x9 _ _ _ _ hD hex wo (lv_sub hl [0, 1, 2] rfl)
  obtain ⟨res13, hr14, hD⟩ := bd_s hD
  refine lp12 F (0 : Int32) (0 : Int32) _ _ _ _ hr14 (fun x11 H locs ls hz wo hl => ?_) wo (lv_sub hl [0, 1, 2] rfl)
  have hz := hz.symm
  subst hz
  try dsimp only at hD
  refine lv_iload_n hx hb d_RK_countLive_33 rfl (lv_at hl 0 rfl) ?_
  cases hD
  exact t_ireti cx wo rfl rfl d_RK_countLive_34
def D_RK_isAsWritten_L2 (F : Nat) (n : Nat → Nat) (σ : HS) (p1 : Int32) : Nat → Int32 → Option ((Unit) ⊕ (Int32))
  | 0, _ => none
  | k2 + 1, x3 =>
      (if (9 : Int32) ≤ x3 then
        some (Sum.inl ())
      else
        grd (inb ((p1 * (9 : Int32)) + x3) (n 12)) (
        (if (lg_cmp (σ.2 12 (((p1 * (9 : Int32)) + x3)).toNatClampNeg) (0 : Int64)) = 0 then
          nm (x3 + (1 : Int32)) (fun x7 =>
          D_RK_isAsWritten_L2 F n σ p1 k2 x7)
        else
          some (Sum.inr (0 : Int32)))))
def D_RK_isAsWritten (F : Nat) (n : Nat → Nat) (σ : HS) (p1 : Int32) : Option (Int32) :=
(D_RK_isAsWritten_L2 F n σ p1 F (0 : Int32)).bind (fun q11 => match q11 with
    | Sum.inl _ =>
      some (1 : Int32)
    | Sum.inr z => some z)
set_option maxRecDepth 100000 in
set_option maxHeartbeats 4000000 in
theorem k_RK_isAsWritten (l : Launch) (E : EV) (ad n : Nat → Nat) (L : List Nat) (hL : ∀ a ∈ ([2, 12] : List Nat), a ∈ L) (F : Nat) (σ  : HS) (p1 : Int32) (r : Int32) (hD : D_RK_isAsWritten F n σ p1 = some r) : CtI l E y_RK_isAsWritten c_RK_isAsWritten 3 (some FieldType.boolean) ({ frames := 0, cells := 0, slots := 0, locals := 0 }) [.ref (ad 2), .int p1] (wl E ad n L σ) r (wl E ad n L σ) := by
  refine fun sz => ent (by decide) (Nat.le_of_ble_eq_true rfl) ?_
  intro p e s m below meth c hsz cx wo ls hl
  have hx := cx.1.1
  have hb := cx.1.2.1
  have hown := cx.1.2.2.2.1
  have hts := cx.1.2.2.2.2
  have hl : lv_has ls 3 [(0, .ref (ad 2)), (1, .int p1)] := hl
  have m2 : 2 ∈ L := hL 2 (by decide)
  have m12 : 12 ∈ L := hL 12 (by decide)
  rw [D_RK_isAsWritten] at hD
  refine lv_iconst (v := 0) hx hb d_RK_isAsWritten_0 (by decide) ?_
  refine lv_istore_n (lv' := [(2, .int (0 : Int32)), (0, .ref (ad 2)), (1, .int p1)]) hx hb d_RK_isAsWritten_1 rfl hl (by decide) rfl (fun ls hl => ?_)
  have lp8 : ∀ (k2 : Nat) (x3 : Int32) (H : Heap) (locs : List Loc) (ls : Array Slot) (res1 : (Unit) ⊕ (Int32)), D_RK_isAsWritten_L2 F n σ p1 k2 x3 = some res1 → (∀ z, res1 = Sum.inr z → r = z) → (∀  (H : Heap) (locs : List Loc) (ls : Array Slot), res1 = Sum.inl () → Wo E (va_A (wl E ad n L σ) sz) s.heap (wl E ad n L σ) H locs → lv_has ls 3 [] → W p l e ({ frames := 0, cells := 0, slots := 0, locals := 0 }) s m ([.ref (ad 2), .int p1] : List Value).toArray below meth c H locs 0 0 (MQ below (va_Qi (fun (x : Int32) (_ : Unit) => x = r) (fun _ t => va_P E.1 cls6 (wl E ad n L σ) t.heap ∧ va_D (va_A (wl E ad n L σ) sz) (wl E ad n L σ)) (va_A (wl E ad n L σ) sz)) ([.ref (ad 2), .int p1] : List Value).toArray s 0 0 (va_A (wl E ad n L σ) sz)) (F0 m 32 ls [])) → Wo E (va_A (wl E ad n L σ) sz) s.heap (wl E ad n L σ) H locs → lv_has ls 3 [(2, .int x3), (0, .ref (ad 2)), (1, .int p1)] → W p l e ({ frames := 0, cells := 0, slots := 0, locals := 0 }) s m ([.ref (ad 2), .int p1] : List Value).toArray below meth c H locs 0 0 (MQ below (va_Qi (fun (x : Int32) (_ : Unit) => x = r) (fun _ t => va_P E.1 cls6 (wl E ad n L σ) t.heap ∧ va_D (va_A (wl E ad n L σ) sz) (wl E ad n L σ)) (va_A (wl E ad n L σ) sz)) ([.ref (ad 2), .int p1] : List Value).toArray s 0 0 (va_A (wl E ad n L σ) sz)) (F0 m 2 ls []) := by
    intro k2
    induction k2 with
    | zero =>
      intro x3 H locs ls res1 hD
      rw [D_RK_isAsWritten_L2.eq_1] at hD
      cases hD
    | succ k2 ih =>
      intro x3 H locs ls res1 hD hret hex wo hl
      rw [D_RK_isAsWritten_L2.eq_2] at hD
      refine lv_iload_n hx hb d_RK_isAsWritten_2 rfl (lv_at hl 0 rfl) ?_
      refine lv_bipush (v := 9) hx hb d_RK_isAsWritten_3 (by decide) ?_
      refine lv_icmp_ge (tgt := 32) hx hb d_RK_isAsWritten_5 (by decide) (fun c4 => ?_) (fun c4 => ?_)
      · have hD := ite_p hD c4
        exact hex  _ _ _ (Option.some.inj hD).symm wo (lv_sub hl [] rfl)
      · have hD := ite_n hD c4
        refine lv_aload_n hx hb d_RK_isAsWritten_8 rfl (lv_at hl 1 rfl) ?_
        refine g_get cx wo m2 (cel_2 E ad n σ) rfl in_RK 3 (by decide) wf_RK_32 rfl d_RK_isAsWritten_9 ?_
        refine lv_iload_n hx hb d_RK_isAsWritten_12 rfl (lv_at hl 2 rfl) ?_
        refine lv_bipush (v := 9) hx hb d_RK_isAsWritten_13 (by decide) ?_
        refine lv_imul hx hb d_RK_isAsWritten_15 ?_
        refine lv_iload_n hx hb d_RK_isAsWritten_16 rfl (lv_at hl 0 rfl) ?_
        refine lv_iadd hx hb d_RK_isAsWritten_17 ?_
        obtain ⟨g5, hD⟩ := grd_s hD
        refine g_lald cx wo m12 (cel_12 E ad n σ) g5 d_RK_isAsWritten_18 ?_
        refine lv_lconst (v := 0) hx hb d_RK_isAsWritten_19 (by decide) ?_
        refine W.lcmp hx hb d_RK_isAsWritten_20 ?_
        refine lv_if_eq (tgt := 26) hx hb d_RK_isAsWritten_21 (by decide) (fun c6 => ?_) (fun c6 => ?_)
        · have hD := ite_p hD c6
          obtain ⟨x7, ex7⟩ : ∃ y : Int32, y = x3 + (1 : Int32) := ⟨_, rfl⟩
          have hD := nm_at hD ex7
          try dsimp only at hD
          refine lv_iinc (v := x7) (lv' := [(2, .int x7), (0, .ref (ad 2)), (1, .int p1)]) hx hb d_RK_isAsWritten_26 hl (k := 0) rfl (by rw [ex7]; rfl) (by decide) rfl (fun ls hl => ?_)
          refine lv_goto (tgt := 2) hx hb d_RK_isAsWritten_29 (by decide) ?_
          exact ih x7 _ _ _ _ hD hret hex wo (lv_sub hl [0, 1, 2] rfl)
        · have hD := ite_n hD c6
          refine lv_iconst (v := 0) hx hb d_RK_isAsWritten_24 (by decide) ?_
          have hz := hret _ (Option.some.inj hD).symm
          cases hz
          exact t_ireti cx wo rfl rfl d_RK_isAsWritten_25
  obtain ⟨res9, hr10, hD⟩ := bd_s hD
  refine lp8 F (0 : Int32) _ _ _ _ hr10 (fun z hz => by subst hz; exact (Option.some.inj hD).symm) (fun  H locs ls hz wo hl => ?_) wo (lv_sub hl [0, 1, 2] rfl)
  subst hz
  try dsimp only at hD
  refine lv_iconst (v := 1) hx hb d_RK_isAsWritten_32 (by decide) ?_
  cases hD
  exact t_ireti cx wo rfl rfl d_RK_isAsWritten_33
def D_RK_storeLike (F : Nat) (n : Nat → Nat) (σ : HS) (p1 : Int32) (p2 : Int32) : Option (HS) :=
grd (cpok (p1 * (9 : Int32)) (p2 * (9 : Int32)) (9 : Int32) (n 11) (n 11)) (
  nm (cpL σ 11 ((p1 * (9 : Int32))).toNatClampNeg 11 ((p2 * (9 : Int32))).toNatClampNeg ((9 : Int32)).toNatClampNeg) (fun σ2 =>
  grd (inb p2 (n 13)) (
  nm (stI σ2 13 (p2).toNatClampNeg (vp_nar .boolean (1 : Int32))) (fun σ4 =>
  grd (inb p2 (n 14)) (
  nm (stI σ4 14 (p2).toNatClampNeg (vp_nar .boolean (1 : Int32))) (fun σ6 =>
  some σ6))))))
set_option maxRecDepth 100000 in
set_option maxHeartbeats 4000000 in
theorem k_RK_storeLike (l : Launch) (E : EV) (ad n : Nat → Nat) (L : List Nat) (hL : ∀ a ∈ ([2, 11, 13, 14] : List Nat), a ∈ L) (F : Nat) (σ σo : HS) (p1 : Int32) (p2 : Int32)  (hD : D_RK_storeLike F n σ p1 p2 = some σo) : CtV l E y_RK_storeLike c_RK_storeLike 3 none ({ frames := 1, cells := 0, slots := 0, locals := 48 }) [.ref (ad 2), .int p1, .int p2] (wl E ad n L σ) (wl E ad n L σo) := by
  refine fun sz => ent (by decide) (Nat.le_of_ble_eq_true rfl) ?_
  intro p e s m below meth c hsz cx wo ls hl
  have hx := cx.1.1
  have hb := cx.1.2.1
  have hown := cx.1.2.2.2.1
  have hts := cx.1.2.2.2.2
  have hl : lv_has ls 3 [(0, .ref (ad 2)), (1, .int p1), (2, .int p2)] := hl
  have m2 : 2 ∈ L := hL 2 (by decide)
  have m11 : 11 ∈ L := hL 11 (by decide)
  have m13 : 13 ∈ L := hL 13 (by decide)
  have m14 : 14 ∈ L := hL 14 (by decide)
  rw [D_RK_storeLike] at hD
  refine lv_aload_n hx hb d_RK_storeLike_0 rfl (lv_at hl 0 rfl) ?_
  refine g_get cx wo m2 (cel_2 E ad n σ) rfl in_RK 2 (by decide) wf_RK_28 rfl d_RK_storeLike_1 ?_
  refine lv_iload_n hx hb d_RK_storeLike_4 rfl (lv_at hl 1 rfl) ?_
  refine lv_bipush (v := 9) hx hb d_RK_storeLike_5 (by decide) ?_
  refine lv_imul hx hb d_RK_storeLike_7 ?_
  refine lv_aload_n hx hb d_RK_storeLike_8 rfl (lv_at hl 0 rfl) ?_
  refine g_get cx wo m2 (cel_2 E ad n σ) rfl in_RK 2 (by decide) wf_RK_28 rfl d_RK_storeLike_9 ?_
  refine lv_iload_n hx hb d_RK_storeLike_12 rfl (lv_at hl 2 rfl) ?_
  refine lv_bipush (v := 9) hx hb d_RK_storeLike_13 (by decide) ?_
  refine lv_imul hx hb d_RK_storeLike_15 ?_
  refine lv_bipush (v := 9) hx hb d_RK_storeLike_16 (by decide) ?_
  obtain ⟨g1, hD⟩ := grd_s hD
  refine g_cpJ cx wo m11 m11 (cel_11 E ad n) (cel_11 E ad n) g1 wm_RK_70 hl.1 (by decide) (Nat.le_of_ble_eq_true rfl) d_RK_storeLike_18 (fun H locs wo => ?_)
  obtain ⟨σ2, eσ2⟩ : ∃ z, z = cpL σ 11 ((p1 * (9 : Int32))).toNatClampNeg 11 ((p2 * (9 : Int32))).toNatClampNeg ((9 : Int32)).toNatClampNeg := ⟨_, rfl⟩
  rw [← eσ2] at wo
  have hD := nm_at hD eσ2
  try dsimp only at hD
  refine lv_aload_n hx hb d_RK_storeLike_21 rfl (lv_at hl 0 rfl) ?_
  refine g_get cx wo m2 (cel_2 E ad n σ2) rfl in_RK 4 (by decide) wf_RK_35 rfl d_RK_storeLike_22 ?_
  refine lv_iload_n hx hb d_RK_storeLike_25 rfl (lv_at hl 2 rfl) ?_
  refine lv_iconst (v := 1) hx hb d_RK_storeLike_26 (by decide) ?_
  obtain ⟨g3, hD⟩ := grd_s hD
  refine g_zast cx wo m13 (cel_13 E ad n) g3 d_RK_storeLike_27 (fun H locs wo => ?_)
  obtain ⟨σ4, eσ4⟩ : ∃ z, z = stI σ2 13 (p2).toNatClampNeg (vp_nar .boolean (1 : Int32)) := ⟨_, rfl⟩
  rw [← eσ4] at wo
  have hD := nm_at hD eσ4
  try dsimp only at hD
  refine lv_aload_n hx hb d_RK_storeLike_28 rfl (lv_at hl 0 rfl) ?_
  refine g_get cx wo m2 (cel_2 E ad n σ4) rfl in_RK 5 (by decide) wf_RK_38 rfl d_RK_storeLike_29 ?_
  refine lv_iload_n hx hb d_RK_storeLike_32 rfl (lv_at hl 2 rfl) ?_
  refine lv_iconst (v := 1) hx hb d_RK_storeLike_33 (by decide) ?_
  obtain ⟨g5, hD⟩ := grd_s hD
  refine g_zast cx wo m14 (cel_14 E ad n) g5 d_RK_storeLike_34 (fun H locs wo => ?_)
  obtain ⟨σ6, eσ6⟩ : ∃ z, z = stI σ4 14 (p2).toNatClampNeg (vp_nar .boolean (1 : Int32)) := ⟨_, rfl⟩
  rw [← eσ6] at wo
  have hD := nm_at hD eσ6
  try dsimp only at hD
  cases hD
  exact t_vret cx wo d_RK_storeLike_35
def D_RK_removeDisk_L19 (F : Nat) (n : Nat → Nat) (p1 : Int32) : Nat → HS → Int32 → Option (HS)
  | 0, _, _ => none
  | k6 + 1, σ4, x7 =>
      (D_LA_logOf F n σ4 p1).bind (fun (x8 : Int32) =>
      (if x8 < x7 then
        some σ4
      else
        grd (inb x7 (n 13)) (
        nm (stI σ4 13 (x7).toNatClampNeg (vp_nar .boolean (0 : Int32))) (fun σ11 =>
        grd (inb x7 (n 14)) (
        nm (stI σ11 14 (x7).toNatClampNeg (vp_nar .boolean (0 : Int32))) (fun σ13 =>
        nm (x7 + (1 : Int32)) (fun x14 =>
        D_RK_removeDisk_L19 F n p1 k6 σ13 x14)))))))
def D_RK_removeDisk (F : Nat) (n : Nat → Nat) (σ : HS) (p1 : Int32) : Option (HS) :=
grd (inb p1 (n 10)) (
  nm (stI σ 10 (p1).toNatClampNeg (vp_nar .boolean (0 : Int32))) (fun σ2 =>
  (D_LA_cell F n σ2 p1 (0 : Int32)).bind (fun (x3 : Int32) =>
  (D_RK_removeDisk_L19 F n p1 F σ2 x3).bind (fun (σ15 : HS) =>
  some σ15))))
set_option maxRecDepth 100000 in
set_option maxHeartbeats 4000000 in
theorem k_RK_removeDisk (l : Launch) (E : EV) (ad n : Nat → Nat) (L : List Nat) (hL : ∀ a ∈ ([1, 2, 10, 13, 14] : List Nat), a ∈ L) (F : Nat) (σ σo : HS) (p1 : Int32)  (hD : D_RK_removeDisk F n σ p1 = some σo) : CtV l E y_RK_removeDisk c_RK_removeDisk 4 none ({ frames := 2, cells := 0, slots := 0, locals := 43 }) [.ref (ad 2), .int p1] (wl E ad n L σ) (wl E ad n L σo) := by
  refine fun sz => ent (by decide) (Nat.le_of_ble_eq_true rfl) ?_
  intro p e s m below meth c hsz cx wo ls hl
  have hx := cx.1.1
  have hb := cx.1.2.1
  have hown := cx.1.2.2.2.1
  have hts := cx.1.2.2.2.2
  have hl : lv_has ls 4 [(0, .ref (ad 2)), (1, .int p1)] := hl
  have m1 : 1 ∈ L := hL 1 (by decide)
  have m2 : 2 ∈ L := hL 2 (by decide)
  have m10 : 10 ∈ L := hL 10 (by decide)
  have m13 : 13 ∈ L := hL 13 (by decide)
  have m14 : 14 ∈ L := hL 14 (by decide)
  rw [D_RK_removeDisk] at hD
  refine lv_aload_n hx hb d_RK_removeDisk_0 rfl (lv_at hl 0 rfl) ?_
  refine g_get cx wo m2 (cel_2 E ad n σ) rfl in_RK 0 (by decide) wf_RK_21 rfl d_RK_removeDisk_1 ?_
  refine lv_iload_n hx hb d_RK_removeDisk_4 rfl (lv_at hl 1 rfl) ?_
  refine lv_iconst (v := 0) hx hb d_RK_removeDisk_5 (by decide) ?_
  obtain ⟨g1, hD⟩ := grd_s hD
  refine g_zast cx wo m10 (cel_10 E ad n) g1 d_RK_removeDisk_6 (fun H locs wo => ?_)
  obtain ⟨σ2, eσ2⟩ : ∃ z, z = stI σ 10 (p1).toNatClampNeg (vp_nar .boolean (0 : Int32)) := ⟨_, rfl⟩
  rw [← eσ2] at wo
  have hD := nm_at hD eσ2
  try dsimp only at hD
  refine lv_aload_n hx hb d_RK_removeDisk_7 rfl (lv_at hl 0 rfl) ?_
  refine g_get cx wo m2 (cel_2 E ad n σ2) rfl in_RK 1 (by decide) wf_RK_9 rfl d_RK_removeDisk_8 ?_
  refine lv_iload_n hx hb d_RK_removeDisk_11 rfl (lv_at hl 1 rfl) ?_
  refine lv_iconst (v := 0) hx hb d_RK_removeDisk_12 (by decide) ?_
  obtain ⟨x3, hcx3, hD⟩ := bd_s hD
  try dsimp only [nm2] at hD
  refine call_Vi cx wo (k_LA_cell l E ad n L (fun a h => hL a ((by decide : ∀ a ∈ ([1] : List Nat), a ∈ ([1, 2, 10, 13, 14] : List Nat)) a h)) F σ2  p1 (0 : Int32) x3 hcx3) m1 (cel_1 E ad n σ2) rfl rfl mw_LA_cell wm_RK_86 ⟨by decide, by decide⟩ ⟨by decide, by decide⟩ hl.1 rfl (Nat.le_of_ble_eq_true rfl) d_RK_removeDisk_13 (fun H locs wo => ?_)
  refine lv_istore_n (lv' := [(2, .int x3), (0, .ref (ad 2)), (1, .int p1)]) hx hb d_RK_removeDisk_16 rfl hl (by decide) rfl (fun ls hl => ?_)
  refine lv_iload_n hx hb d_RK_removeDisk_17 rfl (lv_at hl 0 rfl) ?_
  refine lv_istore_n (lv' := [(3, .int x3), (2, .int x3), (0, .ref (ad 2)), (1, .int p1)]) hx hb d_RK_removeDisk_18 rfl hl (by decide) rfl (fun ls hl => ?_)
  have lp16 : ∀ (k6 : Nat) (σ4 : HS) (x7 : Int32) (H : Heap) (locs : List Loc) (ls : Array Slot) (res5 : HS), D_RK_removeDisk_L19 F n p1 k6 σ4 x7 = some res5 → (∀ (σ15 : HS) (H : Heap) (locs : List Loc) (ls : Array Slot), res5 = σ15 → Wo E (va_A (wl E ad n L σ) sz) s.heap (wl E ad n L σ15) H locs → lv_has ls 4 [] → W p l e ({ frames := 2, cells := 0, slots := 0, locals := 43 }) s m ([.ref (ad 2), .int p1] : List Value).toArray below meth c H locs 0 0 (MQ below (va_Qv (fun (_ : Unit) => True) (fun _ t => va_P E.1 cls6 (wl E ad n L σo) t.heap ∧ va_D (va_A (wl E ad n L σ) sz) (wl E ad n L σo)) (va_A (wl E ad n L σ) sz)) ([.ref (ad 2), .int p1] : List Value).toArray s 0 0 (va_A (wl E ad n L σ) sz)) (F0 m 51 ls [])) → Wo E (va_A (wl E ad n L σ) sz) s.heap (wl E ad n L σ4) H locs → lv_has ls 4 [(3, .int x7), (0, .ref (ad 2)), (1, .int p1)] → W p l e ({ frames := 2, cells := 0, slots := 0, locals := 43 }) s m ([.ref (ad 2), .int p1] : List Value).toArray below meth c H locs 0 0 (MQ below (va_Qv (fun (_ : Unit) => True) (fun _ t => va_P E.1 cls6 (wl E ad n L σo) t.heap ∧ va_D (va_A (wl E ad n L σ) sz) (wl E ad n L σo)) (va_A (wl E ad n L σ) sz)) ([.ref (ad 2), .int p1] : List Value).toArray s 0 0 (va_A (wl E ad n L σ) sz)) (F0 m 19 ls []) := by
    intro k6
    induction k6 with
    | zero =>
      intro σ4 x7 H locs ls res5 hD
      rw [D_RK_removeDisk_L19.eq_1] at hD
      cases hD
    | succ k6 ih =>
      intro σ4 x7 H locs ls res5 hD hex wo hl
      rw [D_RK_removeDisk_L19.eq_2] at hD
      refine lv_iload_n hx hb d_RK_removeDisk_19 rfl (lv_at hl 0 rfl) ?_
      refine lv_aload_n hx hb d_RK_removeDisk_20 rfl (lv_at hl 1 rfl) ?_
      refine g_get cx wo m2 (cel_2 E ad n σ4) rfl in_RK 1 (by decide) wf_RK_9 rfl d_RK_removeDisk_21 ?_
      refine lv_iload_n hx hb d_RK_removeDisk_24 rfl (lv_at hl 2 rfl) ?_
      obtain ⟨x8, hcx8, hD⟩ := bd_s hD
      try dsimp only [nm2] at hD
      refine call_Vi cx wo (k_LA_logOf l E ad n L (fun a h => hL a ((by decide : ∀ a ∈ ([1] : List Nat), a ∈ ([1, 2, 10, 13, 14] : List Nat)) a h)) F σ4  p1 x8 hcx8) m1 (cel_1 E ad n σ4) rfl rfl mw_LA_logOf wm_RK_66 ⟨by decide, by decide⟩ ⟨by decide, by decide⟩ hl.1 rfl (Nat.le_of_ble_eq_true rfl) d_RK_removeDisk_25 (fun H locs wo => ?_)
      refine lv_icmp_gt (tgt := 51) hx hb d_RK_removeDisk_28 (by decide) (fun c9 => ?_) (fun c9 => ?_)
      · have hD := ite_p hD c9
        exact hex σ4 _ _ _ (Option.some.inj hD).symm wo (lv_sub hl [] rfl)
      · have hD := ite_n hD c9
        refine lv_aload_n hx hb d_RK_removeDisk_31 rfl (lv_at hl 1 rfl) ?_
        refine g_get cx wo m2 (cel_2 E ad n σ4) rfl in_RK 4 (by decide) wf_RK_35 rfl d_RK_removeDisk_32 ?_
        refine lv_iload_n hx hb d_RK_removeDisk_35 rfl (lv_at hl 0 rfl) ?_
        refine lv_iconst (v := 0) hx hb d_RK_removeDisk_36 (by decide) ?_
        obtain ⟨g10, hD⟩ := grd_s hD
        refine g_zast cx wo m13 (cel_13 E ad n) g10 d_RK_removeDisk_37 (fun H locs wo => ?_)
        obtain ⟨σ11, eσ11⟩ : ∃ z, z = stI σ4 13 (x7).toNatClampNeg (vp_nar .boolean (0 : Int32)) := ⟨_, rfl⟩
        rw [← eσ11] at wo
        have hD := nm_at hD eσ11
        try dsimp only at hD
        refine lv_aload_n hx hb d_RK_removeDisk_38 rfl (lv_at hl 1 rfl) ?_
        refine g_get cx wo m2 (cel_2 E ad n σ11) rfl in_RK 5 (by decide) wf_RK_38 rfl d_RK_removeDisk_39 ?_
        refine lv_iload_n hx hb d_RK_removeDisk_42 rfl (lv_at hl 0 rfl) ?_
        refine lv_iconst (v := 0) hx hb d_RK_removeDisk_43 (by decide) ?_
        obtain ⟨g12, hD⟩ := grd_s hD
        refine g_zast cx wo m14 (cel_14 E ad n) g12 d_RK_removeDisk_44 (fun H locs wo => ?_)
        obtain ⟨σ13, eσ13⟩ : ∃ z, z = stI σ11 14 (x7).toNatClampNeg (vp_nar .boolean (0 : Int32)) := ⟨_, rfl⟩
        rw [← eσ13] at wo
        have hD := nm_at hD eσ13
        try dsimp only at hD
        obtain ⟨x14, ex14⟩ : ∃ y : Int32, y = x7 + (1 : Int32) := ⟨_, rfl⟩
        have hD := nm_at hD ex14
        try dsimp only at hD
        refine lv_iinc (v := x14) (lv' := [(3, .int x14), (0, .ref (ad 2)), (1, .int p1)]) hx hb d_RK_removeDisk_45 hl (k := 0) rfl (by rw [ex14]; rfl) (by decide) rfl (fun ls hl => ?_)
        refine lv_goto (tgt := 19) hx hb d_RK_removeDisk_48 (by decide) ?_
        exact ih σ13 x14 _ _ _ _ hD hex wo (lv_sub hl [0, 1, 2] rfl)
  obtain ⟨res17, hr18, hD⟩ := bd_s hD
  refine lp16 F σ2 x3 _ _ _ _ hr18 (fun σ15 H locs ls hz wo hl => ?_) wo (lv_sub hl [0, 2, 3] rfl)
  have hz := hz.symm
  subst hz
  try dsimp only at hD
  cases hD
  exact t_vret cx wo d_RK_removeDisk_51
def D_SF_xorBytes_11_L3 (F : Nat) (n : Nat → Nat) (p1 : Int32) (p2 : Int32) (p3 : Int32) (p4 : Int64) : Nat → HS → Int32 → Option (HS)
  | 0, _, _ => none
  | k3 + 1, σ1, x4 =>
      (if p3 ≤ x4 then
        some σ1
      else
        nm (((p4).toUInt64 >>> ((((8 : Int32) * x4)).toInt64.toUInt64 &&& Int64.toUInt64 63)).toInt64 &&& (255 : Int64)) (fun x6 =>
        grd (inb (p1 + (((p2 + x4)).toUInt32 >>> (((3 : Int32)).toUInt32 &&& Int32.toUInt32 31)).toInt32) (n 11)) (
        grd (inb (p1 + (((p2 + x4)).toUInt32 >>> (((3 : Int32)).toUInt32 &&& Int32.toUInt32 31)).toInt32) (n 11)) (
        nm (stL σ1 11 ((p1 + (((p2 + x4)).toUInt32 >>> (((3 : Int32)).toUInt32 &&& Int32.toUInt32 31)).toInt32)).toNatClampNeg ((σ1.2 11 ((p1 + (((p2 + x4)).toUInt32 >>> (((3 : Int32)).toUInt32 &&& Int32.toUInt32 31)).toInt32)).toNatClampNeg) ^^^ (x6 <<< ((((8 : Int32) * ((p2 + x4) &&& (7 : Int32)))).toInt64 &&& 63)))) (fun σ9 =>
        nm (x4 + (1 : Int32)) (fun x10 =>
        D_SF_xorBytes_11_L3 F n p1 p2 p3 p4 k3 σ9 x10))))))
def D_SF_xorBytes_11 (F : Nat) (n : Nat → Nat) (σ : HS) (p1 : Int32) (p2 : Int32) (p3 : Int32) (p4 : Int64) : Option (HS) :=
(D_SF_xorBytes_11_L3 F n p1 p2 p3 p4 F σ (0 : Int32)).bind (fun (σ11 : HS) =>
  some σ11)
set_option maxRecDepth 100000 in
set_option maxHeartbeats 4000000 in
theorem k_SF_xorBytes_11 (l : Launch) (E : EV) (ad n : Nat → Nat) (L : List Nat) (hL : ∀ a ∈ ([11] : List Nat), a ∈ L) (F : Nat) (σ σo : HS) (p1 : Int32) (p2 : Int32) (p3 : Int32) (p4 : Int64)  (hD : D_SF_xorBytes_11 F n σ p1 p2 p3 p4 = some σo) : CtV l E y_SF_xorBytes c_SF_xorBytes 9 none ({ frames := 0, cells := 0, slots := 0, locals := 0 }) [.ref (ad 11), .int p1, .int p2, .int p3, .long p4] (wl E ad n L σ) (wl E ad n L σo) := by
  refine fun sz => ent (by decide) (Nat.le_of_ble_eq_true rfl) ?_
  intro p e s m below meth c hsz cx wo ls hl
  have hx := cx.1.1
  have hb := cx.1.2.1
  have hown := cx.1.2.2.2.1
  have hts := cx.1.2.2.2.2
  have hl : lv_has ls 9 [(0, .ref (ad 11)), (1, .int p1), (2, .int p2), (3, .int p3), (4, .long p4)] := hl
  have m11 : 11 ∈ L := hL 11 (by decide)
  rw [D_SF_xorBytes_11] at hD
  refine lv_iconst (v := 0) hx hb d_SF_xorBytes_0 (by decide) ?_
  refine lv_istore (lv' := [(6, .int (0 : Int32)), (0, .ref (ad 11)), (1, .int p1), (2, .int p2), (3, .int p3), (4, .long p4)]) hx hb d_SF_xorBytes_1 hl (by decide) rfl (fun ls hl => ?_)
  have lp12 : ∀ (k3 : Nat) (σ1 : HS) (x4 : Int32) (H : Heap) (locs : List Loc) (ls : Array Slot) (res2 : HS), D_SF_xorBytes_11_L3 F n p1 p2 p3 p4 k3 σ1 x4 = some res2 → (∀ (σ11 : HS) (H : Heap) (locs : List Loc) (ls : Array Slot), res2 = σ11 → Wo E (va_A (wl E ad n L σ) sz) s.heap (wl E ad n L σ11) H locs → lv_has ls 9 [] → W p l e ({ frames := 0, cells := 0, slots := 0, locals := 0 }) s m ([.ref (ad 11), .int p1, .int p2, .int p3, .long p4] : List Value).toArray below meth c H locs 0 0 (MQ below (va_Qv (fun (_ : Unit) => True) (fun _ t => va_P E.1 cls6 (wl E ad n L σo) t.heap ∧ va_D (va_A (wl E ad n L σ) sz) (wl E ad n L σo)) (va_A (wl E ad n L σ) sz)) ([.ref (ad 11), .int p1, .int p2, .int p3, .long p4] : List Value).toArray s 0 0 (va_A (wl E ad n L σ) sz)) (F0 m 55 ls [])) → Wo E (va_A (wl E ad n L σ) sz) s.heap (wl E ad n L σ1) H locs → lv_has ls 9 [(6, .int x4), (0, .ref (ad 11)), (1, .int p1), (2, .int p2), (3, .int p3), (4, .long p4)] → W p l e ({ frames := 0, cells := 0, slots := 0, locals := 0 }) s m ([.ref (ad 11), .int p1, .int p2, .int p3, .long p4] : List Value).toArray below meth c H locs 0 0 (MQ below (va_Qv (fun (_ : Unit) => True) (fun _ t => va_P E.1 cls6 (wl E ad n L σo) t.heap ∧ va_D (va_A (wl E ad n L σ) sz) (wl E ad n L σo)) (va_A (wl E ad n L σ) sz)) ([.ref (ad 11), .int p1, .int p2, .int p3, .long p4] : List Value).toArray s 0 0 (va_A (wl E ad n L σ) sz)) (F0 m 3 ls []) := by
    intro k3
    induction k3 with
    | zero =>
      intro σ1 x4 H locs ls res2 hD
      rw [D_SF_xorBytes_11_L3.eq_1] at hD
      cases hD
    | succ k3 ih =>
      intro σ1 x4 H locs ls res2 hD hex wo hl
      rw [D_SF_xorBytes_11_L3.eq_2] at hD
      refine lv_iload hx hb d_SF_xorBytes_3 (lv_at hl 0 rfl) ?_
      refine lv_iload_n hx hb d_SF_xorBytes_5 rfl (lv_at hl 4 rfl) ?_
      refine lv_icmp_ge (tgt := 55) hx hb d_SF_xorBytes_6 (by decide) (fun c5 => ?_) (fun c5 => ?_)
      · have hD := ite_p hD c5
        exact hex σ1 _ _ _ (Option.some.inj hD).symm wo (lv_sub hl [] rfl)
      · have hD := ite_n hD c5
        refine lv_lload hx hb d_SF_xorBytes_9 (lv_at hl 5 rfl) ?_
        refine lv_bipush (v := 8) hx hb d_SF_xorBytes_11 (by decide) ?_
        refine lv_iload hx hb d_SF_xorBytes_13 (lv_at hl 0 rfl) ?_
        refine lv_imul hx hb d_SF_xorBytes_15 ?_
        refine lv_lushr hx hb d_SF_xorBytes_16 rfl ?_
        refine lv_ldc2 hx hb hown (hts _ wj_SF_329) d_SF_xorBytes_17 ?_
        refine lv_land hx hb d_SF_xorBytes_20 ?_
        refine lv_topl (fun x6 ex6 => ?_)
        have hD := nm_at hD ex6
        try dsimp only at hD
        refine lv_lstore (lv' := [(7, .long x6), (6, .int x4), (0, .ref (ad 11)), (1, .int p1), (2, .int p2), (3, .int p3), (4, .long p4)]) hx hb d_SF_xorBytes_21 hl (by decide) rfl (fun ls hl => ?_)
        refine lv_aload_n hx hb d_SF_xorBytes_23 rfl (lv_at hl 2 rfl) ?_
        refine lv_iload_n hx hb d_SF_xorBytes_24 rfl (lv_at hl 3 rfl) ?_
        refine lv_iload_n hx hb d_SF_xorBytes_25 rfl (lv_at hl 4 rfl) ?_
        refine lv_iload hx hb d_SF_xorBytes_26 (lv_at hl 1 rfl) ?_
        refine lv_iadd hx hb d_SF_xorBytes_28 ?_
        refine lv_iconst (v := 3) hx hb d_SF_xorBytes_29 (by decide) ?_
        refine lv_iushr hx hb d_SF_xorBytes_30 rfl ?_
        refine lv_iadd hx hb d_SF_xorBytes_31 ?_
        refine lv_dup2_11 hx hb d_SF_xorBytes_32 rfl rfl ?_
        obtain ⟨g7, hD⟩ := grd_s hD
        refine g_lald cx wo m11 (cel_11 E ad n σ1) g7 d_SF_xorBytes_33 ?_
        refine lv_lload hx hb d_SF_xorBytes_34 (lv_at hl 0 rfl) ?_
        refine lv_bipush (v := 8) hx hb d_SF_xorBytes_36 (by decide) ?_
        refine lv_iload_n hx hb d_SF_xorBytes_38 rfl (lv_at hl 4 rfl) ?_
        refine lv_iload hx hb d_SF_xorBytes_39 (lv_at hl 1 rfl) ?_
        refine lv_iadd hx hb d_SF_xorBytes_41 ?_
        refine lv_bipush (v := 7) hx hb d_SF_xorBytes_42 (by decide) ?_
        refine lv_iand hx hb d_SF_xorBytes_44 ?_
        refine lv_imul hx hb d_SF_xorBytes_45 ?_
        refine lv_lshl hx hb d_SF_xorBytes_46 rfl ?_
        refine lv_lxor hx hb d_SF_xorBytes_47 ?_
        obtain ⟨g8, hD⟩ := grd_s hD
        refine g_last cx wo m11 (cel_11 E ad n) g8 d_SF_xorBytes_48 (fun H locs wo => ?_)
        obtain ⟨σ9, eσ9⟩ : ∃ z, z = stL σ1 11 ((p1 + (((p2 + x4)).toUInt32 >>> (((3 : Int32)).toUInt32 &&& Int32.toUInt32 31)).toInt32)).toNatClampNeg ((σ1.2 11 ((p1 + (((p2 + x4)).toUInt32 >>> (((3 : Int32)).toUInt32 &&& Int32.toUInt32 31)).toInt32)).toNatClampNeg) ^^^ (x6 <<< ((((8 : Int32) * ((p2 + x4) &&& (7 : Int32)))).toInt64 &&& 63))) := ⟨_, rfl⟩
        rw [← eσ9] at wo
        have hD := nm_at hD eσ9
        try dsimp only at hD
        obtain ⟨x10, ex10⟩ : ∃ y : Int32, y = x4 + (1 : Int32) := ⟨_, rfl⟩
        have hD := nm_at hD ex10
        try dsimp only at hD
        refine lv_iinc (v := x10) (lv' := [(6, .int x10), (7, .long x6), (0, .ref (ad 11)), (1, .int p1), (2, .int p2), (3, .int p3), (4, .long p4)]) hx hb d_SF_xorBytes_49 hl (k := 1) rfl (by rw [ex10]; rfl) (by decide) rfl (fun ls hl => ?_)
        refine lv_goto (tgt := 3) hx hb d_SF_xorBytes_52 (by decide) ?_
        exact ih σ9 x10 _ _ _ _ hD hex wo (lv_sub hl [0, 2, 3, 4, 5, 6] rfl)
  obtain ⟨res13, hr14, hD⟩ := bd_s hD
  refine lp12 F σ (0 : Int32) _ _ _ _ hr14 (fun σ11 H locs ls hz wo hl => ?_) wo (lv_sub hl [0, 1, 2, 3, 4, 5] rfl)
  have hz := hz.symm
  subst hz
  try dsimp only at hD
  cases hD
  exact t_vret cx wo d_SF_xorBytes_55
def D_SF_xorBytes_12_L3 (F : Nat) (n : Nat → Nat) (p1 : Int32) (p2 : Int32) (p3 : Int32) (p4 : Int64) : Nat → HS → Int32 → Option (HS)
  | 0, _, _ => none
  | k3 + 1, σ1, x4 =>
      (if p3 ≤ x4 then
        some σ1
      else
        nm (((p4).toUInt64 >>> ((((8 : Int32) * x4)).toInt64.toUInt64 &&& Int64.toUInt64 63)).toInt64 &&& (255 : Int64)) (fun x6 =>
        grd (inb (p1 + (((p2 + x4)).toUInt32 >>> (((3 : Int32)).toUInt32 &&& Int32.toUInt32 31)).toInt32) (n 12)) (
        grd (inb (p1 + (((p2 + x4)).toUInt32 >>> (((3 : Int32)).toUInt32 &&& Int32.toUInt32 31)).toInt32) (n 12)) (
        nm (stL σ1 12 ((p1 + (((p2 + x4)).toUInt32 >>> (((3 : Int32)).toUInt32 &&& Int32.toUInt32 31)).toInt32)).toNatClampNeg ((σ1.2 12 ((p1 + (((p2 + x4)).toUInt32 >>> (((3 : Int32)).toUInt32 &&& Int32.toUInt32 31)).toInt32)).toNatClampNeg) ^^^ (x6 <<< ((((8 : Int32) * ((p2 + x4) &&& (7 : Int32)))).toInt64 &&& 63)))) (fun σ9 =>
        nm (x4 + (1 : Int32)) (fun x10 =>
        D_SF_xorBytes_12_L3 F n p1 p2 p3 p4 k3 σ9 x10))))))
def D_SF_xorBytes_12 (F : Nat) (n : Nat → Nat) (σ : HS) (p1 : Int32) (p2 : Int32) (p3 : Int32) (p4 : Int64) : Option (HS) :=
(D_SF_xorBytes_12_L3 F n p1 p2 p3 p4 F σ (0 : Int32)).bind (fun (σ11 : HS) =>
  some σ11)
set_option maxRecDepth 100000 in
set_option maxHeartbeats 4000000 in
theorem k_SF_xorBytes_12 (l : Launch) (E : EV) (ad n : Nat → Nat) (L : List Nat) (hL : ∀ a ∈ ([12] : List Nat), a ∈ L) (F : Nat) (σ σo : HS) (p1 : Int32) (p2 : Int32) (p3 : Int32) (p4 : Int64)  (hD : D_SF_xorBytes_12 F n σ p1 p2 p3 p4 = some σo) : CtV l E y_SF_xorBytes c_SF_xorBytes 9 none ({ frames := 0, cells := 0, slots := 0, locals := 0 }) [.ref (ad 12), .int p1, .int p2, .int p3, .long p4] (wl E ad n L σ) (wl E ad n L σo) := by
  refine fun sz => ent (by decide) (Nat.le_of_ble_eq_true rfl) ?_
  intro p e s m below meth c hsz cx wo ls hl
  have hx := cx.1.1
  have hb := cx.1.2.1
  have hown := cx.1.2.2.2.1
  have hts := cx.1.2.2.2.2
  have hl : lv_has ls 9 [(0, .ref (ad 12)), (1, .int p1), (2, .int p2), (3, .int p3), (4, .long p4)] := hl
  have m12 : 12 ∈ L := hL 12 (by decide)
  rw [D_SF_xorBytes_12] at hD
  refine lv_iconst (v := 0) hx hb d_SF_xorBytes_0 (by decide) ?_
  refine lv_istore (lv' := [(6, .int (0 : Int32)), (0, .ref (ad 12)), (1, .int p1), (2, .int p2), (3, .int p3), (4, .long p4)]) hx hb d_SF_xorBytes_1 hl (by decide) rfl (fun ls hl => ?_)
  have lp12 : ∀ (k3 : Nat) (σ1 : HS) (x4 : Int32) (H : Heap) (locs : List Loc) (ls : Array Slot) (res2 : HS), D_SF_xorBytes_12_L3 F n p1 p2 p3 p4 k3 σ1 x4 = some res2 → (∀ (σ11 : HS) (H : Heap) (locs : List Loc) (ls : Array Slot), res2 = σ11 → Wo E (va_A (wl E ad n L σ) sz) s.heap (wl E ad n L σ11) H locs → lv_has ls 9 [] → W p l e ({ frames := 0, cells := 0, slots := 0, locals := 0 }) s m ([.ref (ad 12), .int p1, .int p2, .int p3, .long p4] : List Value).toArray below meth c H locs 0 0 (MQ below (va_Qv (fun (_ : Unit) => True) (fun _ t => va_P E.1 cls6 (wl E ad n L σo) t.heap ∧ va_D (va_A (wl E ad n L σ) sz) (wl E ad n L σo)) (va_A (wl E ad n L σ) sz)) ([.ref (ad 12), .int p1, .int p2, .int p3, .long p4] : List Value).toArray s 0 0 (va_A (wl E ad n L σ) sz)) (F0 m 55 ls [])) → Wo E (va_A (wl E ad n L σ) sz) s.heap (wl E ad n L σ1) H locs → lv_has ls 9 [(6, .int x4), (0, .ref (ad 12)), (1, .int p1), (2, .int p2), (3, .int p3), (4, .long p4)] → W p l e ({ frames := 0, cells := 0, slots := 0, locals := 0 }) s m ([.ref (ad 12), .int p1, .int p2, .int p3, .long p4] : List Value).toArray below meth c H locs 0 0 (MQ below (va_Qv (fun (_ : Unit) => True) (fun _ t => va_P E.1 cls6 (wl E ad n L σo) t.heap ∧ va_D (va_A (wl E ad n L σ) sz) (wl E ad n L σo)) (va_A (wl E ad n L σ) sz)) ([.ref (ad 12), .int p1, .int p2, .int p3, .long p4] : List Value).toArray s 0 0 (va_A (wl E ad n L σ) sz)) (F0 m 3 ls []) := by
    intro k3
    induction k3 with
    | zero =>
      intro σ1 x4 H locs ls res2 hD
      rw [D_SF_xorBytes_12_L3.eq_1] at hD
      cases hD
    | succ k3 ih =>
      intro σ1 x4 H locs ls res2 hD hex wo hl
      rw [D_SF_xorBytes_12_L3.eq_2] at hD
      refine lv_iload hx hb d_SF_xorBytes_3 (lv_at hl 0 rfl) ?_
      refine lv_iload_n hx hb d_SF_xorBytes_5 rfl (lv_at hl 4 rfl) ?_
      refine lv_icmp_ge (tgt := 55) hx hb d_SF_xorBytes_6 (by decide) (fun c5 => ?_) (fun c5 => ?_)
      · have hD := ite_p hD c5
        exact hex σ1 _ _ _ (Option.some.inj hD).symm wo (lv_sub hl [] rfl)
      · have hD := ite_n hD c5
        refine lv_lload hx hb d_SF_xorBytes_9 (lv_at hl 5 rfl) ?_
        refine lv_bipush (v := 8) hx hb d_SF_xorBytes_11 (by decide) ?_
        refine lv_iload hx hb d_SF_xorBytes_13 (lv_at hl 0 rfl) ?_
        refine lv_imul hx hb d_SF_xorBytes_15 ?_
        refine lv_lushr hx hb d_SF_xorBytes_16 rfl ?_
        refine lv_ldc2 hx hb hown (hts _ wj_SF_329) d_SF_xorBytes_17 ?_
        refine lv_land hx hb d_SF_xorBytes_20 ?_
        refine lv_topl (fun x6 ex6 => ?_)
        have hD := nm_at hD ex6
        try dsimp only at hD
        refine lv_lstore (lv' := [(7, .long x6), (6, .int x4), (0, .ref (ad 12)), (1, .int p1), (2, .int p2), (3, .int p3), (4, .long p4)]) hx hb d_SF_xorBytes_21 hl (by decide) rfl (fun ls hl => ?_)
        refine lv_aload_n hx hb d_SF_xorBytes_23 rfl (lv_at hl 2 rfl) ?_
        refine lv_iload_n hx hb d_SF_xorBytes_24 rfl (lv_at hl 3 rfl) ?_
        refine lv_iload_n hx hb d_SF_xorBytes_25 rfl (lv_at hl 4 rfl) ?_
        refine lv_iload hx hb d_SF_xorBytes_26 (lv_at hl 1 rfl) ?_
        refine lv_iadd hx hb d_SF_xorBytes_28 ?_
        refine lv_iconst (v := 3) hx hb d_SF_xorBytes_29 (by decide) ?_
        refine lv_iushr hx hb d_SF_xorBytes_30 rfl ?_
        refine lv_iadd hx hb d_SF_xorBytes_31 ?_
        refine lv_dup2_11 hx hb d_SF_xorBytes_32 rfl rfl ?_
        obtain ⟨g7, hD⟩ := grd_s hD
        refine g_lald cx wo m12 (cel_12 E ad n σ1) g7 d_SF_xorBytes_33 ?_
        refine lv_lload hx hb d_SF_xorBytes_34 (lv_at hl 0 rfl) ?_
        refine lv_bipush (v := 8) hx hb d_SF_xorBytes_36 (by decide) ?_
        refine lv_iload_n hx hb d_SF_xorBytes_38 rfl (lv_at hl 4 rfl) ?_
        refine lv_iload hx hb d_SF_xorBytes_39 (lv_at hl 1 rfl) ?_
        refine lv_iadd hx hb d_SF_xorBytes_41 ?_
        refine lv_bipush (v := 7) hx hb d_SF_xorBytes_42 (by decide) ?_
        refine lv_iand hx hb d_SF_xorBytes_44 ?_
        refine lv_imul hx hb d_SF_xorBytes_45 ?_
        refine lv_lshl hx hb d_SF_xorBytes_46 rfl ?_
        refine lv_lxor hx hb d_SF_xorBytes_47 ?_
        obtain ⟨g8, hD⟩ := grd_s hD
        refine g_last cx wo m12 (cel_12 E ad n) g8 d_SF_xorBytes_48 (fun H locs wo => ?_)
        obtain ⟨σ9, eσ9⟩ : ∃ z, z = stL σ1 12 ((p1 + (((p2 + x4)).toUInt32 >>> (((3 : Int32)).toUInt32 &&& Int32.toUInt32 31)).toInt32)).toNatClampNeg ((σ1.2 12 ((p1 + (((p2 + x4)).toUInt32 >>> (((3 : Int32)).toUInt32 &&& Int32.toUInt32 31)).toInt32)).toNatClampNeg) ^^^ (x6 <<< ((((8 : Int32) * ((p2 + x4) &&& (7 : Int32)))).toInt64 &&& 63))) := ⟨_, rfl⟩
        rw [← eσ9] at wo
        have hD := nm_at hD eσ9
        try dsimp only at hD
        obtain ⟨x10, ex10⟩ : ∃ y : Int32, y = x4 + (1 : Int32) := ⟨_, rfl⟩
        have hD := nm_at hD ex10
        try dsimp only at hD
        refine lv_iinc (v := x10) (lv' := [(6, .int x10), (7, .long x6), (0, .ref (ad 12)), (1, .int p1), (2, .int p2), (3, .int p3), (4, .long p4)]) hx hb d_SF_xorBytes_49 hl (k := 1) rfl (by rw [ex10]; rfl) (by decide) rfl (fun ls hl => ?_)
        refine lv_goto (tgt := 3) hx hb d_SF_xorBytes_52 (by decide) ?_
        exact ih σ9 x10 _ _ _ _ hD hex wo (lv_sub hl [0, 2, 3, 4, 5, 6] rfl)
  obtain ⟨res13, hr14, hD⟩ := bd_s hD
  refine lp12 F σ (0 : Int32) _ _ _ _ hr14 (fun σ11 H locs ls hz wo hl => ?_) wo (lv_sub hl [0, 1, 2, 3, 4, 5] rfl)
  have hz := hz.symm
  subst hz
  try dsimp only at hD
  cases hD
  exact t_vret cx wo d_SF_xorBytes_55
def D_RK_damage (F : Nat) (n : Nat → Nat) (σ : HS) (p1 : Int32) (p2 : Int32) (p3 : Int32) (p4 : Int64) : Option (HS) :=
(D_SF_xorBytes_11 F n σ (p1 * (9 : Int32)) p2 p3 p4).bind (fun (σ2 : HS) =>
  (D_SF_xorBytes_12 F n σ2 (p1 * (9 : Int32)) p2 p3 p4).bind (fun (σ4 : HS) =>
  grd (inb ((p1 * (9 : Int32)) + (8 : Int32)) (n 11)) (
  nm (((σ4.2 11 (((p1 * (9 : Int32)) + (8 : Int32))).toNatClampNeg)).toUInt64 >>> (((16 : Int32)).toInt64.toUInt64 &&& Int64.toUInt64 63)).toInt64 (fun x6 =>
  (D_RK_checkOf F n σ4 p1).bind (fun (x7 : Int32) =>
  (if (lg_cmp x6 ((x7).toInt64 &&& (4294967295 : Int64))) = 0 then
    grd (inb p1 (n 14)) (
    nm (stI σ4 14 (p1).toNatClampNeg (vp_nar .boolean (1 : Int32))) (fun σ12 =>
    some σ12))
  else
    grd (inb p1 (n 14)) (
    nm (stI σ4 14 (p1).toNatClampNeg (vp_nar .boolean (0 : Int32))) (fun σ10 =>
    some σ10))))))))
set_option maxRecDepth 100000 in
set_option maxHeartbeats 4000000 in
theorem k_RK_damage (l : Launch) (E : EV) (ad n : Nat → Nat) (L : List Nat) (hL : ∀ a ∈ ([2, 11, 12, 14] : List Nat), a ∈ L) (F : Nat) (σ σo : HS) (p1 : Int32) (p2 : Int32) (p3 : Int32) (p4 : Int64)  (hD : D_RK_damage F n σ p1 p2 p3 p4 = some σo) : CtV l E y_RK_damage c_RK_damage 8 none ({ frames := 1, cells := 0, slots := 0, locals := 28 }) [.ref (ad 2), .int p1, .int p2, .int p3, .long p4] (wl E ad n L σ) (wl E ad n L σo) := by
  refine fun sz => ent (by decide) (Nat.le_of_ble_eq_true rfl) ?_
  intro p e s m below meth c hsz cx wo ls hl
  have hx := cx.1.1
  have hb := cx.1.2.1
  have hown := cx.1.2.2.2.1
  have hts := cx.1.2.2.2.2
  have hl : lv_has ls 8 [(0, .ref (ad 2)), (1, .int p1), (2, .int p2), (3, .int p3), (4, .long p4)] := hl
  have m2 : 2 ∈ L := hL 2 (by decide)
  have m11 : 11 ∈ L := hL 11 (by decide)
  have m12 : 12 ∈ L := hL 12 (by decide)
  have m14 : 14 ∈ L := hL 14 (by decide)
  rw [D_RK_damage] at hD
  refine lv_aload_n hx hb d_RK_damage_0 rfl (lv_at hl 0 rfl) ?_
  refine g_get cx wo m2 (cel_2 E ad n σ) rfl in_RK 2 (by decide) wf_RK_28 rfl d_RK_damage_1 ?_
  refine lv_iload_n hx hb d_RK_damage_4 rfl (lv_at hl 1 rfl) ?_
  refine lv_bipush (v := 9) hx hb d_RK_damage_5 (by decide) ?_
  refine lv_imul hx hb d_RK_damage_7 ?_
  refine lv_iload_n hx hb d_RK_damage_8 rfl (lv_at hl 2 rfl) ?_
  refine lv_iload_n hx hb d_RK_damage_9 rfl (lv_at hl 3 rfl) ?_
  refine lv_lload hx hb d_RK_damage_10 (lv_at hl 4 rfl) ?_
  obtain ⟨σ2, hcx1, hD⟩ := bd_s hD
  try dsimp only [nm2] at hD
  refine call_SNv cx wo (k_SF_xorBytes_11 l E ad n L (fun a h => hL a ((by decide : ∀ a ∈ ([11] : List Nat), a ∈ ([2, 11, 12, 14] : List Nat)) a h)) F σ σ2 (p1 * (9 : Int32)) p2 p3 p4 hcx1) mw_SF_xorBytes cx.2.2.2.2.2 ⟨by decide, by decide⟩ ⟨by decide, by decide⟩ hl.1 rfl (Nat.le_of_ble_eq_true rfl) d_RK_damage_12 (fun H locs wo => ?_)
  refine lv_aload_n hx hb d_RK_damage_15 rfl (lv_at hl 0 rfl) ?_
  refine g_get cx wo m2 (cel_2 E ad n σ2) rfl in_RK 3 (by decide) wf_RK_32 rfl d_RK_damage_16 ?_
  refine lv_iload_n hx hb d_RK_damage_19 rfl (lv_at hl 1 rfl) ?_
  refine lv_bipush (v := 9) hx hb d_RK_damage_20 (by decide) ?_
  refine lv_imul hx hb d_RK_damage_22 ?_
  refine lv_iload_n hx hb d_RK_damage_23 rfl (lv_at hl 2 rfl) ?_
  refine lv_iload_n hx hb d_RK_damage_24 rfl (lv_at hl 3 rfl) ?_
  refine lv_lload hx hb d_RK_damage_25 (lv_at hl 4 rfl) ?_
  obtain ⟨σ4, hcx3, hD⟩ := bd_s hD
  try dsimp only [nm2] at hD
  refine call_SNv cx wo (k_SF_xorBytes_12 l E ad n L (fun a h => hL a ((by decide : ∀ a ∈ ([12] : List Nat), a ∈ ([2, 11, 12, 14] : List Nat)) a h)) F σ2 σ4 (p1 * (9 : Int32)) p2 p3 p4 hcx3) mw_SF_xorBytes cx.2.2.2.2.2 ⟨by decide, by decide⟩ ⟨by decide, by decide⟩ hl.1 rfl (Nat.le_of_ble_eq_true rfl) d_RK_damage_27 (fun H locs wo => ?_)
  refine lv_aload_n hx hb d_RK_damage_30 rfl (lv_at hl 0 rfl) ?_
  refine g_get cx wo m2 (cel_2 E ad n σ4) rfl in_RK 2 (by decide) wf_RK_28 rfl d_RK_damage_31 ?_
  refine lv_iload_n hx hb d_RK_damage_34 rfl (lv_at hl 1 rfl) ?_
  refine lv_bipush (v := 9) hx hb d_RK_damage_35 (by decide) ?_
  refine lv_imul hx hb d_RK_damage_37 ?_
  refine lv_bipush (v := 8) hx hb d_RK_damage_38 (by decide) ?_
  refine lv_iadd hx hb d_RK_damage_40 ?_
  obtain ⟨g5, hD⟩ := grd_s hD
  refine g_lald cx wo m11 (cel_11 E ad n σ4) g5 d_RK_damage_41 ?_
  refine lv_bipush (v := 16) hx hb d_RK_damage_42 (by decide) ?_
  refine lv_lushr hx hb d_RK_damage_44 rfl ?_
  refine lv_topl (fun x6 ex6 => ?_)
  have hD := nm_at hD ex6
  try dsimp only at hD
  refine lv_lstore (lv' := [(6, .long x6), (0, .ref (ad 2)), (1, .int p1), (2, .int p2), (3, .int p3), (4, .long p4)]) hx hb d_RK_damage_45 hl (by decide) rfl (fun ls hl => ?_)
  refine lv_aload_n hx hb d_RK_damage_47 rfl (lv_at hl 1 rfl) ?_
  refine g_get cx wo m2 (cel_2 E ad n σ4) rfl in_RK 5 (by decide) wf_RK_38 rfl d_RK_damage_48 ?_
  refine lv_iload_n hx hb d_RK_damage_51 rfl (lv_at hl 2 rfl) ?_
  refine lv_lload hx hb d_RK_damage_52 (lv_at hl 0 rfl) ?_
  refine lv_aload_n hx hb d_RK_damage_54 rfl (lv_at hl 1 rfl) ?_
  refine lv_iload_n hx hb d_RK_damage_55 rfl (lv_at hl 2 rfl) ?_
  obtain ⟨x7, hcx7, hD⟩ := bd_s hD
  try dsimp only [nm2] at hD
  refine call_Vi cx wo (k_RK_checkOf l E ad n L (fun a h => hL a ((by decide : ∀ a ∈ ([2, 11] : List Nat), a ∈ ([2, 11, 12, 14] : List Nat)) a h)) F σ4  p1 x7 hcx7) m2 (cel_2 E ad n σ4) rfl rfl mw_RK_checkOf wm_RK_76 ⟨by decide, by decide⟩ ⟨by decide, by decide⟩ hl.1 rfl (Nat.le_of_ble_eq_true rfl) d_RK_damage_56 (fun H locs wo => ?_)
  refine lv_i2l hx hb d_RK_damage_59 rfl ?_
  refine lv_ldc2 hx hb hown (hts _ wj_RK_79) d_RK_damage_60 ?_
  refine lv_land hx hb d_RK_damage_63 ?_
  refine W.lcmp hx hb d_RK_damage_64 ?_
  refine lv_if_ne (tgt := 72) hx hb d_RK_damage_65 (by decide) (fun c8 => ?_) (fun c8 => ?_)
  · have hD := ite_n hD c8
    refine lv_iconst (v := 0) hx hb d_RK_damage_72 (by decide) ?_
    obtain ⟨g9, hD⟩ := grd_s hD
    refine g_zast cx wo m14 (cel_14 E ad n) g9 d_RK_damage_73 (fun H locs wo => ?_)
    obtain ⟨σ10, eσ10⟩ : ∃ z, z = stI σ4 14 (p1).toNatClampNeg (vp_nar .boolean (0 : Int32)) := ⟨_, rfl⟩
    rw [← eσ10] at wo
    have hD := nm_at hD eσ10
    try dsimp only at hD
    cases hD
    exact t_vret cx wo d_RK_damage_74
  · have hD := ite_p hD c8
    refine lv_iconst (v := 1) hx hb d_RK_damage_68 (by decide) ?_
    refine lv_goto (tgt := 73) hx hb d_RK_damage_69 (by decide) ?_
    obtain ⟨g11, hD⟩ := grd_s hD
    refine g_zast cx wo m14 (cel_14 E ad n) g11 d_RK_damage_73 (fun H locs wo => ?_)
    obtain ⟨σ12, eσ12⟩ : ∃ z, z = stI σ4 14 (p1).toNatClampNeg (vp_nar .boolean (1 : Int32)) := ⟨_, rfl⟩
    rw [← eσ12] at wo
    have hD := nm_at hD eσ12
    try dsimp only at hD
    cases hD
    exact t_vret cx wo d_RK_damage_74
def D_RK_store_8_L15 (F : Nat) (n : Nat → Nat) (x2 : Int32) : Nat → HS → Int32 → Option (HS)
  | 0, _, _ => none
  | k5 + 1, σ3, x6 =>
      (if (8 : Int32) ≤ x6 then
          some σ3
        else
          grd (inb x6 (n 8)) (
          grd (inb (x2 + x6) (n 11)) (
          nm (stL σ3 11 ((x2 + x6)).toNatClampNeg (σ3.2 8 (x6).toNatClampNeg)) (fun σ10 =>
          grd (inb (x2 + x6) (n 12)) (
          nm (stL σ10 12 ((x2 + x6)).toNatClampNeg (0 : Int64)) (fun σ12 =>
          nm (x6 + (1 : Int32)) (fun x13 =>
          D_RK_store_8_L15 F n x2 k5 σ12 x13)))))))
def D_RK_store_8 (F : Nat) (n : Nat → Nat) (σ : HS) (p1 : Int32) (p3 : Int32) : Option (HS) :=
(if p1 = (-1 : Int32) then
    some σ
  else
    nm (p1 * (9 : Int32)) (fun x2 =>
    (D_RK_store_8_L15 F n x2 F σ (0 : Int32)).bind (fun (σ14 : HS) =>
    nm (x2 + (8 : Int32)) (fun x18 =>
      grd (inb x18 (n 12)) (
      nm (stL σ14 12 (x18).toNatClampNeg (0 : Int64)) (fun σ20 =>
      grd (inb x18 (n 11)) (
      nm (stL σ20 11 (x18).toNatClampNeg (p3).toInt64) (fun σ22 =>
      grd (inb x18 (n 11)) (
      (D_RK_checkOf F n σ22 p1).bind (fun (x24 : Int32) =>
      grd (inb x18 (n 11)) (
      nm (stL σ22 11 (x18).toNatClampNeg ((σ22.2 11 (x18).toNatClampNeg) ||| (((x24).toInt64 &&& (4294967295 : Int64)) <<< (((16 : Int32)).toInt64 &&& 63)))) (fun σ26 =>
      grd (inb p1 (n 13)) (
      nm (stI σ26 13 (p1).toNatClampNeg (vp_nar .boolean (1 : Int32))) (fun σ28 =>
      grd (inb p1 (n 14)) (
      nm (stI σ28 14 (p1).toNatClampNeg (vp_nar .boolean (1 : Int32))) (fun σ30 =>
      some σ30))))))))))))))))
set_option maxRecDepth 100000 in
set_option maxHeartbeats 4000000 in
theorem k_RK_store_8 (l : Launch) (E : EV) (ad n : Nat → Nat) (L : List Nat) (hL : ∀ a ∈ ([2, 8, 11, 12, 13, 14] : List Nat), a ∈ L) (F : Nat) (σ σo : HS) (p1 : Int32) (p3 : Int32)  (hD : D_RK_store_8 F n σ p1 p3 = some σo) : CtV l E y_RK_store c_RK_store 6 none ({ frames := 1, cells := 0, slots := 0, locals := 24 }) [.ref (ad 2), .int p1, .ref (ad 8), .int p3] (wl E ad n L σ) (wl E ad n L σo) := by
  refine fun sz => ent (by decide) (Nat.le_of_ble_eq_true rfl) ?_
  intro p e s m below meth c hsz cx wo ls hl
  have hx := cx.1.1
  have hb := cx.1.2.1
  have hown := cx.1.2.2.2.1
  have hts := cx.1.2.2.2.2
  have hl : lv_has ls 6 [(0, .ref (ad 2)), (1, .int p1), (2, .ref (ad 8)), (3, .int p3)] := hl
  have m2 : 2 ∈ L := hL 2 (by decide)
  have m8 : 8 ∈ L := hL 8 (by decide)
  have m11 : 11 ∈ L := hL 11 (by decide)
  have m12 : 12 ∈ L := hL 12 (by decide)
  have m13 : 13 ∈ L := hL 13 (by decide)
  have m14 : 14 ∈ L := hL 14 (by decide)
  rw [D_RK_store_8] at hD
  refine lv_iload_n hx hb d_RK_store_0 rfl (lv_at hl 1 rfl) ?_
  refine lv_iconst (v := -1) hx hb d_RK_store_1 (by decide) ?_
  refine lv_icmp_ne (tgt := 6) hx hb d_RK_store_2 (by decide) (fun c1 => ?_) (fun c1 => ?_)
  · have hD := ite_n hD c1
    refine lv_iload_n hx hb d_RK_store_6 rfl (lv_at hl 1 rfl) ?_
    refine lv_bipush (v := 9) hx hb d_RK_store_7 (by decide) ?_
    refine lv_imul hx hb d_RK_store_9 ?_
    refine lv_topi (fun x2 ex2 => ?_)
    have hD := nm_at hD ex2
    try dsimp only at hD
    refine lv_istore (lv' := [(4, .int x2), (0, .ref (ad 2)), (1, .int p1), (2, .ref (ad 8)), (3, .int p3)]) hx hb d_RK_store_10 hl (by decide) rfl (fun ls hl => ?_)
    refine lv_iconst (v := 0) hx hb d_RK_store_12 (by decide) ?_
    refine lv_istore (lv' := [(5, .int (0 : Int32)), (4, .int x2), (0, .ref (ad 2)), (1, .int p1), (2, .ref (ad 8)), (3, .int p3)]) hx hb d_RK_store_13 hl (by decide) rfl (fun ls hl => ?_)
    have lp15 : ∀ (k5 : Nat) (σ3 : HS) (x6 : Int32) (H : Heap) (locs : List Loc) (ls : Array Slot) (res4 : HS), D_RK_store_8_L15 F n x2 k5 σ3 x6 = some res4 → (∀ (σ14 : HS) (H : Heap) (locs : List Loc) (ls : Array Slot), res4 = σ14 → Wo E (va_A (wl E ad n L σ) sz) s.heap (wl E ad n L σ14) H locs → lv_has ls 6 [(4, .int x2), (0, .ref (ad 2)), (1, .int p1), (3, .int p3)] → W p l e ({ frames := 1, cells := 0, slots := 0, locals := 24 }) s m ([.ref (ad 2), .int p1, .ref (ad 8), .int p3] : List Value).toArray below meth c H locs 0 0 (MQ below (va_Qv (fun (_ : Unit) => True) (fun _ t => va_P E.1 cls6 (wl E ad n L σo) t.heap ∧ va_D (va_A (wl E ad n L σ) sz) (wl E ad n L σo)) (va_A (wl E ad n L σ) sz)) ([.ref (ad 2), .int p1, .ref (ad 8), .int p3] : List Value).toArray s 0 0 (va_A (wl E ad n L σ) sz)) (F0 m 53 ls [])) → Wo E (va_A (wl E ad n L σ) sz) s.heap (wl E ad n L σ3) H locs → lv_has ls 6 [(5, .int x6), (4, .int x2), (0, .ref (ad 2)), (1, .int p1), (2, .ref (ad 8)), (3, .int p3)] → W p l e ({ frames := 1, cells := 0, slots := 0, locals := 24 }) s m ([.ref (ad 2), .int p1, .ref (ad 8), .int p3] : List Value).toArray below meth c H locs 0 0 (MQ below (va_Qv (fun (_ : Unit) => True) (fun _ t => va_P E.1 cls6 (wl E ad n L σo) t.heap ∧ va_D (va_A (wl E ad n L σ) sz) (wl E ad n L σo)) (va_A (wl E ad n L σ) sz)) ([.ref (ad 2), .int p1, .ref (ad 8), .int p3] : List Value).toArray s 0 0 (va_A (wl E ad n L σ) sz)) (F0 m 15 ls []) := by
      intro k5
      induction k5 with
      | zero =>
        intro σ3 x6 H locs ls res4 hD
        rw [D_RK_store_8_L15.eq_1] at hD
        cases hD
      | succ k5 ih =>
        intro σ3 x6 H locs ls res4 hD hex wo hl
        rw [D_RK_store_8_L15.eq_2] at hD
        refine lv_iload hx hb d_RK_store_15 (lv_at hl 0 rfl) ?_
        refine lv_bipush (v := 8) hx hb d_RK_store_17 (by decide) ?_
        refine lv_icmp_ge (tgt := 53) hx hb d_RK_store_19 (by decide) (fun c7 => ?_) (fun c7 => ?_)
        · have hD := ite_p hD c7
          exact hex σ3 _ _ _ (Option.some.inj hD).symm wo (lv_sub hl [1, 2, 3, 5] rfl)
        · have hD := ite_n hD c7
          refine lv_aload_n hx hb d_RK_store_22 rfl (lv_at hl 2 rfl) ?_
          refine g_get cx wo m2 (cel_2 E ad n σ3) rfl in_RK 2 (by decide) wf_RK_28 rfl d_RK_store_23 ?_
          refine lv_iload hx hb d_RK_store_26 (lv_at hl 1 rfl) ?_
          refine lv_iload hx hb d_RK_store_28 (lv_at hl 0 rfl) ?_
          refine lv_iadd hx hb d_RK_store_30 ?_
          refine lv_aload_n hx hb d_RK_store_31 rfl (lv_at hl 4 rfl) ?_
          refine lv_iload hx hb d_RK_store_32 (lv_at hl 0 rfl) ?_
          obtain ⟨g8, hD⟩ := grd_s hD
          refine g_lald cx wo m8 (cel_8 E ad n σ3) g8 d_RK_store_34 ?_
          obtain ⟨g9, hD⟩ := grd_s hD
          refine g_last cx wo m11 (cel_11 E ad n) g9 d_RK_store_35 (fun H locs wo => ?_)
          obtain ⟨σ10, eσ10⟩ : ∃ z, z = stL σ3 11 ((x2 + x6)).toNatClampNeg (σ3.2 8 (x6).toNatClampNeg) := ⟨_, rfl⟩
          rw [← eσ10] at wo
          have hD := nm_at hD eσ10
          try dsimp only at hD
          refine lv_aload_n hx hb d_RK_store_36 rfl (lv_at hl 2 rfl) ?_
          refine g_get cx wo m2 (cel_2 E ad n σ10) rfl in_RK 3 (by decide) wf_RK_32 rfl d_RK_store_37 ?_
          refine lv_iload hx hb d_RK_store_40 (lv_at hl 1 rfl) ?_
          refine lv_iload hx hb d_RK_store_42 (lv_at hl 0 rfl) ?_
          refine lv_iadd hx hb d_RK_store_44 ?_
          refine lv_lconst (v := 0) hx hb d_RK_store_45 (by decide) ?_
          obtain ⟨g11, hD⟩ := grd_s hD
          refine g_last cx wo m12 (cel_12 E ad n) g11 d_RK_store_46 (fun H locs wo => ?_)
          obtain ⟨σ12, eσ12⟩ : ∃ z, z = stL σ10 12 ((x2 + x6)).toNatClampNeg (0 : Int64) := ⟨_, rfl⟩
          rw [← eσ12] at wo
          have hD := nm_at hD eσ12
          try dsimp only at hD
          obtain ⟨x13, ex13⟩ : ∃ y : Int32, y = x6 + (1 : Int32) := ⟨_, rfl⟩
          have hD := nm_at hD ex13
          try dsimp only at hD
          refine lv_iinc (v := x13) (lv' := [(5, .int x13), (4, .int x2), (0, .ref (ad 2)), (1, .int p1), (2, .ref (ad 8)), (3, .int p3)]) hx hb d_RK_store_47 hl (k := 0) rfl (by rw [ex13]; rfl) (by decide) rfl (fun ls hl => ?_)
          refine lv_goto (tgt := 15) hx hb d_RK_store_50 (by decide) ?_
          exact ih σ12 x13 _ _ _ _ hD hex wo (lv_sub hl [0, 1, 2, 3, 4, 5] rfl)
    obtain ⟨res16, hr17, hD⟩ := bd_s hD
    refine lp15 F σ (0 : Int32) _ _ _ _ hr17 (fun σ14 H locs ls hz wo hl => ?_) wo (lv_sub hl [0, 1, 2, 3, 4, 5] rfl)
    have hz := hz.symm
    subst hz
    try dsimp only at hD
    refine lv_iload hx hb d_RK_store_53 (lv_at hl 0 rfl) ?_
    refine lv_bipush (v := 8) hx hb d_RK_store_55 (by decide) ?_
    refine lv_iadd hx hb d_RK_store_57 ?_
    refine lv_topi (fun x18 ex18 => ?_)
    have hD := nm_at hD ex18
    try dsimp only at hD
    refine lv_istore (lv' := [(5, .int x18), (4, .int x2), (0, .ref (ad 2)), (1, .int p1), (3, .int p3)]) hx hb d_RK_store_58 hl (by decide) rfl (fun ls hl => ?_)
    refine lv_aload_n hx hb d_RK_store_60 rfl (lv_at hl 2 rfl) ?_
    refine g_get cx wo m2 (cel_2 E ad n σ14) rfl in_RK 3 (by decide) wf_RK_32 rfl d_RK_store_61 ?_
    refine lv_iload hx hb d_RK_store_64 (lv_at hl 0 rfl) ?_
    refine lv_lconst (v := 0) hx hb d_RK_store_66 (by decide) ?_
    obtain ⟨g19, hD⟩ := grd_s hD
    refine g_last cx wo m12 (cel_12 E ad n) g19 d_RK_store_67 (fun H locs wo => ?_)
    obtain ⟨σ20, eσ20⟩ : ∃ z, z = stL σ14 12 (x18).toNatClampNeg (0 : Int64) := ⟨_, rfl⟩
    rw [← eσ20] at wo
    have hD := nm_at hD eσ20
    try dsimp only at hD
    refine lv_aload_n hx hb d_RK_store_68 rfl (lv_at hl 2 rfl) ?_
    refine g_get cx wo m2 (cel_2 E ad n σ20) rfl in_RK 2 (by decide) wf_RK_28 rfl d_RK_store_69 ?_
    refine lv_iload hx hb d_RK_store_72 (lv_at hl 0 rfl) ?_
    refine lv_iload_n hx hb d_RK_store_74 rfl (lv_at hl 4 rfl) ?_
    refine lv_i2l hx hb d_RK_store_75 rfl ?_
    obtain ⟨g21, hD⟩ := grd_s hD
    refine g_last cx wo m11 (cel_11 E ad n) g21 d_RK_store_76 (fun H locs wo => ?_)
    obtain ⟨σ22, eσ22⟩ : ∃ z, z = stL σ20 11 (x18).toNatClampNeg (p3).toInt64 := ⟨_, rfl⟩
    rw [← eσ22] at wo
    have hD := nm_at hD eσ22
    try dsimp only at hD
    refine lv_aload_n hx hb d_RK_store_77 rfl (lv_at hl 2 rfl) ?_
    refine g_get cx wo m2 (cel_2 E ad n σ22) rfl in_RK 2 (by decide) wf_RK_28 rfl d_RK_store_78 ?_
    refine lv_iload hx hb d_RK_store_81 (lv_at hl 0 rfl) ?_
    refine lv_dup2_11 hx hb d_RK_store_83 rfl rfl ?_
    obtain ⟨g23, hD⟩ := grd_s hD
    refine g_lald cx wo m11 (cel_11 E ad n σ22) g23 d_RK_store_84 ?_
    refine lv_aload_n hx hb d_RK_store_85 rfl (lv_at hl 2 rfl) ?_
    refine lv_iload_n hx hb d_RK_store_86 rfl (lv_at hl 3 rfl) ?_
    obtain ⟨x24, hcx24, hD⟩ := bd_s hD
    try dsimp only [nm2] at hD
    refine call_Vi cx wo (k_RK_checkOf l E ad n L (fun a h => hL a ((by decide : ∀ a ∈ ([2, 11] : List Nat), a ∈ ([2, 8, 11, 12, 13, 14] : List Nat)) a h)) F σ22  p1 x24 hcx24) m2 (cel_2 E ad n σ22) rfl rfl mw_RK_checkOf wm_RK_76 ⟨by decide, by decide⟩ ⟨by decide, by decide⟩ hl.1 rfl (Nat.le_of_ble_eq_true rfl) d_RK_store_87 (fun H locs wo => ?_)
    refine lv_i2l hx hb d_RK_store_90 rfl ?_
    refine lv_ldc2 hx hb hown (hts _ wj_RK_79) d_RK_store_91 ?_
    refine lv_land hx hb d_RK_store_94 ?_
    refine lv_bipush (v := 16) hx hb d_RK_store_95 (by decide) ?_
    refine lv_lshl hx hb d_RK_store_97 rfl ?_
    refine lv_lor hx hb d_RK_store_98 ?_
    obtain ⟨g25, hD⟩ := grd_s hD
    refine g_last cx wo m11 (cel_11 E ad n) g25 d_RK_store_99 (fun H locs wo => ?_)
    obtain ⟨σ26, eσ26⟩ : ∃ z, z = stL σ22 11 (x18).toNatClampNeg ((σ22.2 11 (x18).toNatClampNeg) ||| (((x24).toInt64 &&& (4294967295 : Int64)) <<< (((16 : Int32)).toInt64 &&& 63))) := ⟨_, rfl⟩
    rw [← eσ26] at wo
    have hD := nm_at hD eσ26
    try dsimp only at hD
    refine lv_aload_n hx hb d_RK_store_100 rfl (lv_at hl 2 rfl) ?_
    refine g_get cx wo m2 (cel_2 E ad n σ26) rfl in_RK 4 (by decide) wf_RK_35 rfl d_RK_store_101 ?_
    refine lv_iload_n hx hb d_RK_store_104 rfl (lv_at hl 3 rfl) ?_
    refine lv_iconst (v := 1) hx hb d_RK_store_105 (by decide) ?_
    obtain ⟨g27, hD⟩ := grd_s hD
    refine g_zast cx wo m13 (cel_13 E ad n) g27 d_RK_store_106 (fun H locs wo => ?_)
    obtain ⟨σ28, eσ28⟩ : ∃ z, z = stI σ26 13 (p1).toNatClampNeg (vp_nar .boolean (1 : Int32)) := ⟨_, rfl⟩
    rw [← eσ28] at wo
    have hD := nm_at hD eσ28
    try dsimp only at hD
    refine lv_aload_n hx hb d_RK_store_107 rfl (lv_at hl 2 rfl) ?_
    refine g_get cx wo m2 (cel_2 E ad n σ28) rfl in_RK 5 (by decide) wf_RK_38 rfl d_RK_store_108 ?_
    refine lv_iload_n hx hb d_RK_store_111 rfl (lv_at hl 3 rfl) ?_
    refine lv_iconst (v := 1) hx hb d_RK_store_112 (by decide) ?_
    obtain ⟨g29, hD⟩ := grd_s hD
    refine g_zast cx wo m14 (cel_14 E ad n) g29 d_RK_store_113 (fun H locs wo => ?_)
    obtain ⟨σ30, eσ30⟩ : ∃ z, z = stI σ28 14 (p1).toNatClampNeg (vp_nar .boolean (1 : Int32)) := ⟨_, rfl⟩
    rw [← eσ30] at wo
    have hD := nm_at hD eσ30
    try dsimp only at hD
    cases hD
    exact t_vret cx wo d_RK_store_114
  · have hD := ite_p hD c1
    cases hD
    exact t_vret cx wo d_RK_store_5
def D_AR_fillI_15_L5 (F : Nat) (n : Nat → Nat) (x1 : Int32) (p1 : Int32) : Nat → HS → Int32 → Option (HS)
  | 0, _, _ => none
  | k4 + 1, σ2, x5 =>
      (if x1 ≤ x5 then
        some σ2
      else
        grd (inb x5 (n 15)) (
        nm (stI σ2 15 (x5).toNatClampNeg p1) (fun σ8 =>
        nm (x5 + (1 : Int32)) (fun x9 =>
        D_AR_fillI_15_L5 F n x1 p1 k4 σ8 x9))))
def D_AR_fillI_15 (F : Nat) (n : Nat → Nat) (σ : HS) (p1 : Int32) : Option (HS) :=
nm (nI (n 15)) (fun x1 =>
  (D_AR_fillI_15_L5 F n x1 p1 F σ (0 : Int32)).bind (fun (σ10 : HS) =>
  some σ10))
set_option maxRecDepth 100000 in
set_option maxHeartbeats 4000000 in
theorem k_AR_fillI_15 (l : Launch) (E : EV) (ad n : Nat → Nat) (L : List Nat) (hL : ∀ a ∈ ([15] : List Nat), a ∈ L) (F : Nat) (σ σo : HS) (p1 : Int32)  (hD : D_AR_fillI_15 F n σ p1 = some σo) : CtV l E y_AR_fillI c_AR_fillI 4 none ({ frames := 0, cells := 0, slots := 0, locals := 0 }) [.ref (ad 15), .int p1] (wl E ad n L σ) (wl E ad n L σo) := by
  refine fun sz => ent (by decide) (Nat.le_of_ble_eq_true rfl) ?_
  intro p e s m below meth c hsz cx wo ls hl
  have hx := cx.1.1
  have hb := cx.1.2.1
  have hown := cx.1.2.2.2.1
  have hts := cx.1.2.2.2.2
  have hl : lv_has ls 4 [(0, .ref (ad 15)), (1, .int p1)] := hl
  have m15 : 15 ∈ L := hL 15 (by decide)
  rw [D_AR_fillI_15] at hD
  refine lv_iconst (v := 0) hx hb d_AR_fillI_0 (by decide) ?_
  refine lv_istore_n (lv' := [(2, .int (0 : Int32)), (0, .ref (ad 15)), (1, .int p1)]) hx hb d_AR_fillI_1 rfl hl (by decide) rfl (fun ls hl => ?_)
  refine lv_aload_n hx hb d_AR_fillI_2 rfl (lv_at hl 1 rfl) ?_
  refine g_alen cx wo m15 0 (cel_15 E ad n σ) rfl rfl d_AR_fillI_3 ?_
  refine lv_topi (fun x1 ex1 => ?_)
  have hD := nm_at hD ex1
  try dsimp only at hD
  refine lv_istore_n (lv' := [(3, .int x1), (2, .int (0 : Int32)), (0, .ref (ad 15)), (1, .int p1)]) hx hb d_AR_fillI_4 rfl hl (by decide) rfl (fun ls hl => ?_)
  have lp11 : ∀ (k4 : Nat) (σ2 : HS) (x5 : Int32) (H : Heap) (locs : List Loc) (ls : Array Slot) (res3 : HS), D_AR_fillI_15_L5 F n x1 p1 k4 σ2 x5 = some res3 → (∀ (σ10 : HS) (H : Heap) (locs : List Loc) (ls : Array Slot), res3 = σ10 → Wo E (va_A (wl E ad n L σ) sz) s.heap (wl E ad n L σ10) H locs → lv_has ls 4 [] → W p l e ({ frames := 0, cells := 0, slots := 0, locals := 0 }) s m ([.ref (ad 15), .int p1] : List Value).toArray below meth c H locs 0 0 (MQ below (va_Qv (fun (_ : Unit) => True) (fun _ t => va_P E.1 cls6 (wl E ad n L σo) t.heap ∧ va_D (va_A (wl E ad n L σ) sz) (wl E ad n L σo)) (va_A (wl E ad n L σ) sz)) ([.ref (ad 15), .int p1] : List Value).toArray s 0 0 (va_A (wl E ad n L σ) sz)) (F0 m 20 ls [])) → Wo E (va_A (wl E ad n L σ) sz) s.heap (wl E ad n L σ2) H locs → lv_has ls 4 [(3, .int x1), (2, .int x5), (0, .ref (ad 15)), (1, .int p1)] → W p l e ({ frames := 0, cells := 0, slots := 0, locals := 0 }) s m ([.ref (ad 15), .int p1] : List Value).toArray below meth c H locs 0 0 (MQ below (va_Qv (fun (_ : Unit) => True) (fun _ t => va_P E.1 cls6 (wl E ad n L σo) t.heap ∧ va_D (va_A (wl E ad n L σ) sz) (wl E ad n L σo)) (va_A (wl E ad n L σ) sz)) ([.ref (ad 15), .int p1] : List Value).toArray s 0 0 (va_A (wl E ad n L σ) sz)) (F0 m 5 ls []) := by
    intro k4
    induction k4 with
    | zero =>
      intro σ2 x5 H locs ls res3 hD
      rw [D_AR_fillI_15_L5.eq_1] at hD
      cases hD
    | succ k4 ih =>
      intro σ2 x5 H locs ls res3 hD hex wo hl
      rw [D_AR_fillI_15_L5.eq_2] at hD
      refine lv_iload_n hx hb d_AR_fillI_5 rfl (lv_at hl 1 rfl) ?_
      refine lv_iload_n hx hb d_AR_fillI_6 rfl (lv_at hl 0 rfl) ?_
      refine lv_icmp_ge (tgt := 20) hx hb d_AR_fillI_7 (by decide) (fun c6 => ?_) (fun c6 => ?_)
      · have hD := ite_p hD c6
        exact hex σ2 _ _ _ (Option.some.inj hD).symm wo (lv_sub hl [] rfl)
      · have hD := ite_n hD c6
        refine lv_aload_n hx hb d_AR_fillI_10 rfl (lv_at hl 2 rfl) ?_
        refine lv_iload_n hx hb d_AR_fillI_11 rfl (lv_at hl 1 rfl) ?_
        refine lv_iload_n hx hb d_AR_fillI_12 rfl (lv_at hl 3 rfl) ?_
        obtain ⟨g7, hD⟩ := grd_s hD
        refine g_iast cx wo m15 (cel_15 E ad n) g7 d_AR_fillI_13 (fun H locs wo => ?_)
        obtain ⟨σ8, eσ8⟩ : ∃ z, z = stI σ2 15 (x5).toNatClampNeg p1 := ⟨_, rfl⟩
        rw [← eσ8] at wo
        have hD := nm_at hD eσ8
        try dsimp only at hD
        obtain ⟨x9, ex9⟩ : ∃ y : Int32, y = x5 + (1 : Int32) := ⟨_, rfl⟩
        have hD := nm_at hD ex9
        try dsimp only at hD
        refine lv_iinc (v := x9) (lv' := [(2, .int x9), (3, .int x1), (0, .ref (ad 15)), (1, .int p1)]) hx hb d_AR_fillI_14 hl (k := 1) rfl (by rw [ex9]; rfl) (by decide) rfl (fun ls hl => ?_)
        refine lv_goto (tgt := 5) hx hb d_AR_fillI_17 (by decide) ?_
        exact ih σ8 x9 _ _ _ _ hD hex wo (lv_sub hl [1, 0, 2, 3] rfl)
  obtain ⟨res12, hr13, hD⟩ := bd_s hD
  refine lp11 F σ (0 : Int32) _ _ _ _ hr13 (fun σ10 H locs ls hz wo hl => ?_) wo (lv_sub hl [0, 1, 2, 3] rfl)
  have hz := hz.symm
  subst hz
  try dsimp only at hD
  cases hD
  exact t_vret cx wo d_AR_fillI_20
def D_AR_fillI_16_L5 (F : Nat) (n : Nat → Nat) (x1 : Int32) (p1 : Int32) : Nat → HS → Int32 → Option (HS)
  | 0, _, _ => none
  | k4 + 1, σ2, x5 =>
      (if x1 ≤ x5 then
        some σ2
      else
        grd (inb x5 (n 16)) (
        nm (stI σ2 16 (x5).toNatClampNeg p1) (fun σ8 =>
        nm (x5 + (1 : Int32)) (fun x9 =>
        D_AR_fillI_16_L5 F n x1 p1 k4 σ8 x9))))
def D_AR_fillI_16 (F : Nat) (n : Nat → Nat) (σ : HS) (p1 : Int32) : Option (HS) :=
nm (nI (n 16)) (fun x1 =>
  (D_AR_fillI_16_L5 F n x1 p1 F σ (0 : Int32)).bind (fun (σ10 : HS) =>
  some σ10))
set_option maxRecDepth 100000 in
set_option maxHeartbeats 4000000 in
theorem k_AR_fillI_16 (l : Launch) (E : EV) (ad n : Nat → Nat) (L : List Nat) (hL : ∀ a ∈ ([16] : List Nat), a ∈ L) (F : Nat) (σ σo : HS) (p1 : Int32)  (hD : D_AR_fillI_16 F n σ p1 = some σo) : CtV l E y_AR_fillI c_AR_fillI 4 none ({ frames := 0, cells := 0, slots := 0, locals := 0 }) [.ref (ad 16), .int p1] (wl E ad n L σ) (wl E ad n L σo) := by
  refine fun sz => ent (by decide) (Nat.le_of_ble_eq_true rfl) ?_
  intro p e s m below meth c hsz cx wo ls hl
  have hx := cx.1.1
  have hb := cx.1.2.1
  have hown := cx.1.2.2.2.1
  have hts := cx.1.2.2.2.2
  have hl : lv_has ls 4 [(0, .ref (ad 16)), (1, .int p1)] := hl
  have m16 : 16 ∈ L := hL 16 (by decide)
  rw [D_AR_fillI_16] at hD
  refine lv_iconst (v := 0) hx hb d_AR_fillI_0 (by decide) ?_
  refine lv_istore_n (lv' := [(2, .int (0 : Int32)), (0, .ref (ad 16)), (1, .int p1)]) hx hb d_AR_fillI_1 rfl hl (by decide) rfl (fun ls hl => ?_)
  refine lv_aload_n hx hb d_AR_fillI_2 rfl (lv_at hl 1 rfl) ?_
  refine g_alen cx wo m16 0 (cel_16 E ad n σ) rfl rfl d_AR_fillI_3 ?_
  refine lv_topi (fun x1 ex1 => ?_)
  have hD := nm_at hD ex1
  try dsimp only at hD
  refine lv_istore_n (lv' := [(3, .int x1), (2, .int (0 : Int32)), (0, .ref (ad 16)), (1, .int p1)]) hx hb d_AR_fillI_4 rfl hl (by decide) rfl (fun ls hl => ?_)
  have lp11 : ∀ (k4 : Nat) (σ2 : HS) (x5 : Int32) (H : Heap) (locs : List Loc) (ls : Array Slot) (res3 : HS), D_AR_fillI_16_L5 F n x1 p1 k4 σ2 x5 = some res3 → (∀ (σ10 : HS) (H : Heap) (locs : List Loc) (ls : Array Slot), res3 = σ10 → Wo E (va_A (wl E ad n L σ) sz) s.heap (wl E ad n L σ10) H locs → lv_has ls 4 [] → W p l e ({ frames := 0, cells := 0, slots := 0, locals := 0 }) s m ([.ref (ad 16), .int p1] : List Value).toArray below meth c H locs 0 0 (MQ below (va_Qv (fun (_ : Unit) => True) (fun _ t => va_P E.1 cls6 (wl E ad n L σo) t.heap ∧ va_D (va_A (wl E ad n L σ) sz) (wl E ad n L σo)) (va_A (wl E ad n L σ) sz)) ([.ref (ad 16), .int p1] : List Value).toArray s 0 0 (va_A (wl E ad n L σ) sz)) (F0 m 20 ls [])) → Wo E (va_A (wl E ad n L σ) sz) s.heap (wl E ad n L σ2) H locs → lv_has ls 4 [(3, .int x1), (2, .int x5), (0, .ref (ad 16)), (1, .int p1)] → W p l e ({ frames := 0, cells := 0, slots := 0, locals := 0 }) s m ([.ref (ad 16), .int p1] : List Value).toArray below meth c H locs 0 0 (MQ below (va_Qv (fun (_ : Unit) => True) (fun _ t => va_P E.1 cls6 (wl E ad n L σo) t.heap ∧ va_D (va_A (wl E ad n L σ) sz) (wl E ad n L σo)) (va_A (wl E ad n L σ) sz)) ([.ref (ad 16), .int p1] : List Value).toArray s 0 0 (va_A (wl E ad n L σ) sz)) (F0 m 5 ls []) := by
    intro k4
    induction k4 with
    | zero =>
      intro σ2 x5 H locs ls res3 hD
      rw [D_AR_fillI_16_L5.eq_1] at hD
      cases hD
    | succ k4 ih =>
      intro σ2 x5 H locs ls res3 hD hex wo hl
      rw [D_AR_fillI_16_L5.eq_2] at hD
      refine lv_iload_n hx hb d_AR_fillI_5 rfl (lv_at hl 1 rfl) ?_
      refine lv_iload_n hx hb d_AR_fillI_6 rfl (lv_at hl 0 rfl) ?_
      refine lv_icmp_ge (tgt := 20) hx hb d_AR_fillI_7 (by decide) (fun c6 => ?_) (fun c6 => ?_)
      · have hD := ite_p hD c6
        exact hex σ2 _ _ _ (Option.some.inj hD).symm wo (lv_sub hl [] rfl)
      · have hD := ite_n hD c6
        refine lv_aload_n hx hb d_AR_fillI_10 rfl (lv_at hl 2 rfl) ?_
        refine lv_iload_n hx hb d_AR_fillI_11 rfl (lv_at hl 1 rfl) ?_
        refine lv_iload_n hx hb d_AR_fillI_12 rfl (lv_at hl 3 rfl) ?_
        obtain ⟨g7, hD⟩ := grd_s hD
        refine g_iast cx wo m16 (cel_16 E ad n) g7 d_AR_fillI_13 (fun H locs wo => ?_)
        obtain ⟨σ8, eσ8⟩ : ∃ z, z = stI σ2 16 (x5).toNatClampNeg p1 := ⟨_, rfl⟩
        rw [← eσ8] at wo
        have hD := nm_at hD eσ8
        try dsimp only at hD
        obtain ⟨x9, ex9⟩ : ∃ y : Int32, y = x5 + (1 : Int32) := ⟨_, rfl⟩
        have hD := nm_at hD ex9
        try dsimp only at hD
        refine lv_iinc (v := x9) (lv' := [(2, .int x9), (3, .int x1), (0, .ref (ad 16)), (1, .int p1)]) hx hb d_AR_fillI_14 hl (k := 1) rfl (by rw [ex9]; rfl) (by decide) rfl (fun ls hl => ?_)
        refine lv_goto (tgt := 5) hx hb d_AR_fillI_17 (by decide) ?_
        exact ih σ8 x9 _ _ _ _ hD hex wo (lv_sub hl [1, 0, 2, 3] rfl)
  obtain ⟨res12, hr13, hD⟩ := bd_s hD
  refine lp11 F σ (0 : Int32) _ _ _ _ hr13 (fun σ10 H locs ls hz wo hl => ?_) wo (lv_sub hl [0, 1, 2, 3] rfl)
  have hz := hz.symm
  subst hz
  try dsimp only at hD
  cases hD
  exact t_vret cx wo d_AR_fillI_20
def D_PL_found_L37 (F : Nat) (n : Nat → Nat) (σ : HS) (p1 : Int32) (p2 : Int32) : Nat → Int32 → Option ((Unit) ⊕ (Int32))
  | 0, _ => none
  | k6 + 1, x7 =>
      (if (σ.1 1 0) ≤ x7 then
          some (Sum.inl ())
        else
          (D_LA_slot F n σ p1 x7).bind (fun (x9 : Int32) =>
          grd (inb x9 (n 9)) (
          nm (σ.1 9 (x9).toNatClampNeg) (fun x11 =>
          (D_RK_isValid F n σ x11).bind (fun (x12 : Int32) =>
          (if x12 = 0 then
            nm (x7 + (1 : Int32)) (fun x14 =>
            D_PL_found_L37 F n σ p1 p2 k6 x14)
          else
            (D_RK_tag F n σ x11).bind (fun (x15 : Int32) =>
            (D_LA_tagOf F n σ p2).bind (fun (x16 : Int32) =>
            (if x15 = x16 then
              some (Sum.inr x11)
            else
              nm (x7 + (1 : Int32)) (fun x18 =>
              D_PL_found_L37 F n σ p1 p2 k6 x18))))))))))
def D_PL_found (F : Nat) (n : Nat → Nat) (σ : HS) (p1 : Int32) (p2 : Int32) : Option (Int32) :=
grd (inb p2 (n 9)) (
  (D_RK_isWritten F n σ (σ.1 9 (p2).toNatClampNeg)).bind (fun (x2 : Int32) =>
  (if x2 = 0 then
    nm (σ.1 1 6) (fun x4 =>
    (D_PL_found_L37 F n σ p1 p2 F x4).bind (fun q22 => match q22 with
      | Sum.inl _ =>
        some (-1 : Int32)
      | Sum.inr z => some z))
  else
    grd (inb p2 (n 9)) (
    some (σ.1 9 (p2).toNatClampNeg)))))
set_option maxRecDepth 100000 in
set_option maxHeartbeats 4000000 in
theorem k_PL_found (l : Launch) (E : EV) (ad n : Nat → Nat) (L : List Nat) (hL : ∀ a ∈ ([1, 2, 3, 9, 11, 13, 14] : List Nat), a ∈ L) (F : Nat) (σ  : HS) (p1 : Int32) (p2 : Int32) (r : Int32) (hD : D_PL_found F n σ p1 p2 = some r) : CtI l E y_PL_found c_PL_found 5 (some FieldType.int) ({ frames := 1, cells := 0, slots := 0, locals := 22 }) [.ref (ad 3), .int p1, .int p2] (wl E ad n L σ) r (wl E ad n L σ) := by
  refine fun sz => ent (by decide) (Nat.le_of_ble_eq_true rfl) ?_
  intro p e s m below meth c hsz cx wo ls hl
  have hx := cx.1.1
  have hb := cx.1.2.1
  have hown := cx.1.2.2.2.1
  have hts := cx.1.2.2.2.2
  have hl : lv_has ls 5 [(0, .ref (ad 3)), (1, .int p1), (2, .int p2)] := hl
  have m1 : 1 ∈ L := hL 1 (by decide)
  have m2 : 2 ∈ L := hL 2 (by decide)
  have m3 : 3 ∈ L := hL 3 (by decide)
  have m9 : 9 ∈ L := hL 9 (by decide)
  have m11 : 11 ∈ L := hL 11 (by decide)
  have m13 : 13 ∈ L := hL 13 (by decide)
  have m14 : 14 ∈ L := hL 14 (by decide)
  rw [D_PL_found] at hD
  refine lv_aload_n hx hb d_PL_found_0 rfl (lv_at hl 0 rfl) ?_
  refine g_get cx wo m3 (cel_3 E ad n σ) rfl in_PL 3 (by decide) wf_PL_15 rfl d_PL_found_1 ?_
  refine lv_aload_n hx hb d_PL_found_4 rfl (lv_at hl 0 rfl) ?_
  refine g_get cx wo m3 (cel_3 E ad n σ) rfl in_PL 2 (by decide) wf_PL_9 rfl d_PL_found_5 ?_
  refine g_get cx wo m1 (cel_1 E ad n σ) rfl in_LA 9 (by decide) wf_PL_57 rfl d_PL_found_8 ?_
  refine lv_iload_n hx hb d_PL_found_11 rfl (lv_at hl 2 rfl) ?_
  obtain ⟨g1, hD⟩ := grd_s hD
  refine g_iald cx wo m9 (cel_9 E ad n σ) g1 d_PL_found_12 ?_
  obtain ⟨x2, hcx2, hD⟩ := bd_s hD
  try dsimp only [nm2] at hD
  refine call_Vi cx wo (k_RK_isWritten l E ad n L (fun a h => hL a ((by decide : ∀ a ∈ ([2, 13] : List Nat), a ∈ ([1, 2, 3, 9, 11, 13, 14] : List Nat)) a h)) F σ  (σ.1 9 (p2).toNatClampNeg) x2 hcx2) m2 (cel_2 E ad n σ) rfl rfl mw_RK_isWritten wm_PL_60 ⟨by decide, by decide⟩ ⟨by decide, by decide⟩ hl.1 rfl (Nat.le_of_ble_eq_true rfl) d_PL_found_13 (fun H locs wo => ?_)
  refine lv_if_eq (tgt := 29) hx hb d_PL_found_16 (by decide) (fun c3 => ?_) (fun c3 => ?_)
  · have hD := ite_p hD c3
    refine lv_aload_n hx hb d_PL_found_29 rfl (lv_at hl 0 rfl) ?_
    refine g_get cx wo m3 (cel_3 E ad n σ) rfl in_PL 2 (by decide) wf_PL_9 rfl d_PL_found_30 ?_
    refine g_get cx wo m1 (cel_1 E ad n σ) rfl in_LA 6 (by decide) wf_PL_47 rfl d_PL_found_33 ?_
    refine lv_topi (fun x4 ex4 => ?_)
    have hD := nm_at hD ex4
    try dsimp only at hD
    refine lv_istore_n (lv' := [(3, .int x4), (0, .ref (ad 3)), (1, .int p1), (2, .int p2)]) hx hb d_PL_found_36 rfl hl (by decide) rfl (fun ls hl => ?_)
    have lp19 : ∀ (k6 : Nat) (x7 : Int32) (H : Heap) (locs : List Loc) (ls : Array Slot) (res5 : (Unit) ⊕ (Int32)), D_PL_found_L37 F n σ p1 p2 k6 x7 = some res5 → (∀ z, res5 = Sum.inr z → r = z) → (∀  (H : Heap) (locs : List Loc) (ls : Array Slot), res5 = Sum.inl () → Wo E (va_A (wl E ad n L σ) sz) s.heap (wl E ad n L σ) H locs → lv_has ls 5 [] → W p l e ({ frames := 1, cells := 0, slots := 0, locals := 22 }) s m ([.ref (ad 3), .int p1, .int p2] : List Value).toArray below meth c H locs 0 0 (MQ below (va_Qi (fun (x : Int32) (_ : Unit) => x = r) (fun _ t => va_P E.1 cls6 (wl E ad n L σ) t.heap ∧ va_D (va_A (wl E ad n L σ) sz) (wl E ad n L σ)) (va_A (wl E ad n L σ) sz)) ([.ref (ad 3), .int p1, .int p2] : List Value).toArray s 0 0 (va_A (wl E ad n L σ) sz)) (F0 m 108 ls [])) → Wo E (va_A (wl E ad n L σ) sz) s.heap (wl E ad n L σ) H locs → lv_has ls 5 [(3, .int x7), (0, .ref (ad 3)), (1, .int p1), (2, .int p2)] → W p l e ({ frames := 1, cells := 0, slots := 0, locals := 22 }) s m ([.ref (ad 3), .int p1, .int p2] : List Value).toArray below meth c H locs 0 0 (MQ below (va_Qi (fun (x : Int32) (_ : Unit) => x = r) (fun _ t => va_P E.1 cls6 (wl E ad n L σ) t.heap ∧ va_D (va_A (wl E ad n L σ) sz) (wl E ad n L σ)) (va_A (wl E ad n L σ) sz)) ([.ref (ad 3), .int p1, .int p2] : List Value).toArray s 0 0 (va_A (wl E ad n L σ) sz)) (F0 m 37 ls []) := by
      intro k6
      induction k6 with
      | zero =>
        intro x7 H locs ls res5 hD
        rw [D_PL_found_L37.eq_1] at hD
        cases hD
      | succ k6 ih =>
        intro x7 H locs ls res5 hD hret hex wo hl
        rw [D_PL_found_L37.eq_2] at hD
        refine lv_iload_n hx hb d_PL_found_37 rfl (lv_at hl 0 rfl) ?_
        refine lv_aload_n hx hb d_PL_found_38 rfl (lv_at hl 1 rfl) ?_
        refine g_get cx wo m3 (cel_3 E ad n σ) rfl in_PL 2 (by decide) wf_PL_9 rfl d_PL_found_39 ?_
        refine g_get cx wo m1 (cel_1 E ad n σ) rfl in_LA 0 (by decide) wf_PL_25 rfl d_PL_found_42 ?_
        refine lv_icmp_ge (tgt := 108) hx hb d_PL_found_45 (by decide) (fun c8 => ?_) (fun c8 => ?_)
        · have hD := ite_p hD c8
          exact hex  _ _ _ (Option.some.inj hD).symm wo (lv_sub hl [] rfl)
        · have hD := ite_n hD c8
          refine lv_aload_n hx hb d_PL_found_48 rfl (lv_at hl 1 rfl) ?_
          refine g_get cx wo m3 (cel_3 E ad n σ) rfl in_PL 2 (by decide) wf_PL_9 rfl d_PL_found_49 ?_
          refine g_get cx wo m1 (cel_1 E ad n σ) rfl in_LA 9 (by decide) wf_PL_57 rfl d_PL_found_52 ?_
          refine lv_aload_n hx hb d_PL_found_55 rfl (lv_at hl 1 rfl) ?_
          refine g_get cx wo m3 (cel_3 E ad n σ) rfl in_PL 2 (by decide) wf_PL_9 rfl d_PL_found_56 ?_
          refine lv_iload_n hx hb d_PL_found_59 rfl (lv_at hl 2 rfl) ?_
          refine lv_iload_n hx hb d_PL_found_60 rfl (lv_at hl 0 rfl) ?_
          obtain ⟨x9, hcx9, hD⟩ := bd_s hD
          try dsimp only [nm2] at hD
          refine call_Vi cx wo (k_LA_slot l E ad n L (fun a h => hL a ((by decide : ∀ a ∈ ([1] : List Nat), a ∈ ([1, 2, 3, 9, 11, 13, 14] : List Nat)) a h)) F σ  p1 x7 x9 hcx9) m1 (cel_1 E ad n σ) rfl rfl mw_LA_slot wm_PL_50 ⟨by decide, by decide⟩ ⟨by decide, by decide⟩ hl.1 rfl (Nat.le_of_ble_eq_true rfl) d_PL_found_61 (fun H locs wo => ?_)
          obtain ⟨g10, hD⟩ := grd_s hD
          refine g_iald cx wo m9 (cel_9 E ad n σ) g10 d_PL_found_64 ?_
          refine lv_topi (fun x11 ex11 => ?_)
          have hD := nm_at hD ex11
          try dsimp only at hD
          refine lv_istore (lv' := [(4, .int x11), (3, .int x7), (0, .ref (ad 3)), (1, .int p1), (2, .int p2)]) hx hb d_PL_found_65 hl (by decide) rfl (fun ls hl => ?_)
          refine lv_aload_n hx hb d_PL_found_67 rfl (lv_at hl 2 rfl) ?_
          refine g_get cx wo m3 (cel_3 E ad n σ) rfl in_PL 3 (by decide) wf_PL_15 rfl d_PL_found_68 ?_
          refine lv_iload hx hb d_PL_found_71 (lv_at hl 0 rfl) ?_
          obtain ⟨x12, hcx12, hD⟩ := bd_s hD
          try dsimp only [nm2] at hD
          refine call_Vi cx wo (k_RK_isValid l E ad n L (fun a h => hL a ((by decide : ∀ a ∈ ([2, 14] : List Nat), a ∈ ([1, 2, 3, 9, 11, 13, 14] : List Nat)) a h)) F σ  x11 x12 hcx12) m2 (cel_2 E ad n σ) rfl rfl mw_RK_isValid wm_PL_66 ⟨by decide, by decide⟩ ⟨by decide, by decide⟩ hl.1 rfl (Nat.le_of_ble_eq_true rfl) d_PL_found_73 (fun H locs wo => ?_)
          refine lv_if_eq (tgt := 102) hx hb d_PL_found_76 (by decide) (fun c13 => ?_) (fun c13 => ?_)
          · have hD := ite_p hD c13
            obtain ⟨x14, ex14⟩ : ∃ y : Int32, y = x7 + (1 : Int32) := ⟨_, rfl⟩
            have hD := nm_at hD ex14
            try dsimp only at hD
            refine lv_iinc (v := x14) (lv' := [(3, .int x14), (4, .int x11), (0, .ref (ad 3)), (1, .int p1), (2, .int p2)]) hx hb d_PL_found_102 hl (k := 1) rfl (by rw [ex14]; rfl) (by decide) rfl (fun ls hl => ?_)
            refine lv_goto (tgt := 37) hx hb d_PL_found_105 (by decide) ?_
            exact ih x14 _ _ _ _ hD hret hex wo (lv_sub hl [0, 2, 3, 4] rfl)
          · have hD := ite_n hD c13
            refine lv_aload_n hx hb d_PL_found_79 rfl (lv_at hl 2 rfl) ?_
            refine g_get cx wo m3 (cel_3 E ad n σ) rfl in_PL 3 (by decide) wf_PL_15 rfl d_PL_found_80 ?_
            refine lv_iload hx hb d_PL_found_83 (lv_at hl 0 rfl) ?_
            obtain ⟨x15, hcx15, hD⟩ := bd_s hD
            try dsimp only [nm2] at hD
            refine call_Vi cx wo (k_RK_tag l E ad n L (fun a h => hL a ((by decide : ∀ a ∈ ([2, 11] : List Nat), a ∈ ([1, 2, 3, 9, 11, 13, 14] : List Nat)) a h)) F σ  x11 x15 hcx15) m2 (cel_2 E ad n σ) rfl rfl mw_RK_tag wm_PL_69 ⟨by decide, by decide⟩ ⟨by decide, by decide⟩ hl.1 rfl (Nat.le_of_ble_eq_true rfl) d_PL_found_85 (fun H locs wo => ?_)
            refine lv_aload_n hx hb d_PL_found_88 rfl (lv_at hl 2 rfl) ?_
            refine g_get cx wo m3 (cel_3 E ad n σ) rfl in_PL 2 (by decide) wf_PL_9 rfl d_PL_found_89 ?_
            refine lv_iload_n hx hb d_PL_found_92 rfl (lv_at hl 4 rfl) ?_
            obtain ⟨x16, hcx16, hD⟩ := bd_s hD
            try dsimp only [nm2] at hD
            refine call_Vi cx wo (k_LA_tagOf l E ad n L (fun a h => hL a ((by decide : ∀ a ∈ ([1] : List Nat), a ∈ ([1, 2, 3, 9, 11, 13, 14] : List Nat)) a h)) F σ  p2 x16 hcx16) m1 (cel_1 E ad n σ) rfl rfl mw_LA_tagOf wm_PL_73 ⟨by decide, by decide⟩ ⟨by decide, by decide⟩ hl.1 rfl (Nat.le_of_ble_eq_true rfl) d_PL_found_93 (fun H locs wo => ?_)
            refine lv_icmp_ne (tgt := 102) hx hb d_PL_found_96 (by decide) (fun c17 => ?_) (fun c17 => ?_)
            · have hD := ite_n hD c17
              obtain ⟨x18, ex18⟩ : ∃ y : Int32, y = x7 + (1 : Int32) := ⟨_, rfl⟩
              have hD := nm_at hD ex18
              try dsimp only at hD
              refine lv_iinc (v := x18) (lv' := [(3, .int x18), (4, .int x11), (0, .ref (ad 3)), (1, .int p1), (2, .int p2)]) hx hb d_PL_found_102 hl (k := 1) rfl (by rw [ex18]; rfl) (by decide) rfl (fun ls hl => ?_)
              refine lv_goto (tgt := 37) hx hb d_PL_found_105 (by decide) ?_
              exact ih x18 _ _ _ _ hD hret hex wo (lv_sub hl [0, 2, 3, 4] rfl)
            · have hD := ite_p hD c17
              refine lv_iload hx hb d_PL_found_99 (lv_at hl 0 rfl) ?_
              have hz := hret _ (Option.some.inj hD).symm
              cases hz
              exact t_ireti cx wo rfl rfl d_PL_found_101
    obtain ⟨res20, hr21, hD⟩ := bd_s hD
    refine lp19 F x4 _ _ _ _ hr21 (fun z hz => by subst hz; exact (Option.some.inj hD).symm) (fun  H locs ls hz wo hl => ?_) wo (lv_sub hl [0, 1, 2, 3] rfl)
    subst hz
    try dsimp only at hD
    refine lv_iconst (v := -1) hx hb d_PL_found_108 (by decide) ?_
    cases hD
    exact t_ireti cx wo rfl rfl d_PL_found_109
  · have hD := ite_n hD c3
    refine lv_aload_n hx hb d_PL_found_19 rfl (lv_at hl 0 rfl) ?_
    refine g_get cx wo m3 (cel_3 E ad n σ) rfl in_PL 2 (by decide) wf_PL_9 rfl d_PL_found_20 ?_
    refine g_get cx wo m1 (cel_1 E ad n σ) rfl in_LA 9 (by decide) wf_PL_57 rfl d_PL_found_23 ?_
    refine lv_iload_n hx hb d_PL_found_26 rfl (lv_at hl 2 rfl) ?_
    obtain ⟨g23, hD⟩ := grd_s hD
    refine g_iald cx wo m9 (cel_9 E ad n σ) g23 d_PL_found_27 ?_
    cases hD
    exact t_ireti cx wo rfl rfl d_PL_found_28
def D_PL_find_L31 (F : Nat) (n : Nat → Nat) (x8 : Int32) : Nat → HS → Int32 → Option (HS)
  | 0, _, _ => none
  | k12 + 1, σ10, x13 =>
      (if (σ10.1 1 6) ≤ x13 then
              some σ10
            else
              (D_LA_slot F n σ10 x8 x13).bind (fun (x15 : Int32) =>
              (D_PL_found F n σ10 x8 x15).bind (fun (x16 : Int32) =>
              grd (inb x15 (n 15)) (
              nm (stI σ10 15 (x15).toNatClampNeg x16) (fun σ18 =>
              grd (inb x15 (n 15)) (
              (if (σ18.1 15 (x15).toNatClampNeg) = (-1 : Int32) then
                nm (x13 + (1 : Int32)) (fun x21 =>
                D_PL_find_L31 F n x8 k12 σ18 x21)
              else
                grd (inb x15 (n 15)) (
                grd (inb (σ18.1 15 (x15).toNatClampNeg) (n 16)) (
                nm (stI σ18 16 ((σ18.1 15 (x15).toNatClampNeg)).toNatClampNeg x15) (fun σ24 =>
                nm (x13 + (1 : Int32)) (fun x25 =>
                D_PL_find_L31 F n x8 k12 σ24 x25)))))))))))
def D_PL_find_L18 (F : Nat) (n : Nat → Nat)  : Nat → HS → Int32 → Option (HS)
  | 0, _, _ => none
  | k7 + 1, σ5, x8 =>
      (if (σ5.1 1 2) ≤ x8 then
        some σ5
      else
        (D_PL_find_L31 F n x8 F σ5 (0 : Int32)).bind (fun (σ26 : HS) =>
        nm (x8 + (1 : Int32)) (fun x30 =>
          D_PL_find_L18 F n  k7 σ26 x30)))
def D_PL_find (F : Nat) (n : Nat → Nat) (σ : HS)  : Option (HS) :=
(D_AR_fillI_15 F n σ (-1 : Int32)).bind (fun (σ2 : HS) =>
  (D_AR_fillI_16 F n σ2 (-1 : Int32)).bind (fun (σ4 : HS) =>
  (D_PL_find_L18 F n  F σ4 (0 : Int32)).bind (fun (σ31 : HS) =>
  some σ31)))
set_option maxRecDepth 100000 in
set_option maxHeartbeats 4000000 in
theorem k_PL_find (l : Launch) (E : EV) (ad n : Nat → Nat) (L : List Nat) (hL : ∀ a ∈ ([1, 2, 3, 9, 11, 13, 14, 15, 16] : List Nat), a ∈ L) (F : Nat) (σ σo : HS)   (hD : D_PL_find F n σ  = some σo) : CtV l E y_PL_find c_PL_find 4 none ({ frames := 2, cells := 0, slots := 0, locals := 46 }) [.ref (ad 3)] (wl E ad n L σ) (wl E ad n L σo) := by
  refine fun sz => ent (by decide) (Nat.le_of_ble_eq_true rfl) ?_
  intro p e s m below meth c hsz cx wo ls hl
  have hx := cx.1.1
  have hb := cx.1.2.1
  have hown := cx.1.2.2.2.1
  have hts := cx.1.2.2.2.2
  have hl : lv_has ls 4 [(0, .ref (ad 3))] := hl
  have m1 : 1 ∈ L := hL 1 (by decide)
  have m2 : 2 ∈ L := hL 2 (by decide)
  have m3 : 3 ∈ L := hL 3 (by decide)
  have m9 : 9 ∈ L := hL 9 (by decide)
  have m11 : 11 ∈ L := hL 11 (by decide)
  have m13 : 13 ∈ L := hL 13 (by decide)
  have m14 : 14 ∈ L := hL 14 (by decide)
  have m15 : 15 ∈ L := hL 15 (by decide)
  have m16 : 16 ∈ L := hL 16 (by decide)
  rw [D_PL_find] at hD
  refine lv_aload_n hx hb d_PL_find_0 rfl (lv_at hl 0 rfl) ?_
  refine g_get cx wo m3 (cel_3 E ad n σ) rfl in_PL 0 (by decide) wf_PL_28 rfl d_PL_find_1 ?_
  refine lv_iconst (v := -1) hx hb d_PL_find_4 (by decide) ?_
  obtain ⟨σ2, hcx1, hD⟩ := bd_s hD
  try dsimp only [nm2] at hD
  refine call_Sv cx wo (k_AR_fillI_15 l E ad n L (fun a h => hL a ((by decide : ∀ a ∈ ([15] : List Nat), a ∈ ([1, 2, 3, 9, 11, 13, 14, 15, 16] : List Nat)) a h)) F σ σ2 (-1 : Int32) hcx1) mw_AR_fillI wm_PL_41 ⟨by decide, by decide⟩ ⟨by decide, by decide⟩ hl.1 rfl (Nat.le_of_ble_eq_true rfl) d_PL_find_5 (fun H locs wo => ?_)
  refine lv_aload_n hx hb d_PL_find_8 rfl (lv_at hl 0 rfl) ?_
  refine g_get cx wo m3 (cel_3 E ad n σ2) rfl in_PL 1 (by decide) wf_PL_35 rfl d_PL_find_9 ?_
  refine lv_iconst (v := -1) hx hb d_PL_find_12 (by decide) ?_
  obtain ⟨σ4, hcx3, hD⟩ := bd_s hD
  try dsimp only [nm2] at hD
  refine call_Sv cx wo (k_AR_fillI_16 l E ad n L (fun a h => hL a ((by decide : ∀ a ∈ ([16] : List Nat), a ∈ ([1, 2, 3, 9, 11, 13, 14, 15, 16] : List Nat)) a h)) F σ2 σ4 (-1 : Int32) hcx3) mw_AR_fillI wm_PL_41 ⟨by decide, by decide⟩ ⟨by decide, by decide⟩ hl.1 rfl (Nat.le_of_ble_eq_true rfl) d_PL_find_13 (fun H locs wo => ?_)
  refine lv_iconst (v := 0) hx hb d_PL_find_16 (by decide) ?_
  refine lv_istore_n (lv' := [(1, .int (0 : Int32)), (0, .ref (ad 3))]) hx hb d_PL_find_17 rfl hl (by decide) rfl (fun ls hl => ?_)
  have lp32 : ∀ (k7 : Nat) (σ5 : HS) (x8 : Int32) (H : Heap) (locs : List Loc) (ls : Array Slot) (res6 : HS), D_PL_find_L18 F n  k7 σ5 x8 = some res6 → (∀ (σ31 : HS) (H : Heap) (locs : List Loc) (ls : Array Slot), res6 = σ31 → Wo E (va_A (wl E ad n L σ) sz) s.heap (wl E ad n L σ31) H locs → lv_has ls 4 [] → W p l e ({ frames := 2, cells := 0, slots := 0, locals := 46 }) s m ([.ref (ad 3)] : List Value).toArray below meth c H locs 0 0 (MQ below (va_Qv (fun (_ : Unit) => True) (fun _ t => va_P E.1 cls6 (wl E ad n L σo) t.heap ∧ va_D (va_A (wl E ad n L σ) sz) (wl E ad n L σo)) (va_A (wl E ad n L σ) sz)) ([.ref (ad 3)] : List Value).toArray s 0 0 (va_A (wl E ad n L σ) sz)) (F0 m 98 ls [])) → Wo E (va_A (wl E ad n L σ) sz) s.heap (wl E ad n L σ5) H locs → lv_has ls 4 [(1, .int x8), (0, .ref (ad 3))] → W p l e ({ frames := 2, cells := 0, slots := 0, locals := 46 }) s m ([.ref (ad 3)] : List Value).toArray below meth c H locs 0 0 (MQ below (va_Qv (fun (_ : Unit) => True) (fun _ t => va_P E.1 cls6 (wl E ad n L σo) t.heap ∧ va_D (va_A (wl E ad n L σ) sz) (wl E ad n L σo)) (va_A (wl E ad n L σ) sz)) ([.ref (ad 3)] : List Value).toArray s 0 0 (va_A (wl E ad n L σ) sz)) (F0 m 18 ls []) := by
    intro k7
    induction k7 with
    | zero =>
      intro σ5 x8 H locs ls res6 hD
      rw [D_PL_find_L18.eq_1] at hD
      cases hD
    | succ k7 ih =>
      intro σ5 x8 H locs ls res6 hD hex wo hl
      rw [D_PL_find_L18.eq_2] at hD
      refine lv_iload_n hx hb d_PL_find_18 rfl (lv_at hl 0 rfl) ?_
      refine lv_aload_n hx hb d_PL_find_19 rfl (lv_at hl 1 rfl) ?_
      refine g_get cx wo m3 (cel_3 E ad n σ5) rfl in_PL 2 (by decide) wf_PL_9 rfl d_PL_find_20 ?_
      refine g_get cx wo m1 (cel_1 E ad n σ5) rfl in_LA 2 (by decide) wf_PL_19 rfl d_PL_find_23 ?_
      refine lv_icmp_ge (tgt := 98) hx hb d_PL_find_26 (by decide) (fun c9 => ?_) (fun c9 => ?_)
      · have hD := ite_p hD c9
        exact hex σ5 _ _ _ (Option.some.inj hD).symm wo (lv_sub hl [] rfl)
      · have hD := ite_n hD c9
        refine lv_iconst (v := 0) hx hb d_PL_find_29 (by decide) ?_
        refine lv_istore_n (lv' := [(2, .int (0 : Int32)), (1, .int x8), (0, .ref (ad 3))]) hx hb d_PL_find_30 rfl hl (by decide) rfl (fun ls hl => ?_)
        have lp27 : ∀ (k12 : Nat) (σ10 : HS) (x13 : Int32) (H : Heap) (locs : List Loc) (ls : Array Slot) (res11 : HS), D_PL_find_L31 F n x8 k12 σ10 x13 = some res11 → (∀ (σ26 : HS) (H : Heap) (locs : List Loc) (ls : Array Slot), res11 = σ26 → Wo E (va_A (wl E ad n L σ) sz) s.heap (wl E ad n L σ26) H locs → lv_has ls 4 [(1, .int x8), (0, .ref (ad 3))] → W p l e ({ frames := 2, cells := 0, slots := 0, locals := 46 }) s m ([.ref (ad 3)] : List Value).toArray below meth c H locs 0 0 (MQ below (va_Qv (fun (_ : Unit) => True) (fun _ t => va_P E.1 cls6 (wl E ad n L σo) t.heap ∧ va_D (va_A (wl E ad n L σ) sz) (wl E ad n L σo)) (va_A (wl E ad n L σ) sz)) ([.ref (ad 3)] : List Value).toArray s 0 0 (va_A (wl E ad n L σ) sz)) (F0 m 92 ls [])) → Wo E (va_A (wl E ad n L σ) sz) s.heap (wl E ad n L σ10) H locs → lv_has ls 4 [(2, .int x13), (1, .int x8), (0, .ref (ad 3))] → W p l e ({ frames := 2, cells := 0, slots := 0, locals := 46 }) s m ([.ref (ad 3)] : List Value).toArray below meth c H locs 0 0 (MQ below (va_Qv (fun (_ : Unit) => True) (fun _ t => va_P E.1 cls6 (wl E ad n L σo) t.heap ∧ va_D (va_A (wl E ad n L σ) sz) (wl E ad n L σo)) (va_A (wl E ad n L σ) sz)) ([.ref (ad 3)] : List Value).toArray s 0 0 (va_A (wl E ad n L σ) sz)) (F0 m 31 ls []) := by
          intro k12
          induction k12 with
          | zero =>
            intro σ10 x13 H locs ls res11 hD
            rw [D_PL_find_L31.eq_1] at hD
            cases hD
          | succ k12 ih =>
            intro σ10 x13 H locs ls res11 hD hex wo hl
            rw [D_PL_find_L31.eq_2] at hD
            refine lv_iload_n hx hb d_PL_find_31 rfl (lv_at hl 0 rfl) ?_
            refine lv_aload_n hx hb d_PL_find_32 rfl (lv_at hl 2 rfl) ?_
            refine g_get cx wo m3 (cel_3 E ad n σ10) rfl in_PL 2 (by decide) wf_PL_9 rfl d_PL_find_33 ?_
            refine g_get cx wo m1 (cel_1 E ad n σ10) rfl in_LA 6 (by decide) wf_PL_47 rfl d_PL_find_36 ?_
            refine lv_icmp_ge (tgt := 92) hx hb d_PL_find_39 (by decide) (fun c14 => ?_) (fun c14 => ?_)
            · have hD := ite_p hD c14
              exact hex σ10 _ _ _ (Option.some.inj hD).symm wo (lv_sub hl [1, 2] rfl)
            · have hD := ite_n hD c14
              refine lv_aload_n hx hb d_PL_find_42 rfl (lv_at hl 2 rfl) ?_
              refine g_get cx wo m3 (cel_3 E ad n σ10) rfl in_PL 2 (by decide) wf_PL_9 rfl d_PL_find_43 ?_
              refine lv_iload_n hx hb d_PL_find_46 rfl (lv_at hl 1 rfl) ?_
              refine lv_iload_n hx hb d_PL_find_47 rfl (lv_at hl 0 rfl) ?_
              obtain ⟨x15, hcx15, hD⟩ := bd_s hD
              try dsimp only [nm2] at hD
              refine call_Vi cx wo (k_LA_slot l E ad n L (fun a h => hL a ((by decide : ∀ a ∈ ([1] : List Nat), a ∈ ([1, 2, 3, 9, 11, 13, 14, 15, 16] : List Nat)) a h)) F σ10  x8 x13 x15 hcx15) m1 (cel_1 E ad n σ10) rfl rfl mw_LA_slot wm_PL_50 ⟨by decide, by decide⟩ ⟨by decide, by decide⟩ hl.1 rfl (Nat.le_of_ble_eq_true rfl) d_PL_find_48 (fun H locs wo => ?_)
              refine lv_istore_n (lv' := [(3, .int x15), (2, .int x13), (1, .int x8), (0, .ref (ad 3))]) hx hb d_PL_find_51 rfl hl (by decide) rfl (fun ls hl => ?_)
              refine lv_aload_n hx hb d_PL_find_52 rfl (lv_at hl 3 rfl) ?_
              refine g_get cx wo m3 (cel_3 E ad n σ10) rfl in_PL 0 (by decide) wf_PL_28 rfl d_PL_find_53 ?_
              refine lv_iload_n hx hb d_PL_find_56 rfl (lv_at hl 0 rfl) ?_
              refine lv_aload_n hx hb d_PL_find_57 rfl (lv_at hl 3 rfl) ?_
              refine lv_iload_n hx hb d_PL_find_58 rfl (lv_at hl 2 rfl) ?_
              refine lv_iload_n hx hb d_PL_find_59 rfl (lv_at hl 0 rfl) ?_
              obtain ⟨x16, hcx16, hD⟩ := bd_s hD
              try dsimp only [nm2] at hD
              refine call_Vi cx wo (k_PL_found l E ad n L (fun a h => hL a ((by decide : ∀ a ∈ ([1, 2, 3, 9, 11, 13, 14] : List Nat), a ∈ ([1, 2, 3, 9, 11, 13, 14, 15, 16] : List Nat)) a h)) F σ10  x8 x15 x16 hcx16) m3 (cel_3 E ad n σ10) rfl rfl mw_PL_found wm_PL_54 ⟨by decide, by decide⟩ ⟨by decide, by decide⟩ hl.1 rfl (Nat.le_of_ble_eq_true rfl) d_PL_find_60 (fun H locs wo => ?_)
              obtain ⟨g17, hD⟩ := grd_s hD
              refine g_iast cx wo m15 (cel_15 E ad n) g17 d_PL_find_63 (fun H locs wo => ?_)
              obtain ⟨σ18, eσ18⟩ : ∃ z, z = stI σ10 15 (x15).toNatClampNeg x16 := ⟨_, rfl⟩
              rw [← eσ18] at wo
              have hD := nm_at hD eσ18
              try dsimp only at hD
              refine lv_aload_n hx hb d_PL_find_64 rfl (lv_at hl 3 rfl) ?_
              refine g_get cx wo m3 (cel_3 E ad n σ18) rfl in_PL 0 (by decide) wf_PL_28 rfl d_PL_find_65 ?_
              refine lv_iload_n hx hb d_PL_find_68 rfl (lv_at hl 0 rfl) ?_
              obtain ⟨g19, hD⟩ := grd_s hD
              refine g_iald cx wo m15 (cel_15 E ad n σ18) g19 d_PL_find_69 ?_
              refine lv_iconst (v := -1) hx hb d_PL_find_70 (by decide) ?_
              refine lv_icmp_eq (tgt := 86) hx hb d_PL_find_71 (by decide) (fun c20 => ?_) (fun c20 => ?_)
              · have hD := ite_p hD c20
                obtain ⟨x21, ex21⟩ : ∃ y : Int32, y = x13 + (1 : Int32) := ⟨_, rfl⟩
                have hD := nm_at hD ex21
                try dsimp only at hD
                refine lv_iinc (v := x21) (lv' := [(2, .int x21), (3, .int x15), (1, .int x8), (0, .ref (ad 3))]) hx hb d_PL_find_86 hl (k := 1) rfl (by rw [ex21]; rfl) (by decide) rfl (fun ls hl => ?_)
                refine lv_goto (tgt := 31) hx hb d_PL_find_89 (by decide) ?_
                exact ih σ18 x21 _ _ _ _ hD hex wo (lv_sub hl [0, 2, 3] rfl)
              · have hD := ite_n hD c20
                refine lv_aload_n hx hb d_PL_find_74 rfl (lv_at hl 3 rfl) ?_
                refine g_get cx wo m3 (cel_3 E ad n σ18) rfl in_PL 1 (by decide) wf_PL_35 rfl d_PL_find_75 ?_
                refine lv_aload_n hx hb d_PL_find_78 rfl (lv_at hl 3 rfl) ?_
                refine g_get cx wo m3 (cel_3 E ad n σ18) rfl in_PL 0 (by decide) wf_PL_28 rfl d_PL_find_79 ?_
                refine lv_iload_n hx hb d_PL_find_82 rfl (lv_at hl 0 rfl) ?_
                obtain ⟨g22, hD⟩ := grd_s hD
                refine g_iald cx wo m15 (cel_15 E ad n σ18) g22 d_PL_find_83 ?_
                refine lv_iload_n hx hb d_PL_find_84 rfl (lv_at hl 0 rfl) ?_
                obtain ⟨g23, hD⟩ := grd_s hD
                refine g_iast cx wo m16 (cel_16 E ad n) g23 d_PL_find_85 (fun H locs wo => ?_)
                obtain ⟨σ24, eσ24⟩ : ∃ z, z = stI σ18 16 ((σ18.1 15 (x15).toNatClampNeg)).toNatClampNeg x15 := ⟨_, rfl⟩
                rw [← eσ24] at wo
                have hD := nm_at hD eσ24
                try dsimp only at hD
                obtain ⟨x25, ex25⟩ : ∃ y : Int32, y = x13 + (1 : Int32) := ⟨_, rfl⟩
                have hD := nm_at hD ex25
                try dsimp only at hD
                refine lv_iinc (v := x25) (lv' := [(2, .int x25), (3, .int x15), (1, .int x8), (0, .ref (ad 3))]) hx hb d_PL_find_86 hl (k := 1) rfl (by rw [ex25]; rfl) (by decide) rfl (fun ls hl => ?_)
                refine lv_goto (tgt := 31) hx hb d_PL_find_89 (by decide) ?_
                exact ih σ24 x25 _ _ _ _ hD hex wo (lv_sub hl [0, 2, 3] rfl)
        obtain ⟨res28, hr29, hD⟩ := bd_s hD
        refine lp27 F σ5 (0 : Int32) _ _ _ _ hr29 (fun σ26 H locs ls hz wo hl => ?_) wo (lv_sub hl [0, 1, 2] rfl)
        have hz := hz.symm
        subst hz
        try dsimp only at hD
        obtain ⟨x30, ex30⟩ : ∃ y : Int32, y = x8 + (1 : Int32) := ⟨_, rfl⟩
        have hD := nm_at hD ex30
        try dsimp only at hD
        refine lv_iinc (v := x30) (lv' := [(1, .int x30), (0, .ref (ad 3))]) hx hb d_PL_find_92 hl (k := 0) rfl (by rw [ex30]; rfl) (by decide) rfl (fun ls hl => ?_)
        refine lv_goto (tgt := 18) hx hb d_PL_find_95 (by decide) ?_
        exact ih σ26 x30 _ _ _ _ hD hex wo (lv_sub hl [0, 1] rfl)
  obtain ⟨res33, hr34, hD⟩ := bd_s hD
  refine lp32 F σ4 (0 : Int32) _ _ _ _ hr34 (fun σ31 H locs ls hz wo hl => ?_) wo (lv_sub hl [0, 1] rfl)
  have hz := hz.symm
  subst hz
  try dsimp only at hD
  cases hD
  exact t_vret cx wo d_PL_find_98
def D_PL_move (F : Nat) (n : Nat → Nat) (σ : HS) (p1 : Int32) (p2 : Int32) : Option (HS) :=
grd (inb p1 (n 15)) (
  jn (fun (σ3 : HS) =>
    grd (inb p1 (n 15)) (
    nm (stI σ3 15 (p1).toNatClampNeg p2) (fun σ5 =>
    grd (inb p2 (n 16)) (
    nm (stI σ5 16 (p2).toNatClampNeg p1) (fun σ7 =>
    some σ7)))))
  (fun j2 =>
  (if (σ.1 15 (p1).toNatClampNeg) = (-1 : Int32) then
    j2 σ
  else
    grd (inb p1 (n 15)) (
    grd (inb (σ.1 15 (p1).toNatClampNeg) (n 16)) (
    nm (stI σ 16 ((σ.1 15 (p1).toNatClampNeg)).toNatClampNeg (-1 : Int32)) (fun σ11 =>
    j2 σ11))))))
set_option maxRecDepth 100000 in
set_option maxHeartbeats 4000000 in
theorem k_PL_move (l : Launch) (E : EV) (ad n : Nat → Nat) (L : List Nat) (hL : ∀ a ∈ ([3, 15, 16] : List Nat), a ∈ L) (F : Nat) (σ σo : HS) (p1 : Int32) (p2 : Int32)  (hD : D_PL_move F n σ p1 p2 = some σo) : CtV l E y_PL_move c_PL_move 3 none ({ frames := 0, cells := 0, slots := 0, locals := 0 }) [.ref (ad 3), .int p1, .int p2] (wl E ad n L σ) (wl E ad n L σo) := by
  refine fun sz => ent (by decide) (Nat.le_of_ble_eq_true rfl) ?_
  intro p e s m below meth c hsz cx wo ls hl
  have hx := cx.1.1
  have hb := cx.1.2.1
  have hown := cx.1.2.2.2.1
  have hts := cx.1.2.2.2.2
  have hl : lv_has ls 3 [(0, .ref (ad 3)), (1, .int p1), (2, .int p2)] := hl
  have m3 : 3 ∈ L := hL 3 (by decide)
  have m15 : 15 ∈ L := hL 15 (by decide)
  have m16 : 16 ∈ L := hL 16 (by decide)
  rw [D_PL_move] at hD
  refine lv_aload_n hx hb d_PL_move_0 rfl (lv_at hl 0 rfl) ?_
  refine g_get cx wo m3 (cel_3 E ad n σ) rfl in_PL 0 (by decide) wf_PL_28 rfl d_PL_move_1 ?_
  refine lv_iload_n hx hb d_PL_move_4 rfl (lv_at hl 1 rfl) ?_
  obtain ⟨g1, hD⟩ := grd_s hD
  refine g_iald cx wo m15 (cel_15 E ad n σ) g1 d_PL_move_5 ?_
  refine lv_iconst (v := -1) hx hb d_PL_move_6 (by decide) ?_
  obtain ⟨j2, hj2, hD⟩ := jn_s hD
  try dsimp only at hD
  have j2_ok : ∀ (σ3 : HS) (H : Heap) (locs : List Loc) (ls : Array Slot), j2 σ3 = some σo → Wo E (va_A (wl E ad n L σ) sz) s.heap (wl E ad n L σ3) H locs → lv_has ls 3 [(0, .ref (ad 3)), (1, .int p1), (2, .int p2)] → W p l e ({ frames := 0, cells := 0, slots := 0, locals := 0 }) s m ([.ref (ad 3), .int p1, .int p2] : List Value).toArray below meth c H locs 0 0 (MQ below (va_Qv (fun (_ : Unit) => True) (fun _ t => va_P E.1 cls6 (wl E ad n L σo) t.heap ∧ va_D (va_A (wl E ad n L σ) sz) (wl E ad n L σo)) (va_A (wl E ad n L σ) sz)) ([.ref (ad 3), .int p1, .int p2] : List Value).toArray s 0 0 (va_A (wl E ad n L σ) sz)) (F0 m 22 ls []) := by
    intro σ3 H locs ls hD wo hl
    rw [hj2] at hD
    try dsimp only at hD
    refine lv_aload_n hx hb d_PL_move_22 rfl (lv_at hl 0 rfl) ?_
    refine g_get cx wo m3 (cel_3 E ad n σ3) rfl in_PL 0 (by decide) wf_PL_28 rfl d_PL_move_23 ?_
    refine lv_iload_n hx hb d_PL_move_26 rfl (lv_at hl 1 rfl) ?_
    refine lv_iload_n hx hb d_PL_move_27 rfl (lv_at hl 2 rfl) ?_
    obtain ⟨g4, hD⟩ := grd_s hD
    refine g_iast cx wo m15 (cel_15 E ad n) g4 d_PL_move_28 (fun H locs wo => ?_)
    obtain ⟨σ5, eσ5⟩ : ∃ z, z = stI σ3 15 (p1).toNatClampNeg p2 := ⟨_, rfl⟩
    rw [← eσ5] at wo
    have hD := nm_at hD eσ5
    try dsimp only at hD
    refine lv_aload_n hx hb d_PL_move_29 rfl (lv_at hl 0 rfl) ?_
    refine g_get cx wo m3 (cel_3 E ad n σ5) rfl in_PL 1 (by decide) wf_PL_35 rfl d_PL_move_30 ?_
    refine lv_iload_n hx hb d_PL_move_33 rfl (lv_at hl 2 rfl) ?_
    refine lv_iload_n hx hb d_PL_move_34 rfl (lv_at hl 1 rfl) ?_
    obtain ⟨g6, hD⟩ := grd_s hD
    refine g_iast cx wo m16 (cel_16 E ad n) g6 d_PL_move_35 (fun H locs wo => ?_)
    obtain ⟨σ7, eσ7⟩ : ∃ z, z = stI σ5 16 (p2).toNatClampNeg p1 := ⟨_, rfl⟩
    rw [← eσ7] at wo
    have hD := nm_at hD eσ7
    try dsimp only at hD
    cases hD
    exact t_vret cx wo d_PL_move_36
  refine lv_icmp_eq (tgt := 22) hx hb d_PL_move_7 (by decide) (fun c8 => ?_) (fun c8 => ?_)
  · have hD := ite_p hD c8
    exact j2_ok σ _ _ _ hD wo (lv_sub hl [0, 1, 2] rfl)
  · have hD := ite_n hD c8
    refine lv_aload_n hx hb d_PL_move_10 rfl (lv_at hl 0 rfl) ?_
    refine g_get cx wo m3 (cel_3 E ad n σ) rfl in_PL 1 (by decide) wf_PL_35 rfl d_PL_move_11 ?_
    refine lv_aload_n hx hb d_PL_move_14 rfl (lv_at hl 0 rfl) ?_
    refine g_get cx wo m3 (cel_3 E ad n σ) rfl in_PL 0 (by decide) wf_PL_28 rfl d_PL_move_15 ?_
    refine lv_iload_n hx hb d_PL_move_18 rfl (lv_at hl 1 rfl) ?_
    obtain ⟨g9, hD⟩ := grd_s hD
    refine g_iald cx wo m15 (cel_15 E ad n σ) g9 d_PL_move_19 ?_
    refine lv_iconst (v := -1) hx hb d_PL_move_20 (by decide) ?_
    obtain ⟨g10, hD⟩ := grd_s hD
    refine g_iast cx wo m16 (cel_16 E ad n) g10 d_PL_move_21 (fun H locs wo => ?_)
    obtain ⟨σ11, eσ11⟩ : ∃ z, z = stI σ 16 ((σ.1 15 (p1).toNatClampNeg)).toNatClampNeg (-1 : Int32) := ⟨_, rfl⟩
    rw [← eσ11] at wo
    have hD := nm_at hD eσ11
    try dsimp only at hD
    exact j2_ok σ11 _ _ _ hD wo (lv_sub hl [0, 1, 2] rfl)
def D_PL_dropDisk_L2 (F : Nat) (n : Nat → Nat) (p1 : Int32) : Nat → HS → Int32 → Option (HS)
  | 0, _, _ => none
  | k3 + 1, σ1, x4 =>
      (if (σ1.1 1 2) ≤ x4 then
        some σ1
      else
        (D_LA_cell F n σ1 p1 x4).bind (fun (x6 : Int32) =>
        grd (inb x6 (n 16)) (
        (if (σ1.1 16 (x6).toNatClampNeg) = (-1 : Int32) then
          nm (x4 + (1 : Int32)) (fun x9 =>
          D_PL_dropDisk_L2 F n p1 k3 σ1 x9)
        else
          grd (inb x6 (n 16)) (
          grd (inb (σ1.1 16 (x6).toNatClampNeg) (n 15)) (
          nm (stI σ1 15 ((σ1.1 16 (x6).toNatClampNeg)).toNatClampNeg (-1 : Int32)) (fun σ12 =>
          grd (inb x6 (n 16)) (
          nm (stI σ12 16 (x6).toNatClampNeg (-1 : Int32)) (fun σ14 =>
          nm (x4 + (1 : Int32)) (fun x15 =>
          D_PL_dropDisk_L2 F n p1 k3 σ14 x15))))))))))
def D_PL_dropDisk (F : Nat) (n : Nat → Nat) (σ : HS) (p1 : Int32) : Option (HS) :=
(D_PL_dropDisk_L2 F n p1 F σ (0 : Int32)).bind (fun (σ16 : HS) =>
  some σ16)
set_option maxRecDepth 100000 in
set_option maxHeartbeats 4000000 in
theorem k_PL_dropDisk (l : Launch) (E : EV) (ad n : Nat → Nat) (L : List Nat) (hL : ∀ a ∈ ([1, 3, 15, 16] : List Nat), a ∈ L) (F : Nat) (σ σo : HS) (p1 : Int32)  (hD : D_PL_dropDisk F n σ p1 = some σo) : CtV l E y_PL_dropDisk c_PL_dropDisk 4 none ({ frames := 1, cells := 0, slots := 0, locals := 22 }) [.ref (ad 3), .int p1] (wl E ad n L σ) (wl E ad n L σo) := by
  refine fun sz => ent (by decide) (Nat.le_of_ble_eq_true rfl) ?_
  intro p e s m below meth c hsz cx wo ls hl
  have hx := cx.1.1
  have hb := cx.1.2.1
  have hown := cx.1.2.2.2.1
  have hts := cx.1.2.2.2.2
  have hl : lv_has ls 4 [(0, .ref (ad 3)), (1, .int p1)] := hl
  have m1 : 1 ∈ L := hL 1 (by decide)
  have m3 : 3 ∈ L := hL 3 (by decide)
  have m15 : 15 ∈ L := hL 15 (by decide)
  have m16 : 16 ∈ L := hL 16 (by decide)
  rw [D_PL_dropDisk] at hD
  refine lv_iconst (v := 0) hx hb d_PL_dropDisk_0 (by decide) ?_
  refine lv_istore_n (lv' := [(2, .int (0 : Int32)), (0, .ref (ad 3)), (1, .int p1)]) hx hb d_PL_dropDisk_1 rfl hl (by decide) rfl (fun ls hl => ?_)
  have lp17 : ∀ (k3 : Nat) (σ1 : HS) (x4 : Int32) (H : Heap) (locs : List Loc) (ls : Array Slot) (res2 : HS), D_PL_dropDisk_L2 F n p1 k3 σ1 x4 = some res2 → (∀ (σ16 : HS) (H : Heap) (locs : List Loc) (ls : Array Slot), res2 = σ16 → Wo E (va_A (wl E ad n L σ) sz) s.heap (wl E ad n L σ16) H locs → lv_has ls 4 [] → W p l e ({ frames := 1, cells := 0, slots := 0, locals := 22 }) s m ([.ref (ad 3), .int p1] : List Value).toArray below meth c H locs 0 0 (MQ below (va_Qv (fun (_ : Unit) => True) (fun _ t => va_P E.1 cls6 (wl E ad n L σo) t.heap ∧ va_D (va_A (wl E ad n L σ) sz) (wl E ad n L σo)) (va_A (wl E ad n L σ) sz)) ([.ref (ad 3), .int p1] : List Value).toArray s 0 0 (va_A (wl E ad n L σ) sz)) (F0 m 58 ls [])) → Wo E (va_A (wl E ad n L σ) sz) s.heap (wl E ad n L σ1) H locs → lv_has ls 4 [(2, .int x4), (0, .ref (ad 3)), (1, .int p1)] → W p l e ({ frames := 1, cells := 0, slots := 0, locals := 22 }) s m ([.ref (ad 3), .int p1] : List Value).toArray below meth c H locs 0 0 (MQ below (va_Qv (fun (_ : Unit) => True) (fun _ t => va_P E.1 cls6 (wl E ad n L σo) t.heap ∧ va_D (va_A (wl E ad n L σ) sz) (wl E ad n L σo)) (va_A (wl E ad n L σ) sz)) ([.ref (ad 3), .int p1] : List Value).toArray s 0 0 (va_A (wl E ad n L σ) sz)) (F0 m 2 ls []) := by
    intro k3
    induction k3 with
    | zero =>
      intro σ1 x4 H locs ls res2 hD
      rw [D_PL_dropDisk_L2.eq_1] at hD
      cases hD
    | succ k3 ih =>
      intro σ1 x4 H locs ls res2 hD hex wo hl
      rw [D_PL_dropDisk_L2.eq_2] at hD
      refine lv_iload_n hx hb d_PL_dropDisk_2 rfl (lv_at hl 0 rfl) ?_
      refine lv_aload_n hx hb d_PL_dropDisk_3 rfl (lv_at hl 1 rfl) ?_
      refine g_get cx wo m3 (cel_3 E ad n σ1) rfl in_PL 2 (by decide) wf_PL_9 rfl d_PL_dropDisk_4 ?_
      refine g_get cx wo m1 (cel_1 E ad n σ1) rfl in_LA 2 (by decide) wf_PL_19 rfl d_PL_dropDisk_7 ?_
      refine lv_icmp_ge (tgt := 58) hx hb d_PL_dropDisk_10 (by decide) (fun c5 => ?_) (fun c5 => ?_)
      · have hD := ite_p hD c5
        exact hex σ1 _ _ _ (Option.some.inj hD).symm wo (lv_sub hl [] rfl)
      · have hD := ite_n hD c5
        refine lv_aload_n hx hb d_PL_dropDisk_13 rfl (lv_at hl 1 rfl) ?_
        refine g_get cx wo m3 (cel_3 E ad n σ1) rfl in_PL 2 (by decide) wf_PL_9 rfl d_PL_dropDisk_14 ?_
        refine lv_iload_n hx hb d_PL_dropDisk_17 rfl (lv_at hl 2 rfl) ?_
        refine lv_iload_n hx hb d_PL_dropDisk_18 rfl (lv_at hl 0 rfl) ?_
        obtain ⟨x6, hcx6, hD⟩ := bd_s hD
        try dsimp only [nm2] at hD
        refine call_Vi cx wo (k_LA_cell l E ad n L (fun a h => hL a ((by decide : ∀ a ∈ ([1] : List Nat), a ∈ ([1, 3, 15, 16] : List Nat)) a h)) F σ1  p1 x4 x6 hcx6) m1 (cel_1 E ad n σ1) rfl rfl mw_LA_cell wm_PL_76 ⟨by decide, by decide⟩ ⟨by decide, by decide⟩ hl.1 rfl (Nat.le_of_ble_eq_true rfl) d_PL_dropDisk_19 (fun H locs wo => ?_)
        refine lv_istore_n (lv' := [(3, .int x6), (2, .int x4), (0, .ref (ad 3)), (1, .int p1)]) hx hb d_PL_dropDisk_22 rfl hl (by decide) rfl (fun ls hl => ?_)
        refine lv_aload_n hx hb d_PL_dropDisk_23 rfl (lv_at hl 2 rfl) ?_
        refine g_get cx wo m3 (cel_3 E ad n σ1) rfl in_PL 1 (by decide) wf_PL_35 rfl d_PL_dropDisk_24 ?_
        refine lv_iload_n hx hb d_PL_dropDisk_27 rfl (lv_at hl 0 rfl) ?_
        obtain ⟨g7, hD⟩ := grd_s hD
        refine g_iald cx wo m16 (cel_16 E ad n σ1) g7 d_PL_dropDisk_28 ?_
        refine lv_iconst (v := -1) hx hb d_PL_dropDisk_29 (by decide) ?_
        refine lv_icmp_eq (tgt := 52) hx hb d_PL_dropDisk_30 (by decide) (fun c8 => ?_) (fun c8 => ?_)
        · have hD := ite_p hD c8
          obtain ⟨x9, ex9⟩ : ∃ y : Int32, y = x4 + (1 : Int32) := ⟨_, rfl⟩
          have hD := nm_at hD ex9
          try dsimp only at hD
          refine lv_iinc (v := x9) (lv' := [(2, .int x9), (3, .int x6), (0, .ref (ad 3)), (1, .int p1)]) hx hb d_PL_dropDisk_52 hl (k := 1) rfl (by rw [ex9]; rfl) (by decide) rfl (fun ls hl => ?_)
          refine lv_goto (tgt := 2) hx hb d_PL_dropDisk_55 (by decide) ?_
          exact ih σ1 x9 _ _ _ _ hD hex wo (lv_sub hl [0, 2, 3] rfl)
        · have hD := ite_n hD c8
          refine lv_aload_n hx hb d_PL_dropDisk_33 rfl (lv_at hl 2 rfl) ?_
          refine g_get cx wo m3 (cel_3 E ad n σ1) rfl in_PL 0 (by decide) wf_PL_28 rfl d_PL_dropDisk_34 ?_
          refine lv_aload_n hx hb d_PL_dropDisk_37 rfl (lv_at hl 2 rfl) ?_
          refine g_get cx wo m3 (cel_3 E ad n σ1) rfl in_PL 1 (by decide) wf_PL_35 rfl d_PL_dropDisk_38 ?_
          refine lv_iload_n hx hb d_PL_dropDisk_41 rfl (lv_at hl 0 rfl) ?_
          obtain ⟨g10, hD⟩ := grd_s hD
          refine g_iald cx wo m16 (cel_16 E ad n σ1) g10 d_PL_dropDisk_42 ?_
          refine lv_iconst (v := -1) hx hb d_PL_dropDisk_43 (by decide) ?_
          obtain ⟨g11, hD⟩ := grd_s hD
          refine g_iast cx wo m15 (cel_15 E ad n) g11 d_PL_dropDisk_44 (fun H locs wo => ?_)
          obtain ⟨σ12, eσ12⟩ : ∃ z, z = stI σ1 15 ((σ1.1 16 (x6).toNatClampNeg)).toNatClampNeg (-1 : Int32) := ⟨_, rfl⟩
          rw [← eσ12] at wo
          have hD := nm_at hD eσ12
          try dsimp only at hD
          refine lv_aload_n hx hb d_PL_dropDisk_45 rfl (lv_at hl 2 rfl) ?_
          refine g_get cx wo m3 (cel_3 E ad n σ12) rfl in_PL 1 (by decide) wf_PL_35 rfl d_PL_dropDisk_46 ?_
          refine lv_iload_n hx hb d_PL_dropDisk_49 rfl (lv_at hl 0 rfl) ?_
          refine lv_iconst (v := -1) hx hb d_PL_dropDisk_50 (by decide) ?_
          obtain ⟨g13, hD⟩ := grd_s hD
          refine g_iast cx wo m16 (cel_16 E ad n) g13 d_PL_dropDisk_51 (fun H locs wo => ?_)
          obtain ⟨σ14, eσ14⟩ : ∃ z, z = stI σ12 16 (x6).toNatClampNeg (-1 : Int32) := ⟨_, rfl⟩
          rw [← eσ14] at wo
          have hD := nm_at hD eσ14
          try dsimp only at hD
          obtain ⟨x15, ex15⟩ : ∃ y : Int32, y = x4 + (1 : Int32) := ⟨_, rfl⟩
          have hD := nm_at hD ex15
          try dsimp only at hD
          refine lv_iinc (v := x15) (lv' := [(2, .int x15), (3, .int x6), (0, .ref (ad 3)), (1, .int p1)]) hx hb d_PL_dropDisk_52 hl (k := 1) rfl (by rw [ex15]; rfl) (by decide) rfl (fun ls hl => ?_)
          refine lv_goto (tgt := 2) hx hb d_PL_dropDisk_55 (by decide) ?_
          exact ih σ14 x15 _ _ _ _ hD hex wo (lv_sub hl [0, 2, 3] rfl)
  obtain ⟨res18, hr19, hD⟩ := bd_s hD
  refine lp17 F σ (0 : Int32) _ _ _ _ hr19 (fun σ16 H locs ls hz wo hl => ?_) wo (lv_sub hl [0, 1, 2] rfl)
  have hz := hz.symm
  subst hz
  try dsimp only at hD
  cases hD
  exact t_vret cx wo d_PL_dropDisk_58
def D_PL_isFree (F : Nat) (n : Nat → Nat) (σ : HS) (p1 : Int32) : Option (Int32) :=
grd (inb p1 (n 16)) (
  (if (σ.1 16 (p1).toNatClampNeg) = (-1 : Int32) then
    (D_LA_diskOf F n σ p1).bind (fun (x3 : Int32) =>
    grd (inb x3 (n 10)) (
    (if (σ.1 10 (x3).toNatClampNeg) = 0 then
      some (0 : Int32)
    else
      some (1 : Int32))))
  else
    some (0 : Int32)))
set_option maxRecDepth 100000 in
set_option maxHeartbeats 4000000 in
theorem k_PL_isFree (l : Launch) (E : EV) (ad n : Nat → Nat) (L : List Nat) (hL : ∀ a ∈ ([1, 2, 3, 10, 16] : List Nat), a ∈ L) (F : Nat) (σ  : HS) (p1 : Int32) (r : Int32) (hD : D_PL_isFree F n σ p1 = some r) : CtI l E y_PL_isFree c_PL_isFree 2 (some FieldType.boolean) ({ frames := 1, cells := 0, slots := 0, locals := 21 }) [.ref (ad 3), .int p1] (wl E ad n L σ) r (wl E ad n L σ) := by
  refine fun sz => ent (by decide) (Nat.le_of_ble_eq_true rfl) ?_
  intro p e s m below meth c hsz cx wo ls hl
  have hx := cx.1.1
  have hb := cx.1.2.1
  have hown := cx.1.2.2.2.1
  have hts := cx.1.2.2.2.2
  have hl : lv_has ls 2 [(0, .ref (ad 3)), (1, .int p1)] := hl
  have m1 : 1 ∈ L := hL 1 (by decide)
  have m2 : 2 ∈ L := hL 2 (by decide)
  have m3 : 3 ∈ L := hL 3 (by decide)
  have m10 : 10 ∈ L := hL 10 (by decide)
  have m16 : 16 ∈ L := hL 16 (by decide)
  rw [D_PL_isFree] at hD
  refine lv_aload_n hx hb d_PL_isFree_0 rfl (lv_at hl 0 rfl) ?_
  refine g_get cx wo m3 (cel_3 E ad n σ) rfl in_PL 1 (by decide) wf_PL_35 rfl d_PL_isFree_1 ?_
  refine lv_iload_n hx hb d_PL_isFree_4 rfl (lv_at hl 1 rfl) ?_
  obtain ⟨g1, hD⟩ := grd_s hD
  refine g_iald cx wo m16 (cel_16 E ad n σ) g1 d_PL_isFree_5 ?_
  refine lv_iconst (v := -1) hx hb d_PL_isFree_6 (by decide) ?_
  refine lv_icmp_ne (tgt := 33) hx hb d_PL_isFree_7 (by decide) (fun c2 => ?_) (fun c2 => ?_)
  · have hD := ite_n hD c2
    refine lv_iconst (v := 0) hx hb d_PL_isFree_33 (by decide) ?_
    cases hD
    exact t_ireti cx wo rfl rfl d_PL_isFree_34
  · have hD := ite_p hD c2
    refine lv_aload_n hx hb d_PL_isFree_10 rfl (lv_at hl 0 rfl) ?_
    refine g_get cx wo m3 (cel_3 E ad n σ) rfl in_PL 3 (by decide) wf_PL_15 rfl d_PL_isFree_11 ?_
    refine g_get cx wo m2 (cel_2 E ad n σ) rfl in_RK 0 (by decide) wf_PL_79 rfl d_PL_isFree_14 ?_
    refine lv_aload_n hx hb d_PL_isFree_17 rfl (lv_at hl 0 rfl) ?_
    refine g_get cx wo m3 (cel_3 E ad n σ) rfl in_PL 2 (by decide) wf_PL_9 rfl d_PL_isFree_18 ?_
    refine lv_iload_n hx hb d_PL_isFree_21 rfl (lv_at hl 1 rfl) ?_
    obtain ⟨x3, hcx3, hD⟩ := bd_s hD
    try dsimp only [nm2] at hD
    refine call_Vi cx wo (k_LA_diskOf l E ad n L (fun a h => hL a ((by decide : ∀ a ∈ ([1] : List Nat), a ∈ ([1, 2, 3, 10, 16] : List Nat)) a h)) F σ  p1 x3 hcx3) m1 (cel_1 E ad n σ) rfl rfl mw_LA_diskOf wm_PL_83 ⟨by decide, by decide⟩ ⟨by decide, by decide⟩ hl.1 rfl (Nat.le_of_ble_eq_true rfl) d_PL_isFree_22 (fun H locs wo => ?_)
    obtain ⟨g4, hD⟩ := grd_s hD
    refine g_zald cx wo m10 (cel_10 E ad n σ) g4 d_PL_isFree_25 ?_
    refine lv_if_eq (tgt := 33) hx hb d_PL_isFree_26 (by decide) (fun c5 => ?_) (fun c5 => ?_)
    · have hD := ite_p hD c5
      refine lv_iconst (v := 0) hx hb d_PL_isFree_33 (by decide) ?_
      cases hD
      exact t_ireti cx wo rfl rfl d_PL_isFree_34
    · have hD := ite_n hD c5
      refine lv_iconst (v := 1) hx hb d_PL_isFree_29 (by decide) ?_
      refine lv_goto (tgt := 34) hx hb d_PL_isFree_30 (by decide) ?_
      cases hD
      exact t_ireti cx wo rfl rfl d_PL_isFree_34
def D_PL_firstFreeSpare_L8 (F : Nat) (n : Nat → Nat) (σ : HS) (p1 : Int32) : Nat → Int32 → Option ((Unit) ⊕ (Int32))
  | 0, _ => none
  | k3 + 1, x4 =>
      (if (σ.1 1 0) ≤ x4 then
        some (Sum.inl ())
      else
        (D_LA_slot F n σ p1 x4).bind (fun (x6 : Int32) =>
        grd (inb x6 (n 9)) (
        nm (σ.1 9 (x6).toNatClampNeg) (fun x8 =>
        (D_PL_isFree F n σ x8).bind (fun (x9 : Int32) =>
        (if x9 = 0 then
          nm (x4 + (1 : Int32)) (fun x11 =>
          D_PL_firstFreeSpare_L8 F n σ p1 k3 x11)
        else
          some (Sum.inr x8)))))))
def D_PL_firstFreeSpare (F : Nat) (n : Nat → Nat) (σ : HS) (p1 : Int32) : Option (Int32) :=
nm (σ.1 1 6) (fun x1 =>
  (D_PL_firstFreeSpare_L8 F n σ p1 F x1).bind (fun q15 => match q15 with
    | Sum.inl _ =>
      some (-1 : Int32)
    | Sum.inr z => some z))
set_option maxRecDepth 100000 in
set_option maxHeartbeats 4000000 in
theorem k_PL_firstFreeSpare (l : Launch) (E : EV) (ad n : Nat → Nat) (L : List Nat) (hL : ∀ a ∈ ([1, 2, 3, 9, 10, 16] : List Nat), a ∈ L) (F : Nat) (σ  : HS) (p1 : Int32) (r : Int32) (hD : D_PL_firstFreeSpare F n σ p1 = some r) : CtI l E y_PL_firstFreeSpare c_PL_firstFreeSpare 4 (some FieldType.int) ({ frames := 2, cells := 0, slots := 0, locals := 42 }) [.ref (ad 3), .int p1] (wl E ad n L σ) r (wl E ad n L σ) := by
  refine fun sz => ent (by decide) (Nat.le_of_ble_eq_true rfl) ?_
  intro p e s m below meth c hsz cx wo ls hl
  have hx := cx.1.1
  have hb := cx.1.2.1
  have hown := cx.1.2.2.2.1
  have hts := cx.1.2.2.2.2
  have hl : lv_has ls 4 [(0, .ref (ad 3)), (1, .int p1)] := hl
  have m1 : 1 ∈ L := hL 1 (by decide)
  have m2 : 2 ∈ L := hL 2 (by decide)
  have m3 : 3 ∈ L := hL 3 (by decide)
  have m9 : 9 ∈ L := hL 9 (by decide)
  have m10 : 10 ∈ L := hL 10 (by decide)
  have m16 : 16 ∈ L := hL 16 (by decide)
  rw [D_PL_firstFreeSpare] at hD
  refine lv_aload_n hx hb d_PL_firstFreeSpare_0 rfl (lv_at hl 0 rfl) ?_
  refine g_get cx wo m3 (cel_3 E ad n σ) rfl in_PL 2 (by decide) wf_PL_9 rfl d_PL_firstFreeSpare_1 ?_
  refine g_get cx wo m1 (cel_1 E ad n σ) rfl in_LA 6 (by decide) wf_PL_47 rfl d_PL_firstFreeSpare_4 ?_
  refine lv_topi (fun x1 ex1 => ?_)
  have hD := nm_at hD ex1
  try dsimp only at hD
  refine lv_istore_n (lv' := [(2, .int x1), (0, .ref (ad 3)), (1, .int p1)]) hx hb d_PL_firstFreeSpare_7 rfl hl (by decide) rfl (fun ls hl => ?_)
  have lp12 : ∀ (k3 : Nat) (x4 : Int32) (H : Heap) (locs : List Loc) (ls : Array Slot) (res2 : (Unit) ⊕ (Int32)), D_PL_firstFreeSpare_L8 F n σ p1 k3 x4 = some res2 → (∀ z, res2 = Sum.inr z → r = z) → (∀  (H : Heap) (locs : List Loc) (ls : Array Slot), res2 = Sum.inl () → Wo E (va_A (wl E ad n L σ) sz) s.heap (wl E ad n L σ) H locs → lv_has ls 4 [] → W p l e ({ frames := 2, cells := 0, slots := 0, locals := 42 }) s m ([.ref (ad 3), .int p1] : List Value).toArray below meth c H locs 0 0 (MQ below (va_Qi (fun (x : Int32) (_ : Unit) => x = r) (fun _ t => va_P E.1 cls6 (wl E ad n L σ) t.heap ∧ va_D (va_A (wl E ad n L σ) sz) (wl E ad n L σ)) (va_A (wl E ad n L σ) sz)) ([.ref (ad 3), .int p1] : List Value).toArray s 0 0 (va_A (wl E ad n L σ) sz)) (F0 m 53 ls [])) → Wo E (va_A (wl E ad n L σ) sz) s.heap (wl E ad n L σ) H locs → lv_has ls 4 [(2, .int x4), (0, .ref (ad 3)), (1, .int p1)] → W p l e ({ frames := 2, cells := 0, slots := 0, locals := 42 }) s m ([.ref (ad 3), .int p1] : List Value).toArray below meth c H locs 0 0 (MQ below (va_Qi (fun (x : Int32) (_ : Unit) => x = r) (fun _ t => va_P E.1 cls6 (wl E ad n L σ) t.heap ∧ va_D (va_A (wl E ad n L σ) sz) (wl E ad n L σ)) (va_A (wl E ad n L σ) sz)) ([.ref (ad 3), .int p1] : List Value).toArray s 0 0 (va_A (wl E ad n L σ) sz)) (F0 m 8 ls []) := by
    intro k3
    induction k3 with
    | zero =>
      intro x4 H locs ls res2 hD
      rw [D_PL_firstFreeSpare_L8.eq_1] at hD
      cases hD
    | succ k3 ih =>
      intro x4 H locs ls res2 hD hret hex wo hl
      rw [D_PL_firstFreeSpare_L8.eq_2] at hD
      refine lv_iload_n hx hb d_PL_firstFreeSpare_8 rfl (lv_at hl 0 rfl) ?_
      refine lv_aload_n hx hb d_PL_firstFreeSpare_9 rfl (lv_at hl 1 rfl) ?_
      refine g_get cx wo m3 (cel_3 E ad n σ) rfl in_PL 2 (by decide) wf_PL_9 rfl d_PL_firstFreeSpare_10 ?_
      refine g_get cx wo m1 (cel_1 E ad n σ) rfl in_LA 0 (by decide) wf_PL_25 rfl d_PL_firstFreeSpare_13 ?_
      refine lv_icmp_ge (tgt := 53) hx hb d_PL_firstFreeSpare_16 (by decide) (fun c5 => ?_) (fun c5 => ?_)
      · have hD := ite_p hD c5
        exact hex  _ _ _ (Option.some.inj hD).symm wo (lv_sub hl [] rfl)
      · have hD := ite_n hD c5
        refine lv_aload_n hx hb d_PL_firstFreeSpare_19 rfl (lv_at hl 1 rfl) ?_
        refine g_get cx wo m3 (cel_3 E ad n σ) rfl in_PL 2 (by decide) wf_PL_9 rfl d_PL_firstFreeSpare_20 ?_
        refine g_get cx wo m1 (cel_1 E ad n σ) rfl in_LA 9 (by decide) wf_PL_57 rfl d_PL_firstFreeSpare_23 ?_
        refine lv_aload_n hx hb d_PL_firstFreeSpare_26 rfl (lv_at hl 1 rfl) ?_
        refine g_get cx wo m3 (cel_3 E ad n σ) rfl in_PL 2 (by decide) wf_PL_9 rfl d_PL_firstFreeSpare_27 ?_
        refine lv_iload_n hx hb d_PL_firstFreeSpare_30 rfl (lv_at hl 2 rfl) ?_
        refine lv_iload_n hx hb d_PL_firstFreeSpare_31 rfl (lv_at hl 0 rfl) ?_
        obtain ⟨x6, hcx6, hD⟩ := bd_s hD
        try dsimp only [nm2] at hD
        refine call_Vi cx wo (k_LA_slot l E ad n L (fun a h => hL a ((by decide : ∀ a ∈ ([1] : List Nat), a ∈ ([1, 2, 3, 9, 10, 16] : List Nat)) a h)) F σ  p1 x4 x6 hcx6) m1 (cel_1 E ad n σ) rfl rfl mw_LA_slot wm_PL_50 ⟨by decide, by decide⟩ ⟨by decide, by decide⟩ hl.1 rfl (Nat.le_of_ble_eq_true rfl) d_PL_firstFreeSpare_32 (fun H locs wo => ?_)
        obtain ⟨g7, hD⟩ := grd_s hD
        refine g_iald cx wo m9 (cel_9 E ad n σ) g7 d_PL_firstFreeSpare_35 ?_
        refine lv_topi (fun x8 ex8 => ?_)
        have hD := nm_at hD ex8
        try dsimp only at hD
        refine lv_istore_n (lv' := [(3, .int x8), (2, .int x4), (0, .ref (ad 3)), (1, .int p1)]) hx hb d_PL_firstFreeSpare_36 rfl hl (by decide) rfl (fun ls hl => ?_)
        refine lv_aload_n hx hb d_PL_firstFreeSpare_37 rfl (lv_at hl 2 rfl) ?_
        refine lv_iload_n hx hb d_PL_firstFreeSpare_38 rfl (lv_at hl 0 rfl) ?_
        obtain ⟨x9, hcx9, hD⟩ := bd_s hD
        try dsimp only [nm2] at hD
        refine call_Vi cx wo (k_PL_isFree l E ad n L (fun a h => hL a ((by decide : ∀ a ∈ ([1, 2, 3, 10, 16] : List Nat), a ∈ ([1, 2, 3, 9, 10, 16] : List Nat)) a h)) F σ  x8 x9 hcx9) m3 (cel_3 E ad n σ) rfl rfl mw_PL_isFree wm_PL_86 ⟨by decide, by decide⟩ ⟨by decide, by decide⟩ hl.1 rfl (Nat.le_of_ble_eq_true rfl) d_PL_firstFreeSpare_39 (fun H locs wo => ?_)
        refine lv_if_eq (tgt := 47) hx hb d_PL_firstFreeSpare_42 (by decide) (fun c10 => ?_) (fun c10 => ?_)
        · have hD := ite_p hD c10
          obtain ⟨x11, ex11⟩ : ∃ y : Int32, y = x4 + (1 : Int32) := ⟨_, rfl⟩
          have hD := nm_at hD ex11
          try dsimp only at hD
          refine lv_iinc (v := x11) (lv' := [(2, .int x11), (3, .int x8), (0, .ref (ad 3)), (1, .int p1)]) hx hb d_PL_firstFreeSpare_47 hl (k := 1) rfl (by rw [ex11]; rfl) (by decide) rfl (fun ls hl => ?_)
          refine lv_goto (tgt := 8) hx hb d_PL_firstFreeSpare_50 (by decide) ?_
          exact ih x11 _ _ _ _ hD hret hex wo (lv_sub hl [0, 2, 3] rfl)
        · have hD := ite_n hD c10
          refine lv_iload_n hx hb d_PL_firstFreeSpare_45 rfl (lv_at hl 0 rfl) ?_
          have hz := hret _ (Option.some.inj hD).symm
          cases hz
          exact t_ireti cx wo rfl rfl d_PL_firstFreeSpare_46
  obtain ⟨res13, hr14, hD⟩ := bd_s hD
  refine lp12 F x1 _ _ _ _ hr14 (fun z hz => by subst hz; exact (Option.some.inj hD).symm) (fun  H locs ls hz wo hl => ?_) wo (lv_sub hl [0, 1, 2] rfl)
  subst hz
  try dsimp only at hD
  refine lv_iconst (v := -1) hx hb d_PL_firstFreeSpare_53 (by decide) ?_
  cases hD
  exact t_ireti cx wo rfl rfl d_PL_firstFreeSpare_54
def D_PL_firstToRebuild_L2 (F : Nat) (n : Nat → Nat) (σ : HS) (p1 : Int32) : Nat → Int32 → Option ((Unit) ⊕ (Int32))
  | 0, _ => none
  | k2 + 1, x3 =>
      (if (σ.1 1 6) ≤ x3 then
        some (Sum.inl ())
      else
        (D_LA_slot F n σ p1 x3).bind (fun (x5 : Int32) =>
        grd (inb x5 (n 15)) (
        (if (σ.1 15 (x5).toNatClampNeg) = (-1 : Int32) then
          grd (inb x5 (n 9)) (
          (D_LA_diskOf F n σ (σ.1 9 (x5).toNatClampNeg)).bind (fun (x10 : Int32) =>
          grd (inb x10 (n 10)) (
          (if (σ.1 10 (x10).toNatClampNeg) = 0 then
            some (Sum.inr x5)
          else
            nm (x3 + (1 : Int32)) (fun x13 =>
            D_PL_firstToRebuild_L2 F n σ p1 k2 x13)))))
        else
          nm (x3 + (1 : Int32)) (fun x8 =>
          D_PL_firstToRebuild_L2 F n σ p1 k2 x8)))))
def D_PL_firstToRebuild (F : Nat) (n : Nat → Nat) (σ : HS) (p1 : Int32) : Option (Int32) :=
(D_PL_firstToRebuild_L2 F n σ p1 F (0 : Int32)).bind (fun q17 => match q17 with
    | Sum.inl _ =>
      some (-1 : Int32)
    | Sum.inr z => some z)
set_option maxRecDepth 100000 in
set_option maxHeartbeats 4000000 in
theorem k_PL_firstToRebuild (l : Launch) (E : EV) (ad n : Nat → Nat) (L : List Nat) (hL : ∀ a ∈ ([1, 2, 3, 9, 10, 15] : List Nat), a ∈ L) (F : Nat) (σ  : HS) (p1 : Int32) (r : Int32) (hD : D_PL_firstToRebuild F n σ p1 = some r) : CtI l E y_PL_firstToRebuild c_PL_firstToRebuild 4 (some FieldType.int) ({ frames := 1, cells := 0, slots := 0, locals := 22 }) [.ref (ad 3), .int p1] (wl E ad n L σ) r (wl E ad n L σ) := by
  refine fun sz => ent (by decide) (Nat.le_of_ble_eq_true rfl) ?_
  intro p e s m below meth c hsz cx wo ls hl
  have hx := cx.1.1
  have hb := cx.1.2.1
  have hown := cx.1.2.2.2.1
  have hts := cx.1.2.2.2.2
  have hl : lv_has ls 4 [(0, .ref (ad 3)), (1, .int p1)] := hl
  have m1 : 1 ∈ L := hL 1 (by decide)
  have m2 : 2 ∈ L := hL 2 (by decide)
  have m3 : 3 ∈ L := hL 3 (by decide)
  have m9 : 9 ∈ L := hL 9 (by decide)
  have m10 : 10 ∈ L := hL 10 (by decide)
  have m15 : 15 ∈ L := hL 15 (by decide)
  rw [D_PL_firstToRebuild] at hD
  refine lv_iconst (v := 0) hx hb d_PL_firstToRebuild_0 (by decide) ?_
  refine lv_istore_n (lv' := [(2, .int (0 : Int32)), (0, .ref (ad 3)), (1, .int p1)]) hx hb d_PL_firstToRebuild_1 rfl hl (by decide) rfl (fun ls hl => ?_)
  have lp14 : ∀ (k2 : Nat) (x3 : Int32) (H : Heap) (locs : List Loc) (ls : Array Slot) (res1 : (Unit) ⊕ (Int32)), D_PL_firstToRebuild_L2 F n σ p1 k2 x3 = some res1 → (∀ z, res1 = Sum.inr z → r = z) → (∀  (H : Heap) (locs : List Loc) (ls : Array Slot), res1 = Sum.inl () → Wo E (va_A (wl E ad n L σ) sz) s.heap (wl E ad n L σ) H locs → lv_has ls 4 [] → W p l e ({ frames := 1, cells := 0, slots := 0, locals := 22 }) s m ([.ref (ad 3), .int p1] : List Value).toArray below meth c H locs 0 0 (MQ below (va_Qi (fun (x : Int32) (_ : Unit) => x = r) (fun _ t => va_P E.1 cls6 (wl E ad n L σ) t.heap ∧ va_D (va_A (wl E ad n L σ) sz) (wl E ad n L σ)) (va_A (wl E ad n L σ) sz)) ([.ref (ad 3), .int p1] : List Value).toArray s 0 0 (va_A (wl E ad n L σ) sz)) (F0 m 68 ls [])) → Wo E (va_A (wl E ad n L σ) sz) s.heap (wl E ad n L σ) H locs → lv_has ls 4 [(2, .int x3), (0, .ref (ad 3)), (1, .int p1)] → W p l e ({ frames := 1, cells := 0, slots := 0, locals := 22 }) s m ([.ref (ad 3), .int p1] : List Value).toArray below meth c H locs 0 0 (MQ below (va_Qi (fun (x : Int32) (_ : Unit) => x = r) (fun _ t => va_P E.1 cls6 (wl E ad n L σ) t.heap ∧ va_D (va_A (wl E ad n L σ) sz) (wl E ad n L σ)) (va_A (wl E ad n L σ) sz)) ([.ref (ad 3), .int p1] : List Value).toArray s 0 0 (va_A (wl E ad n L σ) sz)) (F0 m 2 ls []) := by
    intro k2
    induction k2 with
    | zero =>
      intro x3 H locs ls res1 hD
      rw [D_PL_firstToRebuild_L2.eq_1] at hD
      cases hD
    | succ k2 ih =>
      intro x3 H locs ls res1 hD hret hex wo hl
      rw [D_PL_firstToRebuild_L2.eq_2] at hD
      refine lv_iload_n hx hb d_PL_firstToRebuild_2 rfl (lv_at hl 0 rfl) ?_
      refine lv_aload_n hx hb d_PL_firstToRebuild_3 rfl (lv_at hl 1 rfl) ?_
      refine g_get cx wo m3 (cel_3 E ad n σ) rfl in_PL 2 (by decide) wf_PL_9 rfl d_PL_firstToRebuild_4 ?_
      refine g_get cx wo m1 (cel_1 E ad n σ) rfl in_LA 6 (by decide) wf_PL_47 rfl d_PL_firstToRebuild_7 ?_
      refine lv_icmp_ge (tgt := 68) hx hb d_PL_firstToRebuild_10 (by decide) (fun c4 => ?_) (fun c4 => ?_)
      · have hD := ite_p hD c4
        exact hex  _ _ _ (Option.some.inj hD).symm wo (lv_sub hl [] rfl)
      · have hD := ite_n hD c4
        refine lv_aload_n hx hb d_PL_firstToRebuild_13 rfl (lv_at hl 1 rfl) ?_
        refine g_get cx wo m3 (cel_3 E ad n σ) rfl in_PL 2 (by decide) wf_PL_9 rfl d_PL_firstToRebuild_14 ?_
        refine lv_iload_n hx hb d_PL_firstToRebuild_17 rfl (lv_at hl 2 rfl) ?_
        refine lv_iload_n hx hb d_PL_firstToRebuild_18 rfl (lv_at hl 0 rfl) ?_
        obtain ⟨x5, hcx5, hD⟩ := bd_s hD
        try dsimp only [nm2] at hD
        refine call_Vi cx wo (k_LA_slot l E ad n L (fun a h => hL a ((by decide : ∀ a ∈ ([1] : List Nat), a ∈ ([1, 2, 3, 9, 10, 15] : List Nat)) a h)) F σ  p1 x3 x5 hcx5) m1 (cel_1 E ad n σ) rfl rfl mw_LA_slot wm_PL_50 ⟨by decide, by decide⟩ ⟨by decide, by decide⟩ hl.1 rfl (Nat.le_of_ble_eq_true rfl) d_PL_firstToRebuild_19 (fun H locs wo => ?_)
        refine lv_istore_n (lv' := [(3, .int x5), (2, .int x3), (0, .ref (ad 3)), (1, .int p1)]) hx hb d_PL_firstToRebuild_22 rfl hl (by decide) rfl (fun ls hl => ?_)
        refine lv_aload_n hx hb d_PL_firstToRebuild_23 rfl (lv_at hl 2 rfl) ?_
        refine g_get cx wo m3 (cel_3 E ad n σ) rfl in_PL 0 (by decide) wf_PL_28 rfl d_PL_firstToRebuild_24 ?_
        refine lv_iload_n hx hb d_PL_firstToRebuild_27 rfl (lv_at hl 0 rfl) ?_
        obtain ⟨g6, hD⟩ := grd_s hD
        refine g_iald cx wo m15 (cel_15 E ad n σ) g6 d_PL_firstToRebuild_28 ?_
        refine lv_iconst (v := -1) hx hb d_PL_firstToRebuild_29 (by decide) ?_
        refine lv_icmp_ne (tgt := 62) hx hb d_PL_firstToRebuild_30 (by decide) (fun c7 => ?_) (fun c7 => ?_)
        · have hD := ite_n hD c7
          obtain ⟨x8, ex8⟩ : ∃ y : Int32, y = x3 + (1 : Int32) := ⟨_, rfl⟩
          have hD := nm_at hD ex8
          try dsimp only at hD
          refine lv_iinc (v := x8) (lv' := [(2, .int x8), (3, .int x5), (0, .ref (ad 3)), (1, .int p1)]) hx hb d_PL_firstToRebuild_62 hl (k := 1) rfl (by rw [ex8]; rfl) (by decide) rfl (fun ls hl => ?_)
          refine lv_goto (tgt := 2) hx hb d_PL_firstToRebuild_65 (by decide) ?_
          exact ih x8 _ _ _ _ hD hret hex wo (lv_sub hl [0, 2, 3] rfl)
        · have hD := ite_p hD c7
          refine lv_aload_n hx hb d_PL_firstToRebuild_33 rfl (lv_at hl 2 rfl) ?_
          refine g_get cx wo m3 (cel_3 E ad n σ) rfl in_PL 3 (by decide) wf_PL_15 rfl d_PL_firstToRebuild_34 ?_
          refine g_get cx wo m2 (cel_2 E ad n σ) rfl in_RK 0 (by decide) wf_PL_79 rfl d_PL_firstToRebuild_37 ?_
          refine lv_aload_n hx hb d_PL_firstToRebuild_40 rfl (lv_at hl 2 rfl) ?_
          refine g_get cx wo m3 (cel_3 E ad n σ) rfl in_PL 2 (by decide) wf_PL_9 rfl d_PL_firstToRebuild_41 ?_
          refine lv_aload_n hx hb d_PL_firstToRebuild_44 rfl (lv_at hl 2 rfl) ?_
          refine g_get cx wo m3 (cel_3 E ad n σ) rfl in_PL 2 (by decide) wf_PL_9 rfl d_PL_firstToRebuild_45 ?_
          refine g_get cx wo m1 (cel_1 E ad n σ) rfl in_LA 9 (by decide) wf_PL_57 rfl d_PL_firstToRebuild_48 ?_
          refine lv_iload_n hx hb d_PL_firstToRebuild_51 rfl (lv_at hl 0 rfl) ?_
          obtain ⟨g9, hD⟩ := grd_s hD
          refine g_iald cx wo m9 (cel_9 E ad n σ) g9 d_PL_firstToRebuild_52 ?_
          obtain ⟨x10, hcx10, hD⟩ := bd_s hD
          try dsimp only [nm2] at hD
          refine call_Vi cx wo (k_LA_diskOf l E ad n L (fun a h => hL a ((by decide : ∀ a ∈ ([1] : List Nat), a ∈ ([1, 2, 3, 9, 10, 15] : List Nat)) a h)) F σ  (σ.1 9 (x5).toNatClampNeg) x10 hcx10) m1 (cel_1 E ad n σ) rfl rfl mw_LA_diskOf wm_PL_83 ⟨by decide, by decide⟩ ⟨by decide, by decide⟩ hl.1 rfl (Nat.le_of_ble_eq_true rfl) d_PL_firstToRebuild_53 (fun H locs wo => ?_)
          obtain ⟨g11, hD⟩ := grd_s hD
          refine g_zald cx wo m10 (cel_10 E ad n σ) g11 d_PL_firstToRebuild_56 ?_
          refine lv_if_ne (tgt := 62) hx hb d_PL_firstToRebuild_57 (by decide) (fun c12 => ?_) (fun c12 => ?_)
          · have hD := ite_n hD c12
            obtain ⟨x13, ex13⟩ : ∃ y : Int32, y = x3 + (1 : Int32) := ⟨_, rfl⟩
            have hD := nm_at hD ex13
            try dsimp only at hD
            refine lv_iinc (v := x13) (lv' := [(2, .int x13), (3, .int x5), (0, .ref (ad 3)), (1, .int p1)]) hx hb d_PL_firstToRebuild_62 hl (k := 1) rfl (by rw [ex13]; rfl) (by decide) rfl (fun ls hl => ?_)
            refine lv_goto (tgt := 2) hx hb d_PL_firstToRebuild_65 (by decide) ?_
            exact ih x13 _ _ _ _ hD hret hex wo (lv_sub hl [0, 2, 3] rfl)
          · have hD := ite_p hD c12
            refine lv_iload_n hx hb d_PL_firstToRebuild_60 rfl (lv_at hl 0 rfl) ?_
            have hz := hret _ (Option.some.inj hD).symm
            cases hz
            exact t_ireti cx wo rfl rfl d_PL_firstToRebuild_61
  obtain ⟨res15, hr16, hD⟩ := bd_s hD
  refine lp14 F (0 : Int32) _ _ _ _ hr16 (fun z hz => by subst hz; exact (Option.some.inj hD).symm) (fun  H locs ls hz wo hl => ?_) wo (lv_sub hl [0, 1, 2] rfl)
  subst hz
  try dsimp only at hD
  refine lv_iconst (v := -1) hx hb d_PL_firstToRebuild_68 (by decide) ?_
  cases hD
  exact t_ireti cx wo rfl rfl d_PL_firstToRebuild_69
def D_PL_firstToCopyBack_L15 (F : Nat) (n : Nat → Nat) (σ : HS) (x3 : Int32) : Nat → Int32 → Option ((Unit) ⊕ (Int32))
  | 0, _ => none
  | k6 + 1, x7 =>
      (if (σ.1 1 6) ≤ x7 then
              some (Sum.inl ())
            else
              (D_LA_slot F n σ x3 x7).bind (fun (x9 : Int32) =>
              grd (inb x9 (n 9)) (
              nm (σ.1 9 (x9).toNatClampNeg) (fun x11 =>
              (D_LA_diskOf F n σ x11).bind (fun (x12 : Int32) =>
              grd (inb x12 (n 10)) (
              (if (σ.1 10 (x12).toNatClampNeg) = 0 then
                nm (x7 + (1 : Int32)) (fun x15 =>
                D_PL_firstToCopyBack_L15 F n σ x3 k6 x15)
              else
                (D_RK_isWritten F n σ x11).bind (fun (x16 : Int32) =>
                (if x16 = 0 then
                  some (Sum.inr x9)
                else
                  nm (x7 + (1 : Int32)) (fun x18 =>
                  D_PL_firstToCopyBack_L15 F n σ x3 k6 x18))))))))))
def D_PL_firstToCopyBack_L2 (F : Nat) (n : Nat → Nat) (σ : HS)  : Nat → Int32 → Option ((Unit) ⊕ (Int32))
  | 0, _ => none
  | k2 + 1, x3 =>
      (if (σ.1 1 2) ≤ x3 then
        some (Sum.inl ())
      else
        (D_PL_firstToCopyBack_L15 F n σ x3 F (0 : Int32)).bind (fun q23 => match q23 with
          | Sum.inl _ =>
            nm (x3 + (1 : Int32)) (fun x22 =>
          D_PL_firstToCopyBack_L2 F n σ  k2 x22)
          | Sum.inr z => some (Sum.inr z)))
def D_PL_firstToCopyBack (F : Nat) (n : Nat → Nat) (σ : HS)  : Option (Int32) :=
(D_PL_firstToCopyBack_L2 F n σ  F (0 : Int32)).bind (fun q27 => match q27 with
    | Sum.inl _ =>
      some (-1 : Int32)
    | Sum.inr z => some z)
set_option maxRecDepth 100000 in
set_option maxHeartbeats 4000000 in
theorem k_PL_firstToCopyBack (l : Launch) (E : EV) (ad n : Nat → Nat) (L : List Nat) (hL : ∀ a ∈ ([1, 2, 3, 9, 10, 13] : List Nat), a ∈ L) (F : Nat) (σ  : HS)  (r : Int32) (hD : D_PL_firstToCopyBack F n σ  = some r) : CtI l E y_PL_firstToCopyBack c_PL_firstToCopyBack 5 (some FieldType.int) ({ frames := 1, cells := 0, slots := 0, locals := 22 }) [.ref (ad 3)] (wl E ad n L σ) r (wl E ad n L σ) := by
  refine fun sz => ent (by decide) (Nat.le_of_ble_eq_true rfl) ?_
  intro p e s m below meth c hsz cx wo ls hl
  have hx := cx.1.1
  have hb := cx.1.2.1
  have hown := cx.1.2.2.2.1
  have hts := cx.1.2.2.2.2
  have hl : lv_has ls 5 [(0, .ref (ad 3))] := hl
  have m1 : 1 ∈ L := hL 1 (by decide)
  have m2 : 2 ∈ L := hL 2 (by decide)
  have m3 : 3 ∈ L := hL 3 (by decide)
  have m9 : 9 ∈ L := hL 9 (by decide)
  have m10 : 10 ∈ L := hL 10 (by decide)
  have m13 : 13 ∈ L := hL 13 (by decide)
  rw [D_PL_firstToCopyBack] at hD
  refine lv_iconst (v := 0) hx hb d_PL_firstToCopyBack_0 (by decide) ?_
  refine lv_istore_n (lv' := [(1, .int (0 : Int32)), (0, .ref (ad 3))]) hx hb d_PL_firstToCopyBack_1 rfl hl (by decide) rfl (fun ls hl => ?_)
  have lp24 : ∀ (k2 : Nat) (x3 : Int32) (H : Heap) (locs : List Loc) (ls : Array Slot) (res1 : (Unit) ⊕ (Int32)), D_PL_firstToCopyBack_L2 F n σ  k2 x3 = some res1 → (∀ z, res1 = Sum.inr z → r = z) → (∀  (H : Heap) (locs : List Loc) (ls : Array Slot), res1 = Sum.inl () → Wo E (va_A (wl E ad n L σ) sz) s.heap (wl E ad n L σ) H locs → lv_has ls 5 [] → W p l e ({ frames := 1, cells := 0, slots := 0, locals := 22 }) s m ([.ref (ad 3)] : List Value).toArray below meth c H locs 0 0 (MQ below (va_Qi (fun (x : Int32) (_ : Unit) => x = r) (fun _ t => va_P E.1 cls6 (wl E ad n L σ) t.heap ∧ va_D (va_A (wl E ad n L σ) sz) (wl E ad n L σ)) (va_A (wl E ad n L σ) sz)) ([.ref (ad 3)] : List Value).toArray s 0 0 (va_A (wl E ad n L σ) sz)) (F0 m 93 ls [])) → Wo E (va_A (wl E ad n L σ) sz) s.heap (wl E ad n L σ) H locs → lv_has ls 5 [(1, .int x3), (0, .ref (ad 3))] → W p l e ({ frames := 1, cells := 0, slots := 0, locals := 22 }) s m ([.ref (ad 3)] : List Value).toArray below meth c H locs 0 0 (MQ below (va_Qi (fun (x : Int32) (_ : Unit) => x = r) (fun _ t => va_P E.1 cls6 (wl E ad n L σ) t.heap ∧ va_D (va_A (wl E ad n L σ) sz) (wl E ad n L σ)) (va_A (wl E ad n L σ) sz)) ([.ref (ad 3)] : List Value).toArray s 0 0 (va_A (wl E ad n L σ) sz)) (F0 m 2 ls []) := by
    intro k2
    induction k2 with
    | zero =>
      intro x3 H locs ls res1 hD
      rw [D_PL_firstToCopyBack_L2.eq_1] at hD
      cases hD
    | succ k2 ih =>
      intro x3 H locs ls res1 hD hret hex wo hl
      rw [D_PL_firstToCopyBack_L2.eq_2] at hD
      refine lv_iload_n hx hb d_PL_firstToCopyBack_2 rfl (lv_at hl 0 rfl) ?_
      refine lv_aload_n hx hb d_PL_firstToCopyBack_3 rfl (lv_at hl 1 rfl) ?_
      refine g_get cx wo m3 (cel_3 E ad n σ) rfl in_PL 2 (by decide) wf_PL_9 rfl d_PL_firstToCopyBack_4 ?_
      refine g_get cx wo m1 (cel_1 E ad n σ) rfl in_LA 2 (by decide) wf_PL_19 rfl d_PL_firstToCopyBack_7 ?_
      refine lv_icmp_ge (tgt := 93) hx hb d_PL_firstToCopyBack_10 (by decide) (fun c4 => ?_) (fun c4 => ?_)
      · have hD := ite_p hD c4
        exact hex  _ _ _ (Option.some.inj hD).symm wo (lv_sub hl [] rfl)
      · have hD := ite_n hD c4
        refine lv_iconst (v := 0) hx hb d_PL_firstToCopyBack_13 (by decide) ?_
        refine lv_istore_n (lv' := [(2, .int (0 : Int32)), (1, .int x3), (0, .ref (ad 3))]) hx hb d_PL_firstToCopyBack_14 rfl hl (by decide) rfl (fun ls hl => ?_)
        have lp19 : ∀ (k6 : Nat) (x7 : Int32) (H : Heap) (locs : List Loc) (ls : Array Slot) (res5 : (Unit) ⊕ (Int32)), D_PL_firstToCopyBack_L15 F n σ x3 k6 x7 = some res5 → (∀ z, res5 = Sum.inr z → r = z) → (∀  (H : Heap) (locs : List Loc) (ls : Array Slot), res5 = Sum.inl () → Wo E (va_A (wl E ad n L σ) sz) s.heap (wl E ad n L σ) H locs → lv_has ls 5 [(1, .int x3), (0, .ref (ad 3))] → W p l e ({ frames := 1, cells := 0, slots := 0, locals := 22 }) s m ([.ref (ad 3)] : List Value).toArray below meth c H locs 0 0 (MQ below (va_Qi (fun (x : Int32) (_ : Unit) => x = r) (fun _ t => va_P E.1 cls6 (wl E ad n L σ) t.heap ∧ va_D (va_A (wl E ad n L σ) sz) (wl E ad n L σ)) (va_A (wl E ad n L σ) sz)) ([.ref (ad 3)] : List Value).toArray s 0 0 (va_A (wl E ad n L σ) sz)) (F0 m 87 ls [])) → Wo E (va_A (wl E ad n L σ) sz) s.heap (wl E ad n L σ) H locs → lv_has ls 5 [(2, .int x7), (1, .int x3), (0, .ref (ad 3))] → W p l e ({ frames := 1, cells := 0, slots := 0, locals := 22 }) s m ([.ref (ad 3)] : List Value).toArray below meth c H locs 0 0 (MQ below (va_Qi (fun (x : Int32) (_ : Unit) => x = r) (fun _ t => va_P E.1 cls6 (wl E ad n L σ) t.heap ∧ va_D (va_A (wl E ad n L σ) sz) (wl E ad n L σ)) (va_A (wl E ad n L σ) sz)) ([.ref (ad 3)] : List Value).toArray s 0 0 (va_A (wl E ad n L σ) sz)) (F0 m 15 ls []) := by
          intro k6
          induction k6 with
          | zero =>
            intro x7 H locs ls res5 hD
            rw [D_PL_firstToCopyBack_L15.eq_1] at hD
            cases hD
          | succ k6 ih =>
            intro x7 H locs ls res5 hD hret hex wo hl
            rw [D_PL_firstToCopyBack_L15.eq_2] at hD
            refine lv_iload_n hx hb d_PL_firstToCopyBack_15 rfl (lv_at hl 0 rfl) ?_
            refine lv_aload_n hx hb d_PL_firstToCopyBack_16 rfl (lv_at hl 2 rfl) ?_
            refine g_get cx wo m3 (cel_3 E ad n σ) rfl in_PL 2 (by decide) wf_PL_9 rfl d_PL_firstToCopyBack_17 ?_
            refine g_get cx wo m1 (cel_1 E ad n σ) rfl in_LA 6 (by decide) wf_PL_47 rfl d_PL_firstToCopyBack_20 ?_
            refine lv_icmp_ge (tgt := 87) hx hb d_PL_firstToCopyBack_23 (by decide) (fun c8 => ?_) (fun c8 => ?_)
            · have hD := ite_p hD c8
              exact hex  _ _ _ (Option.some.inj hD).symm wo (lv_sub hl [1, 2] rfl)
            · have hD := ite_n hD c8
              refine lv_aload_n hx hb d_PL_firstToCopyBack_26 rfl (lv_at hl 2 rfl) ?_
              refine g_get cx wo m3 (cel_3 E ad n σ) rfl in_PL 2 (by decide) wf_PL_9 rfl d_PL_firstToCopyBack_27 ?_
              refine lv_iload_n hx hb d_PL_firstToCopyBack_30 rfl (lv_at hl 1 rfl) ?_
              refine lv_iload_n hx hb d_PL_firstToCopyBack_31 rfl (lv_at hl 0 rfl) ?_
              obtain ⟨x9, hcx9, hD⟩ := bd_s hD
              try dsimp only [nm2] at hD
              refine call_Vi cx wo (k_LA_slot l E ad n L (fun a h => hL a ((by decide : ∀ a ∈ ([1] : List Nat), a ∈ ([1, 2, 3, 9, 10, 13] : List Nat)) a h)) F σ  x3 x7 x9 hcx9) m1 (cel_1 E ad n σ) rfl rfl mw_LA_slot wm_PL_50 ⟨by decide, by decide⟩ ⟨by decide, by decide⟩ hl.1 rfl (Nat.le_of_ble_eq_true rfl) d_PL_firstToCopyBack_32 (fun H locs wo => ?_)
              refine lv_istore_n (lv' := [(3, .int x9), (2, .int x7), (1, .int x3), (0, .ref (ad 3))]) hx hb d_PL_firstToCopyBack_35 rfl hl (by decide) rfl (fun ls hl => ?_)
              refine lv_aload_n hx hb d_PL_firstToCopyBack_36 rfl (lv_at hl 3 rfl) ?_
              refine g_get cx wo m3 (cel_3 E ad n σ) rfl in_PL 2 (by decide) wf_PL_9 rfl d_PL_firstToCopyBack_37 ?_
              refine g_get cx wo m1 (cel_1 E ad n σ) rfl in_LA 9 (by decide) wf_PL_57 rfl d_PL_firstToCopyBack_40 ?_
              refine lv_iload_n hx hb d_PL_firstToCopyBack_43 rfl (lv_at hl 0 rfl) ?_
              obtain ⟨g10, hD⟩ := grd_s hD
              refine g_iald cx wo m9 (cel_9 E ad n σ) g10 d_PL_firstToCopyBack_44 ?_
              refine lv_topi (fun x11 ex11 => ?_)
              have hD := nm_at hD ex11
              try dsimp only at hD
              refine lv_istore (lv' := [(4, .int x11), (3, .int x9), (2, .int x7), (1, .int x3), (0, .ref (ad 3))]) hx hb d_PL_firstToCopyBack_45 hl (by decide) rfl (fun ls hl => ?_)
              refine lv_aload_n hx hb d_PL_firstToCopyBack_47 rfl (lv_at hl 4 rfl) ?_
              refine g_get cx wo m3 (cel_3 E ad n σ) rfl in_PL 3 (by decide) wf_PL_15 rfl d_PL_firstToCopyBack_48 ?_
              refine g_get cx wo m2 (cel_2 E ad n σ) rfl in_RK 0 (by decide) wf_PL_79 rfl d_PL_firstToCopyBack_51 ?_
              refine lv_aload_n hx hb d_PL_firstToCopyBack_54 rfl (lv_at hl 4 rfl) ?_
              refine g_get cx wo m3 (cel_3 E ad n σ) rfl in_PL 2 (by decide) wf_PL_9 rfl d_PL_firstToCopyBack_55 ?_
              refine lv_iload hx hb d_PL_firstToCopyBack_58 (lv_at hl 0 rfl) ?_
              obtain ⟨x12, hcx12, hD⟩ := bd_s hD
              try dsimp only [nm2] at hD
              refine call_Vi cx wo (k_LA_diskOf l E ad n L (fun a h => hL a ((by decide : ∀ a ∈ ([1] : List Nat), a ∈ ([1, 2, 3, 9, 10, 13] : List Nat)) a h)) F σ  x11 x12 hcx12) m1 (cel_1 E ad n σ) rfl rfl mw_LA_diskOf wm_PL_83 ⟨by decide, by decide⟩ ⟨by decide, by decide⟩ hl.1 rfl (Nat.le_of_ble_eq_true rfl) d_PL_firstToCopyBack_60 (fun H locs wo => ?_)
              obtain ⟨g13, hD⟩ := grd_s hD
              refine g_zald cx wo m10 (cel_10 E ad n σ) g13 d_PL_firstToCopyBack_63 ?_
              refine lv_if_eq (tgt := 81) hx hb d_PL_firstToCopyBack_64 (by decide) (fun c14 => ?_) (fun c14 => ?_)
              · have hD := ite_p hD c14
                obtain ⟨x15, ex15⟩ : ∃ y : Int32, y = x7 + (1 : Int32) := ⟨_, rfl⟩
                have hD := nm_at hD ex15
                try dsimp only at hD
                refine lv_iinc (v := x15) (lv' := [(2, .int x15), (4, .int x11), (3, .int x9), (1, .int x3), (0, .ref (ad 3))]) hx hb d_PL_firstToCopyBack_81 hl (k := 2) rfl (by rw [ex15]; rfl) (by decide) rfl (fun ls hl => ?_)
                refine lv_goto (tgt := 15) hx hb d_PL_firstToCopyBack_84 (by decide) ?_
                exact ih x15 _ _ _ _ hD hret hex wo (lv_sub hl [0, 3, 4] rfl)
              · have hD := ite_n hD c14
                refine lv_aload_n hx hb d_PL_firstToCopyBack_67 rfl (lv_at hl 4 rfl) ?_
                refine g_get cx wo m3 (cel_3 E ad n σ) rfl in_PL 3 (by decide) wf_PL_15 rfl d_PL_firstToCopyBack_68 ?_
                refine lv_iload hx hb d_PL_firstToCopyBack_71 (lv_at hl 0 rfl) ?_
                obtain ⟨x16, hcx16, hD⟩ := bd_s hD
                try dsimp only [nm2] at hD
                refine call_Vi cx wo (k_RK_isWritten l E ad n L (fun a h => hL a ((by decide : ∀ a ∈ ([2, 13] : List Nat), a ∈ ([1, 2, 3, 9, 10, 13] : List Nat)) a h)) F σ  x11 x16 hcx16) m2 (cel_2 E ad n σ) rfl rfl mw_RK_isWritten wm_PL_60 ⟨by decide, by decide⟩ ⟨by decide, by decide⟩ hl.1 rfl (Nat.le_of_ble_eq_true rfl) d_PL_firstToCopyBack_73 (fun H locs wo => ?_)
                refine lv_if_ne (tgt := 81) hx hb d_PL_firstToCopyBack_76 (by decide) (fun c17 => ?_) (fun c17 => ?_)
                · have hD := ite_n hD c17
                  obtain ⟨x18, ex18⟩ : ∃ y : Int32, y = x7 + (1 : Int32) := ⟨_, rfl⟩
                  have hD := nm_at hD ex18
                  try dsimp only at hD
                  refine lv_iinc (v := x18) (lv' := [(2, .int x18), (4, .int x11), (3, .int x9), (1, .int x3), (0, .ref (ad 3))]) hx hb d_PL_firstToCopyBack_81 hl (k := 2) rfl (by rw [ex18]; rfl) (by decide) rfl (fun ls hl => ?_)
                  refine lv_goto (tgt := 15) hx hb d_PL_firstToCopyBack_84 (by decide) ?_
                  exact ih x18 _ _ _ _ hD hret hex wo (lv_sub hl [0, 3, 4] rfl)
                · have hD := ite_p hD c17
                  refine lv_iload_n hx hb d_PL_firstToCopyBack_79 rfl (lv_at hl 1 rfl) ?_
                  have hz := hret _ (Option.some.inj hD).symm
                  cases hz
                  exact t_ireti cx wo rfl rfl d_PL_firstToCopyBack_80
        obtain ⟨res20, hr21, hD⟩ := bd_s hD
        refine lp19 F (0 : Int32) _ _ _ _ hr21 (fun z hz => by subst hz; exact hret _ (Option.some.inj hD).symm) (fun  H locs ls hz wo hl => ?_) wo (lv_sub hl [0, 1, 2] rfl)
        subst hz
        try dsimp only at hD
        obtain ⟨x22, ex22⟩ : ∃ y : Int32, y = x3 + (1 : Int32) := ⟨_, rfl⟩
        have hD := nm_at hD ex22
        try dsimp only at hD
        refine lv_iinc (v := x22) (lv' := [(1, .int x22), (0, .ref (ad 3))]) hx hb d_PL_firstToCopyBack_87 hl (k := 0) rfl (by rw [ex22]; rfl) (by decide) rfl (fun ls hl => ?_)
        refine lv_goto (tgt := 2) hx hb d_PL_firstToCopyBack_90 (by decide) ?_
        exact ih x22 _ _ _ _ hD hret hex wo (lv_sub hl [0, 1] rfl)
  obtain ⟨res25, hr26, hD⟩ := bd_s hD
  refine lp24 F (0 : Int32) _ _ _ _ hr26 (fun z hz => by subst hz; exact (Option.some.inj hD).symm) (fun  H locs ls hz wo hl => ?_) wo (lv_sub hl [0, 1] rfl)
  subst hz
  try dsimp only at hD
  refine lv_iconst (v := -1) hx hb d_PL_firstToCopyBack_93 (by decide) ?_
  cases hD
  exact t_ireti cx wo rfl rfl d_PL_firstToCopyBack_94
def D_PL_countPlaces_L4 (F : Nat) (n : Nat → Nat) (σ : HS) (p1 : Int32) : Nat → Int32 → Int32 → Option (Int32)
  | 0, _, _ => none
  | k2 + 1, x3, x4 =>
      (if (σ.1 1 8) ≤ x3 then
        some x4
      else
        grd (inb x3 (n 16)) (
        (if (σ.1 16 (x3).toNatClampNeg) = (-1 : Int32) then
          nm (x3 + (1 : Int32)) (fun x8 =>
          D_PL_countPlaces_L4 F n σ p1 k2 x8 x4)
        else
          (if p1 = 0 then
            nm (x4 + (1 : Int32)) (fun x10 =>
            nm (x3 + (1 : Int32)) (fun x11 =>
            D_PL_countPlaces_L4 F n σ p1 k2 x11 x10))
          else
            (D_RK_isValid F n σ x3).bind (fun (x12 : Int32) =>
            (if x12 = 0 then
              nm (x3 + (1 : Int32)) (fun x14 =>
              D_PL_countPlaces_L4 F n σ p1 k2 x14 x4)
            else
              nm (x4 + (1 : Int32)) (fun x15 =>
              nm (x3 + (1 : Int32)) (fun x16 =>
              D_PL_countPlaces_L4 F n σ p1 k2 x16 x15))))))))
def D_PL_countPlaces (F : Nat) (n : Nat → Nat) (σ : HS) (p1 : Int32) : Option (Int32) :=
(D_PL_countPlaces_L4 F n σ p1 F (0 : Int32) (0 : Int32)).bind (fun (x17 : Int32) =>
  some x17)
set_option maxRecDepth 100000 in
set_option maxHeartbeats 4000000 in
theorem k_PL_countPlaces (l : Launch) (E : EV) (ad n : Nat → Nat) (L : List Nat) (hL : ∀ a ∈ ([1, 2, 3, 14, 16] : List Nat), a ∈ L) (F : Nat) (σ  : HS) (p1 : Int32) (r : Int32) (hD : D_PL_countPlaces F n σ p1 = some r) : CtI l E y_PL_countPlaces c_PL_countPlaces 4 (some FieldType.int) ({ frames := 1, cells := 0, slots := 0, locals := 21 }) [.ref (ad 3), .int p1] (wl E ad n L σ) r (wl E ad n L σ) := by
  refine fun sz => ent (by decide) (Nat.le_of_ble_eq_true rfl) ?_
  intro p e s m below meth c hsz cx wo ls hl
  have hx := cx.1.1
  have hb := cx.1.2.1
  have hown := cx.1.2.2.2.1
  have hts := cx.1.2.2.2.2
  have hl : lv_has ls 4 [(0, .ref (ad 3)), (1, .int p1)] := hl
  have m1 : 1 ∈ L := hL 1 (by decide)
  have m2 : 2 ∈ L := hL 2 (by decide)
  have m3 : 3 ∈ L := hL 3 (by decide)
  have m14 : 14 ∈ L := hL 14 (by decide)
  have m16 : 16 ∈ L := hL 16 (by decide)
  rw [D_PL_countPlaces] at hD
  refine lv_iconst (v := 0) hx hb d_PL_countPlaces_0 (by decide) ?_
  refine lv_istore_n (lv' := [(2, .int (0 : Int32)), (0, .ref (ad 3)), (1, .int p1)]) hx hb d_PL_countPlaces_1 rfl hl (by decide) rfl (fun ls hl => ?_)
  refine lv_iconst (v := 0) hx hb d_PL_countPlaces_2 (by decide) ?_
  refine lv_istore_n (lv' := [(3, .int (0 : Int32)), (2, .int (0 : Int32)), (0, .ref (ad 3)), (1, .int p1)]) hx hb d_PL_countPlaces_3 rfl hl (by decide) rfl (fun ls hl => ?_)
  have lp18 : ∀ (k2 : Nat) (x3 : Int32) (x4 : Int32) (H : Heap) (locs : List Loc) (ls : Array Slot) (res1 : Int32), D_PL_countPlaces_L4 F n σ p1 k2 x3 x4 = some res1 → (∀ (x17 : Int32) (H : Heap) (locs : List Loc) (ls : Array Slot), res1 = x17 → Wo E (va_A (wl E ad n L σ) sz) s.heap (wl E ad n L σ) H locs → lv_has ls 4 [(2, .int x17)] → W p l e ({ frames := 1, cells := 0, slots := 0, locals := 21 }) s m ([.ref (ad 3), .int p1] : List Value).toArray below meth c H locs 0 0 (MQ below (va_Qi (fun (x : Int32) (_ : Unit) => x = r) (fun _ t => va_P E.1 cls6 (wl E ad n L σ) t.heap ∧ va_D (va_A (wl E ad n L σ) sz) (wl E ad n L σ)) (va_A (wl E ad n L σ) sz)) ([.ref (ad 3), .int p1] : List Value).toArray s 0 0 (va_A (wl E ad n L σ) sz)) (F0 m 49 ls [])) → Wo E (va_A (wl E ad n L σ) sz) s.heap (wl E ad n L σ) H locs → lv_has ls 4 [(3, .int x3), (2, .int x4), (0, .ref (ad 3)), (1, .int p1)] → W p l e ({ frames := 1, cells := 0, slots := 0, locals := 21 }) s m ([.ref (ad 3), .int p1] : List Value).toArray below meth c H locs 0 0 (MQ below (va_Qi (fun (x : Int32) (_ : Unit) => x = r) (fun _ t => va_P E.1 cls6 (wl E ad n L σ) t.heap ∧ va_D (va_A (wl E ad n L σ) sz) (wl E ad n L σ)) (va_A (wl E ad n L σ) sz)) ([.ref (ad 3), .int p1] : List Value).toArray s 0 0 (va_A (wl E ad n L σ) sz)) (F0 m 4 ls []) := by
    intro k2
    induction k2 with
    | zero =>
      intro x3 x4 H locs ls res1 hD
      rw [D_PL_countPlaces_L4.eq_1] at hD
      cases hD
    | succ k2 ih =>
      intro x3 x4 H locs ls res1 hD hex wo hl
      rw [D_PL_countPlaces_L4.eq_2] at hD
      refine lv_iload_n hx hb d_PL_countPlaces_4 rfl (lv_at hl 0 rfl) ?_
      refine lv_aload_n hx hb d_PL_countPlaces_5 rfl (lv_at hl 2 rfl) ?_
      refine g_get cx wo m3 (cel_3 E ad n σ) rfl in_PL 2 (by decide) wf_PL_9 rfl d_PL_countPlaces_6 ?_
      refine g_get cx wo m1 (cel_1 E ad n σ) rfl in_LA 8 (by decide) wf_PL_32 rfl d_PL_countPlaces_9 ?_
      refine lv_icmp_ge (tgt := 49) hx hb d_PL_countPlaces_12 (by decide) (fun c5 => ?_) (fun c5 => ?_)
      · have hD := ite_p hD c5
        exact hex x4 _ _ _ (Option.some.inj hD).symm wo (lv_sub hl [1] rfl)
      · have hD := ite_n hD c5
        refine lv_aload_n hx hb d_PL_countPlaces_15 rfl (lv_at hl 2 rfl) ?_
        refine g_get cx wo m3 (cel_3 E ad n σ) rfl in_PL 1 (by decide) wf_PL_35 rfl d_PL_countPlaces_16 ?_
        refine lv_iload_n hx hb d_PL_countPlaces_19 rfl (lv_at hl 0 rfl) ?_
        obtain ⟨g6, hD⟩ := grd_s hD
        refine g_iald cx wo m16 (cel_16 E ad n σ) g6 d_PL_countPlaces_20 ?_
        refine lv_iconst (v := -1) hx hb d_PL_countPlaces_21 (by decide) ?_
        refine lv_icmp_eq (tgt := 43) hx hb d_PL_countPlaces_22 (by decide) (fun c7 => ?_) (fun c7 => ?_)
        · have hD := ite_p hD c7
          obtain ⟨x8, ex8⟩ : ∃ y : Int32, y = x3 + (1 : Int32) := ⟨_, rfl⟩
          have hD := nm_at hD ex8
          try dsimp only at hD
          refine lv_iinc (v := x8) (lv' := [(3, .int x8), (2, .int x4), (0, .ref (ad 3)), (1, .int p1)]) hx hb d_PL_countPlaces_43 hl (k := 0) rfl (by rw [ex8]; rfl) (by decide) rfl (fun ls hl => ?_)
          refine lv_goto (tgt := 4) hx hb d_PL_countPlaces_46 (by decide) ?_
          exact ih x8 x4 _ _ _ _ hD hex wo (lv_sub hl [0, 1, 2, 3] rfl)
        · have hD := ite_n hD c7
          refine lv_iload_n hx hb d_PL_countPlaces_25 rfl (lv_at hl 3 rfl) ?_
          refine lv_if_eq (tgt := 40) hx hb d_PL_countPlaces_26 (by decide) (fun c9 => ?_) (fun c9 => ?_)
          · have hD := ite_p hD c9
            obtain ⟨x10, ex10⟩ : ∃ y : Int32, y = x4 + (1 : Int32) := ⟨_, rfl⟩
            have hD := nm_at hD ex10
            try dsimp only at hD
            refine lv_iinc (v := x10) (lv' := [(2, .int x10), (3, .int x3), (0, .ref (ad 3)), (1, .int p1)]) hx hb d_PL_countPlaces_40 hl (k := 1) rfl (by rw [ex10]; rfl) (by decide) rfl (fun ls hl => ?_)
            obtain ⟨x11, ex11⟩ : ∃ y : Int32, y = x3 + (1 : Int32) := ⟨_, rfl⟩
            have hD := nm_at hD ex11
            try dsimp only at hD
            refine lv_iinc (v := x11) (lv' := [(3, .int x11), (2, .int x10), (0, .ref (ad 3)), (1, .int p1)]) hx hb d_PL_countPlaces_43 hl (k := 1) rfl (by rw [ex11]; rfl) (by decide) rfl (fun ls hl => ?_)
            refine lv_goto (tgt := 4) hx hb d_PL_countPlaces_46 (by decide) ?_
            exact ih x11 x10 _ _ _ _ hD hex wo (lv_sub hl [0, 1, 2, 3] rfl)
          · have hD := ite_n hD c9
            refine lv_aload_n hx hb d_PL_countPlaces_29 rfl (lv_at hl 2 rfl) ?_
            refine g_get cx wo m3 (cel_3 E ad n σ) rfl in_PL 3 (by decide) wf_PL_15 rfl d_PL_countPlaces_30 ?_
            refine lv_iload_n hx hb d_PL_countPlaces_33 rfl (lv_at hl 0 rfl) ?_
            obtain ⟨x12, hcx12, hD⟩ := bd_s hD
            try dsimp only [nm2] at hD
            refine call_Vi cx wo (k_RK_isValid l E ad n L (fun a h => hL a ((by decide : ∀ a ∈ ([2, 14] : List Nat), a ∈ ([1, 2, 3, 14, 16] : List Nat)) a h)) F σ  x3 x12 hcx12) m2 (cel_2 E ad n σ) rfl rfl mw_RK_isValid wm_PL_66 ⟨by decide, by decide⟩ ⟨by decide, by decide⟩ hl.1 rfl (Nat.le_of_ble_eq_true rfl) d_PL_countPlaces_34 (fun H locs wo => ?_)
            refine lv_if_eq (tgt := 43) hx hb d_PL_countPlaces_37 (by decide) (fun c13 => ?_) (fun c13 => ?_)
            · have hD := ite_p hD c13
              obtain ⟨x14, ex14⟩ : ∃ y : Int32, y = x3 + (1 : Int32) := ⟨_, rfl⟩
              have hD := nm_at hD ex14
              try dsimp only at hD
              refine lv_iinc (v := x14) (lv' := [(3, .int x14), (2, .int x4), (0, .ref (ad 3)), (1, .int p1)]) hx hb d_PL_countPlaces_43 hl (k := 0) rfl (by rw [ex14]; rfl) (by decide) rfl (fun ls hl => ?_)
              refine lv_goto (tgt := 4) hx hb d_PL_countPlaces_46 (by decide) ?_
              exact ih x14 x4 _ _ _ _ hD hex wo (lv_sub hl [0, 1, 2, 3] rfl)
            · have hD := ite_n hD c13
              obtain ⟨x15, ex15⟩ : ∃ y : Int32, y = x4 + (1 : Int32) := ⟨_, rfl⟩
              have hD := nm_at hD ex15
              try dsimp only at hD
              refine lv_iinc (v := x15) (lv' := [(2, .int x15), (3, .int x3), (0, .ref (ad 3)), (1, .int p1)]) hx hb d_PL_countPlaces_40 hl (k := 1) rfl (by rw [ex15]; rfl) (by decide) rfl (fun ls hl => ?_)
              obtain ⟨x16, ex16⟩ : ∃ y : Int32, y = x3 + (1 : Int32) := ⟨_, rfl⟩
              have hD := nm_at hD ex16
              try dsimp only at hD
              refine lv_iinc (v := x16) (lv' := [(3, .int x16), (2, .int x15), (0, .ref (ad 3)), (1, .int p1)]) hx hb d_PL_countPlaces_43 hl (k := 1) rfl (by rw [ex16]; rfl) (by decide) rfl (fun ls hl => ?_)
              refine lv_goto (tgt := 4) hx hb d_PL_countPlaces_46 (by decide) ?_
              exact ih x16 x15 _ _ _ _ hD hex wo (lv_sub hl [0, 1, 2, 3] rfl)
  obtain ⟨res19, hr20, hD⟩ := bd_s hD
  refine lp18 F (0 : Int32) (0 : Int32) _ _ _ _ hr20 (fun x17 H locs ls hz wo hl => ?_) wo (lv_sub hl [0, 1, 2, 3] rfl)
  have hz := hz.symm
  subst hz
  try dsimp only at hD
  refine lv_iload_n hx hb d_PL_countPlaces_49 rfl (lv_at hl 0 rfl) ?_
  cases hD
  exact t_ireti cx wo rfl rfl d_PL_countPlaces_50
def D_PL_countLost (F : Nat) (n : Nat → Nat) (σ : HS)  : Option (Int32) :=
(D_PL_countPlaces F n σ (0 : Int32)).bind (fun (x1 : Int32) =>
  some (((σ.1 1 2) * (σ.1 1 6)) - x1))
set_option maxRecDepth 100000 in
set_option maxHeartbeats 4000000 in
theorem k_PL_countLost (l : Launch) (E : EV) (ad n : Nat → Nat) (L : List Nat) (hL : ∀ a ∈ ([1, 2, 3, 14, 16] : List Nat), a ∈ L) (F : Nat) (σ  : HS)  (r : Int32) (hD : D_PL_countLost F n σ  = some r) : CtI l E y_PL_countLost c_PL_countLost 1 (some FieldType.int) ({ frames := 2, cells := 0, slots := 0, locals := 44 }) [.ref (ad 3)] (wl E ad n L σ) r (wl E ad n L σ) := by
  refine fun sz => ent (by decide) (Nat.le_of_ble_eq_true rfl) ?_
  intro p e s m below meth c hsz cx wo ls hl
  have hx := cx.1.1
  have hb := cx.1.2.1
  have hown := cx.1.2.2.2.1
  have hts := cx.1.2.2.2.2
  have hl : lv_has ls 1 [(0, .ref (ad 3))] := hl
  have m1 : 1 ∈ L := hL 1 (by decide)
  have m2 : 2 ∈ L := hL 2 (by decide)
  have m3 : 3 ∈ L := hL 3 (by decide)
  have m14 : 14 ∈ L := hL 14 (by decide)
  have m16 : 16 ∈ L := hL 16 (by decide)
  rw [D_PL_countLost] at hD
  refine lv_aload_n hx hb d_PL_countLost_0 rfl (lv_at hl 0 rfl) ?_
  refine g_get cx wo m3 (cel_3 E ad n σ) rfl in_PL 2 (by decide) wf_PL_9 rfl d_PL_countLost_1 ?_
  refine g_get cx wo m1 (cel_1 E ad n σ) rfl in_LA 2 (by decide) wf_PL_19 rfl d_PL_countLost_4 ?_
  refine lv_aload_n hx hb d_PL_countLost_7 rfl (lv_at hl 0 rfl) ?_
  refine g_get cx wo m3 (cel_3 E ad n σ) rfl in_PL 2 (by decide) wf_PL_9 rfl d_PL_countLost_8 ?_
  refine g_get cx wo m1 (cel_1 E ad n σ) rfl in_LA 6 (by decide) wf_PL_47 rfl d_PL_countLost_11 ?_
  refine lv_imul hx hb d_PL_countLost_14 ?_
  refine lv_aload_n hx hb d_PL_countLost_15 rfl (lv_at hl 0 rfl) ?_
  refine lv_iconst (v := 0) hx hb d_PL_countLost_16 (by decide) ?_
  obtain ⟨x1, hcx1, hD⟩ := bd_s hD
  try dsimp only [nm2] at hD
  refine call_Vi cx wo (k_PL_countPlaces l E ad n L (fun a h => hL a ((by decide : ∀ a ∈ ([1, 2, 3, 14, 16] : List Nat), a ∈ ([1, 2, 3, 14, 16] : List Nat)) a h)) F σ  (0 : Int32) x1 hcx1) m3 (cel_3 E ad n σ) rfl rfl mw_PL_countPlaces wm_PL_89 ⟨by decide, by decide⟩ ⟨by decide, by decide⟩ hl.1 rfl (Nat.le_of_ble_eq_true rfl) d_PL_countLost_17 (fun H locs wo => ?_)
  refine lv_isub hx hb d_PL_countLost_20 ?_
  cases hD
  exact t_ireti cx wo rfl rfl d_PL_countLost_21
def D_PL_countSpoilt (F : Nat) (n : Nat → Nat) (σ : HS)  : Option (Int32) :=
(D_PL_countPlaces F n σ (0 : Int32)).bind (fun (x1 : Int32) =>
  (D_PL_countPlaces F n σ (1 : Int32)).bind (fun (x2 : Int32) =>
  some (x1 - x2)))
set_option maxRecDepth 100000 in
set_option maxHeartbeats 4000000 in
theorem k_PL_countSpoilt (l : Launch) (E : EV) (ad n : Nat → Nat) (L : List Nat) (hL : ∀ a ∈ ([1, 2, 3, 14, 16] : List Nat), a ∈ L) (F : Nat) (σ  : HS)  (r : Int32) (hD : D_PL_countSpoilt F n σ  = some r) : CtI l E y_PL_countSpoilt c_PL_countSpoilt 1 (some FieldType.int) ({ frames := 2, cells := 0, slots := 0, locals := 44 }) [.ref (ad 3)] (wl E ad n L σ) r (wl E ad n L σ) := by
  refine fun sz => ent (by decide) (Nat.le_of_ble_eq_true rfl) ?_
  intro p e s m below meth c hsz cx wo ls hl
  have hx := cx.1.1
  have hb := cx.1.2.1
  have hown := cx.1.2.2.2.1
  have hts := cx.1.2.2.2.2
  have hl : lv_has ls 1 [(0, .ref (ad 3))] := hl
  have m1 : 1 ∈ L := hL 1 (by decide)
  have m2 : 2 ∈ L := hL 2 (by decide)
  have m3 : 3 ∈ L := hL 3 (by decide)
  have m14 : 14 ∈ L := hL 14 (by decide)
  have m16 : 16 ∈ L := hL 16 (by decide)
  rw [D_PL_countSpoilt] at hD
  refine lv_aload_n hx hb d_PL_countSpoilt_0 rfl (lv_at hl 0 rfl) ?_
  refine lv_iconst (v := 0) hx hb d_PL_countSpoilt_1 (by decide) ?_
  obtain ⟨x1, hcx1, hD⟩ := bd_s hD
  try dsimp only [nm2] at hD
  refine call_Vi cx wo (k_PL_countPlaces l E ad n L (fun a h => hL a ((by decide : ∀ a ∈ ([1, 2, 3, 14, 16] : List Nat), a ∈ ([1, 2, 3, 14, 16] : List Nat)) a h)) F σ  (0 : Int32) x1 hcx1) m3 (cel_3 E ad n σ) rfl rfl mw_PL_countPlaces wm_PL_89 ⟨by decide, by decide⟩ ⟨by decide, by decide⟩ hl.1 rfl (Nat.le_of_ble_eq_true rfl) d_PL_countSpoilt_2 (fun H locs wo => ?_)
  refine lv_aload_n hx hb d_PL_countSpoilt_5 rfl (lv_at hl 0 rfl) ?_
  refine lv_iconst (v := 1) hx hb d_PL_countSpoilt_6 (by decide) ?_
  obtain ⟨x2, hcx2, hD⟩ := bd_s hD
  try dsimp only [nm2] at hD
  refine call_Vi cx wo (k_PL_countPlaces l E ad n L (fun a h => hL a ((by decide : ∀ a ∈ ([1, 2, 3, 14, 16] : List Nat), a ∈ ([1, 2, 3, 14, 16] : List Nat)) a h)) F σ  (1 : Int32) x2 hcx2) m3 (cel_3 E ad n σ) rfl rfl mw_PL_countPlaces wm_PL_89 ⟨by decide, by decide⟩ ⟨by decide, by decide⟩ hl.1 rfl (Nat.le_of_ble_eq_true rfl) d_PL_countSpoilt_7 (fun H locs wo => ?_)
  refine lv_isub hx hb d_PL_countSpoilt_10 ?_
  cases hD
  exact t_ireti cx wo rfl rfl d_PL_countSpoilt_11
def D_PL_countFreeSpares_L23 (F : Nat) (n : Nat → Nat) (σ : HS) (x3 : Int32) : Nat → Int32 → Int32 → Option (Int32)
  | 0, _, _ => none
  | k8 + 1, x9, x10 =>
      (if (σ.1 1 0) ≤ x9 then
              some x10
            else
              (D_LA_slot F n σ x3 x9).bind (fun (x12 : Int32) =>
              grd (inb x12 (n 9)) (
              (D_PL_isFree F n σ (σ.1 9 (x12).toNatClampNeg)).bind (fun (x14 : Int32) =>
              (if x14 = 0 then
                nm (x9 + (1 : Int32)) (fun x16 =>
                D_PL_countFreeSpares_L23 F n σ x3 k8 x16 x10)
              else
                nm (x10 + (1 : Int32)) (fun x17 =>
                nm (x9 + (1 : Int32)) (fun x18 =>
                D_PL_countFreeSpares_L23 F n σ x3 k8 x18 x17)))))))
def D_PL_countFreeSpares_L4 (F : Nat) (n : Nat → Nat) (σ : HS)  : Nat → Int32 → Int32 → Option (Int32)
  | 0, _, _ => none
  | k2 + 1, x3, x4 =>
      (if (σ.1 1 2) ≤ x3 then
        some x4
      else
        nm (σ.1 1 6) (fun x6 =>
        (D_PL_countFreeSpares_L23 F n σ x3 F x6 x4).bind (fun (x19 : Int32) =>
        nm (x3 + (1 : Int32)) (fun x23 =>
          D_PL_countFreeSpares_L4 F n σ  k2 x23 x19))))
def D_PL_countFreeSpares (F : Nat) (n : Nat → Nat) (σ : HS)  : Option (Int32) :=
(D_PL_countFreeSpares_L4 F n σ  F (0 : Int32) (0 : Int32)).bind (fun (x24 : Int32) =>
  some x24)
set_option maxRecDepth 100000 in
set_option maxHeartbeats 4000000 in
theorem k_PL_countFreeSpares (l : Launch) (E : EV) (ad n : Nat → Nat) (L : List Nat) (hL : ∀ a ∈ ([1, 2, 3, 9, 10, 16] : List Nat), a ∈ L) (F : Nat) (σ  : HS)  (r : Int32) (hD : D_PL_countFreeSpares F n σ  = some r) : CtI l E y_PL_countFreeSpares c_PL_countFreeSpares 4 (some FieldType.int) ({ frames := 2, cells := 0, slots := 0, locals := 42 }) [.ref (ad 3)] (wl E ad n L σ) r (wl E ad n L σ) := by
  refine fun sz => ent (by decide) (Nat.le_of_ble_eq_true rfl) ?_
  intro p e s m below meth c hsz cx wo ls hl
  have hx := cx.1.1
  have hb := cx.1.2.1
  have hown := cx.1.2.2.2.1
  have hts := cx.1.2.2.2.2
  have hl : lv_has ls 4 [(0, .ref (ad 3))] := hl
  have m1 : 1 ∈ L := hL 1 (by decide)
  have m2 : 2 ∈ L := hL 2 (by decide)
  have m3 : 3 ∈ L := hL 3 (by decide)
  have m9 : 9 ∈ L := hL 9 (by decide)
  have m10 : 10 ∈ L := hL 10 (by decide)
  have m16 : 16 ∈ L := hL 16 (by decide)
  rw [D_PL_countFreeSpares] at hD
  refine lv_iconst (v := 0) hx hb d_PL_countFreeSpares_0 (by decide) ?_
  refine lv_istore_n (lv' := [(1, .int (0 : Int32)), (0, .ref (ad 3))]) hx hb d_PL_countFreeSpares_1 rfl hl (by decide) rfl (fun ls hl => ?_)
  refine lv_iconst (v := 0) hx hb d_PL_countFreeSpares_2 (by decide) ?_
  refine lv_istore_n (lv' := [(2, .int (0 : Int32)), (1, .int (0 : Int32)), (0, .ref (ad 3))]) hx hb d_PL_countFreeSpares_3 rfl hl (by decide) rfl (fun ls hl => ?_)
  have lp25 : ∀ (k2 : Nat) (x3 : Int32) (x4 : Int32) (H : Heap) (locs : List Loc) (ls : Array Slot) (res1 : Int32), D_PL_countFreeSpares_L4 F n σ  k2 x3 x4 = some res1 → (∀ (x24 : Int32) (H : Heap) (locs : List Loc) (ls : Array Slot), res1 = x24 → Wo E (va_A (wl E ad n L σ) sz) s.heap (wl E ad n L σ) H locs → lv_has ls 4 [(1, .int x24)] → W p l e ({ frames := 2, cells := 0, slots := 0, locals := 42 }) s m ([.ref (ad 3)] : List Value).toArray below meth c H locs 0 0 (MQ below (va_Qi (fun (x : Int32) (_ : Unit) => x = r) (fun _ t => va_P E.1 cls6 (wl E ad n L σ) t.heap ∧ va_D (va_A (wl E ad n L σ) sz) (wl E ad n L σ)) (va_A (wl E ad n L σ) sz)) ([.ref (ad 3)] : List Value).toArray s 0 0 (va_A (wl E ad n L σ) sz)) (F0 m 73 ls [])) → Wo E (va_A (wl E ad n L σ) sz) s.heap (wl E ad n L σ) H locs → lv_has ls 4 [(2, .int x3), (1, .int x4), (0, .ref (ad 3))] → W p l e ({ frames := 2, cells := 0, slots := 0, locals := 42 }) s m ([.ref (ad 3)] : List Value).toArray below meth c H locs 0 0 (MQ below (va_Qi (fun (x : Int32) (_ : Unit) => x = r) (fun _ t => va_P E.1 cls6 (wl E ad n L σ) t.heap ∧ va_D (va_A (wl E ad n L σ) sz) (wl E ad n L σ)) (va_A (wl E ad n L σ) sz)) ([.ref (ad 3)] : List Value).toArray s 0 0 (va_A (wl E ad n L σ) sz)) (F0 m 4 ls []) := by
    intro k2
    induction k2 with
    | zero =>
      intro x3 x4 H locs ls res1 hD
      rw [D_PL_countFreeSpares_L4.eq_1] at hD
      cases hD
    | succ k2 ih =>
      intro x3 x4 H locs ls res1 hD hex wo hl
      rw [D_PL_countFreeSpares_L4.eq_2] at hD
      refine lv_iload_n hx hb d_PL_countFreeSpares_4 rfl (lv_at hl 0 rfl) ?_
      refine lv_aload_n hx hb d_PL_countFreeSpares_5 rfl (lv_at hl 2 rfl) ?_
      refine g_get cx wo m3 (cel_3 E ad n σ) rfl in_PL 2 (by decide) wf_PL_9 rfl d_PL_countFreeSpares_6 ?_
      refine g_get cx wo m1 (cel_1 E ad n σ) rfl in_LA 2 (by decide) wf_PL_19 rfl d_PL_countFreeSpares_9 ?_
      refine lv_icmp_ge (tgt := 73) hx hb d_PL_countFreeSpares_12 (by decide) (fun c5 => ?_) (fun c5 => ?_)
      · have hD := ite_p hD c5
        exact hex x4 _ _ _ (Option.some.inj hD).symm wo (lv_sub hl [1] rfl)
      · have hD := ite_n hD c5
        refine lv_aload_n hx hb d_PL_countFreeSpares_15 rfl (lv_at hl 2 rfl) ?_
        refine g_get cx wo m3 (cel_3 E ad n σ) rfl in_PL 2 (by decide) wf_PL_9 rfl d_PL_countFreeSpares_16 ?_
        refine g_get cx wo m1 (cel_1 E ad n σ) rfl in_LA 6 (by decide) wf_PL_47 rfl d_PL_countFreeSpares_19 ?_
        refine lv_topi (fun x6 ex6 => ?_)
        have hD := nm_at hD ex6
        try dsimp only at hD
        refine lv_istore_n (lv' := [(3, .int x6), (2, .int x3), (1, .int x4), (0, .ref (ad 3))]) hx hb d_PL_countFreeSpares_22 rfl hl (by decide) rfl (fun ls hl => ?_)
        have lp20 : ∀ (k8 : Nat) (x9 : Int32) (x10 : Int32) (H : Heap) (locs : List Loc) (ls : Array Slot) (res7 : Int32), D_PL_countFreeSpares_L23 F n σ x3 k8 x9 x10 = some res7 → (∀ (x19 : Int32) (H : Heap) (locs : List Loc) (ls : Array Slot), res7 = x19 → Wo E (va_A (wl E ad n L σ) sz) s.heap (wl E ad n L σ) H locs → lv_has ls 4 [(2, .int x3), (1, .int x19), (0, .ref (ad 3))] → W p l e ({ frames := 2, cells := 0, slots := 0, locals := 42 }) s m ([.ref (ad 3)] : List Value).toArray below meth c H locs 0 0 (MQ below (va_Qi (fun (x : Int32) (_ : Unit) => x = r) (fun _ t => va_P E.1 cls6 (wl E ad n L σ) t.heap ∧ va_D (va_A (wl E ad n L σ) sz) (wl E ad n L σ)) (va_A (wl E ad n L σ) sz)) ([.ref (ad 3)] : List Value).toArray s 0 0 (va_A (wl E ad n L σ) sz)) (F0 m 67 ls [])) → Wo E (va_A (wl E ad n L σ) sz) s.heap (wl E ad n L σ) H locs → lv_has ls 4 [(3, .int x9), (2, .int x3), (1, .int x10), (0, .ref (ad 3))] → W p l e ({ frames := 2, cells := 0, slots := 0, locals := 42 }) s m ([.ref (ad 3)] : List Value).toArray below meth c H locs 0 0 (MQ below (va_Qi (fun (x : Int32) (_ : Unit) => x = r) (fun _ t => va_P E.1 cls6 (wl E ad n L σ) t.heap ∧ va_D (va_A (wl E ad n L σ) sz) (wl E ad n L σ)) (va_A (wl E ad n L σ) sz)) ([.ref (ad 3)] : List Value).toArray s 0 0 (va_A (wl E ad n L σ) sz)) (F0 m 23 ls []) := by
          intro k8
          induction k8 with
          | zero =>
            intro x9 x10 H locs ls res7 hD
            rw [D_PL_countFreeSpares_L23.eq_1] at hD
            cases hD
          | succ k8 ih =>
            intro x9 x10 H locs ls res7 hD hex wo hl
            rw [D_PL_countFreeSpares_L23.eq_2] at hD
            refine lv_iload_n hx hb d_PL_countFreeSpares_23 rfl (lv_at hl 0 rfl) ?_
            refine lv_aload_n hx hb d_PL_countFreeSpares_24 rfl (lv_at hl 3 rfl) ?_
            refine g_get cx wo m3 (cel_3 E ad n σ) rfl in_PL 2 (by decide) wf_PL_9 rfl d_PL_countFreeSpares_25 ?_
            refine g_get cx wo m1 (cel_1 E ad n σ) rfl in_LA 0 (by decide) wf_PL_25 rfl d_PL_countFreeSpares_28 ?_
            refine lv_icmp_ge (tgt := 67) hx hb d_PL_countFreeSpares_31 (by decide) (fun c11 => ?_) (fun c11 => ?_)
            · have hD := ite_p hD c11
              exact hex x10 _ _ _ (Option.some.inj hD).symm wo (lv_sub hl [1, 2, 3] rfl)
            · have hD := ite_n hD c11
              refine lv_aload_n hx hb d_PL_countFreeSpares_34 rfl (lv_at hl 3 rfl) ?_
              refine lv_aload_n hx hb d_PL_countFreeSpares_35 rfl (lv_at hl 3 rfl) ?_
              refine g_get cx wo m3 (cel_3 E ad n σ) rfl in_PL 2 (by decide) wf_PL_9 rfl d_PL_countFreeSpares_36 ?_
              refine g_get cx wo m1 (cel_1 E ad n σ) rfl in_LA 9 (by decide) wf_PL_57 rfl d_PL_countFreeSpares_39 ?_
              refine lv_aload_n hx hb d_PL_countFreeSpares_42 rfl (lv_at hl 3 rfl) ?_
              refine g_get cx wo m3 (cel_3 E ad n σ) rfl in_PL 2 (by decide) wf_PL_9 rfl d_PL_countFreeSpares_43 ?_
              refine lv_iload_n hx hb d_PL_countFreeSpares_46 rfl (lv_at hl 1 rfl) ?_
              refine lv_iload_n hx hb d_PL_countFreeSpares_47 rfl (lv_at hl 0 rfl) ?_
              obtain ⟨x12, hcx12, hD⟩ := bd_s hD
              try dsimp only [nm2] at hD
              refine call_Vi cx wo (k_LA_slot l E ad n L (fun a h => hL a ((by decide : ∀ a ∈ ([1] : List Nat), a ∈ ([1, 2, 3, 9, 10, 16] : List Nat)) a h)) F σ  x3 x9 x12 hcx12) m1 (cel_1 E ad n σ) rfl rfl mw_LA_slot wm_PL_50 ⟨by decide, by decide⟩ ⟨by decide, by decide⟩ hl.1 rfl (Nat.le_of_ble_eq_true rfl) d_PL_countFreeSpares_48 (fun H locs wo => ?_)
              obtain ⟨g13, hD⟩ := grd_s hD
              refine g_iald cx wo m9 (cel_9 E ad n σ) g13 d_PL_countFreeSpares_51 ?_
              obtain ⟨x14, hcx14, hD⟩ := bd_s hD
              try dsimp only [nm2] at hD
              refine call_Vi cx wo (k_PL_isFree l E ad n L (fun a h => hL a ((by decide : ∀ a ∈ ([1, 2, 3, 10, 16] : List Nat), a ∈ ([1, 2, 3, 9, 10, 16] : List Nat)) a h)) F σ  (σ.1 9 (x12).toNatClampNeg) x14 hcx14) m3 (cel_3 E ad n σ) rfl rfl mw_PL_isFree wm_PL_86 ⟨by decide, by decide⟩ ⟨by decide, by decide⟩ hl.1 rfl (Nat.le_of_ble_eq_true rfl) d_PL_countFreeSpares_52 (fun H locs wo => ?_)
              refine lv_if_eq (tgt := 61) hx hb d_PL_countFreeSpares_55 (by decide) (fun c15 => ?_) (fun c15 => ?_)
              · have hD := ite_p hD c15
                obtain ⟨x16, ex16⟩ : ∃ y : Int32, y = x9 + (1 : Int32) := ⟨_, rfl⟩
                have hD := nm_at hD ex16
                try dsimp only at hD
                refine lv_iinc (v := x16) (lv' := [(3, .int x16), (2, .int x3), (1, .int x10), (0, .ref (ad 3))]) hx hb d_PL_countFreeSpares_61 hl (k := 0) rfl (by rw [ex16]; rfl) (by decide) rfl (fun ls hl => ?_)
                refine lv_goto (tgt := 23) hx hb d_PL_countFreeSpares_64 (by decide) ?_
                exact ih x16 x10 _ _ _ _ hD hex wo (lv_sub hl [0, 1, 2, 3] rfl)
              · have hD := ite_n hD c15
                obtain ⟨x17, ex17⟩ : ∃ y : Int32, y = x10 + (1 : Int32) := ⟨_, rfl⟩
                have hD := nm_at hD ex17
                try dsimp only at hD
                refine lv_iinc (v := x17) (lv' := [(1, .int x17), (3, .int x9), (2, .int x3), (0, .ref (ad 3))]) hx hb d_PL_countFreeSpares_58 hl (k := 2) rfl (by rw [ex17]; rfl) (by decide) rfl (fun ls hl => ?_)
                obtain ⟨x18, ex18⟩ : ∃ y : Int32, y = x9 + (1 : Int32) := ⟨_, rfl⟩
                have hD := nm_at hD ex18
                try dsimp only at hD
                refine lv_iinc (v := x18) (lv' := [(3, .int x18), (1, .int x17), (2, .int x3), (0, .ref (ad 3))]) hx hb d_PL_countFreeSpares_61 hl (k := 1) rfl (by rw [ex18]; rfl) (by decide) rfl (fun ls hl => ?_)
                refine lv_goto (tgt := 23) hx hb d_PL_countFreeSpares_64 (by decide) ?_
                exact ih x18 x17 _ _ _ _ hD hex wo (lv_sub hl [0, 2, 1, 3] rfl)
        obtain ⟨res21, hr22, hD⟩ := bd_s hD
        refine lp20 F x6 x4 _ _ _ _ hr22 (fun x19 H locs ls hz wo hl => ?_) wo (lv_sub hl [0, 1, 2, 3] rfl)
        have hz := hz.symm
        subst hz
        try dsimp only at hD
        obtain ⟨x23, ex23⟩ : ∃ y : Int32, y = x3 + (1 : Int32) := ⟨_, rfl⟩
        have hD := nm_at hD ex23
        try dsimp only at hD
        refine lv_iinc (v := x23) (lv' := [(2, .int x23), (1, .int x19), (0, .ref (ad 3))]) hx hb d_PL_countFreeSpares_67 hl (k := 0) rfl (by rw [ex23]; rfl) (by decide) rfl (fun ls hl => ?_)
        refine lv_goto (tgt := 4) hx hb d_PL_countFreeSpares_70 (by decide) ?_
        exact ih x23 x19 _ _ _ _ hD hex wo (lv_sub hl [0, 1, 2] rfl)
  obtain ⟨res26, hr27, hD⟩ := bd_s hD
  refine lp25 F (0 : Int32) (0 : Int32) _ _ _ _ hr27 (fun x24 H locs ls hz wo hl => ?_) wo (lv_sub hl [0, 1, 2] rfl)
  have hz := hz.symm
  subst hz
  try dsimp only at hD
  refine lv_iload_n hx hb d_PL_countFreeSpares_73 rfl (lv_at hl 0 rfl) ?_
  cases hD
  exact t_ireti cx wo rfl rfl d_PL_countFreeSpares_74
def D_SF_findPlacesIfOff (F : Nat) (n : Nat → Nat) (σ : HS)  : Option (HS) :=
(if (σ.1 4 0) = 0 then
    (D_PL_find F n σ ).bind (fun (σ3 : HS) =>
    some σ3)
  else
    some σ)
set_option maxRecDepth 100000 in
set_option maxHeartbeats 4000000 in
theorem k_SF_findPlacesIfOff (l : Launch) (E : EV) (ad n : Nat → Nat) (L : List Nat) (hL : ∀ a ∈ ([0, 1, 2, 3, 4, 9, 11, 13, 14, 15, 16] : List Nat), a ∈ L) (F : Nat) (σ σo : HS)   (hD : D_SF_findPlacesIfOff F n σ  = some σo) : CtV l E y_SF_findPlacesIfOff c_SF_findPlacesIfOff 1 none ({ frames := 3, cells := 0, slots := 0, locals := 69 }) [.ref (ad 0)] (wl E ad n L σ) (wl E ad n L σo) := by
  refine fun sz => ent (by decide) (Nat.le_of_ble_eq_true rfl) ?_
  intro p e s m below meth c hsz cx wo ls hl
  have hx := cx.1.1
  have hb := cx.1.2.1
  have hown := cx.1.2.2.2.1
  have hts := cx.1.2.2.2.2
  have hl : lv_has ls 1 [(0, .ref (ad 0))] := hl
  have m0 : 0 ∈ L := hL 0 (by decide)
  have m1 : 1 ∈ L := hL 1 (by decide)
  have m2 : 2 ∈ L := hL 2 (by decide)
  have m3 : 3 ∈ L := hL 3 (by decide)
  have m4 : 4 ∈ L := hL 4 (by decide)
  have m9 : 9 ∈ L := hL 9 (by decide)
  have m11 : 11 ∈ L := hL 11 (by decide)
  have m13 : 13 ∈ L := hL 13 (by decide)
  have m14 : 14 ∈ L := hL 14 (by decide)
  have m15 : 15 ∈ L := hL 15 (by decide)
  have m16 : 16 ∈ L := hL 16 (by decide)
  rw [D_SF_findPlacesIfOff] at hD
  refine lv_aload_n hx hb d_SF_findPlacesIfOff_0 rfl (lv_at hl 0 rfl) ?_
  refine g_get cx wo m0 (cel_0 E ad n σ) rfl in_SF 3 (by decide) wf_SF_39 rfl d_SF_findPlacesIfOff_1 ?_
  refine g_get cx wo m4 (cel_4 E ad n σ) rfl in_PW 0 (by decide) wf_SF_81 rfl d_SF_findPlacesIfOff_4 ?_
  refine lv_if_ne (tgt := 17) hx hb d_SF_findPlacesIfOff_7 (by decide) (fun c1 => ?_) (fun c1 => ?_)
  · have hD := ite_n hD c1
    cases hD
    exact t_vret cx wo d_SF_findPlacesIfOff_17
  · have hD := ite_p hD c1
    refine lv_aload_n hx hb d_SF_findPlacesIfOff_10 rfl (lv_at hl 0 rfl) ?_
    refine g_get cx wo m0 (cel_0 E ad n σ) rfl in_SF 2 (by decide) wf_SF_32 rfl d_SF_findPlacesIfOff_11 ?_
    obtain ⟨σ3, hcx2, hD⟩ := bd_s hD
    try dsimp only [nm2] at hD
    refine call_Vv cx wo (k_PL_find l E ad n L (fun a h => hL a ((by decide : ∀ a ∈ ([1, 2, 3, 9, 11, 13, 14, 15, 16] : List Nat), a ∈ ([0, 1, 2, 3, 4, 9, 11, 13, 14, 15, 16] : List Nat)) a h)) F σ σ3  hcx2) m3 (cel_3 E ad n σ) rfl rfl mw_PL_find wm_SF_126 ⟨by decide, by decide⟩ ⟨by decide, by decide⟩ hl.1 rfl (Nat.le_of_ble_eq_true rfl) d_SF_findPlacesIfOff_14 (fun H locs wo => ?_)
    cases hD
    exact t_vret cx wo d_SF_findPlacesIfOff_17
def D_AR_fillJ_5_L6 (F : Nat) (n : Nat → Nat) (x1 : Int32) (p1 : Int64) : Nat → HS → Int32 → Option (HS)
  | 0, _, _ => none
  | k4 + 1, σ2, x5 =>
      (if x1 ≤ x5 then
        some σ2
      else
        grd (inb x5 (n 5)) (
        nm (stL σ2 5 (x5).toNatClampNeg p1) (fun σ8 =>
        nm (x5 + (1 : Int32)) (fun x9 =>
        D_AR_fillJ_5_L6 F n x1 p1 k4 σ8 x9))))
def D_AR_fillJ_5 (F : Nat) (n : Nat → Nat) (σ : HS) (p1 : Int64) : Option (HS) :=
nm (nI (n 5)) (fun x1 =>
  (D_AR_fillJ_5_L6 F n x1 p1 F σ (0 : Int32)).bind (fun (σ10 : HS) =>
  some σ10))
set_option maxRecDepth 100000 in
set_option maxHeartbeats 4000000 in
theorem k_AR_fillJ_5 (l : Launch) (E : EV) (ad n : Nat → Nat) (L : List Nat) (hL : ∀ a ∈ ([5] : List Nat), a ∈ L) (F : Nat) (σ σo : HS) (p1 : Int64)  (hD : D_AR_fillJ_5 F n σ p1 = some σo) : CtV l E y_AR_fillJ c_AR_fillJ 5 none ({ frames := 0, cells := 0, slots := 0, locals := 0 }) [.ref (ad 5), .long p1] (wl E ad n L σ) (wl E ad n L σo) := by
  refine fun sz => ent (by decide) (Nat.le_of_ble_eq_true rfl) ?_
  intro p e s m below meth c hsz cx wo ls hl
  have hx := cx.1.1
  have hb := cx.1.2.1
  have hown := cx.1.2.2.2.1
  have hts := cx.1.2.2.2.2
  have hl : lv_has ls 5 [(0, .ref (ad 5)), (1, .long p1)] := hl
  have m5 : 5 ∈ L := hL 5 (by decide)
  rw [D_AR_fillJ_5] at hD
  refine lv_iconst (v := 0) hx hb d_AR_fillJ_0 (by decide) ?_
  refine lv_istore_n (lv' := [(3, .int (0 : Int32)), (0, .ref (ad 5)), (1, .long p1)]) hx hb d_AR_fillJ_1 rfl hl (by decide) rfl (fun ls hl => ?_)
  refine lv_aload_n hx hb d_AR_fillJ_2 rfl (lv_at hl 1 rfl) ?_
  refine g_alen cx wo m5 1 (cel_5 E ad n σ) rfl rfl d_AR_fillJ_3 ?_
  refine lv_topi (fun x1 ex1 => ?_)
  have hD := nm_at hD ex1
  try dsimp only at hD
  refine lv_istore (lv' := [(4, .int x1), (3, .int (0 : Int32)), (0, .ref (ad 5)), (1, .long p1)]) hx hb d_AR_fillJ_4 hl (by decide) rfl (fun ls hl => ?_)
  have lp11 : ∀ (k4 : Nat) (σ2 : HS) (x5 : Int32) (H : Heap) (locs : List Loc) (ls : Array Slot) (res3 : HS), D_AR_fillJ_5_L6 F n x1 p1 k4 σ2 x5 = some res3 → (∀ (σ10 : HS) (H : Heap) (locs : List Loc) (ls : Array Slot), res3 = σ10 → Wo E (va_A (wl E ad n L σ) sz) s.heap (wl E ad n L σ10) H locs → lv_has ls 5 [] → W p l e ({ frames := 0, cells := 0, slots := 0, locals := 0 }) s m ([.ref (ad 5), .long p1] : List Value).toArray below meth c H locs 0 0 (MQ below (va_Qv (fun (_ : Unit) => True) (fun _ t => va_P E.1 cls6 (wl E ad n L σo) t.heap ∧ va_D (va_A (wl E ad n L σ) sz) (wl E ad n L σo)) (va_A (wl E ad n L σ) sz)) ([.ref (ad 5), .long p1] : List Value).toArray s 0 0 (va_A (wl E ad n L σ) sz)) (F0 m 22 ls [])) → Wo E (va_A (wl E ad n L σ) sz) s.heap (wl E ad n L σ2) H locs → lv_has ls 5 [(4, .int x1), (3, .int x5), (0, .ref (ad 5)), (1, .long p1)] → W p l e ({ frames := 0, cells := 0, slots := 0, locals := 0 }) s m ([.ref (ad 5), .long p1] : List Value).toArray below meth c H locs 0 0 (MQ below (va_Qv (fun (_ : Unit) => True) (fun _ t => va_P E.1 cls6 (wl E ad n L σo) t.heap ∧ va_D (va_A (wl E ad n L σ) sz) (wl E ad n L σo)) (va_A (wl E ad n L σ) sz)) ([.ref (ad 5), .long p1] : List Value).toArray s 0 0 (va_A (wl E ad n L σ) sz)) (F0 m 6 ls []) := by
    intro k4
    induction k4 with
    | zero =>
      intro σ2 x5 H locs ls res3 hD
      rw [D_AR_fillJ_5_L6.eq_1] at hD
      cases hD
    | succ k4 ih =>
      intro σ2 x5 H locs ls res3 hD hex wo hl
      rw [D_AR_fillJ_5_L6.eq_2] at hD
      refine lv_iload_n hx hb d_AR_fillJ_6 rfl (lv_at hl 1 rfl) ?_
      refine lv_iload hx hb d_AR_fillJ_7 (lv_at hl 0 rfl) ?_
      refine lv_icmp_ge (tgt := 22) hx hb d_AR_fillJ_9 (by decide) (fun c6 => ?_) (fun c6 => ?_)
      · have hD := ite_p hD c6
        exact hex σ2 _ _ _ (Option.some.inj hD).symm wo (lv_sub hl [] rfl)
      · have hD := ite_n hD c6
        refine lv_aload_n hx hb d_AR_fillJ_12 rfl (lv_at hl 2 rfl) ?_
        refine lv_iload_n hx hb d_AR_fillJ_13 rfl (lv_at hl 1 rfl) ?_
        refine lv_lload_n hx hb d_AR_fillJ_14 rfl (lv_at hl 3 rfl) ?_
        obtain ⟨g7, hD⟩ := grd_s hD
        refine g_last cx wo m5 (cel_5 E ad n) g7 d_AR_fillJ_15 (fun H locs wo => ?_)
        obtain ⟨σ8, eσ8⟩ : ∃ z, z = stL σ2 5 (x5).toNatClampNeg p1 := ⟨_, rfl⟩
        rw [← eσ8] at wo
        have hD := nm_at hD eσ8
        try dsimp only at hD
        obtain ⟨x9, ex9⟩ : ∃ y : Int32, y = x5 + (1 : Int32) := ⟨_, rfl⟩
        have hD := nm_at hD ex9
        try dsimp only at hD
        refine lv_iinc (v := x9) (lv' := [(3, .int x9), (4, .int x1), (0, .ref (ad 5)), (1, .long p1)]) hx hb d_AR_fillJ_16 hl (k := 1) rfl (by rw [ex9]; rfl) (by decide) rfl (fun ls hl => ?_)
        refine lv_goto (tgt := 6) hx hb d_AR_fillJ_19 (by decide) ?_
        exact ih σ8 x9 _ _ _ _ hD hex wo (lv_sub hl [1, 0, 2, 3] rfl)
  obtain ⟨res12, hr13, hD⟩ := bd_s hD
  refine lp11 F σ (0 : Int32) _ _ _ _ hr13 (fun σ10 H locs ls hz wo hl => ?_) wo (lv_sub hl [0, 1, 2, 3] rfl)
  have hz := hz.symm
  subst hz
  try dsimp only at hD
  cases hD
  exact t_vret cx wo d_AR_fillJ_22
def D_SF_takeTape (F : Nat) (n : Nat → Nat) (σ : HS)  : Option (HS) :=
grd (cpok (0 : Int32) (0 : Int32) (8 : Int32) (n 5) (n 6)) (
  nm (cpL σ 5 ((0 : Int32)).toNatClampNeg 6 ((0 : Int32)).toNatClampNeg ((8 : Int32)).toNatClampNeg) (fun σ2 =>
  (D_AR_fillJ_5 F n σ2 (0 : Int64)).bind (fun (σ4 : HS) =>
  nm (stF σ4 0 5 (0 : Int32)) (fun σ5 =>
  some σ5))))
set_option maxRecDepth 100000 in
set_option maxHeartbeats 4000000 in
theorem k_SF_takeTape (l : Launch) (E : EV) (ad n : Nat → Nat) (L : List Nat) (hL : ∀ a ∈ ([0, 5, 6] : List Nat), a ∈ L) (F : Nat) (σ σo : HS)   (hD : D_SF_takeTape F n σ  = some σo) : CtV l E y_SF_takeTape c_SF_takeTape 1 none ({ frames := 1, cells := 0, slots := 0, locals := 48 }) [.ref (ad 0)] (wl E ad n L σ) (wl E ad n L σo) := by
  refine fun sz => ent (by decide) (Nat.le_of_ble_eq_true rfl) ?_
  intro p e s m below meth c hsz cx wo ls hl
  have hx := cx.1.1
  have hb := cx.1.2.1
  have hown := cx.1.2.2.2.1
  have hts := cx.1.2.2.2.2
  have hl : lv_has ls 1 [(0, .ref (ad 0))] := hl
  have m0 : 0 ∈ L := hL 0 (by decide)
  have m5 : 5 ∈ L := hL 5 (by decide)
  have m6 : 6 ∈ L := hL 6 (by decide)
  rw [D_SF_takeTape] at hD
  refine lv_aload_n hx hb d_SF_takeTape_0 rfl (lv_at hl 0 rfl) ?_
  refine g_get cx wo m0 (cel_0 E ad n σ) rfl in_SF 4 (by decide) wf_SF_43 rfl d_SF_takeTape_1 ?_
  refine lv_iconst (v := 0) hx hb d_SF_takeTape_4 (by decide) ?_
  refine lv_aload_n hx hb d_SF_takeTape_5 rfl (lv_at hl 0 rfl) ?_
  refine g_get cx wo m0 (cel_0 E ad n σ) rfl in_SF 8 (by decide) wf_SF_47 rfl d_SF_takeTape_6 ?_
  refine lv_iconst (v := 0) hx hb d_SF_takeTape_9 (by decide) ?_
  refine lv_bipush (v := 8) hx hb d_SF_takeTape_10 (by decide) ?_
  obtain ⟨g1, hD⟩ := grd_s hD
  refine g_cpJ cx wo m5 m6 (cel_5 E ad n) (cel_6 E ad n) g1 wm_SF_259 hl.1 (by decide) (Nat.le_of_ble_eq_true rfl) d_SF_takeTape_12 (fun H locs wo => ?_)
  obtain ⟨σ2, eσ2⟩ : ∃ z, z = cpL σ 5 ((0 : Int32)).toNatClampNeg 6 ((0 : Int32)).toNatClampNeg ((8 : Int32)).toNatClampNeg := ⟨_, rfl⟩
  rw [← eσ2] at wo
  have hD := nm_at hD eσ2
  try dsimp only at hD
  refine lv_aload_n hx hb d_SF_takeTape_15 rfl (lv_at hl 0 rfl) ?_
  refine g_get cx wo m0 (cel_0 E ad n σ2) rfl in_SF 4 (by decide) wf_SF_43 rfl d_SF_takeTape_16 ?_
  refine lv_lconst (v := 0) hx hb d_SF_takeTape_19 (by decide) ?_
  obtain ⟨σ4, hcx3, hD⟩ := bd_s hD
  try dsimp only [nm2] at hD
  refine call_Sv cx wo (k_AR_fillJ_5 l E ad n L (fun a h => hL a ((by decide : ∀ a ∈ ([5] : List Nat), a ∈ ([0, 5, 6] : List Nat)) a h)) F σ2 σ4 (0 : Int64) hcx3) mw_AR_fillJ wm_SF_103 ⟨by decide, by decide⟩ ⟨by decide, by decide⟩ hl.1 rfl (Nat.le_of_ble_eq_true rfl) d_SF_takeTape_20 (fun H locs wo => ?_)
  refine lv_aload_n hx hb d_SF_takeTape_23 rfl (lv_at hl 0 rfl) ?_
  refine lv_iconst (v := 0) hx hb d_SF_takeTape_24 (by decide) ?_
  refine g_put cx wo m0 (cel_0 E ad n σ4) rfl in_SF t_SF tok_SF n_SF 5 (by decide) wf_SF_63 rfl rfl rfl (Nat.le_of_ble_eq_true rfl) rfl d_SF_takeTape_25 (fun H locs wo => ?_)
  obtain ⟨σ5, eσ5⟩ : ∃ z, z = stF σ4 0 5 (0 : Int32) := ⟨_, rfl⟩
  rw [← eσ5] at wo
  have hD := nm_at hD eσ5
  try dsimp only at hD
  cases hD
  exact t_vret cx wo d_SF_takeTape_28
def D_AR_fillJ_7_L6 (F : Nat) (n : Nat → Nat) (x1 : Int32) (p1 : Int64) : Nat → HS → Int32 → Option (HS)
  | 0, _, _ => none
  | k4 + 1, σ2, x5 =>
      (if x1 ≤ x5 then
        some σ2
      else
        grd (inb x5 (n 7)) (
        nm (stL σ2 7 (x5).toNatClampNeg p1) (fun σ8 =>
        nm (x5 + (1 : Int32)) (fun x9 =>
        D_AR_fillJ_7_L6 F n x1 p1 k4 σ8 x9))))
def D_AR_fillJ_7 (F : Nat) (n : Nat → Nat) (σ : HS) (p1 : Int64) : Option (HS) :=
nm (nI (n 7)) (fun x1 =>
  (D_AR_fillJ_7_L6 F n x1 p1 F σ (0 : Int32)).bind (fun (σ10 : HS) =>
  some σ10))
set_option maxRecDepth 100000 in
set_option maxHeartbeats 4000000 in
theorem k_AR_fillJ_7 (l : Launch) (E : EV) (ad n : Nat → Nat) (L : List Nat) (hL : ∀ a ∈ ([7] : List Nat), a ∈ L) (F : Nat) (σ σo : HS) (p1 : Int64)  (hD : D_AR_fillJ_7 F n σ p1 = some σo) : CtV l E y_AR_fillJ c_AR_fillJ 5 none ({ frames := 0, cells := 0, slots := 0, locals := 0 }) [.ref (ad 7), .long p1] (wl E ad n L σ) (wl E ad n L σo) := by
  refine fun sz => ent (by decide) (Nat.le_of_ble_eq_true rfl) ?_
  intro p e s m below meth c hsz cx wo ls hl
  have hx := cx.1.1
  have hb := cx.1.2.1
  have hown := cx.1.2.2.2.1
  have hts := cx.1.2.2.2.2
  have hl : lv_has ls 5 [(0, .ref (ad 7)), (1, .long p1)] := hl
  have m7 : 7 ∈ L := hL 7 (by decide)
  rw [D_AR_fillJ_7] at hD
  refine lv_iconst (v := 0) hx hb d_AR_fillJ_0 (by decide) ?_
  refine lv_istore_n (lv' := [(3, .int (0 : Int32)), (0, .ref (ad 7)), (1, .long p1)]) hx hb d_AR_fillJ_1 rfl hl (by decide) rfl (fun ls hl => ?_)
  refine lv_aload_n hx hb d_AR_fillJ_2 rfl (lv_at hl 1 rfl) ?_
  refine g_alen cx wo m7 1 (cel_7 E ad n σ) rfl rfl d_AR_fillJ_3 ?_
  refine lv_topi (fun x1 ex1 => ?_)
  have hD := nm_at hD ex1
  try dsimp only at hD
  refine lv_istore (lv' := [(4, .int x1), (3, .int (0 : Int32)), (0, .ref (ad 7)), (1, .long p1)]) hx hb d_AR_fillJ_4 hl (by decide) rfl (fun ls hl => ?_)
  have lp11 : ∀ (k4 : Nat) (σ2 : HS) (x5 : Int32) (H : Heap) (locs : List Loc) (ls : Array Slot) (res3 : HS), D_AR_fillJ_7_L6 F n x1 p1 k4 σ2 x5 = some res3 → (∀ (σ10 : HS) (H : Heap) (locs : List Loc) (ls : Array Slot), res3 = σ10 → Wo E (va_A (wl E ad n L σ) sz) s.heap (wl E ad n L σ10) H locs → lv_has ls 5 [] → W p l e ({ frames := 0, cells := 0, slots := 0, locals := 0 }) s m ([.ref (ad 7), .long p1] : List Value).toArray below meth c H locs 0 0 (MQ below (va_Qv (fun (_ : Unit) => True) (fun _ t => va_P E.1 cls6 (wl E ad n L σo) t.heap ∧ va_D (va_A (wl E ad n L σ) sz) (wl E ad n L σo)) (va_A (wl E ad n L σ) sz)) ([.ref (ad 7), .long p1] : List Value).toArray s 0 0 (va_A (wl E ad n L σ) sz)) (F0 m 22 ls [])) → Wo E (va_A (wl E ad n L σ) sz) s.heap (wl E ad n L σ2) H locs → lv_has ls 5 [(4, .int x1), (3, .int x5), (0, .ref (ad 7)), (1, .long p1)] → W p l e ({ frames := 0, cells := 0, slots := 0, locals := 0 }) s m ([.ref (ad 7), .long p1] : List Value).toArray below meth c H locs 0 0 (MQ below (va_Qv (fun (_ : Unit) => True) (fun _ t => va_P E.1 cls6 (wl E ad n L σo) t.heap ∧ va_D (va_A (wl E ad n L σ) sz) (wl E ad n L σo)) (va_A (wl E ad n L σ) sz)) ([.ref (ad 7), .long p1] : List Value).toArray s 0 0 (va_A (wl E ad n L σ) sz)) (F0 m 6 ls []) := by
    intro k4
    induction k4 with
    | zero =>
      intro σ2 x5 H locs ls res3 hD
      rw [D_AR_fillJ_7_L6.eq_1] at hD
      cases hD
    | succ k4 ih =>
      intro σ2 x5 H locs ls res3 hD hex wo hl
      rw [D_AR_fillJ_7_L6.eq_2] at hD
      refine lv_iload_n hx hb d_AR_fillJ_6 rfl (lv_at hl 1 rfl) ?_
      refine lv_iload hx hb d_AR_fillJ_7 (lv_at hl 0 rfl) ?_
      refine lv_icmp_ge (tgt := 22) hx hb d_AR_fillJ_9 (by decide) (fun c6 => ?_) (fun c6 => ?_)
      · have hD := ite_p hD c6
        exact hex σ2 _ _ _ (Option.some.inj hD).symm wo (lv_sub hl [] rfl)
      · have hD := ite_n hD c6
        refine lv_aload_n hx hb d_AR_fillJ_12 rfl (lv_at hl 2 rfl) ?_
        refine lv_iload_n hx hb d_AR_fillJ_13 rfl (lv_at hl 1 rfl) ?_
        refine lv_lload_n hx hb d_AR_fillJ_14 rfl (lv_at hl 3 rfl) ?_
        obtain ⟨g7, hD⟩ := grd_s hD
        refine g_last cx wo m7 (cel_7 E ad n) g7 d_AR_fillJ_15 (fun H locs wo => ?_)
        obtain ⟨σ8, eσ8⟩ : ∃ z, z = stL σ2 7 (x5).toNatClampNeg p1 := ⟨_, rfl⟩
        rw [← eσ8] at wo
        have hD := nm_at hD eσ8
        try dsimp only at hD
        obtain ⟨x9, ex9⟩ : ∃ y : Int32, y = x5 + (1 : Int32) := ⟨_, rfl⟩
        have hD := nm_at hD ex9
        try dsimp only at hD
        refine lv_iinc (v := x9) (lv' := [(3, .int x9), (4, .int x1), (0, .ref (ad 7)), (1, .long p1)]) hx hb d_AR_fillJ_16 hl (k := 1) rfl (by rw [ex9]; rfl) (by decide) rfl (fun ls hl => ?_)
        refine lv_goto (tgt := 6) hx hb d_AR_fillJ_19 (by decide) ?_
        exact ih σ8 x9 _ _ _ _ hD hex wo (lv_sub hl [1, 0, 2, 3] rfl)
  obtain ⟨res12, hr13, hD⟩ := bd_s hD
  refine lp11 F σ (0 : Int32) _ _ _ _ hr13 (fun σ10 H locs ls hz wo hl => ?_) wo (lv_sub hl [0, 1, 2, 3] rfl)
  have hz := hz.symm
  subst hz
  try dsimp only at hD
  cases hD
  exact t_vret cx wo d_AR_fillJ_22
def D_SF_placeOf (F : Nat) (n : Nat → Nat) (σ : HS) (p1 : Int32) (p2 : Int32) : Option (Int32) :=
(D_LA_slotOf F n σ p1 p2).bind (fun (x1 : Int32) =>
  grd (inb x1 (n 15)) (
  some (σ.1 15 (x1).toNatClampNeg)))
set_option maxRecDepth 100000 in
set_option maxHeartbeats 4000000 in
theorem k_SF_placeOf (l : Launch) (E : EV) (ad n : Nat → Nat) (L : List Nat) (hL : ∀ a ∈ ([0, 1, 3, 15] : List Nat), a ∈ L) (F : Nat) (σ  : HS) (p1 : Int32) (p2 : Int32) (r : Int32) (hD : D_SF_placeOf F n σ p1 p2 = some r) : CtI l E y_SF_placeOf c_SF_placeOf 3 (some FieldType.int) ({ frames := 2, cells := 0, slots := 0, locals := 44 }) [.ref (ad 0), .int p1, .int p2] (wl E ad n L σ) r (wl E ad n L σ) := by
  refine fun sz => ent (by decide) (Nat.le_of_ble_eq_true rfl) ?_
  intro p e s m below meth c hsz cx wo ls hl
  have hx := cx.1.1
  have hb := cx.1.2.1
  have hown := cx.1.2.2.2.1
  have hts := cx.1.2.2.2.2
  have hl : lv_has ls 3 [(0, .ref (ad 0)), (1, .int p1), (2, .int p2)] := hl
  have m0 : 0 ∈ L := hL 0 (by decide)
  have m1 : 1 ∈ L := hL 1 (by decide)
  have m3 : 3 ∈ L := hL 3 (by decide)
  have m15 : 15 ∈ L := hL 15 (by decide)
  rw [D_SF_placeOf] at hD
  refine lv_aload_n hx hb d_SF_placeOf_0 rfl (lv_at hl 0 rfl) ?_
  refine g_get cx wo m0 (cel_0 E ad n σ) rfl in_SF 2 (by decide) wf_SF_32 rfl d_SF_placeOf_1 ?_
  refine g_get cx wo m3 (cel_3 E ad n σ) rfl in_PL 0 (by decide) wf_SF_197 rfl d_SF_placeOf_4 ?_
  refine lv_aload_n hx hb d_SF_placeOf_7 rfl (lv_at hl 0 rfl) ?_
  refine g_get cx wo m0 (cel_0 E ad n σ) rfl in_SF 0 (by decide) wf_SF_12 rfl d_SF_placeOf_8 ?_
  refine lv_iload_n hx hb d_SF_placeOf_11 rfl (lv_at hl 1 rfl) ?_
  refine lv_iload_n hx hb d_SF_placeOf_12 rfl (lv_at hl 2 rfl) ?_
  obtain ⟨x1, hcx1, hD⟩ := bd_s hD
  try dsimp only [nm2] at hD
  refine call_Vi cx wo (k_LA_slotOf l E ad n L (fun a h => hL a ((by decide : ∀ a ∈ ([1] : List Nat), a ∈ ([0, 1, 3, 15] : List Nat)) a h)) F σ  p1 p2 x1 hcx1) m1 (cel_1 E ad n σ) rfl rfl mw_LA_slotOf wm_SF_287 ⟨by decide, by decide⟩ ⟨by decide, by decide⟩ hl.1 rfl (Nat.le_of_ble_eq_true rfl) d_SF_placeOf_13 (fun H locs wo => ?_)
  obtain ⟨g2, hD⟩ := grd_s hD
  refine g_iald cx wo m15 (cel_15 E ad n σ) g2 d_SF_placeOf_16 ?_
  cases hD
  exact t_ireti cx wo rfl rfl d_SF_placeOf_17
def D_SF_addOthers_L2 (F : Nat) (n : Nat → Nat) (p1 : Int32) (p2 : Int32) : Nat → HS → Int32 → Option (HS)
  | 0, _, _ => none
  | k3 + 1, σ1, x4 =>
      (if (σ1.1 1 1) ≤ x4 then
        some σ1
      else
        (D_SF_placeOf F n σ1 p1 x4).bind (fun (x6 : Int32) =>
        (if x4 = p2 then
          nm (x4 + (1 : Int32)) (fun x8 =>
          D_SF_addOthers_L2 F n p1 p2 k3 σ1 x8)
        else
          (if x6 = (-1 : Int32) then
            nm (x4 + (1 : Int32)) (fun x10 =>
            D_SF_addOthers_L2 F n p1 p2 k3 σ1 x10)
          else
            (D_RK_addTo_7 F n σ1 x6).bind (fun (σ12 : HS) =>
            nm (x4 + (1 : Int32)) (fun x13 =>
            D_SF_addOthers_L2 F n p1 p2 k3 σ12 x13))))))
def D_SF_addOthers (F : Nat) (n : Nat → Nat) (σ : HS) (p1 : Int32) (p2 : Int32) : Option (HS) :=
(D_SF_addOthers_L2 F n p1 p2 F σ (0 : Int32)).bind (fun (σ14 : HS) =>
  some σ14)
set_option maxRecDepth 100000 in
set_option maxHeartbeats 4000000 in
theorem k_SF_addOthers (l : Launch) (E : EV) (ad n : Nat → Nat) (L : List Nat) (hL : ∀ a ∈ ([0, 1, 2, 3, 7, 11, 15] : List Nat), a ∈ L) (F : Nat) (σ σo : HS) (p1 : Int32) (p2 : Int32)  (hD : D_SF_addOthers F n σ p1 p2 = some σo) : CtV l E y_SF_addOthers c_SF_addOthers 5 none ({ frames := 3, cells := 0, slots := 0, locals := 66 }) [.ref (ad 0), .int p1, .int p2] (wl E ad n L σ) (wl E ad n L σo) := by
  refine fun sz => ent (by decide) (Nat.le_of_ble_eq_true rfl) ?_
  intro p e s m below meth c hsz cx wo ls hl
  have hx := cx.1.1
  have hb := cx.1.2.1
  have hown := cx.1.2.2.2.1
  have hts := cx.1.2.2.2.2
  have hl : lv_has ls 5 [(0, .ref (ad 0)), (1, .int p1), (2, .int p2)] := hl
  have m0 : 0 ∈ L := hL 0 (by decide)
  have m1 : 1 ∈ L := hL 1 (by decide)
  have m2 : 2 ∈ L := hL 2 (by decide)
  have m3 : 3 ∈ L := hL 3 (by decide)
  have m7 : 7 ∈ L := hL 7 (by decide)
  have m11 : 11 ∈ L := hL 11 (by decide)
  have m15 : 15 ∈ L := hL 15 (by decide)
  rw [D_SF_addOthers] at hD
  refine lv_iconst (v := 0) hx hb d_SF_addOthers_0 (by decide) ?_
  refine lv_istore_n (lv' := [(3, .int (0 : Int32)), (0, .ref (ad 0)), (1, .int p1), (2, .int p2)]) hx hb d_SF_addOthers_1 rfl hl (by decide) rfl (fun ls hl => ?_)
  have lp15 : ∀ (k3 : Nat) (σ1 : HS) (x4 : Int32) (H : Heap) (locs : List Loc) (ls : Array Slot) (res2 : HS), D_SF_addOthers_L2 F n p1 p2 k3 σ1 x4 = some res2 → (∀ (σ14 : HS) (H : Heap) (locs : List Loc) (ls : Array Slot), res2 = σ14 → Wo E (va_A (wl E ad n L σ) sz) s.heap (wl E ad n L σ14) H locs → lv_has ls 5 [] → W p l e ({ frames := 3, cells := 0, slots := 0, locals := 66 }) s m ([.ref (ad 0), .int p1, .int p2] : List Value).toArray below meth c H locs 0 0 (MQ below (va_Qv (fun (_ : Unit) => True) (fun _ t => va_P E.1 cls6 (wl E ad n L σo) t.heap ∧ va_D (va_A (wl E ad n L σ) sz) (wl E ad n L σo)) (va_A (wl E ad n L σ) sz)) ([.ref (ad 0), .int p1, .int p2] : List Value).toArray s 0 0 (va_A (wl E ad n L σ) sz)) (F0 m 51 ls [])) → Wo E (va_A (wl E ad n L σ) sz) s.heap (wl E ad n L σ1) H locs → lv_has ls 5 [(3, .int x4), (0, .ref (ad 0)), (1, .int p1), (2, .int p2)] → W p l e ({ frames := 3, cells := 0, slots := 0, locals := 66 }) s m ([.ref (ad 0), .int p1, .int p2] : List Value).toArray below meth c H locs 0 0 (MQ below (va_Qv (fun (_ : Unit) => True) (fun _ t => va_P E.1 cls6 (wl E ad n L σo) t.heap ∧ va_D (va_A (wl E ad n L σ) sz) (wl E ad n L σo)) (va_A (wl E ad n L σ) sz)) ([.ref (ad 0), .int p1, .int p2] : List Value).toArray s 0 0 (va_A (wl E ad n L σ) sz)) (F0 m 2 ls []) := by
    intro k3
    induction k3 with
    | zero =>
      intro σ1 x4 H locs ls res2 hD
      rw [D_SF_addOthers_L2.eq_1] at hD
      cases hD
    | succ k3 ih =>
      intro σ1 x4 H locs ls res2 hD hex wo hl
      rw [D_SF_addOthers_L2.eq_2] at hD
      refine lv_iload_n hx hb d_SF_addOthers_2 rfl (lv_at hl 0 rfl) ?_
      refine lv_aload_n hx hb d_SF_addOthers_3 rfl (lv_at hl 1 rfl) ?_
      refine g_get cx wo m0 (cel_0 E ad n σ1) rfl in_SF 0 (by decide) wf_SF_12 rfl d_SF_addOthers_4 ?_
      refine g_get cx wo m1 (cel_1 E ad n σ1) rfl in_LA 1 (by decide) wf_SF_238 rfl d_SF_addOthers_7 ?_
      refine lv_icmp_ge (tgt := 51) hx hb d_SF_addOthers_10 (by decide) (fun c5 => ?_) (fun c5 => ?_)
      · have hD := ite_p hD c5
        exact hex σ1 _ _ _ (Option.some.inj hD).symm wo (lv_sub hl [] rfl)
      · have hD := ite_n hD c5
        refine lv_aload_n hx hb d_SF_addOthers_13 rfl (lv_at hl 1 rfl) ?_
        refine lv_iload_n hx hb d_SF_addOthers_14 rfl (lv_at hl 2 rfl) ?_
        refine lv_iload_n hx hb d_SF_addOthers_15 rfl (lv_at hl 0 rfl) ?_
        obtain ⟨x6, hcx6, hD⟩ := bd_s hD
        try dsimp only [nm2] at hD
        refine call_Vi cx wo (k_SF_placeOf l E ad n L (fun a h => hL a ((by decide : ∀ a ∈ ([0, 1, 3, 15] : List Nat), a ∈ ([0, 1, 2, 3, 7, 11, 15] : List Nat)) a h)) F σ1  p1 x4 x6 hcx6) m0 (cel_0 E ad n σ1) rfl rfl mw_SF_placeOf wm_SF_268 ⟨by decide, by decide⟩ ⟨by decide, by decide⟩ hl.1 rfl (Nat.le_of_ble_eq_true rfl) d_SF_addOthers_16 (fun H locs wo => ?_)
        refine lv_istore (lv' := [(4, .int x6), (3, .int x4), (0, .ref (ad 0)), (1, .int p1), (2, .int p2)]) hx hb d_SF_addOthers_19 hl (by decide) rfl (fun ls hl => ?_)
        refine lv_iload_n hx hb d_SF_addOthers_21 rfl (lv_at hl 1 rfl) ?_
        refine lv_iload_n hx hb d_SF_addOthers_22 rfl (lv_at hl 4 rfl) ?_
        refine lv_icmp_eq (tgt := 45) hx hb d_SF_addOthers_23 (by decide) (fun c7 => ?_) (fun c7 => ?_)
        · have hD := ite_p hD c7
          obtain ⟨x8, ex8⟩ : ∃ y : Int32, y = x4 + (1 : Int32) := ⟨_, rfl⟩
          have hD := nm_at hD ex8
          try dsimp only at hD
          refine lv_iinc (v := x8) (lv' := [(3, .int x8), (4, .int x6), (0, .ref (ad 0)), (1, .int p1), (2, .int p2)]) hx hb d_SF_addOthers_45 hl (k := 1) rfl (by rw [ex8]; rfl) (by decide) rfl (fun ls hl => ?_)
          refine lv_goto (tgt := 2) hx hb d_SF_addOthers_48 (by decide) ?_
          exact ih σ1 x8 _ _ _ _ hD hex wo (lv_sub hl [0, 2, 3, 4] rfl)
        · have hD := ite_n hD c7
          refine lv_iload hx hb d_SF_addOthers_26 (lv_at hl 0 rfl) ?_
          refine lv_iconst (v := -1) hx hb d_SF_addOthers_28 (by decide) ?_
          refine lv_icmp_eq (tgt := 45) hx hb d_SF_addOthers_29 (by decide) (fun c9 => ?_) (fun c9 => ?_)
          · have hD := ite_p hD c9
            obtain ⟨x10, ex10⟩ : ∃ y : Int32, y = x4 + (1 : Int32) := ⟨_, rfl⟩
            have hD := nm_at hD ex10
            try dsimp only at hD
            refine lv_iinc (v := x10) (lv' := [(3, .int x10), (4, .int x6), (0, .ref (ad 0)), (1, .int p1), (2, .int p2)]) hx hb d_SF_addOthers_45 hl (k := 1) rfl (by rw [ex10]; rfl) (by decide) rfl (fun ls hl => ?_)
            refine lv_goto (tgt := 2) hx hb d_SF_addOthers_48 (by decide) ?_
            exact ih σ1 x10 _ _ _ _ hD hex wo (lv_sub hl [0, 2, 3, 4] rfl)
          · have hD := ite_n hD c9
            refine lv_aload_n hx hb d_SF_addOthers_32 rfl (lv_at hl 2 rfl) ?_
            refine g_get cx wo m0 (cel_0 E ad n σ1) rfl in_SF 1 (by decide) wf_SF_23 rfl d_SF_addOthers_33 ?_
            refine lv_aload_n hx hb d_SF_addOthers_36 rfl (lv_at hl 2 rfl) ?_
            refine g_get cx wo m0 (cel_0 E ad n σ1) rfl in_SF 9 (by decide) wf_SF_50 rfl d_SF_addOthers_37 ?_
            refine lv_iload hx hb d_SF_addOthers_40 (lv_at hl 0 rfl) ?_
            obtain ⟨σ12, hcx11, hD⟩ := bd_s hD
            try dsimp only [nm2] at hD
            refine call_Vv cx wo (k_RK_addTo_7 l E ad n L (fun a h => hL a ((by decide : ∀ a ∈ ([2, 7, 11] : List Nat), a ∈ ([0, 1, 2, 3, 7, 11, 15] : List Nat)) a h)) F σ1 σ12 x6 hcx11) m2 (cel_2 E ad n σ1) rfl rfl mw_RK_addTo wm_SF_283 ⟨by decide, by decide⟩ ⟨by decide, by decide⟩ hl.1 rfl (Nat.le_of_ble_eq_true rfl) d_SF_addOthers_42 (fun H locs wo => ?_)
            obtain ⟨x13, ex13⟩ : ∃ y : Int32, y = x4 + (1 : Int32) := ⟨_, rfl⟩
            have hD := nm_at hD ex13
            try dsimp only at hD
            refine lv_iinc (v := x13) (lv' := [(3, .int x13), (4, .int x6), (0, .ref (ad 0)), (1, .int p1), (2, .int p2)]) hx hb d_SF_addOthers_45 hl (k := 1) rfl (by rw [ex13]; rfl) (by decide) rfl (fun ls hl => ?_)
            refine lv_goto (tgt := 2) hx hb d_SF_addOthers_48 (by decide) ?_
            exact ih σ12 x13 _ _ _ _ hD hex wo (lv_sub hl [0, 2, 3, 4] rfl)
  obtain ⟨res16, hr17, hD⟩ := bd_s hD
  refine lp15 F σ (0 : Int32) _ _ _ _ hr17 (fun σ14 H locs ls hz wo hl => ?_) wo (lv_sub hl [0, 1, 2, 3] rfl)
  have hz := hz.symm
  subst hz
  try dsimp only at hD
  cases hD
  exact t_vret cx wo d_SF_addOthers_51
def D_SF_addRead (F : Nat) (n : Nat → Nat) (σ : HS) (p1 : Int32) (p2 : Int32) : Option (HS) :=
(D_SF_placeOf F n σ p1 p2).bind (fun (x1 : Int32) =>
  (D_RK_isValid F n σ x1).bind (fun (x2 : Int32) =>
  (if x2 = 0 then
    (D_SF_addOthers F n σ p1 p2).bind (fun (σ5 : HS) =>
    some σ5)
  else
    (D_RK_addTo_7 F n σ x1).bind (fun (σ7 : HS) =>
    some σ7))))
set_option maxRecDepth 100000 in
set_option maxHeartbeats 4000000 in
theorem k_SF_addRead (l : Launch) (E : EV) (ad n : Nat → Nat) (L : List Nat) (hL : ∀ a ∈ ([0, 1, 2, 3, 7, 11, 14, 15] : List Nat), a ∈ L) (F : Nat) (σ σo : HS) (p1 : Int32) (p2 : Int32)  (hD : D_SF_addRead F n σ p1 p2 = some σo) : CtV l E y_SF_addRead c_SF_addRead 4 none ({ frames := 4, cells := 0, slots := 0, locals := 90 }) [.ref (ad 0), .int p1, .int p2] (wl E ad n L σ) (wl E ad n L σo) := by
  refine fun sz => ent (by decide) (Nat.le_of_ble_eq_true rfl) ?_
  intro p e s m below meth c hsz cx wo ls hl
  have hx := cx.1.1
  have hb := cx.1.2.1
  have hown := cx.1.2.2.2.1
  have hts := cx.1.2.2.2.2
  have hl : lv_has ls 4 [(0, .ref (ad 0)), (1, .int p1), (2, .int p2)] := hl
  have m0 : 0 ∈ L := hL 0 (by decide)
  have m1 : 1 ∈ L := hL 1 (by decide)
  have m2 : 2 ∈ L := hL 2 (by decide)
  have m3 : 3 ∈ L := hL 3 (by decide)
  have m7 : 7 ∈ L := hL 7 (by decide)
  have m11 : 11 ∈ L := hL 11 (by decide)
  have m14 : 14 ∈ L := hL 14 (by decide)
  have m15 : 15 ∈ L := hL 15 (by decide)
  rw [D_SF_addRead] at hD
  refine lv_aload_n hx hb d_SF_addRead_0 rfl (lv_at hl 0 rfl) ?_
  refine lv_iload_n hx hb d_SF_addRead_1 rfl (lv_at hl 1 rfl) ?_
  refine lv_iload_n hx hb d_SF_addRead_2 rfl (lv_at hl 2 rfl) ?_
  obtain ⟨x1, hcx1, hD⟩ := bd_s hD
  try dsimp only [nm2] at hD
  refine call_Vi cx wo (k_SF_placeOf l E ad n L (fun a h => hL a ((by decide : ∀ a ∈ ([0, 1, 3, 15] : List Nat), a ∈ ([0, 1, 2, 3, 7, 11, 14, 15] : List Nat)) a h)) F σ  p1 p2 x1 hcx1) m0 (cel_0 E ad n σ) rfl rfl mw_SF_placeOf wm_SF_268 ⟨by decide, by decide⟩ ⟨by decide, by decide⟩ hl.1 rfl (Nat.le_of_ble_eq_true rfl) d_SF_addRead_3 (fun H locs wo => ?_)
  refine lv_istore_n (lv' := [(3, .int x1), (0, .ref (ad 0)), (1, .int p1), (2, .int p2)]) hx hb d_SF_addRead_6 rfl hl (by decide) rfl (fun ls hl => ?_)
  refine lv_aload_n hx hb d_SF_addRead_7 rfl (lv_at hl 1 rfl) ?_
  refine g_get cx wo m0 (cel_0 E ad n σ) rfl in_SF 1 (by decide) wf_SF_23 rfl d_SF_addRead_8 ?_
  refine lv_iload_n hx hb d_SF_addRead_11 rfl (lv_at hl 0 rfl) ?_
  obtain ⟨x2, hcx2, hD⟩ := bd_s hD
  try dsimp only [nm2] at hD
  refine call_Vi cx wo (k_RK_isValid l E ad n L (fun a h => hL a ((by decide : ∀ a ∈ ([2, 14] : List Nat), a ∈ ([0, 1, 2, 3, 7, 11, 14, 15] : List Nat)) a h)) F σ  x1 x2 hcx2) m2 (cel_2 E ad n σ) rfl rfl mw_RK_isValid wm_SF_280 ⟨by decide, by decide⟩ ⟨by decide, by decide⟩ hl.1 rfl (Nat.le_of_ble_eq_true rfl) d_SF_addRead_12 (fun H locs wo => ?_)
  refine lv_if_eq (tgt := 33) hx hb d_SF_addRead_15 (by decide) (fun c3 => ?_) (fun c3 => ?_)
  · have hD := ite_p hD c3
    refine lv_aload_n hx hb d_SF_addRead_33 rfl (lv_at hl 1 rfl) ?_
    refine lv_iload_n hx hb d_SF_addRead_34 rfl (lv_at hl 2 rfl) ?_
    refine lv_iload_n hx hb d_SF_addRead_35 rfl (lv_at hl 3 rfl) ?_
    obtain ⟨σ5, hcx4, hD⟩ := bd_s hD
    try dsimp only [nm2] at hD
    refine call_Vv cx wo (k_SF_addOthers l E ad n L (fun a h => hL a ((by decide : ∀ a ∈ ([0, 1, 2, 3, 7, 11, 15] : List Nat), a ∈ ([0, 1, 2, 3, 7, 11, 14, 15] : List Nat)) a h)) F σ σ5 p1 p2 hcx4) m0 (cel_0 E ad n σ) rfl rfl mw_SF_addOthers wm_SF_213 ⟨by decide, by decide⟩ ⟨by decide, by decide⟩ hl.1 rfl (Nat.le_of_ble_eq_true rfl) d_SF_addRead_36 (fun H locs wo => ?_)
    cases hD
    exact t_vret cx wo d_SF_addRead_39
  · have hD := ite_n hD c3
    refine lv_aload_n hx hb d_SF_addRead_18 rfl (lv_at hl 1 rfl) ?_
    refine g_get cx wo m0 (cel_0 E ad n σ) rfl in_SF 1 (by decide) wf_SF_23 rfl d_SF_addRead_19 ?_
    refine lv_aload_n hx hb d_SF_addRead_22 rfl (lv_at hl 1 rfl) ?_
    refine g_get cx wo m0 (cel_0 E ad n σ) rfl in_SF 9 (by decide) wf_SF_50 rfl d_SF_addRead_23 ?_
    refine lv_iload_n hx hb d_SF_addRead_26 rfl (lv_at hl 0 rfl) ?_
    obtain ⟨σ7, hcx6, hD⟩ := bd_s hD
    try dsimp only [nm2] at hD
    refine call_Vv cx wo (k_RK_addTo_7 l E ad n L (fun a h => hL a ((by decide : ∀ a ∈ ([2, 7, 11] : List Nat), a ∈ ([0, 1, 2, 3, 7, 11, 14, 15] : List Nat)) a h)) F σ σ7 x1 hcx6) m2 (cel_2 E ad n σ) rfl rfl mw_RK_addTo wm_SF_283 ⟨by decide, by decide⟩ ⟨by decide, by decide⟩ hl.1 rfl (Nat.le_of_ble_eq_true rfl) d_SF_addRead_27 (fun H locs wo => ?_)
    refine lv_goto (tgt := 39) hx hb d_SF_addRead_30 (by decide) ?_
    cases hD
    exact t_vret cx wo d_SF_addRead_39
def D_RK_store_7_L15 (F : Nat) (n : Nat → Nat) (x2 : Int32) : Nat → HS → Int32 → Option (HS)
  | 0, _, _ => none
  | k5 + 1, σ3, x6 =>
      (if (8 : Int32) ≤ x6 then
          some σ3
        else
          grd (inb x6 (n 7)) (
          grd (inb (x2 + x6) (n 11)) (
          nm (stL σ3 11 ((x2 + x6)).toNatClampNeg (σ3.2 7 (x6).toNatClampNeg)) (fun σ10 =>
          grd (inb (x2 + x6) (n 12)) (
          nm (stL σ10 12 ((x2 + x6)).toNatClampNeg (0 : Int64)) (fun σ12 =>
          nm (x6 + (1 : Int32)) (fun x13 =>
          D_RK_store_7_L15 F n x2 k5 σ12 x13)))))))
def D_RK_store_7 (F : Nat) (n : Nat → Nat) (σ : HS) (p1 : Int32) (p3 : Int32) : Option (HS) :=
(if p1 = (-1 : Int32) then
    some σ
  else
    nm (p1 * (9 : Int32)) (fun x2 =>
    (D_RK_store_7_L15 F n x2 F σ (0 : Int32)).bind (fun (σ14 : HS) =>
    nm (x2 + (8 : Int32)) (fun x18 =>
      grd (inb x18 (n 12)) (
      nm (stL σ14 12 (x18).toNatClampNeg (0 : Int64)) (fun σ20 =>
      grd (inb x18 (n 11)) (
      nm (stL σ20 11 (x18).toNatClampNeg (p3).toInt64) (fun σ22 =>
      grd (inb x18 (n 11)) (
      (D_RK_checkOf F n σ22 p1).bind (fun (x24 : Int32) =>
      grd (inb x18 (n 11)) (
      nm (stL σ22 11 (x18).toNatClampNeg ((σ22.2 11 (x18).toNatClampNeg) ||| (((x24).toInt64 &&& (4294967295 : Int64)) <<< (((16 : Int32)).toInt64 &&& 63)))) (fun σ26 =>
      grd (inb p1 (n 13)) (
      nm (stI σ26 13 (p1).toNatClampNeg (vp_nar .boolean (1 : Int32))) (fun σ28 =>
      grd (inb p1 (n 14)) (
      nm (stI σ28 14 (p1).toNatClampNeg (vp_nar .boolean (1 : Int32))) (fun σ30 =>
      some σ30))))))))))))))))
set_option maxRecDepth 100000 in
set_option maxHeartbeats 4000000 in
theorem k_RK_store_7 (l : Launch) (E : EV) (ad n : Nat → Nat) (L : List Nat) (hL : ∀ a ∈ ([2, 7, 11, 12, 13, 14] : List Nat), a ∈ L) (F : Nat) (σ σo : HS) (p1 : Int32) (p3 : Int32)  (hD : D_RK_store_7 F n σ p1 p3 = some σo) : CtV l E y_RK_store c_RK_store 6 none ({ frames := 1, cells := 0, slots := 0, locals := 24 }) [.ref (ad 2), .int p1, .ref (ad 7), .int p3] (wl E ad n L σ) (wl E ad n L σo) := by
  refine fun sz => ent (by decide) (Nat.le_of_ble_eq_true rfl) ?_
  intro p e s m below meth c hsz cx wo ls hl
  have hx := cx.1.1
  have hb := cx.1.2.1
  have hown := cx.1.2.2.2.1
  have hts := cx.1.2.2.2.2
  have hl : lv_has ls 6 [(0, .ref (ad 2)), (1, .int p1), (2, .ref (ad 7)), (3, .int p3)] := hl
  have m2 : 2 ∈ L := hL 2 (by decide)
  have m7 : 7 ∈ L := hL 7 (by decide)
  have m11 : 11 ∈ L := hL 11 (by decide)
  have m12 : 12 ∈ L := hL 12 (by decide)
  have m13 : 13 ∈ L := hL 13 (by decide)
  have m14 : 14 ∈ L := hL 14 (by decide)
  rw [D_RK_store_7] at hD
  refine lv_iload_n hx hb d_RK_store_0 rfl (lv_at hl 1 rfl) ?_
  refine lv_iconst (v := -1) hx hb d_RK_store_1 (by decide) ?_
  refine lv_icmp_ne (tgt := 6) hx hb d_RK_store_2 (by decide) (fun c1 => ?_) (fun c1 => ?_)
  · have hD := ite_n hD c1
    refine lv_iload_n hx hb d_RK_store_6 rfl (lv_at hl 1 rfl) ?_
    refine lv_bipush (v := 9) hx hb d_RK_store_7 (by decide) ?_
    refine lv_imul hx hb d_RK_store_9 ?_
    refine lv_topi (fun x2 ex2 => ?_)
    have hD := nm_at hD ex2
    try dsimp only at hD
    refine lv_istore (lv' := [(4, .int x2), (0, .ref (ad 2)), (1, .int p1), (2, .ref (ad 7)), (3, .int p3)]) hx hb d_RK_store_10 hl (by decide) rfl (fun ls hl => ?_)
    refine lv_iconst (v := 0) hx hb d_RK_store_12 (by decide) ?_
    refine lv_istore (lv' := [(5, .int (0 : Int32)), (4, .int x2), (0, .ref (ad 2)), (1, .int p1), (2, .ref (ad 7)), (3, .int p3)]) hx hb d_RK_store_13 hl (by decide) rfl (fun ls hl => ?_)
    have lp15 : ∀ (k5 : Nat) (σ3 : HS) (x6 : Int32) (H : Heap) (locs : List Loc) (ls : Array Slot) (res4 : HS), D_RK_store_7_L15 F n x2 k5 σ3 x6 = some res4 → (∀ (σ14 : HS) (H : Heap) (locs : List Loc) (ls : Array Slot), res4 = σ14 → Wo E (va_A (wl E ad n L σ) sz) s.heap (wl E ad n L σ14) H locs → lv_has ls 6 [(4, .int x2), (0, .ref (ad 2)), (1, .int p1), (3, .int p3)] → W p l e ({ frames := 1, cells := 0, slots := 0, locals := 24 }) s m ([.ref (ad 2), .int p1, .ref (ad 7), .int p3] : List Value).toArray below meth c H locs 0 0 (MQ below (va_Qv (fun (_ : Unit) => True) (fun _ t => va_P E.1 cls6 (wl E ad n L σo) t.heap ∧ va_D (va_A (wl E ad n L σ) sz) (wl E ad n L σo)) (va_A (wl E ad n L σ) sz)) ([.ref (ad 2), .int p1, .ref (ad 7), .int p3] : List Value).toArray s 0 0 (va_A (wl E ad n L σ) sz)) (F0 m 53 ls [])) → Wo E (va_A (wl E ad n L σ) sz) s.heap (wl E ad n L σ3) H locs → lv_has ls 6 [(5, .int x6), (4, .int x2), (0, .ref (ad 2)), (1, .int p1), (2, .ref (ad 7)), (3, .int p3)] → W p l e ({ frames := 1, cells := 0, slots := 0, locals := 24 }) s m ([.ref (ad 2), .int p1, .ref (ad 7), .int p3] : List Value).toArray below meth c H locs 0 0 (MQ below (va_Qv (fun (_ : Unit) => True) (fun _ t => va_P E.1 cls6 (wl E ad n L σo) t.heap ∧ va_D (va_A (wl E ad n L σ) sz) (wl E ad n L σo)) (va_A (wl E ad n L σ) sz)) ([.ref (ad 2), .int p1, .ref (ad 7), .int p3] : List Value).toArray s 0 0 (va_A (wl E ad n L σ) sz)) (F0 m 15 ls []) := by
      intro k5
      induction k5 with
      | zero =>
        intro σ3 x6 H locs ls res4 hD
        rw [D_RK_store_7_L15.eq_1] at hD
        cases hD
      | succ k5 ih =>
        intro σ3 x6 H locs ls res4 hD hex wo hl
        rw [D_RK_store_7_L15.eq_2] at hD
        refine lv_iload hx hb d_RK_store_15 (lv_at hl 0 rfl) ?_
        refine lv_bipush (v := 8) hx hb d_RK_store_17 (by decide) ?_
        refine lv_icmp_ge (tgt := 53) hx hb d_RK_store_19 (by decide) (fun c7 => ?_) (fun c7 => ?_)
        · have hD := ite_p hD c7
          exact hex σ3 _ _ _ (Option.some.inj hD).symm wo (lv_sub hl [1, 2, 3, 5] rfl)
        · have hD := ite_n hD c7
          refine lv_aload_n hx hb d_RK_store_22 rfl (lv_at hl 2 rfl) ?_
          refine g_get cx wo m2 (cel_2 E ad n σ3) rfl in_RK 2 (by decide) wf_RK_28 rfl d_RK_store_23 ?_
          refine lv_iload hx hb d_RK_store_26 (lv_at hl 1 rfl) ?_
          refine lv_iload hx hb d_RK_store_28 (lv_at hl 0 rfl) ?_
          refine lv_iadd hx hb d_RK_store_30 ?_
          refine lv_aload_n hx hb d_RK_store_31 rfl (lv_at hl 4 rfl) ?_
          refine lv_iload hx hb d_RK_store_32 (lv_at hl 0 rfl) ?_
          obtain ⟨g8, hD⟩ := grd_s hD
          refine g_lald cx wo m7 (cel_7 E ad n σ3) g8 d_RK_store_34 ?_
          obtain ⟨g9, hD⟩ := grd_s hD
          refine g_last cx wo m11 (cel_11 E ad n) g9 d_RK_store_35 (fun H locs wo => ?_)
          obtain ⟨σ10, eσ10⟩ : ∃ z, z = stL σ3 11 ((x2 + x6)).toNatClampNeg (σ3.2 7 (x6).toNatClampNeg) := ⟨_, rfl⟩
          rw [← eσ10] at wo
          have hD := nm_at hD eσ10
          try dsimp only at hD
          refine lv_aload_n hx hb d_RK_store_36 rfl (lv_at hl 2 rfl) ?_
          refine g_get cx wo m2 (cel_2 E ad n σ10) rfl in_RK 3 (by decide) wf_RK_32 rfl d_RK_store_37 ?_
          refine lv_iload hx hb d_RK_store_40 (lv_at hl 1 rfl) ?_
          refine lv_iload hx hb d_RK_store_42 (lv_at hl 0 rfl) ?_
          refine lv_iadd hx hb d_RK_store_44 ?_
          refine lv_lconst (v := 0) hx hb d_RK_store_45 (by decide) ?_
          obtain ⟨g11, hD⟩ := grd_s hD
          refine g_last cx wo m12 (cel_12 E ad n) g11 d_RK_store_46 (fun H locs wo => ?_)
          obtain ⟨σ12, eσ12⟩ : ∃ z, z = stL σ10 12 ((x2 + x6)).toNatClampNeg (0 : Int64) := ⟨_, rfl⟩
          rw [← eσ12] at wo
          have hD := nm_at hD eσ12
          try dsimp only at hD
          obtain ⟨x13, ex13⟩ : ∃ y : Int32, y = x6 + (1 : Int32) := ⟨_, rfl⟩
          have hD := nm_at hD ex13
          try dsimp only at hD
          refine lv_iinc (v := x13) (lv' := [(5, .int x13), (4, .int x2), (0, .ref (ad 2)), (1, .int p1), (2, .ref (ad 7)), (3, .int p3)]) hx hb d_RK_store_47 hl (k := 0) rfl (by rw [ex13]; rfl) (by decide) rfl (fun ls hl => ?_)
          refine lv_goto (tgt := 15) hx hb d_RK_store_50 (by decide) ?_
          exact ih σ12 x13 _ _ _ _ hD hex wo (lv_sub hl [0, 1, 2, 3, 4, 5] rfl)
    obtain ⟨res16, hr17, hD⟩ := bd_s hD
    refine lp15 F σ (0 : Int32) _ _ _ _ hr17 (fun σ14 H locs ls hz wo hl => ?_) wo (lv_sub hl [0, 1, 2, 3, 4, 5] rfl)
    have hz := hz.symm
    subst hz
    try dsimp only at hD
    refine lv_iload hx hb d_RK_store_53 (lv_at hl 0 rfl) ?_
    refine lv_bipush (v := 8) hx hb d_RK_store_55 (by decide) ?_
    refine lv_iadd hx hb d_RK_store_57 ?_
    refine lv_topi (fun x18 ex18 => ?_)
    have hD := nm_at hD ex18
    try dsimp only at hD
    refine lv_istore (lv' := [(5, .int x18), (4, .int x2), (0, .ref (ad 2)), (1, .int p1), (3, .int p3)]) hx hb d_RK_store_58 hl (by decide) rfl (fun ls hl => ?_)
    refine lv_aload_n hx hb d_RK_store_60 rfl (lv_at hl 2 rfl) ?_
    refine g_get cx wo m2 (cel_2 E ad n σ14) rfl in_RK 3 (by decide) wf_RK_32 rfl d_RK_store_61 ?_
    refine lv_iload hx hb d_RK_store_64 (lv_at hl 0 rfl) ?_
    refine lv_lconst (v := 0) hx hb d_RK_store_66 (by decide) ?_
    obtain ⟨g19, hD⟩ := grd_s hD
    refine g_last cx wo m12 (cel_12 E ad n) g19 d_RK_store_67 (fun H locs wo => ?_)
    obtain ⟨σ20, eσ20⟩ : ∃ z, z = stL σ14 12 (x18).toNatClampNeg (0 : Int64) := ⟨_, rfl⟩
    rw [← eσ20] at wo
    have hD := nm_at hD eσ20
    try dsimp only at hD
    refine lv_aload_n hx hb d_RK_store_68 rfl (lv_at hl 2 rfl) ?_
    refine g_get cx wo m2 (cel_2 E ad n σ20) rfl in_RK 2 (by decide) wf_RK_28 rfl d_RK_store_69 ?_
    refine lv_iload hx hb d_RK_store_72 (lv_at hl 0 rfl) ?_
    refine lv_iload_n hx hb d_RK_store_74 rfl (lv_at hl 4 rfl) ?_
    refine lv_i2l hx hb d_RK_store_75 rfl ?_
    obtain ⟨g21, hD⟩ := grd_s hD
    refine g_last cx wo m11 (cel_11 E ad n) g21 d_RK_store_76 (fun H locs wo => ?_)
    obtain ⟨σ22, eσ22⟩ : ∃ z, z = stL σ20 11 (x18).toNatClampNeg (p3).toInt64 := ⟨_, rfl⟩
    rw [← eσ22] at wo
    have hD := nm_at hD eσ22
    try dsimp only at hD
    refine lv_aload_n hx hb d_RK_store_77 rfl (lv_at hl 2 rfl) ?_
    refine g_get cx wo m2 (cel_2 E ad n σ22) rfl in_RK 2 (by decide) wf_RK_28 rfl d_RK_store_78 ?_
    refine lv_iload hx hb d_RK_store_81 (lv_at hl 0 rfl) ?_
    refine lv_dup2_11 hx hb d_RK_store_83 rfl rfl ?_
    obtain ⟨g23, hD⟩ := grd_s hD
    refine g_lald cx wo m11 (cel_11 E ad n σ22) g23 d_RK_store_84 ?_
    refine lv_aload_n hx hb d_RK_store_85 rfl (lv_at hl 2 rfl) ?_
    refine lv_iload_n hx hb d_RK_store_86 rfl (lv_at hl 3 rfl) ?_
    obtain ⟨x24, hcx24, hD⟩ := bd_s hD
    try dsimp only [nm2] at hD
    refine call_Vi cx wo (k_RK_checkOf l E ad n L (fun a h => hL a ((by decide : ∀ a ∈ ([2, 11] : List Nat), a ∈ ([2, 7, 11, 12, 13, 14] : List Nat)) a h)) F σ22  p1 x24 hcx24) m2 (cel_2 E ad n σ22) rfl rfl mw_RK_checkOf wm_RK_76 ⟨by decide, by decide⟩ ⟨by decide, by decide⟩ hl.1 rfl (Nat.le_of_ble_eq_true rfl) d_RK_store_87 (fun H locs wo => ?_)
    refine lv_i2l hx hb d_RK_store_90 rfl ?_
    refine lv_ldc2 hx hb hown (hts _ wj_RK_79) d_RK_store_91 ?_
    refine lv_land hx hb d_RK_store_94 ?_
    refine lv_bipush (v := 16) hx hb d_RK_store_95 (by decide) ?_
    refine lv_lshl hx hb d_RK_store_97 rfl ?_
    refine lv_lor hx hb d_RK_store_98 ?_
    obtain ⟨g25, hD⟩ := grd_s hD
    refine g_last cx wo m11 (cel_11 E ad n) g25 d_RK_store_99 (fun H locs wo => ?_)
    obtain ⟨σ26, eσ26⟩ : ∃ z, z = stL σ22 11 (x18).toNatClampNeg ((σ22.2 11 (x18).toNatClampNeg) ||| (((x24).toInt64 &&& (4294967295 : Int64)) <<< (((16 : Int32)).toInt64 &&& 63))) := ⟨_, rfl⟩
    rw [← eσ26] at wo
    have hD := nm_at hD eσ26
    try dsimp only at hD
    refine lv_aload_n hx hb d_RK_store_100 rfl (lv_at hl 2 rfl) ?_
    refine g_get cx wo m2 (cel_2 E ad n σ26) rfl in_RK 4 (by decide) wf_RK_35 rfl d_RK_store_101 ?_
    refine lv_iload_n hx hb d_RK_store_104 rfl (lv_at hl 3 rfl) ?_
    refine lv_iconst (v := 1) hx hb d_RK_store_105 (by decide) ?_
    obtain ⟨g27, hD⟩ := grd_s hD
    refine g_zast cx wo m13 (cel_13 E ad n) g27 d_RK_store_106 (fun H locs wo => ?_)
    obtain ⟨σ28, eσ28⟩ : ∃ z, z = stI σ26 13 (p1).toNatClampNeg (vp_nar .boolean (1 : Int32)) := ⟨_, rfl⟩
    rw [← eσ28] at wo
    have hD := nm_at hD eσ28
    try dsimp only at hD
    refine lv_aload_n hx hb d_RK_store_107 rfl (lv_at hl 2 rfl) ?_
    refine g_get cx wo m2 (cel_2 E ad n σ28) rfl in_RK 5 (by decide) wf_RK_38 rfl d_RK_store_108 ?_
    refine lv_iload_n hx hb d_RK_store_111 rfl (lv_at hl 3 rfl) ?_
    refine lv_iconst (v := 1) hx hb d_RK_store_112 (by decide) ?_
    obtain ⟨g29, hD⟩ := grd_s hD
    refine g_zast cx wo m14 (cel_14 E ad n) g29 d_RK_store_113 (fun H locs wo => ?_)
    obtain ⟨σ30, eσ30⟩ : ∃ z, z = stI σ28 14 (p1).toNatClampNeg (vp_nar .boolean (1 : Int32)) := ⟨_, rfl⟩
    rw [← eσ30] at wo
    have hD := nm_at hD eσ30
    try dsimp only at hD
    cases hD
    exact t_vret cx wo d_RK_store_114
  · have hD := ite_p hD c1
    cases hD
    exact t_vret cx wo d_RK_store_5
def D_SF_putCell_7 (F : Nat) (n : Nat → Nat) (σ : HS) (p1 : Int32) (p3 : Int32) : Option (HS × Int32) :=
(D_PW_spendWrite F n σ ).bind (fun (qx1 : HS × Int32) => nm2 qx1 (fun (σ2 : HS) (x1 : Int32) =>
  (if x1 = 0 then
    some (σ2, (0 : Int32))
  else
    (D_RK_store_7 F n σ2 p1 p3).bind (fun (σ5 : HS) =>
    some (σ5, (1 : Int32))))))
set_option maxRecDepth 100000 in
set_option maxHeartbeats 4000000 in
theorem k_SF_putCell_7 (l : Launch) (E : EV) (ad n : Nat → Nat) (L : List Nat) (hL : ∀ a ∈ ([0, 2, 4, 7, 11, 12, 13, 14] : List Nat), a ∈ L) (F : Nat) (σ σo : HS) (p1 : Int32) (p3 : Int32) (r : Int32) (hD : D_SF_putCell_7 F n σ p1 p3 = some (σo, r)) : CtI l E y_SF_putCell c_SF_putCell 4 (some FieldType.boolean) ({ frames := 2, cells := 0, slots := 0, locals := 49 }) [.ref (ad 0), .int p1, .ref (ad 7), .int p3] (wl E ad n L σ) r (wl E ad n L σo) := by
  refine fun sz => ent (by decide) (Nat.le_of_ble_eq_true rfl) ?_
  intro p e s m below meth c hsz cx wo ls hl
  have hx := cx.1.1
  have hb := cx.1.2.1
  have hown := cx.1.2.2.2.1
  have hts := cx.1.2.2.2.2
  have hl : lv_has ls 4 [(0, .ref (ad 0)), (1, .int p1), (2, .ref (ad 7)), (3, .int p3)] := hl
  have m0 : 0 ∈ L := hL 0 (by decide)
  have m2 : 2 ∈ L := hL 2 (by decide)
  have m4 : 4 ∈ L := hL 4 (by decide)
  have m7 : 7 ∈ L := hL 7 (by decide)
  have m11 : 11 ∈ L := hL 11 (by decide)
  have m12 : 12 ∈ L := hL 12 (by decide)
  have m13 : 13 ∈ L := hL 13 (by decide)
  have m14 : 14 ∈ L := hL 14 (by decide)
  rw [D_SF_putCell_7] at hD
  refine lv_aload_n hx hb d_SF_putCell_0 rfl (lv_at hl 0 rfl) ?_
  refine g_get cx wo m0 (cel_0 E ad n σ) rfl in_SF 3 (by decide) wf_SF_39 rfl d_SF_putCell_1 ?_
  obtain ⟨⟨σ2, x1⟩, hcx1, hD⟩ := bd_s hD
  try dsimp only [nm2] at hD
  refine call_Vi cx wo (k_PW_spendWrite l E ad n L (fun a h => hL a ((by decide : ∀ a ∈ ([4] : List Nat), a ∈ ([0, 2, 4, 7, 11, 12, 13, 14] : List Nat)) a h)) F σ σ2  x1 hcx1) m4 (cel_4 E ad n σ) rfl rfl mw_PW_spendWrite wm_SF_290 ⟨by decide, by decide⟩ ⟨by decide, by decide⟩ hl.1 rfl (Nat.le_of_ble_eq_true rfl) d_SF_putCell_4 (fun H locs wo => ?_)
  refine lv_if_ne (tgt := 12) hx hb d_SF_putCell_7 (by decide) (fun c3 => ?_) (fun c3 => ?_)
  · have hD := ite_n hD c3
    refine lv_aload_n hx hb d_SF_putCell_12 rfl (lv_at hl 0 rfl) ?_
    refine g_get cx wo m0 (cel_0 E ad n σ2) rfl in_SF 1 (by decide) wf_SF_23 rfl d_SF_putCell_13 ?_
    refine lv_iload_n hx hb d_SF_putCell_16 rfl (lv_at hl 1 rfl) ?_
    refine lv_aload_n hx hb d_SF_putCell_17 rfl (lv_at hl 2 rfl) ?_
    refine lv_iload_n hx hb d_SF_putCell_18 rfl (lv_at hl 3 rfl) ?_
    obtain ⟨σ5, hcx4, hD⟩ := bd_s hD
    try dsimp only [nm2] at hD
    refine call_Vv cx wo (k_RK_store_7 l E ad n L (fun a h => hL a ((by decide : ∀ a ∈ ([2, 7, 11, 12, 13, 14] : List Nat), a ∈ ([0, 2, 4, 7, 11, 12, 13, 14] : List Nat)) a h)) F σ2 σ5 p1 p3 hcx4) m2 (cel_2 E ad n σ2) rfl rfl mw_RK_store wm_SF_293 ⟨by decide, by decide⟩ ⟨by decide, by decide⟩ hl.1 rfl (Nat.le_of_ble_eq_true rfl) d_SF_putCell_19 (fun H locs wo => ?_)
    refine lv_iconst (v := 1) hx hb d_SF_putCell_22 (by decide) ?_
    cases hD
    exact t_ireti cx wo rfl rfl d_SF_putCell_23
  · have hD := ite_p hD c3
    refine lv_iconst (v := 0) hx hb d_SF_putCell_10 (by decide) ?_
    cases hD
    exact t_ireti cx wo rfl rfl d_SF_putCell_11
def D_RK_store_6_L15 (F : Nat) (n : Nat → Nat) (x2 : Int32) : Nat → HS → Int32 → Option (HS)
  | 0, _, _ => none
  | k5 + 1, σ3, x6 =>
      (if (8 : Int32) ≤ x6 then
          some σ3
        else
          grd (inb x6 (n 6)) (
          grd (inb (x2 + x6) (n 11)) (
          nm (stL σ3 11 ((x2 + x6)).toNatClampNeg (σ3.2 6 (x6).toNatClampNeg)) (fun σ10 =>
          grd (inb (x2 + x6) (n 12)) (
          nm (stL σ10 12 ((x2 + x6)).toNatClampNeg (0 : Int64)) (fun σ12 =>
          nm (x6 + (1 : Int32)) (fun x13 =>
          D_RK_store_6_L15 F n x2 k5 σ12 x13)))))))
def D_RK_store_6 (F : Nat) (n : Nat → Nat) (σ : HS) (p1 : Int32) (p3 : Int32) : Option (HS) :=
(if p1 = (-1 : Int32) then
    some σ
  else
    nm (p1 * (9 : Int32)) (fun x2 =>
    (D_RK_store_6_L15 F n x2 F σ (0 : Int32)).bind (fun (σ14 : HS) =>
    nm (x2 + (8 : Int32)) (fun x18 =>
      grd (inb x18 (n 12)) (
      nm (stL σ14 12 (x18).toNatClampNeg (0 : Int64)) (fun σ20 =>
      grd (inb x18 (n 11)) (
      nm (stL σ20 11 (x18).toNatClampNeg (p3).toInt64) (fun σ22 =>
      grd (inb x18 (n 11)) (
      (D_RK_checkOf F n σ22 p1).bind (fun (x24 : Int32) =>
      grd (inb x18 (n 11)) (
      nm (stL σ22 11 (x18).toNatClampNeg ((σ22.2 11 (x18).toNatClampNeg) ||| (((x24).toInt64 &&& (4294967295 : Int64)) <<< (((16 : Int32)).toInt64 &&& 63)))) (fun σ26 =>
      grd (inb p1 (n 13)) (
      nm (stI σ26 13 (p1).toNatClampNeg (vp_nar .boolean (1 : Int32))) (fun σ28 =>
      grd (inb p1 (n 14)) (
      nm (stI σ28 14 (p1).toNatClampNeg (vp_nar .boolean (1 : Int32))) (fun σ30 =>
      some σ30))))))))))))))))
set_option maxRecDepth 100000 in
set_option maxHeartbeats 4000000 in
theorem k_RK_store_6 (l : Launch) (E : EV) (ad n : Nat → Nat) (L : List Nat) (hL : ∀ a ∈ ([2, 6, 11, 12, 13, 14] : List Nat), a ∈ L) (F : Nat) (σ σo : HS) (p1 : Int32) (p3 : Int32)  (hD : D_RK_store_6 F n σ p1 p3 = some σo) : CtV l E y_RK_store c_RK_store 6 none ({ frames := 1, cells := 0, slots := 0, locals := 24 }) [.ref (ad 2), .int p1, .ref (ad 6), .int p3] (wl E ad n L σ) (wl E ad n L σo) := by
  refine fun sz => ent (by decide) (Nat.le_of_ble_eq_true rfl) ?_
  intro p e s m below meth c hsz cx wo ls hl
  have hx := cx.1.1
  have hb := cx.1.2.1
  have hown := cx.1.2.2.2.1
  have hts := cx.1.2.2.2.2
  have hl : lv_has ls 6 [(0, .ref (ad 2)), (1, .int p1), (2, .ref (ad 6)), (3, .int p3)] := hl
  have m2 : 2 ∈ L := hL 2 (by decide)
  have m6 : 6 ∈ L := hL 6 (by decide)
  have m11 : 11 ∈ L := hL 11 (by decide)
  have m12 : 12 ∈ L := hL 12 (by decide)
  have m13 : 13 ∈ L := hL 13 (by decide)
  have m14 : 14 ∈ L := hL 14 (by decide)
  rw [D_RK_store_6] at hD
  refine lv_iload_n hx hb d_RK_store_0 rfl (lv_at hl 1 rfl) ?_
  refine lv_iconst (v := -1) hx hb d_RK_store_1 (by decide) ?_
  refine lv_icmp_ne (tgt := 6) hx hb d_RK_store_2 (by decide) (fun c1 => ?_) (fun c1 => ?_)
  · have hD := ite_n hD c1
    refine lv_iload_n hx hb d_RK_store_6 rfl (lv_at hl 1 rfl) ?_
    refine lv_bipush (v := 9) hx hb d_RK_store_7 (by decide) ?_
    refine lv_imul hx hb d_RK_store_9 ?_
    refine lv_topi (fun x2 ex2 => ?_)
    have hD := nm_at hD ex2
    try dsimp only at hD
    refine lv_istore (lv' := [(4, .int x2), (0, .ref (ad 2)), (1, .int p1), (2, .ref (ad 6)), (3, .int p3)]) hx hb d_RK_store_10 hl (by decide) rfl (fun ls hl => ?_)
    refine lv_iconst (v := 0) hx hb d_RK_store_12 (by decide) ?_
    refine lv_istore (lv' := [(5, .int (0 : Int32)), (4, .int x2), (0, .ref (ad 2)), (1, .int p1), (2, .ref (ad 6)), (3, .int p3)]) hx hb d_RK_store_13 hl (by decide) rfl (fun ls hl => ?_)
    have lp15 : ∀ (k5 : Nat) (σ3 : HS) (x6 : Int32) (H : Heap) (locs : List Loc) (ls : Array Slot) (res4 : HS), D_RK_store_6_L15 F n x2 k5 σ3 x6 = some res4 → (∀ (σ14 : HS) (H : Heap) (locs : List Loc) (ls : Array Slot), res4 = σ14 → Wo E (va_A (wl E ad n L σ) sz) s.heap (wl E ad n L σ14) H locs → lv_has ls 6 [(4, .int x2), (0, .ref (ad 2)), (1, .int p1), (3, .int p3)] → W p l e ({ frames := 1, cells := 0, slots := 0, locals := 24 }) s m ([.ref (ad 2), .int p1, .ref (ad 6), .int p3] : List Value).toArray below meth c H locs 0 0 (MQ below (va_Qv (fun (_ : Unit) => True) (fun _ t => va_P E.1 cls6 (wl E ad n L σo) t.heap ∧ va_D (va_A (wl E ad n L σ) sz) (wl E ad n L σo)) (va_A (wl E ad n L σ) sz)) ([.ref (ad 2), .int p1, .ref (ad 6), .int p3] : List Value).toArray s 0 0 (va_A (wl E ad n L σ) sz)) (F0 m 53 ls [])) → Wo E (va_A (wl E ad n L σ) sz) s.heap (wl E ad n L σ3) H locs → lv_has ls 6 [(5, .int x6), (4, .int x2), (0, .ref (ad 2)), (1, .int p1), (2, .ref (ad 6)), (3, .int p3)] → W p l e ({ frames := 1, cells := 0, slots := 0, locals := 24 }) s m ([.ref (ad 2), .int p1, .ref (ad 6), .int p3] : List Value).toArray below meth c H locs 0 0 (MQ below (va_Qv (fun (_ : Unit) => True) (fun _ t => va_P E.1 cls6 (wl E ad n L σo) t.heap ∧ va_D (va_A (wl E ad n L σ) sz) (wl E ad n L σo)) (va_A (wl E ad n L σ) sz)) ([.ref (ad 2), .int p1, .ref (ad 6), .int p3] : List Value).toArray s 0 0 (va_A (wl E ad n L σ) sz)) (F0 m 15 ls []) := by
      intro k5
      induction k5 with
      | zero =>
        intro σ3 x6 H locs ls res4 hD
        rw [D_RK_store_6_L15.eq_1] at hD
        cases hD
      | succ k5 ih =>
        intro σ3 x6 H locs ls res4 hD hex wo hl
        rw [D_RK_store_6_L15.eq_2] at hD
        refine lv_iload hx hb d_RK_store_15 (lv_at hl 0 rfl) ?_
        refine lv_bipush (v := 8) hx hb d_RK_store_17 (by decide) ?_
        refine lv_icmp_ge (tgt := 53) hx hb d_RK_store_19 (by decide) (fun c7 => ?_) (fun c7 => ?_)
        · have hD := ite_p hD c7
          exact hex σ3 _ _ _ (Option.some.inj hD).symm wo (lv_sub hl [1, 2, 3, 5] rfl)
        · have hD := ite_n hD c7
          refine lv_aload_n hx hb d_RK_store_22 rfl (lv_at hl 2 rfl) ?_
          refine g_get cx wo m2 (cel_2 E ad n σ3) rfl in_RK 2 (by decide) wf_RK_28 rfl d_RK_store_23 ?_
          refine lv_iload hx hb d_RK_store_26 (lv_at hl 1 rfl) ?_
          refine lv_iload hx hb d_RK_store_28 (lv_at hl 0 rfl) ?_
          refine lv_iadd hx hb d_RK_store_30 ?_
          refine lv_aload_n hx hb d_RK_store_31 rfl (lv_at hl 4 rfl) ?_
          refine lv_iload hx hb d_RK_store_32 (lv_at hl 0 rfl) ?_
          obtain ⟨g8, hD⟩ := grd_s hD
          refine g_lald cx wo m6 (cel_6 E ad n σ3) g8 d_RK_store_34 ?_
          obtain ⟨g9, hD⟩ := grd_s hD
          refine g_last cx wo m11 (cel_11 E ad n) g9 d_RK_store_35 (fun H locs wo => ?_)
          obtain ⟨σ10, eσ10⟩ : ∃ z, z = stL σ3 11 ((x2 + x6)).toNatClampNeg (σ3.2 6 (x6).toNatClampNeg) := ⟨_, rfl⟩
          rw [← eσ10] at wo
          have hD := nm_at hD eσ10
          try dsimp only at hD
          refine lv_aload_n hx hb d_RK_store_36 rfl (lv_at hl 2 rfl) ?_
          refine g_get cx wo m2 (cel_2 E ad n σ10) rfl in_RK 3 (by decide) wf_RK_32 rfl d_RK_store_37 ?_
          refine lv_iload hx hb d_RK_store_40 (lv_at hl 1 rfl) ?_
          refine lv_iload hx hb d_RK_store_42 (lv_at hl 0 rfl) ?_
          refine lv_iadd hx hb d_RK_store_44 ?_
          refine lv_lconst (v := 0) hx hb d_RK_store_45 (by decide) ?_
          obtain ⟨g11, hD⟩ := grd_s hD
          refine g_last cx wo m12 (cel_12 E ad n) g11 d_RK_store_46 (fun H locs wo => ?_)
          obtain ⟨σ12, eσ12⟩ : ∃ z, z = stL σ10 12 ((x2 + x6)).toNatClampNeg (0 : Int64) := ⟨_, rfl⟩
          rw [← eσ12] at wo
          have hD := nm_at hD eσ12
          try dsimp only at hD
          obtain ⟨x13, ex13⟩ : ∃ y : Int32, y = x6 + (1 : Int32) := ⟨_, rfl⟩
          have hD := nm_at hD ex13
          try dsimp only at hD
          refine lv_iinc (v := x13) (lv' := [(5, .int x13), (4, .int x2), (0, .ref (ad 2)), (1, .int p1), (2, .ref (ad 6)), (3, .int p3)]) hx hb d_RK_store_47 hl (k := 0) rfl (by rw [ex13]; rfl) (by decide) rfl (fun ls hl => ?_)
          refine lv_goto (tgt := 15) hx hb d_RK_store_50 (by decide) ?_
          exact ih σ12 x13 _ _ _ _ hD hex wo (lv_sub hl [0, 1, 2, 3, 4, 5] rfl)
    obtain ⟨res16, hr17, hD⟩ := bd_s hD
    refine lp15 F σ (0 : Int32) _ _ _ _ hr17 (fun σ14 H locs ls hz wo hl => ?_) wo (lv_sub hl [0, 1, 2, 3, 4, 5] rfl)
    have hz := hz.symm
    subst hz
    try dsimp only at hD
    refine lv_iload hx hb d_RK_store_53 (lv_at hl 0 rfl) ?_
    refine lv_bipush (v := 8) hx hb d_RK_store_55 (by decide) ?_
    refine lv_iadd hx hb d_RK_store_57 ?_
    refine lv_topi (fun x18 ex18 => ?_)
    have hD := nm_at hD ex18
    try dsimp only at hD
    refine lv_istore (lv' := [(5, .int x18), (4, .int x2), (0, .ref (ad 2)), (1, .int p1), (3, .int p3)]) hx hb d_RK_store_58 hl (by decide) rfl (fun ls hl => ?_)
    refine lv_aload_n hx hb d_RK_store_60 rfl (lv_at hl 2 rfl) ?_
    refine g_get cx wo m2 (cel_2 E ad n σ14) rfl in_RK 3 (by decide) wf_RK_32 rfl d_RK_store_61 ?_
    refine lv_iload hx hb d_RK_store_64 (lv_at hl 0 rfl) ?_
    refine lv_lconst (v := 0) hx hb d_RK_store_66 (by decide) ?_
    obtain ⟨g19, hD⟩ := grd_s hD
    refine g_last cx wo m12 (cel_12 E ad n) g19 d_RK_store_67 (fun H locs wo => ?_)
    obtain ⟨σ20, eσ20⟩ : ∃ z, z = stL σ14 12 (x18).toNatClampNeg (0 : Int64) := ⟨_, rfl⟩
    rw [← eσ20] at wo
    have hD := nm_at hD eσ20
    try dsimp only at hD
    refine lv_aload_n hx hb d_RK_store_68 rfl (lv_at hl 2 rfl) ?_
    refine g_get cx wo m2 (cel_2 E ad n σ20) rfl in_RK 2 (by decide) wf_RK_28 rfl d_RK_store_69 ?_
    refine lv_iload hx hb d_RK_store_72 (lv_at hl 0 rfl) ?_
    refine lv_iload_n hx hb d_RK_store_74 rfl (lv_at hl 4 rfl) ?_
    refine lv_i2l hx hb d_RK_store_75 rfl ?_
    obtain ⟨g21, hD⟩ := grd_s hD
    refine g_last cx wo m11 (cel_11 E ad n) g21 d_RK_store_76 (fun H locs wo => ?_)
    obtain ⟨σ22, eσ22⟩ : ∃ z, z = stL σ20 11 (x18).toNatClampNeg (p3).toInt64 := ⟨_, rfl⟩
    rw [← eσ22] at wo
    have hD := nm_at hD eσ22
    try dsimp only at hD
    refine lv_aload_n hx hb d_RK_store_77 rfl (lv_at hl 2 rfl) ?_
    refine g_get cx wo m2 (cel_2 E ad n σ22) rfl in_RK 2 (by decide) wf_RK_28 rfl d_RK_store_78 ?_
    refine lv_iload hx hb d_RK_store_81 (lv_at hl 0 rfl) ?_
    refine lv_dup2_11 hx hb d_RK_store_83 rfl rfl ?_
    obtain ⟨g23, hD⟩ := grd_s hD
    refine g_lald cx wo m11 (cel_11 E ad n σ22) g23 d_RK_store_84 ?_
    refine lv_aload_n hx hb d_RK_store_85 rfl (lv_at hl 2 rfl) ?_
    refine lv_iload_n hx hb d_RK_store_86 rfl (lv_at hl 3 rfl) ?_
    obtain ⟨x24, hcx24, hD⟩ := bd_s hD
    try dsimp only [nm2] at hD
    refine call_Vi cx wo (k_RK_checkOf l E ad n L (fun a h => hL a ((by decide : ∀ a ∈ ([2, 11] : List Nat), a ∈ ([2, 6, 11, 12, 13, 14] : List Nat)) a h)) F σ22  p1 x24 hcx24) m2 (cel_2 E ad n σ22) rfl rfl mw_RK_checkOf wm_RK_76 ⟨by decide, by decide⟩ ⟨by decide, by decide⟩ hl.1 rfl (Nat.le_of_ble_eq_true rfl) d_RK_store_87 (fun H locs wo => ?_)
    refine lv_i2l hx hb d_RK_store_90 rfl ?_
    refine lv_ldc2 hx hb hown (hts _ wj_RK_79) d_RK_store_91 ?_
    refine lv_land hx hb d_RK_store_94 ?_
    refine lv_bipush (v := 16) hx hb d_RK_store_95 (by decide) ?_
    refine lv_lshl hx hb d_RK_store_97 rfl ?_
    refine lv_lor hx hb d_RK_store_98 ?_
    obtain ⟨g25, hD⟩ := grd_s hD
    refine g_last cx wo m11 (cel_11 E ad n) g25 d_RK_store_99 (fun H locs wo => ?_)
    obtain ⟨σ26, eσ26⟩ : ∃ z, z = stL σ22 11 (x18).toNatClampNeg ((σ22.2 11 (x18).toNatClampNeg) ||| (((x24).toInt64 &&& (4294967295 : Int64)) <<< (((16 : Int32)).toInt64 &&& 63))) := ⟨_, rfl⟩
    rw [← eσ26] at wo
    have hD := nm_at hD eσ26
    try dsimp only at hD
    refine lv_aload_n hx hb d_RK_store_100 rfl (lv_at hl 2 rfl) ?_
    refine g_get cx wo m2 (cel_2 E ad n σ26) rfl in_RK 4 (by decide) wf_RK_35 rfl d_RK_store_101 ?_
    refine lv_iload_n hx hb d_RK_store_104 rfl (lv_at hl 3 rfl) ?_
    refine lv_iconst (v := 1) hx hb d_RK_store_105 (by decide) ?_
    obtain ⟨g27, hD⟩ := grd_s hD
    refine g_zast cx wo m13 (cel_13 E ad n) g27 d_RK_store_106 (fun H locs wo => ?_)
    obtain ⟨σ28, eσ28⟩ : ∃ z, z = stI σ26 13 (p1).toNatClampNeg (vp_nar .boolean (1 : Int32)) := ⟨_, rfl⟩
    rw [← eσ28] at wo
    have hD := nm_at hD eσ28
    try dsimp only at hD
    refine lv_aload_n hx hb d_RK_store_107 rfl (lv_at hl 2 rfl) ?_
    refine g_get cx wo m2 (cel_2 E ad n σ28) rfl in_RK 5 (by decide) wf_RK_38 rfl d_RK_store_108 ?_
    refine lv_iload_n hx hb d_RK_store_111 rfl (lv_at hl 3 rfl) ?_
    refine lv_iconst (v := 1) hx hb d_RK_store_112 (by decide) ?_
    obtain ⟨g29, hD⟩ := grd_s hD
    refine g_zast cx wo m14 (cel_14 E ad n) g29 d_RK_store_113 (fun H locs wo => ?_)
    obtain ⟨σ30, eσ30⟩ : ∃ z, z = stI σ28 14 (p1).toNatClampNeg (vp_nar .boolean (1 : Int32)) := ⟨_, rfl⟩
    rw [← eσ30] at wo
    have hD := nm_at hD eσ30
    try dsimp only at hD
    cases hD
    exact t_vret cx wo d_RK_store_114
  · have hD := ite_p hD c1
    cases hD
    exact t_vret cx wo d_RK_store_5
def D_SF_putCell_6 (F : Nat) (n : Nat → Nat) (σ : HS) (p1 : Int32) (p3 : Int32) : Option (HS × Int32) :=
(D_PW_spendWrite F n σ ).bind (fun (qx1 : HS × Int32) => nm2 qx1 (fun (σ2 : HS) (x1 : Int32) =>
  (if x1 = 0 then
    some (σ2, (0 : Int32))
  else
    (D_RK_store_6 F n σ2 p1 p3).bind (fun (σ5 : HS) =>
    some (σ5, (1 : Int32))))))
set_option maxRecDepth 100000 in
set_option maxHeartbeats 4000000 in
theorem k_SF_putCell_6 (l : Launch) (E : EV) (ad n : Nat → Nat) (L : List Nat) (hL : ∀ a ∈ ([0, 2, 4, 6, 11, 12, 13, 14] : List Nat), a ∈ L) (F : Nat) (σ σo : HS) (p1 : Int32) (p3 : Int32) (r : Int32) (hD : D_SF_putCell_6 F n σ p1 p3 = some (σo, r)) : CtI l E y_SF_putCell c_SF_putCell 4 (some FieldType.boolean) ({ frames := 2, cells := 0, slots := 0, locals := 49 }) [.ref (ad 0), .int p1, .ref (ad 6), .int p3] (wl E ad n L σ) r (wl E ad n L σo) := by
  refine fun sz => ent (by decide) (Nat.le_of_ble_eq_true rfl) ?_
  intro p e s m below meth c hsz cx wo ls hl
  have hx := cx.1.1
  have hb := cx.1.2.1
  have hown := cx.1.2.2.2.1
  have hts := cx.1.2.2.2.2
  have hl : lv_has ls 4 [(0, .ref (ad 0)), (1, .int p1), (2, .ref (ad 6)), (3, .int p3)] := hl
  have m0 : 0 ∈ L := hL 0 (by decide)
  have m2 : 2 ∈ L := hL 2 (by decide)
  have m4 : 4 ∈ L := hL 4 (by decide)
  have m6 : 6 ∈ L := hL 6 (by decide)
  have m11 : 11 ∈ L := hL 11 (by decide)
  have m12 : 12 ∈ L := hL 12 (by decide)
  have m13 : 13 ∈ L := hL 13 (by decide)
  have m14 : 14 ∈ L := hL 14 (by decide)
  rw [D_SF_putCell_6] at hD
  refine lv_aload_n hx hb d_SF_putCell_0 rfl (lv_at hl 0 rfl) ?_
  refine g_get cx wo m0 (cel_0 E ad n σ) rfl in_SF 3 (by decide) wf_SF_39 rfl d_SF_putCell_1 ?_
  obtain ⟨⟨σ2, x1⟩, hcx1, hD⟩ := bd_s hD
  try dsimp only [nm2] at hD
  refine call_Vi cx wo (k_PW_spendWrite l E ad n L (fun a h => hL a ((by decide : ∀ a ∈ ([4] : List Nat), a ∈ ([0, 2, 4, 6, 11, 12, 13, 14] : List Nat)) a h)) F σ σ2  x1 hcx1) m4 (cel_4 E ad n σ) rfl rfl mw_PW_spendWrite wm_SF_290 ⟨by decide, by decide⟩ ⟨by decide, by decide⟩ hl.1 rfl (Nat.le_of_ble_eq_true rfl) d_SF_putCell_4 (fun H locs wo => ?_)
  refine lv_if_ne (tgt := 12) hx hb d_SF_putCell_7 (by decide) (fun c3 => ?_) (fun c3 => ?_)
  · have hD := ite_n hD c3
    refine lv_aload_n hx hb d_SF_putCell_12 rfl (lv_at hl 0 rfl) ?_
    refine g_get cx wo m0 (cel_0 E ad n σ2) rfl in_SF 1 (by decide) wf_SF_23 rfl d_SF_putCell_13 ?_
    refine lv_iload_n hx hb d_SF_putCell_16 rfl (lv_at hl 1 rfl) ?_
    refine lv_aload_n hx hb d_SF_putCell_17 rfl (lv_at hl 2 rfl) ?_
    refine lv_iload_n hx hb d_SF_putCell_18 rfl (lv_at hl 3 rfl) ?_
    obtain ⟨σ5, hcx4, hD⟩ := bd_s hD
    try dsimp only [nm2] at hD
    refine call_Vv cx wo (k_RK_store_6 l E ad n L (fun a h => hL a ((by decide : ∀ a ∈ ([2, 6, 11, 12, 13, 14] : List Nat), a ∈ ([0, 2, 4, 6, 11, 12, 13, 14] : List Nat)) a h)) F σ2 σ5 p1 p3 hcx4) m2 (cel_2 E ad n σ2) rfl rfl mw_RK_store wm_SF_293 ⟨by decide, by decide⟩ ⟨by decide, by decide⟩ hl.1 rfl (Nat.le_of_ble_eq_true rfl) d_SF_putCell_19 (fun H locs wo => ?_)
    refine lv_iconst (v := 1) hx hb d_SF_putCell_22 (by decide) ?_
    cases hD
    exact t_ireti cx wo rfl rfl d_SF_putCell_23
  · have hD := ite_p hD c3
    refine lv_iconst (v := 0) hx hb d_SF_putCell_10 (by decide) ?_
    cases hD
    exact t_ireti cx wo rfl rfl d_SF_putCell_11
def D_SF_putColumn_6 (F : Nat) (n : Nat → Nat) (σ : HS) (p1 : Int32) (p2 : Int32) : Option (HS × Int32) :=
(D_LA_slotOf F n σ p1 p2).bind (fun (x1 : Int32) =>
  grd (inb x1 (n 15)) (
  (D_LA_tagOf F n σ x1).bind (fun (x3 : Int32) =>
  (D_SF_putCell_6 F n σ (σ.1 15 (x1).toNatClampNeg) x3).bind (fun (qx4 : HS × Int32) => nm2 qx4 (fun (σ5 : HS) (x4 : Int32) =>
  grd (isB x4) (
  some (σ5, x4)))))))
set_option maxRecDepth 100000 in
set_option maxHeartbeats 4000000 in
theorem k_SF_putColumn_6 (l : Launch) (E : EV) (ad n : Nat → Nat) (L : List Nat) (hL : ∀ a ∈ ([0, 1, 2, 3, 4, 6, 11, 12, 13, 14, 15] : List Nat), a ∈ L) (F : Nat) (σ σo : HS) (p1 : Int32) (p2 : Int32) (r : Int32) (hD : D_SF_putColumn_6 F n σ p1 p2 = some (σo, r)) : CtI l E y_SF_putColumn c_SF_putColumn 5 (some FieldType.boolean) ({ frames := 3, cells := 0, slots := 0, locals := 72 }) [.ref (ad 0), .int p1, .int p2, .ref (ad 6)] (wl E ad n L σ) r (wl E ad n L σo) := by
  refine fun sz => ent (by decide) (Nat.le_of_ble_eq_true rfl) ?_
  intro p e s m below meth c hsz cx wo ls hl
  have hx := cx.1.1
  have hb := cx.1.2.1
  have hown := cx.1.2.2.2.1
  have hts := cx.1.2.2.2.2
  have hl : lv_has ls 5 [(0, .ref (ad 0)), (1, .int p1), (2, .int p2), (3, .ref (ad 6))] := hl
  have m0 : 0 ∈ L := hL 0 (by decide)
  have m1 : 1 ∈ L := hL 1 (by decide)
  have m2 : 2 ∈ L := hL 2 (by decide)
  have m3 : 3 ∈ L := hL 3 (by decide)
  have m4 : 4 ∈ L := hL 4 (by decide)
  have m6 : 6 ∈ L := hL 6 (by decide)
  have m11 : 11 ∈ L := hL 11 (by decide)
  have m12 : 12 ∈ L := hL 12 (by decide)
  have m13 : 13 ∈ L := hL 13 (by decide)
  have m14 : 14 ∈ L := hL 14 (by decide)
  have m15 : 15 ∈ L := hL 15 (by decide)
  rw [D_SF_putColumn_6] at hD
  refine lv_aload_n hx hb d_SF_putColumn_0 rfl (lv_at hl 0 rfl) ?_
  refine g_get cx wo m0 (cel_0 E ad n σ) rfl in_SF 0 (by decide) wf_SF_12 rfl d_SF_putColumn_1 ?_
  refine lv_iload_n hx hb d_SF_putColumn_4 rfl (lv_at hl 1 rfl) ?_
  refine lv_iload_n hx hb d_SF_putColumn_5 rfl (lv_at hl 2 rfl) ?_
  obtain ⟨x1, hcx1, hD⟩ := bd_s hD
  try dsimp only [nm2] at hD
  refine call_Vi cx wo (k_LA_slotOf l E ad n L (fun a h => hL a ((by decide : ∀ a ∈ ([1] : List Nat), a ∈ ([0, 1, 2, 3, 4, 6, 11, 12, 13, 14, 15] : List Nat)) a h)) F σ  p1 p2 x1 hcx1) m1 (cel_1 E ad n σ) rfl rfl mw_LA_slotOf wm_SF_287 ⟨by decide, by decide⟩ ⟨by decide, by decide⟩ hl.1 rfl (Nat.le_of_ble_eq_true rfl) d_SF_putColumn_6 (fun H locs wo => ?_)
  refine lv_istore (lv' := [(4, .int x1), (0, .ref (ad 0)), (1, .int p1), (2, .int p2), (3, .ref (ad 6))]) hx hb d_SF_putColumn_9 hl (by decide) rfl (fun ls hl => ?_)
  refine lv_aload_n hx hb d_SF_putColumn_11 rfl (lv_at hl 1 rfl) ?_
  refine lv_aload_n hx hb d_SF_putColumn_12 rfl (lv_at hl 1 rfl) ?_
  refine g_get cx wo m0 (cel_0 E ad n σ) rfl in_SF 2 (by decide) wf_SF_32 rfl d_SF_putColumn_13 ?_
  refine g_get cx wo m3 (cel_3 E ad n σ) rfl in_PL 0 (by decide) wf_SF_197 rfl d_SF_putColumn_16 ?_
  refine lv_iload hx hb d_SF_putColumn_19 (lv_at hl 0 rfl) ?_
  obtain ⟨g2, hD⟩ := grd_s hD
  refine g_iald cx wo m15 (cel_15 E ad n σ) g2 d_SF_putColumn_21 ?_
  refine lv_aload_n hx hb d_SF_putColumn_22 rfl (lv_at hl 4 rfl) ?_
  refine lv_aload_n hx hb d_SF_putColumn_23 rfl (lv_at hl 1 rfl) ?_
  refine g_get cx wo m0 (cel_0 E ad n σ) rfl in_SF 0 (by decide) wf_SF_12 rfl d_SF_putColumn_24 ?_
  refine lv_iload hx hb d_SF_putColumn_27 (lv_at hl 0 rfl) ?_
  obtain ⟨x3, hcx3, hD⟩ := bd_s hD
  try dsimp only [nm2] at hD
  refine call_Vi cx wo (k_LA_tagOf l E ad n L (fun a h => hL a ((by decide : ∀ a ∈ ([1] : List Nat), a ∈ ([0, 1, 2, 3, 4, 6, 11, 12, 13, 14, 15] : List Nat)) a h)) F σ  x1 x3 hcx3) m1 (cel_1 E ad n σ) rfl rfl mw_LA_tagOf wm_SF_297 ⟨by decide, by decide⟩ ⟨by decide, by decide⟩ hl.1 rfl (Nat.le_of_ble_eq_true rfl) d_SF_putColumn_29 (fun H locs wo => ?_)
  obtain ⟨⟨σ5, x4⟩, hcx4, hD⟩ := bd_s hD
  try dsimp only [nm2] at hD
  refine call_Vi cx wo (k_SF_putCell_6 l E ad n L (fun a h => hL a ((by decide : ∀ a ∈ ([0, 2, 4, 6, 11, 12, 13, 14] : List Nat), a ∈ ([0, 1, 2, 3, 4, 6, 11, 12, 13, 14, 15] : List Nat)) a h)) F σ σ5 (σ.1 15 (x1).toNatClampNeg) x3 x4 hcx4) m0 (cel_0 E ad n σ) rfl rfl mw_SF_putCell wm_SF_203 ⟨by decide, by decide⟩ ⟨by decide, by decide⟩ hl.1 rfl (Nat.le_of_ble_eq_true rfl) d_SF_putColumn_32 (fun H locs wo => ?_)
  obtain ⟨g6, hD⟩ := grd_s hD
  cases hD
  exact t_ireti cx wo (isB_n g6) rfl d_SF_putColumn_35
def D_SF_addFresh_L2 (F : Nat) (n : Nat → Nat)  : Nat → HS → Int32 → Option (HS)
  | 0, _, _ => none
  | k3 + 1, σ1, x4 =>
      (if (8 : Int32) ≤ x4 then
        some σ1
      else
        grd (inb x4 (n 7)) (
        grd (inb x4 (n 6)) (
        grd (inb x4 (n 7)) (
        nm (stL σ1 7 (x4).toNatClampNeg ((σ1.2 7 (x4).toNatClampNeg) ^^^ (σ1.2 6 (x4).toNatClampNeg))) (fun σ9 =>
        nm (x4 + (1 : Int32)) (fun x10 =>
        D_SF_addFresh_L2 F n  k3 σ9 x10))))))
def D_SF_addFresh (F : Nat) (n : Nat → Nat) (σ : HS)  : Option (HS) :=
(D_SF_addFresh_L2 F n  F σ (0 : Int32)).bind (fun (σ11 : HS) =>
  some σ11)
set_option maxRecDepth 100000 in
set_option maxHeartbeats 4000000 in
theorem k_SF_addFresh (l : Launch) (E : EV) (ad n : Nat → Nat) (L : List Nat) (hL : ∀ a ∈ ([0, 6, 7] : List Nat), a ∈ L) (F : Nat) (σ σo : HS)   (hD : D_SF_addFresh F n σ  = some σo) : CtV l E y_SF_addFresh c_SF_addFresh 2 none ({ frames := 0, cells := 0, slots := 0, locals := 0 }) [.ref (ad 0)] (wl E ad n L σ) (wl E ad n L σo) := by
  refine fun sz => ent (by decide) (Nat.le_of_ble_eq_true rfl) ?_
  intro p e s m below meth c hsz cx wo ls hl
  have hx := cx.1.1
  have hb := cx.1.2.1
  have hown := cx.1.2.2.2.1
  have hts := cx.1.2.2.2.2
  have hl : lv_has ls 2 [(0, .ref (ad 0))] := hl
  have m0 : 0 ∈ L := hL 0 (by decide)
  have m6 : 6 ∈ L := hL 6 (by decide)
  have m7 : 7 ∈ L := hL 7 (by decide)
  rw [D_SF_addFresh] at hD
  refine lv_iconst (v := 0) hx hb d_SF_addFresh_0 (by decide) ?_
  refine lv_istore_n (lv' := [(1, .int (0 : Int32)), (0, .ref (ad 0))]) hx hb d_SF_addFresh_1 rfl hl (by decide) rfl (fun ls hl => ?_)
  have lp12 : ∀ (k3 : Nat) (σ1 : HS) (x4 : Int32) (H : Heap) (locs : List Loc) (ls : Array Slot) (res2 : HS), D_SF_addFresh_L2 F n  k3 σ1 x4 = some res2 → (∀ (σ11 : HS) (H : Heap) (locs : List Loc) (ls : Array Slot), res2 = σ11 → Wo E (va_A (wl E ad n L σ) sz) s.heap (wl E ad n L σ11) H locs → lv_has ls 2 [] → W p l e ({ frames := 0, cells := 0, slots := 0, locals := 0 }) s m ([.ref (ad 0)] : List Value).toArray below meth c H locs 0 0 (MQ below (va_Qv (fun (_ : Unit) => True) (fun _ t => va_P E.1 cls6 (wl E ad n L σo) t.heap ∧ va_D (va_A (wl E ad n L σ) sz) (wl E ad n L σo)) (va_A (wl E ad n L σ) sz)) ([.ref (ad 0)] : List Value).toArray s 0 0 (va_A (wl E ad n L σ) sz)) (F0 m 29 ls [])) → Wo E (va_A (wl E ad n L σ) sz) s.heap (wl E ad n L σ1) H locs → lv_has ls 2 [(1, .int x4), (0, .ref (ad 0))] → W p l e ({ frames := 0, cells := 0, slots := 0, locals := 0 }) s m ([.ref (ad 0)] : List Value).toArray below meth c H locs 0 0 (MQ below (va_Qv (fun (_ : Unit) => True) (fun _ t => va_P E.1 cls6 (wl E ad n L σo) t.heap ∧ va_D (va_A (wl E ad n L σ) sz) (wl E ad n L σo)) (va_A (wl E ad n L σ) sz)) ([.ref (ad 0)] : List Value).toArray s 0 0 (va_A (wl E ad n L σ) sz)) (F0 m 2 ls []) := by
    intro k3
    induction k3 with
    | zero =>
      intro σ1 x4 H locs ls res2 hD
      rw [D_SF_addFresh_L2.eq_1] at hD
      cases hD
    | succ k3 ih =>
      intro σ1 x4 H locs ls res2 hD hex wo hl
      rw [D_SF_addFresh_L2.eq_2] at hD
      refine lv_iload_n hx hb d_SF_addFresh_2 rfl (lv_at hl 0 rfl) ?_
      refine lv_bipush (v := 8) hx hb d_SF_addFresh_3 (by decide) ?_
      refine lv_icmp_ge (tgt := 29) hx hb d_SF_addFresh_5 (by decide) (fun c5 => ?_) (fun c5 => ?_)
      · have hD := ite_p hD c5
        exact hex σ1 _ _ _ (Option.some.inj hD).symm wo (lv_sub hl [] rfl)
      · have hD := ite_n hD c5
        refine lv_aload_n hx hb d_SF_addFresh_8 rfl (lv_at hl 1 rfl) ?_
        refine g_get cx wo m0 (cel_0 E ad n σ1) rfl in_SF 9 (by decide) wf_SF_50 rfl d_SF_addFresh_9 ?_
        refine lv_iload_n hx hb d_SF_addFresh_12 rfl (lv_at hl 0 rfl) ?_
        refine lv_dup2_11 hx hb d_SF_addFresh_13 rfl rfl ?_
        obtain ⟨g6, hD⟩ := grd_s hD
        refine g_lald cx wo m7 (cel_7 E ad n σ1) g6 d_SF_addFresh_14 ?_
        refine lv_aload_n hx hb d_SF_addFresh_15 rfl (lv_at hl 1 rfl) ?_
        refine g_get cx wo m0 (cel_0 E ad n σ1) rfl in_SF 8 (by decide) wf_SF_47 rfl d_SF_addFresh_16 ?_
        refine lv_iload_n hx hb d_SF_addFresh_19 rfl (lv_at hl 0 rfl) ?_
        obtain ⟨g7, hD⟩ := grd_s hD
        refine g_lald cx wo m6 (cel_6 E ad n σ1) g7 d_SF_addFresh_20 ?_
        refine lv_lxor hx hb d_SF_addFresh_21 ?_
        obtain ⟨g8, hD⟩ := grd_s hD
        refine g_last cx wo m7 (cel_7 E ad n) g8 d_SF_addFresh_22 (fun H locs wo => ?_)
        obtain ⟨σ9, eσ9⟩ : ∃ z, z = stL σ1 7 (x4).toNatClampNeg ((σ1.2 7 (x4).toNatClampNeg) ^^^ (σ1.2 6 (x4).toNatClampNeg)) := ⟨_, rfl⟩
        rw [← eσ9] at wo
        have hD := nm_at hD eσ9
        try dsimp only at hD
        obtain ⟨x10, ex10⟩ : ∃ y : Int32, y = x4 + (1 : Int32) := ⟨_, rfl⟩
        have hD := nm_at hD ex10
        try dsimp only at hD
        refine lv_iinc (v := x10) (lv' := [(1, .int x10), (0, .ref (ad 0))]) hx hb d_SF_addFresh_23 hl (k := 0) rfl (by rw [ex10]; rfl) (by decide) rfl (fun ls hl => ?_)
        refine lv_goto (tgt := 2) hx hb d_SF_addFresh_26 (by decide) ?_
        exact ih σ9 x10 _ _ _ _ hD hex wo (lv_sub hl [0, 1] rfl)
  obtain ⟨res13, hr14, hD⟩ := bd_s hD
  refine lp12 F σ (0 : Int32) _ _ _ _ hr14 (fun σ11 H locs ls hz wo hl => ?_) wo (lv_sub hl [0, 1] rfl)
  have hz := hz.symm
  subst hz
  try dsimp only at hD
  cases hD
  exact t_vret cx wo d_SF_addFresh_29
def D_SF_putColumn_7 (F : Nat) (n : Nat → Nat) (σ : HS) (p1 : Int32) (p2 : Int32) : Option (HS × Int32) :=
(D_LA_slotOf F n σ p1 p2).bind (fun (x1 : Int32) =>
  grd (inb x1 (n 15)) (
  (D_LA_tagOf F n σ x1).bind (fun (x3 : Int32) =>
  (D_SF_putCell_7 F n σ (σ.1 15 (x1).toNatClampNeg) x3).bind (fun (qx4 : HS × Int32) => nm2 qx4 (fun (σ5 : HS) (x4 : Int32) =>
  grd (isB x4) (
  some (σ5, x4)))))))
set_option maxRecDepth 100000 in
set_option maxHeartbeats 4000000 in
theorem k_SF_putColumn_7 (l : Launch) (E : EV) (ad n : Nat → Nat) (L : List Nat) (hL : ∀ a ∈ ([0, 1, 2, 3, 4, 7, 11, 12, 13, 14, 15] : List Nat), a ∈ L) (F : Nat) (σ σo : HS) (p1 : Int32) (p2 : Int32) (r : Int32) (hD : D_SF_putColumn_7 F n σ p1 p2 = some (σo, r)) : CtI l E y_SF_putColumn c_SF_putColumn 5 (some FieldType.boolean) ({ frames := 3, cells := 0, slots := 0, locals := 72 }) [.ref (ad 0), .int p1, .int p2, .ref (ad 7)] (wl E ad n L σ) r (wl E ad n L σo) := by
  refine fun sz => ent (by decide) (Nat.le_of_ble_eq_true rfl) ?_
  intro p e s m below meth c hsz cx wo ls hl
  have hx := cx.1.1
  have hb := cx.1.2.1
  have hown := cx.1.2.2.2.1
  have hts := cx.1.2.2.2.2
  have hl : lv_has ls 5 [(0, .ref (ad 0)), (1, .int p1), (2, .int p2), (3, .ref (ad 7))] := hl
  have m0 : 0 ∈ L := hL 0 (by decide)
  have m1 : 1 ∈ L := hL 1 (by decide)
  have m2 : 2 ∈ L := hL 2 (by decide)
  have m3 : 3 ∈ L := hL 3 (by decide)
  have m4 : 4 ∈ L := hL 4 (by decide)
  have m7 : 7 ∈ L := hL 7 (by decide)
  have m11 : 11 ∈ L := hL 11 (by decide)
  have m12 : 12 ∈ L := hL 12 (by decide)
  have m13 : 13 ∈ L := hL 13 (by decide)
  have m14 : 14 ∈ L := hL 14 (by decide)
  have m15 : 15 ∈ L := hL 15 (by decide)
  rw [D_SF_putColumn_7] at hD
  refine lv_aload_n hx hb d_SF_putColumn_0 rfl (lv_at hl 0 rfl) ?_
  refine g_get cx wo m0 (cel_0 E ad n σ) rfl in_SF 0 (by decide) wf_SF_12 rfl d_SF_putColumn_1 ?_
  refine lv_iload_n hx hb d_SF_putColumn_4 rfl (lv_at hl 1 rfl) ?_
  refine lv_iload_n hx hb d_SF_putColumn_5 rfl (lv_at hl 2 rfl) ?_
  obtain ⟨x1, hcx1, hD⟩ := bd_s hD
  try dsimp only [nm2] at hD
  refine call_Vi cx wo (k_LA_slotOf l E ad n L (fun a h => hL a ((by decide : ∀ a ∈ ([1] : List Nat), a ∈ ([0, 1, 2, 3, 4, 7, 11, 12, 13, 14, 15] : List Nat)) a h)) F σ  p1 p2 x1 hcx1) m1 (cel_1 E ad n σ) rfl rfl mw_LA_slotOf wm_SF_287 ⟨by decide, by decide⟩ ⟨by decide, by decide⟩ hl.1 rfl (Nat.le_of_ble_eq_true rfl) d_SF_putColumn_6 (fun H locs wo => ?_)
  refine lv_istore (lv' := [(4, .int x1), (0, .ref (ad 0)), (1, .int p1), (2, .int p2), (3, .ref (ad 7))]) hx hb d_SF_putColumn_9 hl (by decide) rfl (fun ls hl => ?_)
  refine lv_aload_n hx hb d_SF_putColumn_11 rfl (lv_at hl 1 rfl) ?_
  refine lv_aload_n hx hb d_SF_putColumn_12 rfl (lv_at hl 1 rfl) ?_
  refine g_get cx wo m0 (cel_0 E ad n σ) rfl in_SF 2 (by decide) wf_SF_32 rfl d_SF_putColumn_13 ?_
  refine g_get cx wo m3 (cel_3 E ad n σ) rfl in_PL 0 (by decide) wf_SF_197 rfl d_SF_putColumn_16 ?_
  refine lv_iload hx hb d_SF_putColumn_19 (lv_at hl 0 rfl) ?_
  obtain ⟨g2, hD⟩ := grd_s hD
  refine g_iald cx wo m15 (cel_15 E ad n σ) g2 d_SF_putColumn_21 ?_
  refine lv_aload_n hx hb d_SF_putColumn_22 rfl (lv_at hl 4 rfl) ?_
  refine lv_aload_n hx hb d_SF_putColumn_23 rfl (lv_at hl 1 rfl) ?_
  refine g_get cx wo m0 (cel_0 E ad n σ) rfl in_SF 0 (by decide) wf_SF_12 rfl d_SF_putColumn_24 ?_
  refine lv_iload hx hb d_SF_putColumn_27 (lv_at hl 0 rfl) ?_
  obtain ⟨x3, hcx3, hD⟩ := bd_s hD
  try dsimp only [nm2] at hD
  refine call_Vi cx wo (k_LA_tagOf l E ad n L (fun a h => hL a ((by decide : ∀ a ∈ ([1] : List Nat), a ∈ ([0, 1, 2, 3, 4, 7, 11, 12, 13, 14, 15] : List Nat)) a h)) F σ  x1 x3 hcx3) m1 (cel_1 E ad n σ) rfl rfl mw_LA_tagOf wm_SF_297 ⟨by decide, by decide⟩ ⟨by decide, by decide⟩ hl.1 rfl (Nat.le_of_ble_eq_true rfl) d_SF_putColumn_29 (fun H locs wo => ?_)
  obtain ⟨⟨σ5, x4⟩, hcx4, hD⟩ := bd_s hD
  try dsimp only [nm2] at hD
  refine call_Vi cx wo (k_SF_putCell_7 l E ad n L (fun a h => hL a ((by decide : ∀ a ∈ ([0, 2, 4, 7, 11, 12, 13, 14] : List Nat), a ∈ ([0, 1, 2, 3, 4, 7, 11, 12, 13, 14, 15] : List Nat)) a h)) F σ σ5 (σ.1 15 (x1).toNatClampNeg) x3 x4 hcx4) m0 (cel_0 E ad n σ) rfl rfl mw_SF_putCell wm_SF_203 ⟨by decide, by decide⟩ ⟨by decide, by decide⟩ hl.1 rfl (Nat.le_of_ble_eq_true rfl) d_SF_putColumn_32 (fun H locs wo => ?_)
  obtain ⟨g6, hD⟩ := grd_s hD
  cases hD
  exact t_ireti cx wo (isB_n g6) rfl d_SF_putColumn_35
def D_SF_putCell_8 (F : Nat) (n : Nat → Nat) (σ : HS) (p1 : Int32) (p3 : Int32) : Option (HS × Int32) :=
(D_PW_spendWrite F n σ ).bind (fun (qx1 : HS × Int32) => nm2 qx1 (fun (σ2 : HS) (x1 : Int32) =>
  (if x1 = 0 then
    some (σ2, (0 : Int32))
  else
    (D_RK_store_8 F n σ2 p1 p3).bind (fun (σ5 : HS) =>
    some (σ5, (1 : Int32))))))
set_option maxRecDepth 100000 in
set_option maxHeartbeats 4000000 in
theorem k_SF_putCell_8 (l : Launch) (E : EV) (ad n : Nat → Nat) (L : List Nat) (hL : ∀ a ∈ ([0, 2, 4, 8, 11, 12, 13, 14] : List Nat), a ∈ L) (F : Nat) (σ σo : HS) (p1 : Int32) (p3 : Int32) (r : Int32) (hD : D_SF_putCell_8 F n σ p1 p3 = some (σo, r)) : CtI l E y_SF_putCell c_SF_putCell 4 (some FieldType.boolean) ({ frames := 2, cells := 0, slots := 0, locals := 49 }) [.ref (ad 0), .int p1, .ref (ad 8), .int p3] (wl E ad n L σ) r (wl E ad n L σo) := by
  refine fun sz => ent (by decide) (Nat.le_of_ble_eq_true rfl) ?_
  intro p e s m below meth c hsz cx wo ls hl
  have hx := cx.1.1
  have hb := cx.1.2.1
  have hown := cx.1.2.2.2.1
  have hts := cx.1.2.2.2.2
  have hl : lv_has ls 4 [(0, .ref (ad 0)), (1, .int p1), (2, .ref (ad 8)), (3, .int p3)] := hl
  have m0 : 0 ∈ L := hL 0 (by decide)
  have m2 : 2 ∈ L := hL 2 (by decide)
  have m4 : 4 ∈ L := hL 4 (by decide)
  have m8 : 8 ∈ L := hL 8 (by decide)
  have m11 : 11 ∈ L := hL 11 (by decide)
  have m12 : 12 ∈ L := hL 12 (by decide)
  have m13 : 13 ∈ L := hL 13 (by decide)
  have m14 : 14 ∈ L := hL 14 (by decide)
  rw [D_SF_putCell_8] at hD
  refine lv_aload_n hx hb d_SF_putCell_0 rfl (lv_at hl 0 rfl) ?_
  refine g_get cx wo m0 (cel_0 E ad n σ) rfl in_SF 3 (by decide) wf_SF_39 rfl d_SF_putCell_1 ?_
  obtain ⟨⟨σ2, x1⟩, hcx1, hD⟩ := bd_s hD
  try dsimp only [nm2] at hD
  refine call_Vi cx wo (k_PW_spendWrite l E ad n L (fun a h => hL a ((by decide : ∀ a ∈ ([4] : List Nat), a ∈ ([0, 2, 4, 8, 11, 12, 13, 14] : List Nat)) a h)) F σ σ2  x1 hcx1) m4 (cel_4 E ad n σ) rfl rfl mw_PW_spendWrite wm_SF_290 ⟨by decide, by decide⟩ ⟨by decide, by decide⟩ hl.1 rfl (Nat.le_of_ble_eq_true rfl) d_SF_putCell_4 (fun H locs wo => ?_)
  refine lv_if_ne (tgt := 12) hx hb d_SF_putCell_7 (by decide) (fun c3 => ?_) (fun c3 => ?_)
  · have hD := ite_n hD c3
    refine lv_aload_n hx hb d_SF_putCell_12 rfl (lv_at hl 0 rfl) ?_
    refine g_get cx wo m0 (cel_0 E ad n σ2) rfl in_SF 1 (by decide) wf_SF_23 rfl d_SF_putCell_13 ?_
    refine lv_iload_n hx hb d_SF_putCell_16 rfl (lv_at hl 1 rfl) ?_
    refine lv_aload_n hx hb d_SF_putCell_17 rfl (lv_at hl 2 rfl) ?_
    refine lv_iload_n hx hb d_SF_putCell_18 rfl (lv_at hl 3 rfl) ?_
    obtain ⟨σ5, hcx4, hD⟩ := bd_s hD
    try dsimp only [nm2] at hD
    refine call_Vv cx wo (k_RK_store_8 l E ad n L (fun a h => hL a ((by decide : ∀ a ∈ ([2, 8, 11, 12, 13, 14] : List Nat), a ∈ ([0, 2, 4, 8, 11, 12, 13, 14] : List Nat)) a h)) F σ2 σ5 p1 p3 hcx4) m2 (cel_2 E ad n σ2) rfl rfl mw_RK_store wm_SF_293 ⟨by decide, by decide⟩ ⟨by decide, by decide⟩ hl.1 rfl (Nat.le_of_ble_eq_true rfl) d_SF_putCell_19 (fun H locs wo => ?_)
    refine lv_iconst (v := 1) hx hb d_SF_putCell_22 (by decide) ?_
    cases hD
    exact t_ireti cx wo rfl rfl d_SF_putCell_23
  · have hD := ite_p hD c3
    refine lv_iconst (v := 0) hx hb d_SF_putCell_10 (by decide) ?_
    cases hD
    exact t_ireti cx wo rfl rfl d_SF_putCell_11
def D_SF_writeLogged (F : Nat) (n : Nat → Nat) (σ : HS) (p1 : Int32) (p2 : Int32) : Option (HS × Int32) :=
(D_SF_placeOf F n σ p1 (σ.1 1 7)).bind (fun (x1 : Int32) =>
  (D_LA_diskOf F n σ x1).bind (fun (x2 : Int32) =>
  (D_LA_logOf F n σ x2).bind (fun (x3 : Int32) =>
  (D_SF_putCell_7 F n σ x3 (((1 : Int32) + ((8 : Int32) * p1)) + p2)).bind (fun (qx4 : HS × Int32) => nm2 qx4 (fun (σ5 : HS) (x4 : Int32) =>
  (if x4 = 0 then
    some (σ5, (0 : Int32))
  else
    (D_SF_putColumn_6 F n σ5 p1 p2).bind (fun (qx7 : HS × Int32) => nm2 qx7 (fun (σ8 : HS) (x7 : Int32) =>
    (if x7 = 0 then
      some (σ8, (0 : Int32))
    else
      (D_SF_addFresh F n σ8 ).bind (fun (σ11 : HS) =>
      (D_SF_putColumn_7 F n σ11 p1 (σ11.1 1 7)).bind (fun (qx12 : HS × Int32) => nm2 qx12 (fun (σ13 : HS) (x12 : Int32) =>
      (if x12 = 0 then
        some (σ13, (0 : Int32))
      else
        (D_SF_putCell_8 F n σ13 x3 (0 : Int32)).bind (fun (qx15 : HS × Int32) => nm2 qx15 (fun (σ16 : HS) (x15 : Int32) =>
        (if x15 = 0 then
          some (σ16, (0 : Int32))
        else
          some (σ16, (1 : Int32))))))))))))))))))
set_option maxRecDepth 100000 in
set_option maxHeartbeats 4000000 in
theorem k_SF_writeLogged (l : Launch) (E : EV) (ad n : Nat → Nat) (L : List Nat) (hL : ∀ a ∈ ([0, 1, 2, 3, 4, 6, 7, 8, 11, 12, 13, 14, 15] : List Nat), a ∈ L) (F : Nat) (σ σo : HS) (p1 : Int32) (p2 : Int32) (r : Int32) (hD : D_SF_writeLogged F n σ p1 p2 = some (σo, r)) : CtI l E y_SF_writeLogged c_SF_writeLogged 4 (some FieldType.boolean) ({ frames := 4, cells := 0, slots := 0, locals := 96 }) [.ref (ad 0), .int p1, .int p2] (wl E ad n L σ) r (wl E ad n L σo) := by
  refine fun sz => ent (by decide) (Nat.le_of_ble_eq_true rfl) ?_
  intro p e s m below meth c hsz cx wo ls hl
  have hx := cx.1.1
  have hb := cx.1.2.1
  have hown := cx.1.2.2.2.1
  have hts := cx.1.2.2.2.2
  have hl : lv_has ls 4 [(0, .ref (ad 0)), (1, .int p1), (2, .int p2)] := hl
  have m0 : 0 ∈ L := hL 0 (by decide)
  have m1 : 1 ∈ L := hL 1 (by decide)
  have m2 : 2 ∈ L := hL 2 (by decide)
  have m3 : 3 ∈ L := hL 3 (by decide)
  have m4 : 4 ∈ L := hL 4 (by decide)
  have m6 : 6 ∈ L := hL 6 (by decide)
  have m7 : 7 ∈ L := hL 7 (by decide)
  have m8 : 8 ∈ L := hL 8 (by decide)
  have m11 : 11 ∈ L := hL 11 (by decide)
  have m12 : 12 ∈ L := hL 12 (by decide)
  have m13 : 13 ∈ L := hL 13 (by decide)
  have m14 : 14 ∈ L := hL 14 (by decide)
  have m15 : 15 ∈ L := hL 15 (by decide)
  rw [D_SF_writeLogged] at hD
  refine lv_aload_n hx hb d_SF_writeLogged_0 rfl (lv_at hl 0 rfl) ?_
  refine g_get cx wo m0 (cel_0 E ad n σ) rfl in_SF 0 (by decide) wf_SF_12 rfl d_SF_writeLogged_1 ?_
  refine lv_aload_n hx hb d_SF_writeLogged_4 rfl (lv_at hl 0 rfl) ?_
  refine g_get cx wo m0 (cel_0 E ad n σ) rfl in_SF 0 (by decide) wf_SF_12 rfl d_SF_writeLogged_5 ?_
  refine lv_aload_n hx hb d_SF_writeLogged_8 rfl (lv_at hl 0 rfl) ?_
  refine lv_iload_n hx hb d_SF_writeLogged_9 rfl (lv_at hl 1 rfl) ?_
  refine lv_aload_n hx hb d_SF_writeLogged_10 rfl (lv_at hl 0 rfl) ?_
  refine g_get cx wo m0 (cel_0 E ad n σ) rfl in_SF 0 (by decide) wf_SF_12 rfl d_SF_writeLogged_11 ?_
  refine g_get cx wo m1 (cel_1 E ad n σ) rfl in_LA 7 (by decide) wf_SF_265 rfl d_SF_writeLogged_14 ?_
  obtain ⟨x1, hcx1, hD⟩ := bd_s hD
  try dsimp only [nm2] at hD
  refine call_Vi cx wo (k_SF_placeOf l E ad n L (fun a h => hL a ((by decide : ∀ a ∈ ([0, 1, 3, 15] : List Nat), a ∈ ([0, 1, 2, 3, 4, 6, 7, 8, 11, 12, 13, 14, 15] : List Nat)) a h)) F σ  p1 (σ.1 1 7) x1 hcx1) m0 (cel_0 E ad n σ) rfl rfl mw_SF_placeOf wm_SF_268 ⟨by decide, by decide⟩ ⟨by decide, by decide⟩ hl.1 rfl (Nat.le_of_ble_eq_true rfl) d_SF_writeLogged_17 (fun H locs wo => ?_)
  obtain ⟨x2, hcx2, hD⟩ := bd_s hD
  try dsimp only [nm2] at hD
  refine call_Vi cx wo (k_LA_diskOf l E ad n L (fun a h => hL a ((by decide : ∀ a ∈ ([1] : List Nat), a ∈ ([0, 1, 2, 3, 4, 6, 7, 8, 11, 12, 13, 14, 15] : List Nat)) a h)) F σ  x1 x2 hcx2) m1 (cel_1 E ad n σ) rfl rfl mw_LA_diskOf wm_SF_256 ⟨by decide, by decide⟩ ⟨by decide, by decide⟩ hl.1 rfl (Nat.le_of_ble_eq_true rfl) d_SF_writeLogged_20 (fun H locs wo => ?_)
  obtain ⟨x3, hcx3, hD⟩ := bd_s hD
  try dsimp only [nm2] at hD
  refine call_Vi cx wo (k_LA_logOf l E ad n L (fun a h => hL a ((by decide : ∀ a ∈ ([1] : List Nat), a ∈ ([0, 1, 2, 3, 4, 6, 7, 8, 11, 12, 13, 14, 15] : List Nat)) a h)) F σ  x2 x3 hcx3) m1 (cel_1 E ad n σ) rfl rfl mw_LA_logOf wm_SF_277 ⟨by decide, by decide⟩ ⟨by decide, by decide⟩ hl.1 rfl (Nat.le_of_ble_eq_true rfl) d_SF_writeLogged_23 (fun H locs wo => ?_)
  refine lv_istore_n (lv' := [(3, .int x3), (0, .ref (ad 0)), (1, .int p1), (2, .int p2)]) hx hb d_SF_writeLogged_26 rfl hl (by decide) rfl (fun ls hl => ?_)
  refine lv_aload_n hx hb d_SF_writeLogged_27 rfl (lv_at hl 1 rfl) ?_
  refine lv_iload_n hx hb d_SF_writeLogged_28 rfl (lv_at hl 0 rfl) ?_
  refine lv_aload_n hx hb d_SF_writeLogged_29 rfl (lv_at hl 1 rfl) ?_
  refine g_get cx wo m0 (cel_0 E ad n σ) rfl in_SF 9 (by decide) wf_SF_50 rfl d_SF_writeLogged_30 ?_
  refine lv_iconst (v := 1) hx hb d_SF_writeLogged_33 (by decide) ?_
  refine lv_bipush (v := 8) hx hb d_SF_writeLogged_34 (by decide) ?_
  refine lv_iload_n hx hb d_SF_writeLogged_36 rfl (lv_at hl 2 rfl) ?_
  refine lv_imul hx hb d_SF_writeLogged_37 ?_
  refine lv_iadd hx hb d_SF_writeLogged_38 ?_
  refine lv_iload_n hx hb d_SF_writeLogged_39 rfl (lv_at hl 3 rfl) ?_
  refine lv_iadd hx hb d_SF_writeLogged_40 ?_
  obtain ⟨⟨σ5, x4⟩, hcx4, hD⟩ := bd_s hD
  try dsimp only [nm2] at hD
  refine call_Vi cx wo (k_SF_putCell_7 l E ad n L (fun a h => hL a ((by decide : ∀ a ∈ ([0, 2, 4, 7, 11, 12, 13, 14] : List Nat), a ∈ ([0, 1, 2, 3, 4, 6, 7, 8, 11, 12, 13, 14, 15] : List Nat)) a h)) F σ σ5 x3 (((1 : Int32) + ((8 : Int32) * p1)) + p2) x4 hcx4) m0 (cel_0 E ad n σ) rfl rfl mw_SF_putCell wm_SF_203 ⟨by decide, by decide⟩ ⟨by decide, by decide⟩ hl.1 rfl (Nat.le_of_ble_eq_true rfl) d_SF_writeLogged_41 (fun H locs wo => ?_)
  refine lv_if_ne (tgt := 49) hx hb d_SF_writeLogged_44 (by decide) (fun c6 => ?_) (fun c6 => ?_)
  · have hD := ite_n hD c6
    refine lv_aload_n hx hb d_SF_writeLogged_49 rfl (lv_at hl 1 rfl) ?_
    refine lv_iload_n hx hb d_SF_writeLogged_50 rfl (lv_at hl 2 rfl) ?_
    refine lv_iload_n hx hb d_SF_writeLogged_51 rfl (lv_at hl 3 rfl) ?_
    refine lv_aload_n hx hb d_SF_writeLogged_52 rfl (lv_at hl 1 rfl) ?_
    refine g_get cx wo m0 (cel_0 E ad n σ5) rfl in_SF 8 (by decide) wf_SF_47 rfl d_SF_writeLogged_53 ?_
    obtain ⟨⟨σ8, x7⟩, hcx7, hD⟩ := bd_s hD
    try dsimp only [nm2] at hD
    refine call_Vi cx wo (k_SF_putColumn_6 l E ad n L (fun a h => hL a ((by decide : ∀ a ∈ ([0, 1, 2, 3, 4, 6, 11, 12, 13, 14, 15] : List Nat), a ∈ ([0, 1, 2, 3, 4, 6, 7, 8, 11, 12, 13, 14, 15] : List Nat)) a h)) F σ5 σ8 p1 p2 x7 hcx7) m0 (cel_0 E ad n σ5) rfl rfl mw_SF_putColumn wm_SF_216 ⟨by decide, by decide⟩ ⟨by decide, by decide⟩ hl.1 rfl (Nat.le_of_ble_eq_true rfl) d_SF_writeLogged_56 (fun H locs wo => ?_)
    refine lv_if_ne (tgt := 64) hx hb d_SF_writeLogged_59 (by decide) (fun c9 => ?_) (fun c9 => ?_)
    · have hD := ite_n hD c9
      refine lv_aload_n hx hb d_SF_writeLogged_64 rfl (lv_at hl 1 rfl) ?_
      obtain ⟨σ11, hcx10, hD⟩ := bd_s hD
      try dsimp only [nm2] at hD
      refine call_Vv cx wo (k_SF_addFresh l E ad n L (fun a h => hL a ((by decide : ∀ a ∈ ([0, 6, 7] : List Nat), a ∈ ([0, 1, 2, 3, 4, 6, 7, 8, 11, 12, 13, 14, 15] : List Nat)) a h)) F σ8 σ11  hcx10) m0 (cel_0 E ad n σ8) rfl rfl mw_SF_addFresh wm_SF_271 ⟨by decide, by decide⟩ ⟨by decide, by decide⟩ hl.1 rfl (Nat.le_of_ble_eq_true rfl) d_SF_writeLogged_65 (fun H locs wo => ?_)
      refine lv_aload_n hx hb d_SF_writeLogged_68 rfl (lv_at hl 1 rfl) ?_
      refine lv_iload_n hx hb d_SF_writeLogged_69 rfl (lv_at hl 2 rfl) ?_
      refine lv_aload_n hx hb d_SF_writeLogged_70 rfl (lv_at hl 1 rfl) ?_
      refine g_get cx wo m0 (cel_0 E ad n σ11) rfl in_SF 0 (by decide) wf_SF_12 rfl d_SF_writeLogged_71 ?_
      refine g_get cx wo m1 (cel_1 E ad n σ11) rfl in_LA 7 (by decide) wf_SF_265 rfl d_SF_writeLogged_74 ?_
      refine lv_aload_n hx hb d_SF_writeLogged_77 rfl (lv_at hl 1 rfl) ?_
      refine g_get cx wo m0 (cel_0 E ad n σ11) rfl in_SF 9 (by decide) wf_SF_50 rfl d_SF_writeLogged_78 ?_
      obtain ⟨⟨σ13, x12⟩, hcx12, hD⟩ := bd_s hD
      try dsimp only [nm2] at hD
      refine call_Vi cx wo (k_SF_putColumn_7 l E ad n L (fun a h => hL a ((by decide : ∀ a ∈ ([0, 1, 2, 3, 4, 7, 11, 12, 13, 14, 15] : List Nat), a ∈ ([0, 1, 2, 3, 4, 6, 7, 8, 11, 12, 13, 14, 15] : List Nat)) a h)) F σ11 σ13 p1 (σ11.1 1 7) x12 hcx12) m0 (cel_0 E ad n σ11) rfl rfl mw_SF_putColumn wm_SF_216 ⟨by decide, by decide⟩ ⟨by decide, by decide⟩ hl.1 rfl (Nat.le_of_ble_eq_true rfl) d_SF_writeLogged_81 (fun H locs wo => ?_)
      refine lv_if_eq (tgt := 104) hx hb d_SF_writeLogged_84 (by decide) (fun c14 => ?_) (fun c14 => ?_)
      · have hD := ite_p hD c14
        refine lv_iconst (v := 0) hx hb d_SF_writeLogged_104 (by decide) ?_
        cases hD
        exact t_ireti cx wo rfl rfl d_SF_writeLogged_105
      · have hD := ite_n hD c14
        refine lv_aload_n hx hb d_SF_writeLogged_87 rfl (lv_at hl 1 rfl) ?_
        refine lv_iload_n hx hb d_SF_writeLogged_88 rfl (lv_at hl 0 rfl) ?_
        refine lv_aload_n hx hb d_SF_writeLogged_89 rfl (lv_at hl 1 rfl) ?_
        refine g_get cx wo m0 (cel_0 E ad n σ13) rfl in_SF 10 (by decide) wf_SF_53 rfl d_SF_writeLogged_90 ?_
        refine lv_iconst (v := 0) hx hb d_SF_writeLogged_93 (by decide) ?_
        obtain ⟨⟨σ16, x15⟩, hcx15, hD⟩ := bd_s hD
        try dsimp only [nm2] at hD
        refine call_Vi cx wo (k_SF_putCell_8 l E ad n L (fun a h => hL a ((by decide : ∀ a ∈ ([0, 2, 4, 8, 11, 12, 13, 14] : List Nat), a ∈ ([0, 1, 2, 3, 4, 6, 7, 8, 11, 12, 13, 14, 15] : List Nat)) a h)) F σ13 σ16 x3 (0 : Int32) x15 hcx15) m0 (cel_0 E ad n σ13) rfl rfl mw_SF_putCell wm_SF_203 ⟨by decide, by decide⟩ ⟨by decide, by decide⟩ hl.1 rfl (Nat.le_of_ble_eq_true rfl) d_SF_writeLogged_94 (fun H locs wo => ?_)
        refine lv_if_eq (tgt := 104) hx hb d_SF_writeLogged_97 (by decide) (fun c17 => ?_) (fun c17 => ?_)
        · have hD := ite_p hD c17
          refine lv_iconst (v := 0) hx hb d_SF_writeLogged_104 (by decide) ?_
          cases hD
          exact t_ireti cx wo rfl rfl d_SF_writeLogged_105
        · have hD := ite_n hD c17
          refine lv_iconst (v := 1) hx hb d_SF_writeLogged_100 (by decide) ?_
          refine lv_goto (tgt := 105) hx hb d_SF_writeLogged_101 (by decide) ?_
          cases hD
          exact t_ireti cx wo rfl rfl d_SF_writeLogged_105
    · have hD := ite_p hD c9
      refine lv_iconst (v := 0) hx hb d_SF_writeLogged_62 (by decide) ?_
      cases hD
      exact t_ireti cx wo rfl rfl d_SF_writeLogged_63
  · have hD := ite_p hD c6
    refine lv_iconst (v := 0) hx hb d_SF_writeLogged_47 (by decide) ?_
    cases hD
    exact t_ireti cx wo rfl rfl d_SF_writeLogged_48
def D_SF_writeFresh_L37 (F : Nat) (n : Nat → Nat) (p1 : Int32) (p2 : Int32) : Nat → HS → Int32 → Option (HS)
  | 0, _, _ => none
  | k7 + 1, σ5, x8 =>
      (if (σ5.1 1 7) ≤ x8 then
          some σ5
        else
          (if x8 = p2 then
            nm (x8 + (1 : Int32)) (fun x11 =>
            D_SF_writeFresh_L37 F n p1 p2 k7 σ5 x11)
          else
            (D_SF_addRead F n σ5 p1 x8).bind (fun (σ13 : HS) =>
            nm (x8 + (1 : Int32)) (fun x14 =>
            D_SF_writeFresh_L37 F n p1 p2 k7 σ13 x14))))
def D_SF_writeFresh (F : Nat) (n : Nat → Nat) (σ : HS) (p1 : Int32) (p2 : Int32) : Option (HS × Int32) :=
(D_AR_fillJ_7 F n σ (0 : Int64)).bind (fun (σ2 : HS) =>
  (D_SF_placeOf F n σ2 p1 (σ2.1 1 7)).bind (fun (x3 : Int32) =>
  (if x3 = (-1 : Int32) then
    (D_SF_putColumn_6 F n σ2 p1 p2).bind (fun (qx29 : HS × Int32) => nm2 qx29 (fun (σ30 : HS) (x29 : Int32) =>
    grd (isB x29) (
    some (σ30, x29))))
  else
    (D_SF_writeFresh_L37 F n p1 p2 F σ2 (0 : Int32)).bind (fun (σ15 : HS) =>
    (D_SF_placeOf F n σ15 p1 p2).bind (fun (x19 : Int32) =>
      (if x19 = (-1 : Int32) then
        (D_SF_addFresh F n σ15 ).bind (fun (σ25 : HS) =>
        (D_SF_putColumn_7 F n σ25 p1 (σ25.1 1 7)).bind (fun (qx26 : HS × Int32) => nm2 qx26 (fun (σ27 : HS) (x26 : Int32) =>
        grd (isB x26) (
        some (σ27, x26)))))
      else
        (D_SF_writeLogged F n σ15 p1 p2).bind (fun (qx21 : HS × Int32) => nm2 qx21 (fun (σ22 : HS) (x21 : Int32) =>
        grd (isB x21) (
        some (σ22, x21))))))))))
set_option maxRecDepth 100000 in
set_option maxHeartbeats 4000000 in
theorem k_SF_writeFresh (l : Launch) (E : EV) (ad n : Nat → Nat) (L : List Nat) (hL : ∀ a ∈ ([0, 1, 2, 3, 4, 6, 7, 8, 11, 12, 13, 14, 15] : List Nat), a ∈ L) (F : Nat) (σ σo : HS) (p1 : Int32) (p2 : Int32) (r : Int32) (hD : D_SF_writeFresh F n σ p1 p2 = some (σo, r)) : CtI l E y_SF_writeFresh c_SF_writeFresh 4 (some FieldType.boolean) ({ frames := 5, cells := 0, slots := 0, locals := 119 }) [.ref (ad 0), .int p1, .int p2] (wl E ad n L σ) r (wl E ad n L σo) := by
  refine fun sz => ent (by decide) (Nat.le_of_ble_eq_true rfl) ?_
  intro p e s m below meth c hsz cx wo ls hl
  have hx := cx.1.1
  have hb := cx.1.2.1
  have hown := cx.1.2.2.2.1
  have hts := cx.1.2.2.2.2
  have hl : lv_has ls 4 [(0, .ref (ad 0)), (1, .int p1), (2, .int p2)] := hl
  have m0 : 0 ∈ L := hL 0 (by decide)
  have m1 : 1 ∈ L := hL 1 (by decide)
  have m2 : 2 ∈ L := hL 2 (by decide)
  have m3 : 3 ∈ L := hL 3 (by decide)
  have m4 : 4 ∈ L := hL 4 (by decide)
  have m6 : 6 ∈ L := hL 6 (by decide)
  have m7 : 7 ∈ L := hL 7 (by decide)
  have m8 : 8 ∈ L := hL 8 (by decide)
  have m11 : 11 ∈ L := hL 11 (by decide)
  have m12 : 12 ∈ L := hL 12 (by decide)
  have m13 : 13 ∈ L := hL 13 (by decide)
  have m14 : 14 ∈ L := hL 14 (by decide)
  have m15 : 15 ∈ L := hL 15 (by decide)
  rw [D_SF_writeFresh] at hD
  refine lv_aload_n hx hb d_SF_writeFresh_0 rfl (lv_at hl 0 rfl) ?_
  refine g_get cx wo m0 (cel_0 E ad n σ) rfl in_SF 9 (by decide) wf_SF_50 rfl d_SF_writeFresh_1 ?_
  refine lv_lconst (v := 0) hx hb d_SF_writeFresh_4 (by decide) ?_
  obtain ⟨σ2, hcx1, hD⟩ := bd_s hD
  try dsimp only [nm2] at hD
  refine call_Sv cx wo (k_AR_fillJ_7 l E ad n L (fun a h => hL a ((by decide : ∀ a ∈ ([7] : List Nat), a ∈ ([0, 1, 2, 3, 4, 6, 7, 8, 11, 12, 13, 14, 15] : List Nat)) a h)) F σ σ2 (0 : Int64) hcx1) mw_AR_fillJ wm_SF_103 ⟨by decide, by decide⟩ ⟨by decide, by decide⟩ hl.1 rfl (Nat.le_of_ble_eq_true rfl) d_SF_writeFresh_5 (fun H locs wo => ?_)
  refine lv_aload_n hx hb d_SF_writeFresh_8 rfl (lv_at hl 0 rfl) ?_
  refine lv_iload_n hx hb d_SF_writeFresh_9 rfl (lv_at hl 1 rfl) ?_
  refine lv_aload_n hx hb d_SF_writeFresh_10 rfl (lv_at hl 0 rfl) ?_
  refine g_get cx wo m0 (cel_0 E ad n σ2) rfl in_SF 0 (by decide) wf_SF_12 rfl d_SF_writeFresh_11 ?_
  refine g_get cx wo m1 (cel_1 E ad n σ2) rfl in_LA 7 (by decide) wf_SF_265 rfl d_SF_writeFresh_14 ?_
  obtain ⟨x3, hcx3, hD⟩ := bd_s hD
  try dsimp only [nm2] at hD
  refine call_Vi cx wo (k_SF_placeOf l E ad n L (fun a h => hL a ((by decide : ∀ a ∈ ([0, 1, 3, 15] : List Nat), a ∈ ([0, 1, 2, 3, 4, 6, 7, 8, 11, 12, 13, 14, 15] : List Nat)) a h)) F σ2  p1 (σ2.1 1 7) x3 hcx3) m0 (cel_0 E ad n σ2) rfl rfl mw_SF_placeOf wm_SF_268 ⟨by decide, by decide⟩ ⟨by decide, by decide⟩ hl.1 rfl (Nat.le_of_ble_eq_true rfl) d_SF_writeFresh_17 (fun H locs wo => ?_)
  refine lv_iconst (v := -1) hx hb d_SF_writeFresh_20 (by decide) ?_
  refine lv_icmp_ne (tgt := 35) hx hb d_SF_writeFresh_21 (by decide) (fun c4 => ?_) (fun c4 => ?_)
  · have hD := ite_n hD c4
    refine lv_iconst (v := 0) hx hb d_SF_writeFresh_35 (by decide) ?_
    refine lv_istore_n (lv' := [(3, .int (0 : Int32)), (0, .ref (ad 0)), (1, .int p1), (2, .int p2)]) hx hb d_SF_writeFresh_36 rfl hl (by decide) rfl (fun ls hl => ?_)
    have lp16 : ∀ (k7 : Nat) (σ5 : HS) (x8 : Int32) (H : Heap) (locs : List Loc) (ls : Array Slot) (res6 : HS), D_SF_writeFresh_L37 F n p1 p2 k7 σ5 x8 = some res6 → (∀ (σ15 : HS) (H : Heap) (locs : List Loc) (ls : Array Slot), res6 = σ15 → Wo E (va_A (wl E ad n L σ) sz) s.heap (wl E ad n L σ15) H locs → lv_has ls 4 [(0, .ref (ad 0)), (1, .int p1), (2, .int p2)] → W p l e ({ frames := 5, cells := 0, slots := 0, locals := 119 }) s m ([.ref (ad 0), .int p1, .int p2] : List Value).toArray below meth c H locs 0 0 (MQ below (va_Qi (fun (x : Int32) (_ : Unit) => x = r) (fun _ t => va_P E.1 cls6 (wl E ad n L σo) t.heap ∧ va_D (va_A (wl E ad n L σ) sz) (wl E ad n L σo)) (va_A (wl E ad n L σ) sz)) ([.ref (ad 0), .int p1, .int p2] : List Value).toArray s 0 0 (va_A (wl E ad n L σ) sz)) (F0 m 65 ls [])) → Wo E (va_A (wl E ad n L σ) sz) s.heap (wl E ad n L σ5) H locs → lv_has ls 4 [(3, .int x8), (0, .ref (ad 0)), (1, .int p1), (2, .int p2)] → W p l e ({ frames := 5, cells := 0, slots := 0, locals := 119 }) s m ([.ref (ad 0), .int p1, .int p2] : List Value).toArray below meth c H locs 0 0 (MQ below (va_Qi (fun (x : Int32) (_ : Unit) => x = r) (fun _ t => va_P E.1 cls6 (wl E ad n L σo) t.heap ∧ va_D (va_A (wl E ad n L σ) sz) (wl E ad n L σo)) (va_A (wl E ad n L σ) sz)) ([.ref (ad 0), .int p1, .int p2] : List Value).toArray s 0 0 (va_A (wl E ad n L σ) sz)) (F0 m 37 ls []) := by
      intro k7
      induction k7 with
      | zero =>
        intro σ5 x8 H locs ls res6 hD
        rw [D_SF_writeFresh_L37.eq_1] at hD
        cases hD
      | succ k7 ih =>
        intro σ5 x8 H locs ls res6 hD hex wo hl
        rw [D_SF_writeFresh_L37.eq_2] at hD
        refine lv_iload_n hx hb d_SF_writeFresh_37 rfl (lv_at hl 0 rfl) ?_
        refine lv_aload_n hx hb d_SF_writeFresh_38 rfl (lv_at hl 1 rfl) ?_
        refine g_get cx wo m0 (cel_0 E ad n σ5) rfl in_SF 0 (by decide) wf_SF_12 rfl d_SF_writeFresh_39 ?_
        refine g_get cx wo m1 (cel_1 E ad n σ5) rfl in_LA 7 (by decide) wf_SF_265 rfl d_SF_writeFresh_42 ?_
        refine lv_icmp_ge (tgt := 65) hx hb d_SF_writeFresh_45 (by decide) (fun c9 => ?_) (fun c9 => ?_)
        · have hD := ite_p hD c9
          exact hex σ5 _ _ _ (Option.some.inj hD).symm wo (lv_sub hl [1, 2, 3] rfl)
        · have hD := ite_n hD c9
          refine lv_iload_n hx hb d_SF_writeFresh_48 rfl (lv_at hl 0 rfl) ?_
          refine lv_iload_n hx hb d_SF_writeFresh_49 rfl (lv_at hl 3 rfl) ?_
          refine lv_icmp_eq (tgt := 59) hx hb d_SF_writeFresh_50 (by decide) (fun c10 => ?_) (fun c10 => ?_)
          · have hD := ite_p hD c10
            obtain ⟨x11, ex11⟩ : ∃ y : Int32, y = x8 + (1 : Int32) := ⟨_, rfl⟩
            have hD := nm_at hD ex11
            try dsimp only at hD
            refine lv_iinc (v := x11) (lv' := [(3, .int x11), (0, .ref (ad 0)), (1, .int p1), (2, .int p2)]) hx hb d_SF_writeFresh_59 hl (k := 0) rfl (by rw [ex11]; rfl) (by decide) rfl (fun ls hl => ?_)
            refine lv_goto (tgt := 37) hx hb d_SF_writeFresh_62 (by decide) ?_
            exact ih σ5 x11 _ _ _ _ hD hex wo (lv_sub hl [0, 1, 2, 3] rfl)
          · have hD := ite_n hD c10
            refine lv_aload_n hx hb d_SF_writeFresh_53 rfl (lv_at hl 1 rfl) ?_
            refine lv_iload_n hx hb d_SF_writeFresh_54 rfl (lv_at hl 2 rfl) ?_
            refine lv_iload_n hx hb d_SF_writeFresh_55 rfl (lv_at hl 0 rfl) ?_
            obtain ⟨σ13, hcx12, hD⟩ := bd_s hD
            try dsimp only [nm2] at hD
            refine call_Vv cx wo (k_SF_addRead l E ad n L (fun a h => hL a ((by decide : ∀ a ∈ ([0, 1, 2, 3, 7, 11, 14, 15] : List Nat), a ∈ ([0, 1, 2, 3, 4, 6, 7, 8, 11, 12, 13, 14, 15] : List Nat)) a h)) F σ5 σ13 p1 x8 hcx12) m0 (cel_0 E ad n σ5) rfl rfl mw_SF_addRead wm_SF_109 ⟨by decide, by decide⟩ ⟨by decide, by decide⟩ hl.1 rfl (Nat.le_of_ble_eq_true rfl) d_SF_writeFresh_56 (fun H locs wo => ?_)
            obtain ⟨x14, ex14⟩ : ∃ y : Int32, y = x8 + (1 : Int32) := ⟨_, rfl⟩
            have hD := nm_at hD ex14
            try dsimp only at hD
            refine lv_iinc (v := x14) (lv' := [(3, .int x14), (0, .ref (ad 0)), (1, .int p1), (2, .int p2)]) hx hb d_SF_writeFresh_59 hl (k := 0) rfl (by rw [ex14]; rfl) (by decide) rfl (fun ls hl => ?_)
            refine lv_goto (tgt := 37) hx hb d_SF_writeFresh_62 (by decide) ?_
            exact ih σ13 x14 _ _ _ _ hD hex wo (lv_sub hl [0, 1, 2, 3] rfl)
    obtain ⟨res17, hr18, hD⟩ := bd_s hD
    refine lp16 F σ2 (0 : Int32) _ _ _ _ hr18 (fun σ15 H locs ls hz wo hl => ?_) wo (lv_sub hl [0, 1, 2, 3] rfl)
    have hz := hz.symm
    subst hz
    try dsimp only at hD
    refine lv_aload_n hx hb d_SF_writeFresh_65 rfl (lv_at hl 0 rfl) ?_
    refine lv_iload_n hx hb d_SF_writeFresh_66 rfl (lv_at hl 1 rfl) ?_
    refine lv_iload_n hx hb d_SF_writeFresh_67 rfl (lv_at hl 2 rfl) ?_
    obtain ⟨x19, hcx19, hD⟩ := bd_s hD
    try dsimp only [nm2] at hD
    refine call_Vi cx wo (k_SF_placeOf l E ad n L (fun a h => hL a ((by decide : ∀ a ∈ ([0, 1, 3, 15] : List Nat), a ∈ ([0, 1, 2, 3, 4, 6, 7, 8, 11, 12, 13, 14, 15] : List Nat)) a h)) F σ15  p1 p2 x19 hcx19) m0 (cel_0 E ad n σ15) rfl rfl mw_SF_placeOf wm_SF_268 ⟨by decide, by decide⟩ ⟨by decide, by decide⟩ hl.1 rfl (Nat.le_of_ble_eq_true rfl) d_SF_writeFresh_68 (fun H locs wo => ?_)
    refine lv_iconst (v := -1) hx hb d_SF_writeFresh_71 (by decide) ?_
    refine lv_icmp_ne (tgt := 96) hx hb d_SF_writeFresh_72 (by decide) (fun c20 => ?_) (fun c20 => ?_)
    · have hD := ite_n hD c20
      refine lv_aload_n hx hb d_SF_writeFresh_96 rfl (lv_at hl 0 rfl) ?_
      refine lv_iload_n hx hb d_SF_writeFresh_97 rfl (lv_at hl 1 rfl) ?_
      refine lv_iload_n hx hb d_SF_writeFresh_98 rfl (lv_at hl 2 rfl) ?_
      obtain ⟨⟨σ22, x21⟩, hcx21, hD⟩ := bd_s hD
      try dsimp only [nm2] at hD
      refine call_Vi cx wo (k_SF_writeLogged l E ad n L (fun a h => hL a ((by decide : ∀ a ∈ ([0, 1, 2, 3, 4, 6, 7, 8, 11, 12, 13, 14, 15] : List Nat), a ∈ ([0, 1, 2, 3, 4, 6, 7, 8, 11, 12, 13, 14, 15] : List Nat)) a h)) F σ15 σ22 p1 p2 x21 hcx21) m0 (cel_0 E ad n σ15) rfl rfl mw_SF_writeLogged wm_SF_274 ⟨by decide, by decide⟩ ⟨by decide, by decide⟩ hl.1 rfl (Nat.le_of_ble_eq_true rfl) d_SF_writeFresh_99 (fun H locs wo => ?_)
      obtain ⟨g23, hD⟩ := grd_s hD
      cases hD
      exact t_ireti cx wo (isB_n g23) rfl d_SF_writeFresh_102
    · have hD := ite_p hD c20
      refine lv_aload_n hx hb d_SF_writeFresh_75 rfl (lv_at hl 0 rfl) ?_
      obtain ⟨σ25, hcx24, hD⟩ := bd_s hD
      try dsimp only [nm2] at hD
      refine call_Vv cx wo (k_SF_addFresh l E ad n L (fun a h => hL a ((by decide : ∀ a ∈ ([0, 6, 7] : List Nat), a ∈ ([0, 1, 2, 3, 4, 6, 7, 8, 11, 12, 13, 14, 15] : List Nat)) a h)) F σ15 σ25  hcx24) m0 (cel_0 E ad n σ15) rfl rfl mw_SF_addFresh wm_SF_271 ⟨by decide, by decide⟩ ⟨by decide, by decide⟩ hl.1 rfl (Nat.le_of_ble_eq_true rfl) d_SF_writeFresh_76 (fun H locs wo => ?_)
      refine lv_aload_n hx hb d_SF_writeFresh_79 rfl (lv_at hl 0 rfl) ?_
      refine lv_iload_n hx hb d_SF_writeFresh_80 rfl (lv_at hl 1 rfl) ?_
      refine lv_aload_n hx hb d_SF_writeFresh_81 rfl (lv_at hl 0 rfl) ?_
      refine g_get cx wo m0 (cel_0 E ad n σ25) rfl in_SF 0 (by decide) wf_SF_12 rfl d_SF_writeFresh_82 ?_
      refine g_get cx wo m1 (cel_1 E ad n σ25) rfl in_LA 7 (by decide) wf_SF_265 rfl d_SF_writeFresh_85 ?_
      refine lv_aload_n hx hb d_SF_writeFresh_88 rfl (lv_at hl 0 rfl) ?_
      refine g_get cx wo m0 (cel_0 E ad n σ25) rfl in_SF 9 (by decide) wf_SF_50 rfl d_SF_writeFresh_89 ?_
      obtain ⟨⟨σ27, x26⟩, hcx26, hD⟩ := bd_s hD
      try dsimp only [nm2] at hD
      refine call_Vi cx wo (k_SF_putColumn_7 l E ad n L (fun a h => hL a ((by decide : ∀ a ∈ ([0, 1, 2, 3, 4, 7, 11, 12, 13, 14, 15] : List Nat), a ∈ ([0, 1, 2, 3, 4, 6, 7, 8, 11, 12, 13, 14, 15] : List Nat)) a h)) F σ25 σ27 p1 (σ25.1 1 7) x26 hcx26) m0 (cel_0 E ad n σ25) rfl rfl mw_SF_putColumn wm_SF_216 ⟨by decide, by decide⟩ ⟨by decide, by decide⟩ hl.1 rfl (Nat.le_of_ble_eq_true rfl) d_SF_writeFresh_92 (fun H locs wo => ?_)
      obtain ⟨g28, hD⟩ := grd_s hD
      cases hD
      exact t_ireti cx wo (isB_n g28) rfl d_SF_writeFresh_95
  · have hD := ite_p hD c4
    refine lv_aload_n hx hb d_SF_writeFresh_24 rfl (lv_at hl 0 rfl) ?_
    refine lv_iload_n hx hb d_SF_writeFresh_25 rfl (lv_at hl 1 rfl) ?_
    refine lv_iload_n hx hb d_SF_writeFresh_26 rfl (lv_at hl 2 rfl) ?_
    refine lv_aload_n hx hb d_SF_writeFresh_27 rfl (lv_at hl 0 rfl) ?_
    refine g_get cx wo m0 (cel_0 E ad n σ2) rfl in_SF 8 (by decide) wf_SF_47 rfl d_SF_writeFresh_28 ?_
    obtain ⟨⟨σ30, x29⟩, hcx29, hD⟩ := bd_s hD
    try dsimp only [nm2] at hD
    refine call_Vi cx wo (k_SF_putColumn_6 l E ad n L (fun a h => hL a ((by decide : ∀ a ∈ ([0, 1, 2, 3, 4, 6, 11, 12, 13, 14, 15] : List Nat), a ∈ ([0, 1, 2, 3, 4, 6, 7, 8, 11, 12, 13, 14, 15] : List Nat)) a h)) F σ2 σ30 p1 p2 x29 hcx29) m0 (cel_0 E ad n σ2) rfl rfl mw_SF_putColumn wm_SF_216 ⟨by decide, by decide⟩ ⟨by decide, by decide⟩ hl.1 rfl (Nat.le_of_ble_eq_true rfl) d_SF_writeFresh_31 (fun H locs wo => ?_)
    obtain ⟨g31, hD⟩ := grd_s hD
    cases hD
    exact t_ireti cx wo (isB_n g31) rfl d_SF_writeFresh_34
def D_SF_moveTo (F : Nat) (n : Nat → Nat) (σ : HS) (p1 : Int32) (p2 : Int32) : Option (HS × Int32) :=
(D_AR_fillJ_7 F n σ (0 : Int64)).bind (fun (σ2 : HS) =>
  (D_LA_stripeOfSlot F n σ2 p1).bind (fun (x3 : Int32) =>
  (D_LA_columnOfSlot F n σ2 p1).bind (fun (x4 : Int32) =>
  (D_SF_addRead F n σ2 x3 x4).bind (fun (σ6 : HS) =>
  (D_LA_tagOf F n σ6 p1).bind (fun (x7 : Int32) =>
  (D_SF_putCell_7 F n σ6 p2 x7).bind (fun (qx8 : HS × Int32) => nm2 qx8 (fun (σ9 : HS) (x8 : Int32) =>
  (if x8 = 0 then
    some (σ9, (0 : Int32))
  else
    (D_PL_move F n σ9 p1 p2).bind (fun (σ12 : HS) =>
    some (σ12, (1 : Int32)))))))))))
set_option maxRecDepth 100000 in
set_option maxHeartbeats 4000000 in
theorem k_SF_moveTo (l : Launch) (E : EV) (ad n : Nat → Nat) (L : List Nat) (hL : ∀ a ∈ ([0, 1, 2, 3, 4, 7, 11, 12, 13, 14, 15, 16] : List Nat), a ∈ L) (F : Nat) (σ σo : HS) (p1 : Int32) (p2 : Int32) (r : Int32) (hD : D_SF_moveTo F n σ p1 p2 = some (σo, r)) : CtI l E y_SF_moveTo c_SF_moveTo 3 (some FieldType.boolean) ({ frames := 5, cells := 0, slots := 0, locals := 113 }) [.ref (ad 0), .int p1, .int p2] (wl E ad n L σ) r (wl E ad n L σo) := by
  refine fun sz => ent (by decide) (Nat.le_of_ble_eq_true rfl) ?_
  intro p e s m below meth c hsz cx wo ls hl
  have hx := cx.1.1
  have hb := cx.1.2.1
  have hown := cx.1.2.2.2.1
  have hts := cx.1.2.2.2.2
  have hl : lv_has ls 3 [(0, .ref (ad 0)), (1, .int p1), (2, .int p2)] := hl
  have m0 : 0 ∈ L := hL 0 (by decide)
  have m1 : 1 ∈ L := hL 1 (by decide)
  have m2 : 2 ∈ L := hL 2 (by decide)
  have m3 : 3 ∈ L := hL 3 (by decide)
  have m4 : 4 ∈ L := hL 4 (by decide)
  have m7 : 7 ∈ L := hL 7 (by decide)
  have m11 : 11 ∈ L := hL 11 (by decide)
  have m12 : 12 ∈ L := hL 12 (by decide)
  have m13 : 13 ∈ L := hL 13 (by decide)
  have m14 : 14 ∈ L := hL 14 (by decide)
  have m15 : 15 ∈ L := hL 15 (by decide)
  have m16 : 16 ∈ L := hL 16 (by decide)
  rw [D_SF_moveTo] at hD
  refine lv_aload_n hx hb d_SF_moveTo_0 rfl (lv_at hl 0 rfl) ?_
  refine g_get cx wo m0 (cel_0 E ad n σ) rfl in_SF 9 (by decide) wf_SF_50 rfl d_SF_moveTo_1 ?_
  refine lv_lconst (v := 0) hx hb d_SF_moveTo_4 (by decide) ?_
  obtain ⟨σ2, hcx1, hD⟩ := bd_s hD
  try dsimp only [nm2] at hD
  refine call_Sv cx wo (k_AR_fillJ_7 l E ad n L (fun a h => hL a ((by decide : ∀ a ∈ ([7] : List Nat), a ∈ ([0, 1, 2, 3, 4, 7, 11, 12, 13, 14, 15, 16] : List Nat)) a h)) F σ σ2 (0 : Int64) hcx1) mw_AR_fillJ wm_SF_103 ⟨by decide, by decide⟩ ⟨by decide, by decide⟩ hl.1 rfl (Nat.le_of_ble_eq_true rfl) d_SF_moveTo_5 (fun H locs wo => ?_)
  refine lv_aload_n hx hb d_SF_moveTo_8 rfl (lv_at hl 0 rfl) ?_
  refine lv_aload_n hx hb d_SF_moveTo_9 rfl (lv_at hl 0 rfl) ?_
  refine g_get cx wo m0 (cel_0 E ad n σ2) rfl in_SF 0 (by decide) wf_SF_12 rfl d_SF_moveTo_10 ?_
  refine lv_iload_n hx hb d_SF_moveTo_13 rfl (lv_at hl 1 rfl) ?_
  obtain ⟨x3, hcx3, hD⟩ := bd_s hD
  try dsimp only [nm2] at hD
  refine call_Vi cx wo (k_LA_stripeOfSlot l E ad n L (fun a h => hL a ((by decide : ∀ a ∈ ([1] : List Nat), a ∈ ([0, 1, 2, 3, 4, 7, 11, 12, 13, 14, 15, 16] : List Nat)) a h)) F σ2  p1 x3 hcx3) m1 (cel_1 E ad n σ2) rfl rfl mw_LA_stripeOfSlot wm_SF_300 ⟨by decide, by decide⟩ ⟨by decide, by decide⟩ hl.1 rfl (Nat.le_of_ble_eq_true rfl) d_SF_moveTo_14 (fun H locs wo => ?_)
  refine lv_aload_n hx hb d_SF_moveTo_17 rfl (lv_at hl 0 rfl) ?_
  refine g_get cx wo m0 (cel_0 E ad n σ2) rfl in_SF 0 (by decide) wf_SF_12 rfl d_SF_moveTo_18 ?_
  refine lv_iload_n hx hb d_SF_moveTo_21 rfl (lv_at hl 1 rfl) ?_
  obtain ⟨x4, hcx4, hD⟩ := bd_s hD
  try dsimp only [nm2] at hD
  refine call_Vi cx wo (k_LA_columnOfSlot l E ad n L (fun a h => hL a ((by decide : ∀ a ∈ ([1] : List Nat), a ∈ ([0, 1, 2, 3, 4, 7, 11, 12, 13, 14, 15, 16] : List Nat)) a h)) F σ2  p1 x4 hcx4) m1 (cel_1 E ad n σ2) rfl rfl mw_LA_columnOfSlot wm_SF_303 ⟨by decide, by decide⟩ ⟨by decide, by decide⟩ hl.1 rfl (Nat.le_of_ble_eq_true rfl) d_SF_moveTo_22 (fun H locs wo => ?_)
  obtain ⟨σ6, hcx5, hD⟩ := bd_s hD
  try dsimp only [nm2] at hD
  refine call_Vv cx wo (k_SF_addRead l E ad n L (fun a h => hL a ((by decide : ∀ a ∈ ([0, 1, 2, 3, 7, 11, 14, 15] : List Nat), a ∈ ([0, 1, 2, 3, 4, 7, 11, 12, 13, 14, 15, 16] : List Nat)) a h)) F σ2 σ6 x3 x4 hcx5) m0 (cel_0 E ad n σ2) rfl rfl mw_SF_addRead wm_SF_109 ⟨by decide, by decide⟩ ⟨by decide, by decide⟩ hl.1 rfl (Nat.le_of_ble_eq_true rfl) d_SF_moveTo_25 (fun H locs wo => ?_)
  refine lv_aload_n hx hb d_SF_moveTo_28 rfl (lv_at hl 0 rfl) ?_
  refine lv_iload_n hx hb d_SF_moveTo_29 rfl (lv_at hl 2 rfl) ?_
  refine lv_aload_n hx hb d_SF_moveTo_30 rfl (lv_at hl 0 rfl) ?_
  refine g_get cx wo m0 (cel_0 E ad n σ6) rfl in_SF 9 (by decide) wf_SF_50 rfl d_SF_moveTo_31 ?_
  refine lv_aload_n hx hb d_SF_moveTo_34 rfl (lv_at hl 0 rfl) ?_
  refine g_get cx wo m0 (cel_0 E ad n σ6) rfl in_SF 0 (by decide) wf_SF_12 rfl d_SF_moveTo_35 ?_
  refine lv_iload_n hx hb d_SF_moveTo_38 rfl (lv_at hl 1 rfl) ?_
  obtain ⟨x7, hcx7, hD⟩ := bd_s hD
  try dsimp only [nm2] at hD
  refine call_Vi cx wo (k_LA_tagOf l E ad n L (fun a h => hL a ((by decide : ∀ a ∈ ([1] : List Nat), a ∈ ([0, 1, 2, 3, 4, 7, 11, 12, 13, 14, 15, 16] : List Nat)) a h)) F σ6  p1 x7 hcx7) m1 (cel_1 E ad n σ6) rfl rfl mw_LA_tagOf wm_SF_297 ⟨by decide, by decide⟩ ⟨by decide, by decide⟩ hl.1 rfl (Nat.le_of_ble_eq_true rfl) d_SF_moveTo_39 (fun H locs wo => ?_)
  obtain ⟨⟨σ9, x8⟩, hcx8, hD⟩ := bd_s hD
  try dsimp only [nm2] at hD
  refine call_Vi cx wo (k_SF_putCell_7 l E ad n L (fun a h => hL a ((by decide : ∀ a ∈ ([0, 2, 4, 7, 11, 12, 13, 14] : List Nat), a ∈ ([0, 1, 2, 3, 4, 7, 11, 12, 13, 14, 15, 16] : List Nat)) a h)) F σ6 σ9 p2 x7 x8 hcx8) m0 (cel_0 E ad n σ6) rfl rfl mw_SF_putCell wm_SF_203 ⟨by decide, by decide⟩ ⟨by decide, by decide⟩ hl.1 rfl (Nat.le_of_ble_eq_true rfl) d_SF_moveTo_42 (fun H locs wo => ?_)
  refine lv_if_ne (tgt := 50) hx hb d_SF_moveTo_45 (by decide) (fun c10 => ?_) (fun c10 => ?_)
  · have hD := ite_n hD c10
    refine lv_aload_n hx hb d_SF_moveTo_50 rfl (lv_at hl 0 rfl) ?_
    refine g_get cx wo m0 (cel_0 E ad n σ9) rfl in_SF 2 (by decide) wf_SF_32 rfl d_SF_moveTo_51 ?_
    refine lv_iload_n hx hb d_SF_moveTo_54 rfl (lv_at hl 1 rfl) ?_
    refine lv_iload_n hx hb d_SF_moveTo_55 rfl (lv_at hl 2 rfl) ?_
    obtain ⟨σ12, hcx11, hD⟩ := bd_s hD
    try dsimp only [nm2] at hD
    refine call_Vv cx wo (k_PL_move l E ad n L (fun a h => hL a ((by decide : ∀ a ∈ ([3, 15, 16] : List Nat), a ∈ ([0, 1, 2, 3, 4, 7, 11, 12, 13, 14, 15, 16] : List Nat)) a h)) F σ9 σ12 p1 p2 hcx11) m3 (cel_3 E ad n σ9) rfl rfl mw_PL_move wm_SF_306 ⟨by decide, by decide⟩ ⟨by decide, by decide⟩ hl.1 rfl (Nat.le_of_ble_eq_true rfl) d_SF_moveTo_56 (fun H locs wo => ?_)
    refine lv_iconst (v := 1) hx hb d_SF_moveTo_59 (by decide) ?_
    cases hD
    exact t_ireti cx wo rfl rfl d_SF_moveTo_60
  · have hD := ite_p hD c10
    refine lv_iconst (v := 0) hx hb d_SF_moveTo_48 (by decide) ?_
    cases hD
    exact t_ireti cx wo rfl rfl d_SF_moveTo_49
def D_SF_canReplay (F : Nat) (n : Nat → Nat) (σ : HS) (p1 : Int32) (p2 : Int32) (p3 : Int32) : Option (Int32) :=
(if (σ.1 1 4) ≤ p2 then
    some (0 : Int32)
  else
    (if p3 < (σ.1 1 7) then
      (D_SF_placeOf F n σ p2 (σ.1 1 7)).bind (fun (x3 : Int32) =>
      (if x3 = (-1 : Int32) then
        some (0 : Int32)
      else
        (D_LA_diskOf F n σ x3).bind (fun (x5 : Int32) =>
        (if x5 = p1 then
          (D_SF_placeOf F n σ p2 p3).bind (fun (x7 : Int32) =>
          (D_RK_isValid F n σ x7).bind (fun (x8 : Int32) =>
          (if x8 = 0 then
            some (0 : Int32)
          else
            some (1 : Int32))))
        else
          some (0 : Int32)))))
    else
      some (0 : Int32)))
set_option maxRecDepth 100000 in
set_option maxHeartbeats 4000000 in
theorem k_SF_canReplay (l : Launch) (E : EV) (ad n : Nat → Nat) (L : List Nat) (hL : ∀ a ∈ ([0, 1, 2, 3, 14, 15] : List Nat), a ∈ L) (F : Nat) (σ  : HS) (p1 : Int32) (p2 : Int32) (p3 : Int32) (r : Int32) (hD : D_SF_canReplay F n σ p1 p2 p3 = some r) : CtI l E y_SF_canReplay c_SF_canReplay 5 (some FieldType.boolean) ({ frames := 3, cells := 0, slots := 0, locals := 66 }) [.ref (ad 0), .int p1, .int p2, .int p3] (wl E ad n L σ) r (wl E ad n L σ) := by
  refine fun sz => ent (by decide) (Nat.le_of_ble_eq_true rfl) ?_
  intro p e s m below meth c hsz cx wo ls hl
  have hx := cx.1.1
  have hb := cx.1.2.1
  have hown := cx.1.2.2.2.1
  have hts := cx.1.2.2.2.2
  have hl : lv_has ls 5 [(0, .ref (ad 0)), (1, .int p1), (2, .int p2), (3, .int p3)] := hl
  have m0 : 0 ∈ L := hL 0 (by decide)
  have m1 : 1 ∈ L := hL 1 (by decide)
  have m2 : 2 ∈ L := hL 2 (by decide)
  have m3 : 3 ∈ L := hL 3 (by decide)
  have m14 : 14 ∈ L := hL 14 (by decide)
  have m15 : 15 ∈ L := hL 15 (by decide)
  rw [D_SF_canReplay] at hD
  refine lv_iload_n hx hb d_SF_canReplay_0 rfl (lv_at hl 2 rfl) ?_
  refine lv_aload_n hx hb d_SF_canReplay_1 rfl (lv_at hl 0 rfl) ?_
  refine g_get cx wo m0 (cel_0 E ad n σ) rfl in_SF 0 (by decide) wf_SF_12 rfl d_SF_canReplay_2 ?_
  refine g_get cx wo m1 (cel_1 E ad n σ) rfl in_LA 4 (by decide) wf_SF_207 rfl d_SF_canReplay_5 ?_
  refine lv_icmp_ge (tgt := 22) hx hb d_SF_canReplay_8 (by decide) (fun c1 => ?_) (fun c1 => ?_)
  · have hD := ite_p hD c1
    refine lv_iconst (v := 0) hx hb d_SF_canReplay_22 (by decide) ?_
    cases hD
    exact t_ireti cx wo rfl rfl d_SF_canReplay_23
  · have hD := ite_n hD c1
    refine lv_iload_n hx hb d_SF_canReplay_11 rfl (lv_at hl 3 rfl) ?_
    refine lv_aload_n hx hb d_SF_canReplay_12 rfl (lv_at hl 0 rfl) ?_
    refine g_get cx wo m0 (cel_0 E ad n σ) rfl in_SF 0 (by decide) wf_SF_12 rfl d_SF_canReplay_13 ?_
    refine g_get cx wo m1 (cel_1 E ad n σ) rfl in_LA 7 (by decide) wf_SF_265 rfl d_SF_canReplay_16 ?_
    refine lv_icmp_lt (tgt := 24) hx hb d_SF_canReplay_19 (by decide) (fun c2 => ?_) (fun c2 => ?_)
    · have hD := ite_p hD c2
      refine lv_aload_n hx hb d_SF_canReplay_24 rfl (lv_at hl 0 rfl) ?_
      refine lv_iload_n hx hb d_SF_canReplay_25 rfl (lv_at hl 2 rfl) ?_
      refine lv_aload_n hx hb d_SF_canReplay_26 rfl (lv_at hl 0 rfl) ?_
      refine g_get cx wo m0 (cel_0 E ad n σ) rfl in_SF 0 (by decide) wf_SF_12 rfl d_SF_canReplay_27 ?_
      refine g_get cx wo m1 (cel_1 E ad n σ) rfl in_LA 7 (by decide) wf_SF_265 rfl d_SF_canReplay_30 ?_
      obtain ⟨x3, hcx3, hD⟩ := bd_s hD
      try dsimp only [nm2] at hD
      refine call_Vi cx wo (k_SF_placeOf l E ad n L (fun a h => hL a ((by decide : ∀ a ∈ ([0, 1, 3, 15] : List Nat), a ∈ ([0, 1, 2, 3, 14, 15] : List Nat)) a h)) F σ  p2 (σ.1 1 7) x3 hcx3) m0 (cel_0 E ad n σ) rfl rfl mw_SF_placeOf wm_SF_268 ⟨by decide, by decide⟩ ⟨by decide, by decide⟩ hl.1 rfl (Nat.le_of_ble_eq_true rfl) d_SF_canReplay_33 (fun H locs wo => ?_)
      refine lv_istore (lv' := [(4, .int x3), (0, .ref (ad 0)), (1, .int p1), (2, .int p2), (3, .int p3)]) hx hb d_SF_canReplay_36 hl (by decide) rfl (fun ls hl => ?_)
      refine lv_iload hx hb d_SF_canReplay_38 (lv_at hl 0 rfl) ?_
      refine lv_iconst (v := -1) hx hb d_SF_canReplay_40 (by decide) ?_
      refine lv_icmp_eq (tgt := 77) hx hb d_SF_canReplay_41 (by decide) (fun c4 => ?_) (fun c4 => ?_)
      · have hD := ite_p hD c4
        refine lv_iconst (v := 0) hx hb d_SF_canReplay_77 (by decide) ?_
        cases hD
        exact t_ireti cx wo rfl rfl d_SF_canReplay_78
      · have hD := ite_n hD c4
        refine lv_aload_n hx hb d_SF_canReplay_44 rfl (lv_at hl 1 rfl) ?_
        refine g_get cx wo m0 (cel_0 E ad n σ) rfl in_SF 0 (by decide) wf_SF_12 rfl d_SF_canReplay_45 ?_
        refine lv_iload hx hb d_SF_canReplay_48 (lv_at hl 0 rfl) ?_
        obtain ⟨x5, hcx5, hD⟩ := bd_s hD
        try dsimp only [nm2] at hD
        refine call_Vi cx wo (k_LA_diskOf l E ad n L (fun a h => hL a ((by decide : ∀ a ∈ ([1] : List Nat), a ∈ ([0, 1, 2, 3, 14, 15] : List Nat)) a h)) F σ  x3 x5 hcx5) m1 (cel_1 E ad n σ) rfl rfl mw_LA_diskOf wm_SF_256 ⟨by decide, by decide⟩ ⟨by decide, by decide⟩ hl.1 rfl (Nat.le_of_ble_eq_true rfl) d_SF_canReplay_50 (fun H locs wo => ?_)
        refine lv_iload_n hx hb d_SF_canReplay_53 rfl (lv_at hl 2 rfl) ?_
        refine lv_icmp_ne (tgt := 77) hx hb d_SF_canReplay_54 (by decide) (fun c6 => ?_) (fun c6 => ?_)
        · have hD := ite_n hD c6
          refine lv_iconst (v := 0) hx hb d_SF_canReplay_77 (by decide) ?_
          cases hD
          exact t_ireti cx wo rfl rfl d_SF_canReplay_78
        · have hD := ite_p hD c6
          refine lv_aload_n hx hb d_SF_canReplay_57 rfl (lv_at hl 1 rfl) ?_
          refine g_get cx wo m0 (cel_0 E ad n σ) rfl in_SF 1 (by decide) wf_SF_23 rfl d_SF_canReplay_58 ?_
          refine lv_aload_n hx hb d_SF_canReplay_61 rfl (lv_at hl 1 rfl) ?_
          refine lv_iload_n hx hb d_SF_canReplay_62 rfl (lv_at hl 3 rfl) ?_
          refine lv_iload_n hx hb d_SF_canReplay_63 rfl (lv_at hl 4 rfl) ?_
          obtain ⟨x7, hcx7, hD⟩ := bd_s hD
          try dsimp only [nm2] at hD
          refine call_Vi cx wo (k_SF_placeOf l E ad n L (fun a h => hL a ((by decide : ∀ a ∈ ([0, 1, 3, 15] : List Nat), a ∈ ([0, 1, 2, 3, 14, 15] : List Nat)) a h)) F σ  p2 p3 x7 hcx7) m0 (cel_0 E ad n σ) rfl rfl mw_SF_placeOf wm_SF_268 ⟨by decide, by decide⟩ ⟨by decide, by decide⟩ hl.1 rfl (Nat.le_of_ble_eq_true rfl) d_SF_canReplay_64 (fun H locs wo => ?_)
          obtain ⟨x8, hcx8, hD⟩ := bd_s hD
          try dsimp only [nm2] at hD
          refine call_Vi cx wo (k_RK_isValid l E ad n L (fun a h => hL a ((by decide : ∀ a ∈ ([2, 14] : List Nat), a ∈ ([0, 1, 2, 3, 14, 15] : List Nat)) a h)) F σ  x7 x8 hcx8) m2 (cel_2 E ad n σ) rfl rfl mw_RK_isValid wm_SF_280 ⟨by decide, by decide⟩ ⟨by decide, by decide⟩ hl.1 rfl (Nat.le_of_ble_eq_true rfl) d_SF_canReplay_67 (fun H locs wo => ?_)
          refine lv_if_eq (tgt := 77) hx hb d_SF_canReplay_70 (by decide) (fun c9 => ?_) (fun c9 => ?_)
          · have hD := ite_p hD c9
            refine lv_iconst (v := 0) hx hb d_SF_canReplay_77 (by decide) ?_
            cases hD
            exact t_ireti cx wo rfl rfl d_SF_canReplay_78
          · have hD := ite_n hD c9
            refine lv_iconst (v := 1) hx hb d_SF_canReplay_73 (by decide) ?_
            refine lv_goto (tgt := 78) hx hb d_SF_canReplay_74 (by decide) ?_
            cases hD
            exact t_ireti cx wo rfl rfl d_SF_canReplay_78
    · have hD := ite_n hD c2
      refine lv_iconst (v := 0) hx hb d_SF_canReplay_22 (by decide) ?_
      cases hD
      exact t_ireti cx wo rfl rfl d_SF_canReplay_23
def D_SF_replayLog (F : Nat) (n : Nat → Nat) (σ : HS) (p1 : Int32) (p2 : Int32) (p3 : Int32) : Option (HS × Int32) :=
nm (p3 / (8 : Int32)) (fun x1 =>
  nm (p3 - p3 / (8 : Int32) * (8 : Int32)) (fun x2 =>
  (D_SF_canReplay F n σ p1 x1 x2).bind (fun (x3 : Int32) =>
  (if x3 = 0 then
    (D_SF_putCell_8 F n σ p2 (0 : Int32)).bind (fun (qx5 : HS × Int32) => nm2 qx5 (fun (σ6 : HS) (x5 : Int32) =>
    grd (isB x5) (
    some (σ6, x5))))
  else
    (D_AR_fillJ_7 F n σ (0 : Int64)).bind (fun (σ9 : HS) =>
    (D_RK_addTo_7 F n σ9 p2).bind (fun (σ11 : HS) =>
    (D_SF_placeOf F n σ11 x1 x2).bind (fun (x12 : Int32) =>
    (D_RK_addTo_7 F n σ11 x12).bind (fun (σ14 : HS) =>
    (D_SF_putColumn_7 F n σ14 x1 (σ14.1 1 7)).bind (fun (qx15 : HS × Int32) => nm2 qx15 (fun (σ16 : HS) (x15 : Int32) =>
    (if x15 = 0 then
      some (σ16, (0 : Int32))
    else
      (D_SF_putCell_8 F n σ16 p2 (0 : Int32)).bind (fun (qx18 : HS × Int32) => nm2 qx18 (fun (σ19 : HS) (x18 : Int32) =>
      grd (isB x18) (
      some (σ19, x18)))))))))))))))
set_option maxRecDepth 100000 in
set_option maxHeartbeats 4000000 in
theorem k_SF_replayLog (l : Launch) (E : EV) (ad n : Nat → Nat) (L : List Nat) (hL : ∀ a ∈ ([0, 1, 2, 3, 4, 7, 8, 11, 12, 13, 14, 15] : List Nat), a ∈ L) (F : Nat) (σ σo : HS) (p1 : Int32) (p2 : Int32) (p3 : Int32) (r : Int32) (hD : D_SF_replayLog F n σ p1 p2 p3 = some (σo, r)) : CtI l E y_SF_replayLog c_SF_replayLog 6 (some FieldType.boolean) ({ frames := 4, cells := 0, slots := 0, locals := 96 }) [.ref (ad 0), .int p1, .int p2, .int p3] (wl E ad n L σ) r (wl E ad n L σo) := by
  refine fun sz => ent (by decide) (Nat.le_of_ble_eq_true rfl) ?_
  intro p e s m below meth c hsz cx wo ls hl
  have hx := cx.1.1
  have hb := cx.1.2.1
  have hown := cx.1.2.2.2.1
  have hts := cx.1.2.2.2.2
  have hl : lv_has ls 6 [(0, .ref (ad 0)), (1, .int p1), (2, .int p2), (3, .int p3)] := hl
  have m0 : 0 ∈ L := hL 0 (by decide)
  have m1 : 1 ∈ L := hL 1 (by decide)
  have m2 : 2 ∈ L := hL 2 (by decide)
  have m3 : 3 ∈ L := hL 3 (by decide)
  have m4 : 4 ∈ L := hL 4 (by decide)
  have m7 : 7 ∈ L := hL 7 (by decide)
  have m8 : 8 ∈ L := hL 8 (by decide)
  have m11 : 11 ∈ L := hL 11 (by decide)
  have m12 : 12 ∈ L := hL 12 (by decide)
  have m13 : 13 ∈ L := hL 13 (by decide)
  have m14 : 14 ∈ L := hL 14 (by decide)
  have m15 : 15 ∈ L := hL 15 (by decide)
  rw [D_SF_replayLog] at hD
  refine lv_iload_n hx hb d_SF_replayLog_0 rfl (lv_at hl 3 rfl) ?_
  refine lv_bipush (v := 8) hx hb d_SF_replayLog_1 (by decide) ?_
  refine lv_idiv hx hb d_SF_replayLog_3 (by decide) ?_
  refine lv_topi (fun x1 ex1 => ?_)
  have hD := nm_at hD ex1
  try dsimp only at hD
  refine lv_istore (lv' := [(4, .int x1), (0, .ref (ad 0)), (1, .int p1), (2, .int p2), (3, .int p3)]) hx hb d_SF_replayLog_4 hl (by decide) rfl (fun ls hl => ?_)
  refine lv_iload_n hx hb d_SF_replayLog_6 rfl (lv_at hl 4 rfl) ?_
  refine lv_bipush (v := 8) hx hb d_SF_replayLog_7 (by decide) ?_
  refine lv_irem hx hb d_SF_replayLog_9 (by decide) ?_
  refine lv_topi (fun x2 ex2 => ?_)
  have hD := nm_at hD ex2
  try dsimp only at hD
  refine lv_istore (lv' := [(5, .int x2), (4, .int x1), (0, .ref (ad 0)), (1, .int p1), (2, .int p2), (3, .int p3)]) hx hb d_SF_replayLog_10 hl (by decide) rfl (fun ls hl => ?_)
  refine lv_aload_n hx hb d_SF_replayLog_12 rfl (lv_at hl 2 rfl) ?_
  refine lv_iload_n hx hb d_SF_replayLog_13 rfl (lv_at hl 3 rfl) ?_
  refine lv_iload hx hb d_SF_replayLog_14 (lv_at hl 1 rfl) ?_
  refine lv_iload hx hb d_SF_replayLog_16 (lv_at hl 0 rfl) ?_
  obtain ⟨x3, hcx3, hD⟩ := bd_s hD
  try dsimp only [nm2] at hD
  refine call_Vi cx wo (k_SF_canReplay l E ad n L (fun a h => hL a ((by decide : ∀ a ∈ ([0, 1, 2, 3, 14, 15] : List Nat), a ∈ ([0, 1, 2, 3, 4, 7, 8, 11, 12, 13, 14, 15] : List Nat)) a h)) F σ  p1 x1 x2 x3 hcx3) m0 (cel_0 E ad n σ) rfl rfl mw_SF_canReplay wm_SF_316 ⟨by decide, by decide⟩ ⟨by decide, by decide⟩ hl.1 rfl (Nat.le_of_ble_eq_true rfl) d_SF_replayLog_18 (fun H locs wo => ?_)
  refine lv_if_eq (tgt := 85) hx hb d_SF_replayLog_21 (by decide) (fun c4 => ?_) (fun c4 => ?_)
  · have hD := ite_p hD c4
    refine lv_aload_n hx hb d_SF_replayLog_85 rfl (lv_at hl 2 rfl) ?_
    refine lv_iload_n hx hb d_SF_replayLog_86 rfl (lv_at hl 4 rfl) ?_
    refine lv_aload_n hx hb d_SF_replayLog_87 rfl (lv_at hl 2 rfl) ?_
    refine g_get cx wo m0 (cel_0 E ad n σ) rfl in_SF 10 (by decide) wf_SF_53 rfl d_SF_replayLog_88 ?_
    refine lv_iconst (v := 0) hx hb d_SF_replayLog_91 (by decide) ?_
    obtain ⟨⟨σ6, x5⟩, hcx5, hD⟩ := bd_s hD
    try dsimp only [nm2] at hD
    refine call_Vi cx wo (k_SF_putCell_8 l E ad n L (fun a h => hL a ((by decide : ∀ a ∈ ([0, 2, 4, 8, 11, 12, 13, 14] : List Nat), a ∈ ([0, 1, 2, 3, 4, 7, 8, 11, 12, 13, 14, 15] : List Nat)) a h)) F σ σ6 p2 (0 : Int32) x5 hcx5) m0 (cel_0 E ad n σ) rfl rfl mw_SF_putCell wm_SF_203 ⟨by decide, by decide⟩ ⟨by decide, by decide⟩ hl.1 rfl (Nat.le_of_ble_eq_true rfl) d_SF_replayLog_92 (fun H locs wo => ?_)
    obtain ⟨g7, hD⟩ := grd_s hD
    cases hD
    exact t_ireti cx wo (isB_n g7) rfl d_SF_replayLog_95
  · have hD := ite_n hD c4
    refine lv_aload_n hx hb d_SF_replayLog_24 rfl (lv_at hl 2 rfl) ?_
    refine g_get cx wo m0 (cel_0 E ad n σ) rfl in_SF 9 (by decide) wf_SF_50 rfl d_SF_replayLog_25 ?_
    refine lv_lconst (v := 0) hx hb d_SF_replayLog_28 (by decide) ?_
    obtain ⟨σ9, hcx8, hD⟩ := bd_s hD
    try dsimp only [nm2] at hD
    refine call_Sv cx wo (k_AR_fillJ_7 l E ad n L (fun a h => hL a ((by decide : ∀ a ∈ ([7] : List Nat), a ∈ ([0, 1, 2, 3, 4, 7, 8, 11, 12, 13, 14, 15] : List Nat)) a h)) F σ σ9 (0 : Int64) hcx8) mw_AR_fillJ wm_SF_103 ⟨by decide, by decide⟩ ⟨by decide, by decide⟩ hl.1 rfl (Nat.le_of_ble_eq_true rfl) d_SF_replayLog_29 (fun H locs wo => ?_)
    refine lv_aload_n hx hb d_SF_replayLog_32 rfl (lv_at hl 2 rfl) ?_
    refine g_get cx wo m0 (cel_0 E ad n σ9) rfl in_SF 1 (by decide) wf_SF_23 rfl d_SF_replayLog_33 ?_
    refine lv_aload_n hx hb d_SF_replayLog_36 rfl (lv_at hl 2 rfl) ?_
    refine g_get cx wo m0 (cel_0 E ad n σ9) rfl in_SF 9 (by decide) wf_SF_50 rfl d_SF_replayLog_37 ?_
    refine lv_iload_n hx hb d_SF_replayLog_40 rfl (lv_at hl 4 rfl) ?_
    obtain ⟨σ11, hcx10, hD⟩ := bd_s hD
    try dsimp only [nm2] at hD
    refine call_Vv cx wo (k_RK_addTo_7 l E ad n L (fun a h => hL a ((by decide : ∀ a ∈ ([2, 7, 11] : List Nat), a ∈ ([0, 1, 2, 3, 4, 7, 8, 11, 12, 13, 14, 15] : List Nat)) a h)) F σ9 σ11 p2 hcx10) m2 (cel_2 E ad n σ9) rfl rfl mw_RK_addTo wm_SF_283 ⟨by decide, by decide⟩ ⟨by decide, by decide⟩ hl.1 rfl (Nat.le_of_ble_eq_true rfl) d_SF_replayLog_41 (fun H locs wo => ?_)
    refine lv_aload_n hx hb d_SF_replayLog_44 rfl (lv_at hl 2 rfl) ?_
    refine g_get cx wo m0 (cel_0 E ad n σ11) rfl in_SF 1 (by decide) wf_SF_23 rfl d_SF_replayLog_45 ?_
    refine lv_aload_n hx hb d_SF_replayLog_48 rfl (lv_at hl 2 rfl) ?_
    refine g_get cx wo m0 (cel_0 E ad n σ11) rfl in_SF 9 (by decide) wf_SF_50 rfl d_SF_replayLog_49 ?_
    refine lv_aload_n hx hb d_SF_replayLog_52 rfl (lv_at hl 2 rfl) ?_
    refine lv_iload hx hb d_SF_replayLog_53 (lv_at hl 1 rfl) ?_
    refine lv_iload hx hb d_SF_replayLog_55 (lv_at hl 0 rfl) ?_
    obtain ⟨x12, hcx12, hD⟩ := bd_s hD
    try dsimp only [nm2] at hD
    refine call_Vi cx wo (k_SF_placeOf l E ad n L (fun a h => hL a ((by decide : ∀ a ∈ ([0, 1, 3, 15] : List Nat), a ∈ ([0, 1, 2, 3, 4, 7, 8, 11, 12, 13, 14, 15] : List Nat)) a h)) F σ11  x1 x2 x12 hcx12) m0 (cel_0 E ad n σ11) rfl rfl mw_SF_placeOf wm_SF_268 ⟨by decide, by decide⟩ ⟨by decide, by decide⟩ hl.1 rfl (Nat.le_of_ble_eq_true rfl) d_SF_replayLog_57 (fun H locs wo => ?_)
    obtain ⟨σ14, hcx13, hD⟩ := bd_s hD
    try dsimp only [nm2] at hD
    refine call_Vv cx wo (k_RK_addTo_7 l E ad n L (fun a h => hL a ((by decide : ∀ a ∈ ([2, 7, 11] : List Nat), a ∈ ([0, 1, 2, 3, 4, 7, 8, 11, 12, 13, 14, 15] : List Nat)) a h)) F σ11 σ14 x12 hcx13) m2 (cel_2 E ad n σ11) rfl rfl mw_RK_addTo wm_SF_283 ⟨by decide, by decide⟩ ⟨by decide, by decide⟩ hl.1 rfl (Nat.le_of_ble_eq_true rfl) d_SF_replayLog_60 (fun H locs wo => ?_)
    refine lv_aload_n hx hb d_SF_replayLog_63 rfl (lv_at hl 2 rfl) ?_
    refine lv_iload hx hb d_SF_replayLog_64 (lv_at hl 1 rfl) ?_
    refine lv_aload_n hx hb d_SF_replayLog_66 rfl (lv_at hl 2 rfl) ?_
    refine g_get cx wo m0 (cel_0 E ad n σ14) rfl in_SF 0 (by decide) wf_SF_12 rfl d_SF_replayLog_67 ?_
    refine g_get cx wo m1 (cel_1 E ad n σ14) rfl in_LA 7 (by decide) wf_SF_265 rfl d_SF_replayLog_70 ?_
    refine lv_aload_n hx hb d_SF_replayLog_73 rfl (lv_at hl 2 rfl) ?_
    refine g_get cx wo m0 (cel_0 E ad n σ14) rfl in_SF 9 (by decide) wf_SF_50 rfl d_SF_replayLog_74 ?_
    obtain ⟨⟨σ16, x15⟩, hcx15, hD⟩ := bd_s hD
    try dsimp only [nm2] at hD
    refine call_Vi cx wo (k_SF_putColumn_7 l E ad n L (fun a h => hL a ((by decide : ∀ a ∈ ([0, 1, 2, 3, 4, 7, 11, 12, 13, 14, 15] : List Nat), a ∈ ([0, 1, 2, 3, 4, 7, 8, 11, 12, 13, 14, 15] : List Nat)) a h)) F σ14 σ16 x1 (σ14.1 1 7) x15 hcx15) m0 (cel_0 E ad n σ14) rfl rfl mw_SF_putColumn wm_SF_216 ⟨by decide, by decide⟩ ⟨by decide, by decide⟩ hl.1 rfl (Nat.le_of_ble_eq_true rfl) d_SF_replayLog_77 (fun H locs wo => ?_)
    refine lv_if_ne (tgt := 85) hx hb d_SF_replayLog_80 (by decide) (fun c17 => ?_) (fun c17 => ?_)
    · have hD := ite_n hD c17
      refine lv_aload_n hx hb d_SF_replayLog_85 rfl (lv_at hl 2 rfl) ?_
      refine lv_iload_n hx hb d_SF_replayLog_86 rfl (lv_at hl 4 rfl) ?_
      refine lv_aload_n hx hb d_SF_replayLog_87 rfl (lv_at hl 2 rfl) ?_
      refine g_get cx wo m0 (cel_0 E ad n σ16) rfl in_SF 10 (by decide) wf_SF_53 rfl d_SF_replayLog_88 ?_
      refine lv_iconst (v := 0) hx hb d_SF_replayLog_91 (by decide) ?_
      obtain ⟨⟨σ19, x18⟩, hcx18, hD⟩ := bd_s hD
      try dsimp only [nm2] at hD
      refine call_Vi cx wo (k_SF_putCell_8 l E ad n L (fun a h => hL a ((by decide : ∀ a ∈ ([0, 2, 4, 8, 11, 12, 13, 14] : List Nat), a ∈ ([0, 1, 2, 3, 4, 7, 8, 11, 12, 13, 14, 15] : List Nat)) a h)) F σ16 σ19 p2 (0 : Int32) x18 hcx18) m0 (cel_0 E ad n σ16) rfl rfl mw_SF_putCell wm_SF_203 ⟨by decide, by decide⟩ ⟨by decide, by decide⟩ hl.1 rfl (Nat.le_of_ble_eq_true rfl) d_SF_replayLog_92 (fun H locs wo => ?_)
      obtain ⟨g20, hD⟩ := grd_s hD
      cases hD
      exact t_ireti cx wo (isB_n g20) rfl d_SF_replayLog_95
    · have hD := ite_p hD c17
      refine lv_iconst (v := 0) hx hb d_SF_replayLog_83 (by decide) ?_
      cases hD
      exact t_ireti cx wo rfl rfl d_SF_replayLog_84
def D_SF_replayLogs_L2 (F : Nat) (n : Nat → Nat)  : Nat → HS → Int32 → Option ((HS) ⊕ (HS × Int32))
  | 0, _, _ => none
  | k3 + 1, σ1, x4 =>
      (if (σ1.1 1 0) ≤ x4 then
        some (Sum.inl σ1)
      else
        (D_LA_logOf F n σ1 x4).bind (fun (x6 : Int32) =>
        (D_RK_isValid F n σ1 x6).bind (fun (x7 : Int32) =>
        jn (fun (x9 : Int32) =>
          (if x9 ≤ 0 then
            nm (x4 + (1 : Int32)) (fun x11 =>
            D_SF_replayLogs_L2 F n  k3 σ1 x11)
          else
            (D_SF_replayLog F n σ1 x4 x6 (x9 - (1 : Int32))).bind (fun (qx12 : HS × Int32) => nm2 qx12 (fun (σ13 : HS) (x12 : Int32) =>
            (if x12 = 0 then
              some (Sum.inr (σ13, (0 : Int32)))
            else
              nm (x4 + (1 : Int32)) (fun x15 =>
              D_SF_replayLogs_L2 F n  k3 σ13 x15))))))
        (fun j8 =>
        (if x7 = 0 then
          j8 (0 : Int32)
        else
          (D_RK_tag F n σ1 x6).bind (fun (x17 : Int32) =>
          j8 x17))))))
def D_SF_replayLogs (F : Nat) (n : Nat → Nat) (σ : HS)  : Option (HS × Int32) :=
(D_SF_replayLogs_L2 F n  F σ (0 : Int32)).bind (fun q22 => match q22 with
    | Sum.inl σ18 =>
      some (σ18, (1 : Int32))
    | Sum.inr z => some z)
set_option maxRecDepth 100000 in
set_option maxHeartbeats 4000000 in
theorem k_SF_replayLogs (l : Launch) (E : EV) (ad n : Nat → Nat) (L : List Nat) (hL : ∀ a ∈ ([0, 1, 2, 3, 4, 7, 8, 11, 12, 13, 14, 15] : List Nat), a ∈ L) (F : Nat) (σ σo : HS)  (r : Int32) (hD : D_SF_replayLogs F n σ  = some (σo, r)) : CtI l E y_SF_replayLogs c_SF_replayLogs 4 (some FieldType.boolean) ({ frames := 5, cells := 0, slots := 0, locals := 121 }) [.ref (ad 0)] (wl E ad n L σ) r (wl E ad n L σo) := by
  refine fun sz => ent (by decide) (Nat.le_of_ble_eq_true rfl) ?_
  intro p e s m below meth c hsz cx wo ls hl
  have hx := cx.1.1
  have hb := cx.1.2.1
  have hown := cx.1.2.2.2.1
  have hts := cx.1.2.2.2.2
  have hl : lv_has ls 4 [(0, .ref (ad 0))] := hl
  have m0 : 0 ∈ L := hL 0 (by decide)
  have m1 : 1 ∈ L := hL 1 (by decide)
  have m2 : 2 ∈ L := hL 2 (by decide)
  have m3 : 3 ∈ L := hL 3 (by decide)
  have m4 : 4 ∈ L := hL 4 (by decide)
  have m7 : 7 ∈ L := hL 7 (by decide)
  have m8 : 8 ∈ L := hL 8 (by decide)
  have m11 : 11 ∈ L := hL 11 (by decide)
  have m12 : 12 ∈ L := hL 12 (by decide)
  have m13 : 13 ∈ L := hL 13 (by decide)
  have m14 : 14 ∈ L := hL 14 (by decide)
  have m15 : 15 ∈ L := hL 15 (by decide)
  rw [D_SF_replayLogs] at hD
  refine lv_iconst (v := 0) hx hb d_SF_replayLogs_0 (by decide) ?_
  refine lv_istore_n (lv' := [(1, .int (0 : Int32)), (0, .ref (ad 0))]) hx hb d_SF_replayLogs_1 rfl hl (by decide) rfl (fun ls hl => ?_)
  have lp19 : ∀ (k3 : Nat) (σ1 : HS) (x4 : Int32) (H : Heap) (locs : List Loc) (ls : Array Slot) (res2 : (HS) ⊕ (HS × Int32)), D_SF_replayLogs_L2 F n  k3 σ1 x4 = some res2 → (∀ z, res2 = Sum.inr z → (σo, r) = z) → (∀ (σ18 : HS) (H : Heap) (locs : List Loc) (ls : Array Slot), res2 = Sum.inl σ18 → Wo E (va_A (wl E ad n L σ) sz) s.heap (wl E ad n L σ18) H locs → lv_has ls 4 [] → W p l e ({ frames := 5, cells := 0, slots := 0, locals := 121 }) s m ([.ref (ad 0)] : List Value).toArray below meth c H locs 0 0 (MQ below (va_Qi (fun (x : Int32) (_ : Unit) => x = r) (fun _ t => va_P E.1 cls6 (wl E ad n L σo) t.heap ∧ va_D (va_A (wl E ad n L σ) sz) (wl E ad n L σo)) (va_A (wl E ad n L σ) sz)) ([.ref (ad 0)] : List Value).toArray s 0 0 (va_A (wl E ad n L σ) sz)) (F0 m 70 ls [])) → Wo E (va_A (wl E ad n L σ) sz) s.heap (wl E ad n L σ1) H locs → lv_has ls 4 [(1, .int x4), (0, .ref (ad 0))] → W p l e ({ frames := 5, cells := 0, slots := 0, locals := 121 }) s m ([.ref (ad 0)] : List Value).toArray below meth c H locs 0 0 (MQ below (va_Qi (fun (x : Int32) (_ : Unit) => x = r) (fun _ t => va_P E.1 cls6 (wl E ad n L σo) t.heap ∧ va_D (va_A (wl E ad n L σ) sz) (wl E ad n L σo)) (va_A (wl E ad n L σ) sz)) ([.ref (ad 0)] : List Value).toArray s 0 0 (va_A (wl E ad n L σ) sz)) (F0 m 2 ls []) := by
    intro k3
    induction k3 with
    | zero =>
      intro σ1 x4 H locs ls res2 hD
      rw [D_SF_replayLogs_L2.eq_1] at hD
      cases hD
    | succ k3 ih =>
      intro σ1 x4 H locs ls res2 hD hret hex wo hl
      rw [D_SF_replayLogs_L2.eq_2] at hD
      refine lv_iload_n hx hb d_SF_replayLogs_2 rfl (lv_at hl 0 rfl) ?_
      refine lv_aload_n hx hb d_SF_replayLogs_3 rfl (lv_at hl 1 rfl) ?_
      refine g_get cx wo m0 (cel_0 E ad n σ1) rfl in_SF 0 (by decide) wf_SF_12 rfl d_SF_replayLogs_4 ?_
      refine g_get cx wo m1 (cel_1 E ad n σ1) rfl in_LA 0 (by decide) wf_SF_136 rfl d_SF_replayLogs_7 ?_
      refine lv_icmp_ge (tgt := 70) hx hb d_SF_replayLogs_10 (by decide) (fun c5 => ?_) (fun c5 => ?_)
      · have hD := ite_p hD c5
        exact hex σ1 _ _ _ (Option.some.inj hD).symm wo (lv_sub hl [] rfl)
      · have hD := ite_n hD c5
        refine lv_aload_n hx hb d_SF_replayLogs_13 rfl (lv_at hl 1 rfl) ?_
        refine g_get cx wo m0 (cel_0 E ad n σ1) rfl in_SF 0 (by decide) wf_SF_12 rfl d_SF_replayLogs_14 ?_
        refine lv_iload_n hx hb d_SF_replayLogs_17 rfl (lv_at hl 0 rfl) ?_
        obtain ⟨x6, hcx6, hD⟩ := bd_s hD
        try dsimp only [nm2] at hD
        refine call_Vi cx wo (k_LA_logOf l E ad n L (fun a h => hL a ((by decide : ∀ a ∈ ([1] : List Nat), a ∈ ([0, 1, 2, 3, 4, 7, 8, 11, 12, 13, 14, 15] : List Nat)) a h)) F σ1  x4 x6 hcx6) m1 (cel_1 E ad n σ1) rfl rfl mw_LA_logOf wm_SF_277 ⟨by decide, by decide⟩ ⟨by decide, by decide⟩ hl.1 rfl (Nat.le_of_ble_eq_true rfl) d_SF_replayLogs_18 (fun H locs wo => ?_)
        refine lv_istore_n (lv' := [(2, .int x6), (1, .int x4), (0, .ref (ad 0))]) hx hb d_SF_replayLogs_21 rfl hl (by decide) rfl (fun ls hl => ?_)
        refine lv_aload_n hx hb d_SF_replayLogs_22 rfl (lv_at hl 2 rfl) ?_
        refine g_get cx wo m0 (cel_0 E ad n σ1) rfl in_SF 1 (by decide) wf_SF_23 rfl d_SF_replayLogs_23 ?_
        refine lv_iload_n hx hb d_SF_replayLogs_26 rfl (lv_at hl 0 rfl) ?_
        obtain ⟨x7, hcx7, hD⟩ := bd_s hD
        try dsimp only [nm2] at hD
        refine call_Vi cx wo (k_RK_isValid l E ad n L (fun a h => hL a ((by decide : ∀ a ∈ ([2, 14] : List Nat), a ∈ ([0, 1, 2, 3, 4, 7, 8, 11, 12, 13, 14, 15] : List Nat)) a h)) F σ1  x6 x7 hcx7) m2 (cel_2 E ad n σ1) rfl rfl mw_RK_isValid wm_SF_280 ⟨by decide, by decide⟩ ⟨by decide, by decide⟩ hl.1 rfl (Nat.le_of_ble_eq_true rfl) d_SF_replayLogs_27 (fun H locs wo => ?_)
        obtain ⟨j8, hj8, hD⟩ := jn_s hD
        try dsimp only at hD
        have j8_ok : ∀ (x9 : Int32) (H : Heap) (locs : List Loc) (ls : Array Slot), j8 x9 = some res2 → Wo E (va_A (wl E ad n L σ) sz) s.heap (wl E ad n L σ1) H locs → lv_has ls 4 [(2, .int x6), (1, .int x4), (0, .ref (ad 0))] → W p l e ({ frames := 5, cells := 0, slots := 0, locals := 121 }) s m ([.ref (ad 0)] : List Value).toArray below meth c H locs 0 0 (MQ below (va_Qi (fun (x : Int32) (_ : Unit) => x = r) (fun _ t => va_P E.1 cls6 (wl E ad n L σo) t.heap ∧ va_D (va_A (wl E ad n L σ) sz) (wl E ad n L σo)) (va_A (wl E ad n L σ) sz)) ([.ref (ad 0)] : List Value).toArray s 0 0 (va_A (wl E ad n L σ) sz)) (F0 m 45 ls [.int x9]) := by
          intro x9 H locs ls hD wo hl
          rw [hj8] at hD
          try dsimp only at hD
          refine lv_istore_n (lv' := [(3, .int x9), (2, .int x6), (1, .int x4), (0, .ref (ad 0))]) hx hb d_SF_replayLogs_45 rfl hl (by decide) rfl (fun ls hl => ?_)
          refine lv_iload_n hx hb d_SF_replayLogs_46 rfl (lv_at hl 0 rfl) ?_
          refine lv_if_le (tgt := 64) hx hb d_SF_replayLogs_47 (by decide) (fun c10 => ?_) (fun c10 => ?_)
          · have hD := ite_p hD c10
            obtain ⟨x11, ex11⟩ : ∃ y : Int32, y = x4 + (1 : Int32) := ⟨_, rfl⟩
            have hD := nm_at hD ex11
            try dsimp only at hD
            refine lv_iinc (v := x11) (lv' := [(1, .int x11), (3, .int x9), (2, .int x6), (0, .ref (ad 0))]) hx hb d_SF_replayLogs_64 hl (k := 2) rfl (by rw [ex11]; rfl) (by decide) rfl (fun ls hl => ?_)
            refine lv_goto (tgt := 2) hx hb d_SF_replayLogs_67 (by decide) ?_
            exact ih σ1 x11 _ _ _ _ hD hret hex wo (lv_sub hl [0, 3] rfl)
          · have hD := ite_n hD c10
            refine lv_aload_n hx hb d_SF_replayLogs_50 rfl (lv_at hl 3 rfl) ?_
            refine lv_iload_n hx hb d_SF_replayLogs_51 rfl (lv_at hl 2 rfl) ?_
            refine lv_iload_n hx hb d_SF_replayLogs_52 rfl (lv_at hl 1 rfl) ?_
            refine lv_iload_n hx hb d_SF_replayLogs_53 rfl (lv_at hl 0 rfl) ?_
            refine lv_iconst (v := 1) hx hb d_SF_replayLogs_54 (by decide) ?_
            refine lv_isub hx hb d_SF_replayLogs_55 ?_
            obtain ⟨⟨σ13, x12⟩, hcx12, hD⟩ := bd_s hD
            try dsimp only [nm2] at hD
            refine call_Vi cx wo (k_SF_replayLog l E ad n L (fun a h => hL a ((by decide : ∀ a ∈ ([0, 1, 2, 3, 4, 7, 8, 11, 12, 13, 14, 15] : List Nat), a ∈ ([0, 1, 2, 3, 4, 7, 8, 11, 12, 13, 14, 15] : List Nat)) a h)) F σ1 σ13 x4 x6 (x9 - (1 : Int32)) x12 hcx12) m0 (cel_0 E ad n σ1) rfl rfl mw_SF_replayLog wm_SF_312 ⟨by decide, by decide⟩ ⟨by decide, by decide⟩ hl.1 rfl (Nat.le_of_ble_eq_true rfl) d_SF_replayLogs_56 (fun H locs wo => ?_)
            refine lv_if_ne (tgt := 64) hx hb d_SF_replayLogs_59 (by decide) (fun c14 => ?_) (fun c14 => ?_)
            · have hD := ite_n hD c14
              obtain ⟨x15, ex15⟩ : ∃ y : Int32, y = x4 + (1 : Int32) := ⟨_, rfl⟩
              have hD := nm_at hD ex15
              try dsimp only at hD
              refine lv_iinc (v := x15) (lv' := [(1, .int x15), (3, .int x9), (2, .int x6), (0, .ref (ad 0))]) hx hb d_SF_replayLogs_64 hl (k := 2) rfl (by rw [ex15]; rfl) (by decide) rfl (fun ls hl => ?_)
              refine lv_goto (tgt := 2) hx hb d_SF_replayLogs_67 (by decide) ?_
              exact ih σ13 x15 _ _ _ _ hD hret hex wo (lv_sub hl [0, 3] rfl)
            · have hD := ite_p hD c14
              refine lv_iconst (v := 0) hx hb d_SF_replayLogs_62 (by decide) ?_
              have hz := hret _ (Option.some.inj hD).symm
              cases hz
              exact t_ireti cx wo rfl rfl d_SF_replayLogs_63
        refine lv_if_eq (tgt := 44) hx hb d_SF_replayLogs_30 (by decide) (fun c16 => ?_) (fun c16 => ?_)
        · have hD := ite_p hD c16
          refine lv_iconst (v := 0) hx hb d_SF_replayLogs_44 (by decide) ?_
          exact j8_ok (0 : Int32) _ _ _ hD wo (lv_sub hl [0, 1, 2] rfl)
        · have hD := ite_n hD c16
          refine lv_aload_n hx hb d_SF_replayLogs_33 rfl (lv_at hl 2 rfl) ?_
          refine g_get cx wo m0 (cel_0 E ad n σ1) rfl in_SF 1 (by decide) wf_SF_23 rfl d_SF_replayLogs_34 ?_
          refine lv_iload_n hx hb d_SF_replayLogs_37 rfl (lv_at hl 0 rfl) ?_
          obtain ⟨x17, hcx17, hD⟩ := bd_s hD
          try dsimp only [nm2] at hD
          refine call_Vi cx wo (k_RK_tag l E ad n L (fun a h => hL a ((by decide : ∀ a ∈ ([2, 11] : List Nat), a ∈ ([0, 1, 2, 3, 4, 7, 8, 11, 12, 13, 14, 15] : List Nat)) a h)) F σ1  x6 x17 hcx17) m2 (cel_2 E ad n σ1) rfl rfl mw_RK_tag wm_SF_309 ⟨by decide, by decide⟩ ⟨by decide, by decide⟩ hl.1 rfl (Nat.le_of_ble_eq_true rfl) d_SF_replayLogs_38 (fun H locs wo => ?_)
          refine lv_goto (tgt := 45) hx hb d_SF_replayLogs_41 (by decide) ?_
          exact j8_ok x17 _ _ _ hD wo (lv_sub hl [0, 1, 2] rfl)
  obtain ⟨res20, hr21, hD⟩ := bd_s hD
  refine lp19 F σ (0 : Int32) _ _ _ _ hr21 (fun z hz => by subst hz; exact (Option.some.inj hD).symm) (fun σ18 H locs ls hz wo hl => ?_) wo (lv_sub hl [0, 1] rfl)
  subst hz
  try dsimp only at hD
  refine lv_iconst (v := 1) hx hb d_SF_replayLogs_70 (by decide) ?_
  cases hD
  exact t_ireti cx wo rfl rfl d_SF_replayLogs_71
def D_SF_clearFreeSpares_L21 (F : Nat) (n : Nat → Nat) (x4 : Int32) : Nat → HS → Int32 → Option ((HS) ⊕ (HS × Int32))
  | 0, _, _ => none
  | k9 + 1, σ7, x10 =>
      (if (σ7.1 1 0) ≤ x10 then
              some (Sum.inl σ7)
            else
              (D_LA_slot F n σ7 x4 x10).bind (fun (x12 : Int32) =>
              grd (inb x12 (n 9)) (
              nm (σ7.1 9 (x12).toNatClampNeg) (fun x14 =>
              grd (inb x14 (n 16)) (
              jn (fun (x17 : Int32) =>
                (if x17 = 0 then
                  nm (x10 + (1 : Int32)) (fun x19 =>
                  D_SF_clearFreeSpares_L21 F n x4 k9 σ7 x19)
                else
                  (D_SF_putCell_8 F n σ7 x14 (0 : Int32)).bind (fun (qx20 : HS × Int32) => nm2 qx20 (fun (σ21 : HS) (x20 : Int32) =>
                  (if x20 = 0 then
                    some (Sum.inr (σ21, (0 : Int32)))
                  else
                    nm (x10 + (1 : Int32)) (fun x23 =>
                    D_SF_clearFreeSpares_L21 F n x4 k9 σ21 x23))))))
              (fun j16 =>
              (if (σ7.1 16 (x14).toNatClampNeg) = (-1 : Int32) then
                (D_RK_isValid F n σ7 x14).bind (fun (x25 : Int32) =>
                (if x25 = 0 then
                  j16 (0 : Int32)
                else
                  (D_RK_tag F n σ7 x14).bind (fun (x27 : Int32) =>
                  (if x27 ≤ 0 then
                    j16 (0 : Int32)
                  else
                    j16 (1 : Int32)))))
              else
                j16 (0 : Int32))))))))
def D_SF_clearFreeSpares_L2 (F : Nat) (n : Nat → Nat)  : Nat → HS → Int32 → Option ((HS) ⊕ (HS × Int32))
  | 0, _, _ => none
  | k3 + 1, σ1, x4 =>
      (if (σ1.1 1 2) ≤ x4 then
        some (Sum.inl σ1)
      else
        nm (σ1.1 1 6) (fun x6 =>
        (D_SF_clearFreeSpares_L21 F n x4 F σ1 x6).bind (fun q34 => match q34 with
          | Sum.inl σ29 =>
            nm (x4 + (1 : Int32)) (fun x33 =>
          D_SF_clearFreeSpares_L2 F n  k3 σ29 x33)
          | Sum.inr z => some (Sum.inr z))))
def D_SF_clearFreeSpares (F : Nat) (n : Nat → Nat) (σ : HS)  : Option (HS × Int32) :=
(D_SF_clearFreeSpares_L2 F n  F σ (0 : Int32)).bind (fun q39 => match q39 with
    | Sum.inl σ35 =>
      some (σ35, (1 : Int32))
    | Sum.inr z => some z)
set_option maxRecDepth 100000 in
set_option maxHeartbeats 4000000 in
theorem k_SF_clearFreeSpares (l : Launch) (E : EV) (ad n : Nat → Nat) (L : List Nat) (hL : ∀ a ∈ ([0, 1, 2, 3, 4, 8, 9, 11, 12, 13, 14, 16] : List Nat), a ∈ L) (F : Nat) (σ σo : HS)  (r : Int32) (hD : D_SF_clearFreeSpares F n σ  = some (σo, r)) : CtI l E y_SF_clearFreeSpares c_SF_clearFreeSpares 5 (some FieldType.boolean) ({ frames := 3, cells := 0, slots := 0, locals := 72 }) [.ref (ad 0)] (wl E ad n L σ) r (wl E ad n L σo) := by
  refine fun sz => ent (by decide) (Nat.le_of_ble_eq_true rfl) ?_
  intro p e s m below meth c hsz cx wo ls hl
  have hx := cx.1.1
  have hb := cx.1.2.1
  have hown := cx.1.2.2.2.1
  have hts := cx.1.2.2.2.2
  have hl : lv_has ls 5 [(0, .ref (ad 0))] := hl
  have m0 : 0 ∈ L := hL 0 (by decide)
  have m1 : 1 ∈ L := hL 1 (by decide)
  have m2 : 2 ∈ L := hL 2 (by decide)
  have m3 : 3 ∈ L := hL 3 (by decide)
  have m4 : 4 ∈ L := hL 4 (by decide)
  have m8 : 8 ∈ L := hL 8 (by decide)
  have m9 : 9 ∈ L := hL 9 (by decide)
  have m11 : 11 ∈ L := hL 11 (by decide)
  have m12 : 12 ∈ L := hL 12 (by decide)
  have m13 : 13 ∈ L := hL 13 (by decide)
  have m14 : 14 ∈ L := hL 14 (by decide)
  have m16 : 16 ∈ L := hL 16 (by decide)
  rw [D_SF_clearFreeSpares] at hD
  refine lv_iconst (v := 0) hx hb d_SF_clearFreeSpares_0 (by decide) ?_
  refine lv_istore_n (lv' := [(1, .int (0 : Int32)), (0, .ref (ad 0))]) hx hb d_SF_clearFreeSpares_1 rfl hl (by decide) rfl (fun ls hl => ?_)
  have lp36 : ∀ (k3 : Nat) (σ1 : HS) (x4 : Int32) (H : Heap) (locs : List Loc) (ls : Array Slot) (res2 : (HS) ⊕ (HS × Int32)), D_SF_clearFreeSpares_L2 F n  k3 σ1 x4 = some res2 → (∀ z, res2 = Sum.inr z → (σo, r) = z) → (∀ (σ35 : HS) (H : Heap) (locs : List Loc) (ls : Array Slot), res2 = Sum.inl σ35 → Wo E (va_A (wl E ad n L σ) sz) s.heap (wl E ad n L σ35) H locs → lv_has ls 5 [] → W p l e ({ frames := 3, cells := 0, slots := 0, locals := 72 }) s m ([.ref (ad 0)] : List Value).toArray below meth c H locs 0 0 (MQ below (va_Qi (fun (x : Int32) (_ : Unit) => x = r) (fun _ t => va_P E.1 cls6 (wl E ad n L σo) t.heap ∧ va_D (va_A (wl E ad n L σ) sz) (wl E ad n L σo)) (va_A (wl E ad n L σ) sz)) ([.ref (ad 0)] : List Value).toArray s 0 0 (va_A (wl E ad n L σ) sz)) (F0 m 124 ls [])) → Wo E (va_A (wl E ad n L σ) sz) s.heap (wl E ad n L σ1) H locs → lv_has ls 5 [(1, .int x4), (0, .ref (ad 0))] → W p l e ({ frames := 3, cells := 0, slots := 0, locals := 72 }) s m ([.ref (ad 0)] : List Value).toArray below meth c H locs 0 0 (MQ below (va_Qi (fun (x : Int32) (_ : Unit) => x = r) (fun _ t => va_P E.1 cls6 (wl E ad n L σo) t.heap ∧ va_D (va_A (wl E ad n L σ) sz) (wl E ad n L σo)) (va_A (wl E ad n L σ) sz)) ([.ref (ad 0)] : List Value).toArray s 0 0 (va_A (wl E ad n L σ) sz)) (F0 m 2 ls []) := by
    intro k3
    induction k3 with
    | zero =>
      intro σ1 x4 H locs ls res2 hD
      rw [D_SF_clearFreeSpares_L2.eq_1] at hD
      cases hD
    | succ k3 ih =>
      intro σ1 x4 H locs ls res2 hD hret hex wo hl
      rw [D_SF_clearFreeSpares_L2.eq_2] at hD
      refine lv_iload_n hx hb d_SF_clearFreeSpares_2 rfl (lv_at hl 0 rfl) ?_
      refine lv_aload_n hx hb d_SF_clearFreeSpares_3 rfl (lv_at hl 1 rfl) ?_
      refine g_get cx wo m0 (cel_0 E ad n σ1) rfl in_SF 0 (by decide) wf_SF_12 rfl d_SF_clearFreeSpares_4 ?_
      refine g_get cx wo m1 (cel_1 E ad n σ1) rfl in_LA 2 (by decide) wf_SF_159 rfl d_SF_clearFreeSpares_7 ?_
      refine lv_icmp_ge (tgt := 124) hx hb d_SF_clearFreeSpares_10 (by decide) (fun c5 => ?_) (fun c5 => ?_)
      · have hD := ite_p hD c5
        exact hex σ1 _ _ _ (Option.some.inj hD).symm wo (lv_sub hl [] rfl)
      · have hD := ite_n hD c5
        refine lv_aload_n hx hb d_SF_clearFreeSpares_13 rfl (lv_at hl 1 rfl) ?_
        refine g_get cx wo m0 (cel_0 E ad n σ1) rfl in_SF 0 (by decide) wf_SF_12 rfl d_SF_clearFreeSpares_14 ?_
        refine g_get cx wo m1 (cel_1 E ad n σ1) rfl in_LA 6 (by decide) wf_SF_248 rfl d_SF_clearFreeSpares_17 ?_
        refine lv_topi (fun x6 ex6 => ?_)
        have hD := nm_at hD ex6
        try dsimp only at hD
        refine lv_istore_n (lv' := [(2, .int x6), (1, .int x4), (0, .ref (ad 0))]) hx hb d_SF_clearFreeSpares_20 rfl hl (by decide) rfl (fun ls hl => ?_)
        have lp30 : ∀ (k9 : Nat) (σ7 : HS) (x10 : Int32) (H : Heap) (locs : List Loc) (ls : Array Slot) (res8 : (HS) ⊕ (HS × Int32)), D_SF_clearFreeSpares_L21 F n x4 k9 σ7 x10 = some res8 → (∀ z, res8 = Sum.inr z → (σo, r) = z) → (∀ (σ29 : HS) (H : Heap) (locs : List Loc) (ls : Array Slot), res8 = Sum.inl σ29 → Wo E (va_A (wl E ad n L σ) sz) s.heap (wl E ad n L σ29) H locs → lv_has ls 5 [(1, .int x4), (0, .ref (ad 0))] → W p l e ({ frames := 3, cells := 0, slots := 0, locals := 72 }) s m ([.ref (ad 0)] : List Value).toArray below meth c H locs 0 0 (MQ below (va_Qi (fun (x : Int32) (_ : Unit) => x = r) (fun _ t => va_P E.1 cls6 (wl E ad n L σo) t.heap ∧ va_D (va_A (wl E ad n L σ) sz) (wl E ad n L σo)) (va_A (wl E ad n L σ) sz)) ([.ref (ad 0)] : List Value).toArray s 0 0 (va_A (wl E ad n L σ) sz)) (F0 m 118 ls [])) → Wo E (va_A (wl E ad n L σ) sz) s.heap (wl E ad n L σ7) H locs → lv_has ls 5 [(2, .int x10), (1, .int x4), (0, .ref (ad 0))] → W p l e ({ frames := 3, cells := 0, slots := 0, locals := 72 }) s m ([.ref (ad 0)] : List Value).toArray below meth c H locs 0 0 (MQ below (va_Qi (fun (x : Int32) (_ : Unit) => x = r) (fun _ t => va_P E.1 cls6 (wl E ad n L σo) t.heap ∧ va_D (va_A (wl E ad n L σ) sz) (wl E ad n L σo)) (va_A (wl E ad n L σ) sz)) ([.ref (ad 0)] : List Value).toArray s 0 0 (va_A (wl E ad n L σ) sz)) (F0 m 21 ls []) := by
          intro k9
          induction k9 with
          | zero =>
            intro σ7 x10 H locs ls res8 hD
            rw [D_SF_clearFreeSpares_L21.eq_1] at hD
            cases hD
          | succ k9 ih =>
            intro σ7 x10 H locs ls res8 hD hret hex wo hl
            rw [D_SF_clearFreeSpares_L21.eq_2] at hD
            refine lv_iload_n hx hb d_SF_clearFreeSpares_21 rfl (lv_at hl 0 rfl) ?_
            refine lv_aload_n hx hb d_SF_clearFreeSpares_22 rfl (lv_at hl 2 rfl) ?_
            refine g_get cx wo m0 (cel_0 E ad n σ7) rfl in_SF 0 (by decide) wf_SF_12 rfl d_SF_clearFreeSpares_23 ?_
            refine g_get cx wo m1 (cel_1 E ad n σ7) rfl in_LA 0 (by decide) wf_SF_136 rfl d_SF_clearFreeSpares_26 ?_
            refine lv_icmp_ge (tgt := 118) hx hb d_SF_clearFreeSpares_29 (by decide) (fun c11 => ?_) (fun c11 => ?_)
            · have hD := ite_p hD c11
              exact hex σ7 _ _ _ (Option.some.inj hD).symm wo (lv_sub hl [1, 2] rfl)
            · have hD := ite_n hD c11
              refine lv_aload_n hx hb d_SF_clearFreeSpares_32 rfl (lv_at hl 2 rfl) ?_
              refine g_get cx wo m0 (cel_0 E ad n σ7) rfl in_SF 0 (by decide) wf_SF_12 rfl d_SF_clearFreeSpares_33 ?_
              refine g_get cx wo m1 (cel_1 E ad n σ7) rfl in_LA 9 (by decide) wf_SF_200 rfl d_SF_clearFreeSpares_36 ?_
              refine lv_aload_n hx hb d_SF_clearFreeSpares_39 rfl (lv_at hl 2 rfl) ?_
              refine g_get cx wo m0 (cel_0 E ad n σ7) rfl in_SF 0 (by decide) wf_SF_12 rfl d_SF_clearFreeSpares_40 ?_
              refine lv_iload_n hx hb d_SF_clearFreeSpares_43 rfl (lv_at hl 1 rfl) ?_
              refine lv_iload_n hx hb d_SF_clearFreeSpares_44 rfl (lv_at hl 0 rfl) ?_
              obtain ⟨x12, hcx12, hD⟩ := bd_s hD
              try dsimp only [nm2] at hD
              refine call_Vi cx wo (k_LA_slot l E ad n L (fun a h => hL a ((by decide : ∀ a ∈ ([1] : List Nat), a ∈ ([0, 1, 2, 3, 4, 8, 9, 11, 12, 13, 14, 16] : List Nat)) a h)) F σ7  x4 x10 x12 hcx12) m1 (cel_1 E ad n σ7) rfl rfl mw_LA_slot wm_SF_253 ⟨by decide, by decide⟩ ⟨by decide, by decide⟩ hl.1 rfl (Nat.le_of_ble_eq_true rfl) d_SF_clearFreeSpares_45 (fun H locs wo => ?_)
              obtain ⟨g13, hD⟩ := grd_s hD
              refine g_iald cx wo m9 (cel_9 E ad n σ7) g13 d_SF_clearFreeSpares_48 ?_
              refine lv_topi (fun x14 ex14 => ?_)
              have hD := nm_at hD ex14
              try dsimp only at hD
              refine lv_istore_n (lv' := [(3, .int x14), (2, .int x10), (1, .int x4), (0, .ref (ad 0))]) hx hb d_SF_clearFreeSpares_49 rfl hl (by decide) rfl (fun ls hl => ?_)
              refine lv_aload_n hx hb d_SF_clearFreeSpares_50 rfl (lv_at hl 3 rfl) ?_
              refine g_get cx wo m0 (cel_0 E ad n σ7) rfl in_SF 2 (by decide) wf_SF_32 rfl d_SF_clearFreeSpares_51 ?_
              refine g_get cx wo m3 (cel_3 E ad n σ7) rfl in_PL 1 (by decide) wf_SF_176 rfl d_SF_clearFreeSpares_54 ?_
              refine lv_iload_n hx hb d_SF_clearFreeSpares_57 rfl (lv_at hl 0 rfl) ?_
              obtain ⟨g15, hD⟩ := grd_s hD
              refine g_iald cx wo m16 (cel_16 E ad n σ7) g15 d_SF_clearFreeSpares_58 ?_
              refine lv_iconst (v := -1) hx hb d_SF_clearFreeSpares_59 (by decide) ?_
              obtain ⟨j16, hj16, hD⟩ := jn_s hD
              try dsimp only at hD
              have j16_ok : ∀ (x17 : Int32) (H : Heap) (locs : List Loc) (ls : Array Slot), j16 x17 = some res8 → Wo E (va_A (wl E ad n L σ) sz) s.heap (wl E ad n L σ7) H locs → lv_has ls 5 [(3, .int x14), (2, .int x10), (1, .int x4), (0, .ref (ad 0))] → W p l e ({ frames := 3, cells := 0, slots := 0, locals := 72 }) s m ([.ref (ad 0)] : List Value).toArray below meth c H locs 0 0 (MQ below (va_Qi (fun (x : Int32) (_ : Unit) => x = r) (fun _ t => va_P E.1 cls6 (wl E ad n L σo) t.heap ∧ va_D (va_A (wl E ad n L σ) sz) (wl E ad n L σo)) (va_A (wl E ad n L σ) sz)) ([.ref (ad 0)] : List Value).toArray s 0 0 (va_A (wl E ad n L σ) sz)) (F0 m 90 ls [.int x17]) := by
                intro x17 H locs ls hD wo hl
                rw [hj16] at hD
                try dsimp only at hD
                refine lv_istore (lv' := [(4, .int x17), (3, .int x14), (2, .int x10), (1, .int x4), (0, .ref (ad 0))]) hx hb d_SF_clearFreeSpares_90 hl (by decide) rfl (fun ls hl => ?_)
                refine lv_iload hx hb d_SF_clearFreeSpares_92 (lv_at hl 0 rfl) ?_
                refine lv_if_eq (tgt := 112) hx hb d_SF_clearFreeSpares_94 (by decide) (fun c18 => ?_) (fun c18 => ?_)
                · have hD := ite_p hD c18
                  obtain ⟨x19, ex19⟩ : ∃ y : Int32, y = x10 + (1 : Int32) := ⟨_, rfl⟩
                  have hD := nm_at hD ex19
                  try dsimp only at hD
                  refine lv_iinc (v := x19) (lv' := [(2, .int x19), (4, .int x17), (3, .int x14), (1, .int x4), (0, .ref (ad 0))]) hx hb d_SF_clearFreeSpares_112 hl (k := 2) rfl (by rw [ex19]; rfl) (by decide) rfl (fun ls hl => ?_)
                  refine lv_goto (tgt := 21) hx hb d_SF_clearFreeSpares_115 (by decide) ?_
                  exact ih σ7 x19 _ _ _ _ hD hret hex wo (lv_sub hl [0, 3, 4] rfl)
                · have hD := ite_n hD c18
                  refine lv_aload_n hx hb d_SF_clearFreeSpares_97 rfl (lv_at hl 4 rfl) ?_
                  refine lv_iload_n hx hb d_SF_clearFreeSpares_98 rfl (lv_at hl 1 rfl) ?_
                  refine lv_aload_n hx hb d_SF_clearFreeSpares_99 rfl (lv_at hl 4 rfl) ?_
                  refine g_get cx wo m0 (cel_0 E ad n σ7) rfl in_SF 10 (by decide) wf_SF_53 rfl d_SF_clearFreeSpares_100 ?_
                  refine lv_iconst (v := 0) hx hb d_SF_clearFreeSpares_103 (by decide) ?_
                  obtain ⟨⟨σ21, x20⟩, hcx20, hD⟩ := bd_s hD
                  try dsimp only [nm2] at hD
                  refine call_Vi cx wo (k_SF_putCell_8 l E ad n L (fun a h => hL a ((by decide : ∀ a ∈ ([0, 2, 4, 8, 11, 12, 13, 14] : List Nat), a ∈ ([0, 1, 2, 3, 4, 8, 9, 11, 12, 13, 14, 16] : List Nat)) a h)) F σ7 σ21 x14 (0 : Int32) x20 hcx20) m0 (cel_0 E ad n σ7) rfl rfl mw_SF_putCell wm_SF_203 ⟨by decide, by decide⟩ ⟨by decide, by decide⟩ hl.1 rfl (Nat.le_of_ble_eq_true rfl) d_SF_clearFreeSpares_104 (fun H locs wo => ?_)
                  refine lv_if_ne (tgt := 112) hx hb d_SF_clearFreeSpares_107 (by decide) (fun c22 => ?_) (fun c22 => ?_)
                  · have hD := ite_n hD c22
                    obtain ⟨x23, ex23⟩ : ∃ y : Int32, y = x10 + (1 : Int32) := ⟨_, rfl⟩
                    have hD := nm_at hD ex23
                    try dsimp only at hD
                    refine lv_iinc (v := x23) (lv' := [(2, .int x23), (4, .int x17), (3, .int x14), (1, .int x4), (0, .ref (ad 0))]) hx hb d_SF_clearFreeSpares_112 hl (k := 2) rfl (by rw [ex23]; rfl) (by decide) rfl (fun ls hl => ?_)
                    refine lv_goto (tgt := 21) hx hb d_SF_clearFreeSpares_115 (by decide) ?_
                    exact ih σ21 x23 _ _ _ _ hD hret hex wo (lv_sub hl [0, 3, 4] rfl)
                  · have hD := ite_p hD c22
                    refine lv_iconst (v := 0) hx hb d_SF_clearFreeSpares_110 (by decide) ?_
                    have hz := hret _ (Option.some.inj hD).symm
                    cases hz
                    exact t_ireti cx wo rfl rfl d_SF_clearFreeSpares_111
              refine lv_icmp_ne (tgt := 89) hx hb d_SF_clearFreeSpares_60 (by decide) (fun c24 => ?_) (fun c24 => ?_)
              · have hD := ite_n hD c24
                refine lv_iconst (v := 0) hx hb d_SF_clearFreeSpares_89 (by decide) ?_
                exact j16_ok (0 : Int32) _ _ _ hD wo (lv_sub hl [0, 1, 2, 3] rfl)
              · have hD := ite_p hD c24
                refine lv_aload_n hx hb d_SF_clearFreeSpares_63 rfl (lv_at hl 3 rfl) ?_
                refine g_get cx wo m0 (cel_0 E ad n σ7) rfl in_SF 1 (by decide) wf_SF_23 rfl d_SF_clearFreeSpares_64 ?_
                refine lv_iload_n hx hb d_SF_clearFreeSpares_67 rfl (lv_at hl 0 rfl) ?_
                obtain ⟨x25, hcx25, hD⟩ := bd_s hD
                try dsimp only [nm2] at hD
                refine call_Vi cx wo (k_RK_isValid l E ad n L (fun a h => hL a ((by decide : ∀ a ∈ ([2, 14] : List Nat), a ∈ ([0, 1, 2, 3, 4, 8, 9, 11, 12, 13, 14, 16] : List Nat)) a h)) F σ7  x14 x25 hcx25) m2 (cel_2 E ad n σ7) rfl rfl mw_RK_isValid wm_SF_280 ⟨by decide, by decide⟩ ⟨by decide, by decide⟩ hl.1 rfl (Nat.le_of_ble_eq_true rfl) d_SF_clearFreeSpares_68 (fun H locs wo => ?_)
                refine lv_if_eq (tgt := 89) hx hb d_SF_clearFreeSpares_71 (by decide) (fun c26 => ?_) (fun c26 => ?_)
                · have hD := ite_p hD c26
                  refine lv_iconst (v := 0) hx hb d_SF_clearFreeSpares_89 (by decide) ?_
                  exact j16_ok (0 : Int32) _ _ _ hD wo (lv_sub hl [0, 1, 2, 3] rfl)
                · have hD := ite_n hD c26
                  refine lv_aload_n hx hb d_SF_clearFreeSpares_74 rfl (lv_at hl 3 rfl) ?_
                  refine g_get cx wo m0 (cel_0 E ad n σ7) rfl in_SF 1 (by decide) wf_SF_23 rfl d_SF_clearFreeSpares_75 ?_
                  refine lv_iload_n hx hb d_SF_clearFreeSpares_78 rfl (lv_at hl 0 rfl) ?_
                  obtain ⟨x27, hcx27, hD⟩ := bd_s hD
                  try dsimp only [nm2] at hD
                  refine call_Vi cx wo (k_RK_tag l E ad n L (fun a h => hL a ((by decide : ∀ a ∈ ([2, 11] : List Nat), a ∈ ([0, 1, 2, 3, 4, 8, 9, 11, 12, 13, 14, 16] : List Nat)) a h)) F σ7  x14 x27 hcx27) m2 (cel_2 E ad n σ7) rfl rfl mw_RK_tag wm_SF_309 ⟨by decide, by decide⟩ ⟨by decide, by decide⟩ hl.1 rfl (Nat.le_of_ble_eq_true rfl) d_SF_clearFreeSpares_79 (fun H locs wo => ?_)
                  refine lv_if_le (tgt := 89) hx hb d_SF_clearFreeSpares_82 (by decide) (fun c28 => ?_) (fun c28 => ?_)
                  · have hD := ite_p hD c28
                    refine lv_iconst (v := 0) hx hb d_SF_clearFreeSpares_89 (by decide) ?_
                    exact j16_ok (0 : Int32) _ _ _ hD wo (lv_sub hl [0, 1, 2, 3] rfl)
                  · have hD := ite_n hD c28
                    refine lv_iconst (v := 1) hx hb d_SF_clearFreeSpares_85 (by decide) ?_
                    refine lv_goto (tgt := 90) hx hb d_SF_clearFreeSpares_86 (by decide) ?_
                    exact j16_ok (1 : Int32) _ _ _ hD wo (lv_sub hl [0, 1, 2, 3] rfl)
        obtain ⟨res31, hr32, hD⟩ := bd_s hD
        refine lp30 F σ1 x6 _ _ _ _ hr32 (fun z hz => by subst hz; exact hret _ (Option.some.inj hD).symm) (fun σ29 H locs ls hz wo hl => ?_) wo (lv_sub hl [0, 1, 2] rfl)
        subst hz
        try dsimp only at hD
        obtain ⟨x33, ex33⟩ : ∃ y : Int32, y = x4 + (1 : Int32) := ⟨_, rfl⟩
        have hD := nm_at hD ex33
        try dsimp only at hD
        refine lv_iinc (v := x33) (lv' := [(1, .int x33), (0, .ref (ad 0))]) hx hb d_SF_clearFreeSpares_118 hl (k := 0) rfl (by rw [ex33]; rfl) (by decide) rfl (fun ls hl => ?_)
        refine lv_goto (tgt := 2) hx hb d_SF_clearFreeSpares_121 (by decide) ?_
        exact ih σ29 x33 _ _ _ _ hD hret hex wo (lv_sub hl [0, 1] rfl)
  obtain ⟨res37, hr38, hD⟩ := bd_s hD
  refine lp36 F σ (0 : Int32) _ _ _ _ hr38 (fun z hz => by subst hz; exact (Option.some.inj hD).symm) (fun σ35 H locs ls hz wo hl => ?_) wo (lv_sub hl [0, 1] rfl)
  subst hz
  try dsimp only at hD
  refine lv_iconst (v := 1) hx hb d_SF_clearFreeSpares_124 (by decide) ?_
  cases hD
  exact t_ireti cx wo rfl rfl d_SF_clearFreeSpares_125
def D_SF_wouldBreakWithout_L18 (F : Nat) (n : Nat → Nat) (σ : HS) (x3 : Int32) (p1 : Int32) : Nat → Int32 → Int32 → Option (Int32)
  | 0, _, _ => none
  | k6 + 1, x7, x8 =>
      (if (σ.1 1 1) ≤ x7 then
              some x8
            else
              (D_SF_placeOf F n σ x3 x7).bind (fun (x10 : Int32) =>
              (D_RK_isValid F n σ x10).bind (fun (x11 : Int32) =>
              (if x11 = 0 then
                nm (x8 + (1 : Int32)) (fun x13 =>
                nm (x7 + (1 : Int32)) (fun x14 =>
                D_SF_wouldBreakWithout_L18 F n σ x3 p1 k6 x14 x13))
              else
                (D_LA_diskOf F n σ x10).bind (fun (x15 : Int32) =>
                (if x15 = p1 then
                  nm (x8 + (1 : Int32)) (fun x18 =>
                  nm (x7 + (1 : Int32)) (fun x19 =>
                  D_SF_wouldBreakWithout_L18 F n σ x3 p1 k6 x19 x18))
                else
                  nm (x7 + (1 : Int32)) (fun x17 =>
                  D_SF_wouldBreakWithout_L18 F n σ x3 p1 k6 x17 x8)))))))
def D_SF_wouldBreakWithout_L2 (F : Nat) (n : Nat → Nat) (σ : HS) (p1 : Int32) : Nat → Int32 → Option ((Unit) ⊕ (Int32))
  | 0, _ => none
  | k2 + 1, x3 =>
      (if (σ.1 1 4) ≤ x3 then
        some (Sum.inl ())
      else
        (D_SF_wouldBreakWithout_L18 F n σ x3 p1 F (0 : Int32) (0 : Int32)).bind (fun (x20 : Int32) =>
        (if x20 ≤ (1 : Int32) then
            nm (x3 + (1 : Int32)) (fun x25 =>
            D_SF_wouldBreakWithout_L2 F n σ p1 k2 x25)
          else
            some (Sum.inr (1 : Int32)))))
def D_SF_wouldBreakWithout (F : Nat) (n : Nat → Nat) (σ : HS) (p1 : Int32) : Option (Int32) :=
(D_SF_wouldBreakWithout_L2 F n σ p1 F (0 : Int32)).bind (fun q29 => match q29 with
    | Sum.inl _ =>
      some (0 : Int32)
    | Sum.inr z => some z)
set_option maxRecDepth 100000 in
set_option maxHeartbeats 4000000 in
theorem k_SF_wouldBreakWithout (l : Launch) (E : EV) (ad n : Nat → Nat) (L : List Nat) (hL : ∀ a ∈ ([0, 1, 2, 3, 14, 15] : List Nat), a ∈ L) (F : Nat) (σ  : HS) (p1 : Int32) (r : Int32) (hD : D_SF_wouldBreakWithout F n σ p1 = some r) : CtI l E y_SF_wouldBreakWithout c_SF_wouldBreakWithout 6 (some FieldType.boolean) ({ frames := 3, cells := 0, slots := 0, locals := 66 }) [.ref (ad 0), .int p1] (wl E ad n L σ) r (wl E ad n L σ) := by
  refine fun sz => ent (by decide) (Nat.le_of_ble_eq_true rfl) ?_
  intro p e s m below meth c hsz cx wo ls hl
  have hx := cx.1.1
  have hb := cx.1.2.1
  have hown := cx.1.2.2.2.1
  have hts := cx.1.2.2.2.2
  have hl : lv_has ls 6 [(0, .ref (ad 0)), (1, .int p1)] := hl
  have m0 : 0 ∈ L := hL 0 (by decide)
  have m1 : 1 ∈ L := hL 1 (by decide)
  have m2 : 2 ∈ L := hL 2 (by decide)
  have m3 : 3 ∈ L := hL 3 (by decide)
  have m14 : 14 ∈ L := hL 14 (by decide)
  have m15 : 15 ∈ L := hL 15 (by decide)
  rw [D_SF_wouldBreakWithout] at hD
  refine lv_iconst (v := 0) hx hb d_SF_wouldBreakWithout_0 (by decide) ?_
  refine lv_istore_n (lv' := [(2, .int (0 : Int32)), (0, .ref (ad 0)), (1, .int p1)]) hx hb d_SF_wouldBreakWithout_1 rfl hl (by decide) rfl (fun ls hl => ?_)
  have lp26 : ∀ (k2 : Nat) (x3 : Int32) (H : Heap) (locs : List Loc) (ls : Array Slot) (res1 : (Unit) ⊕ (Int32)), D_SF_wouldBreakWithout_L2 F n σ p1 k2 x3 = some res1 → (∀ z, res1 = Sum.inr z → r = z) → (∀  (H : Heap) (locs : List Loc) (ls : Array Slot), res1 = Sum.inl () → Wo E (va_A (wl E ad n L σ) sz) s.heap (wl E ad n L σ) H locs → lv_has ls 6 [] → W p l e ({ frames := 3, cells := 0, slots := 0, locals := 66 }) s m ([.ref (ad 0), .int p1] : List Value).toArray below meth c H locs 0 0 (MQ below (va_Qi (fun (x : Int32) (_ : Unit) => x = r) (fun _ t => va_P E.1 cls6 (wl E ad n L σ) t.heap ∧ va_D (va_A (wl E ad n L σ) sz) (wl E ad n L σ)) (va_A (wl E ad n L σ) sz)) ([.ref (ad 0), .int p1] : List Value).toArray s 0 0 (va_A (wl E ad n L σ) sz)) (F0 m 86 ls [])) → Wo E (va_A (wl E ad n L σ) sz) s.heap (wl E ad n L σ) H locs → lv_has ls 6 [(2, .int x3), (0, .ref (ad 0)), (1, .int p1)] → W p l e ({ frames := 3, cells := 0, slots := 0, locals := 66 }) s m ([.ref (ad 0), .int p1] : List Value).toArray below meth c H locs 0 0 (MQ below (va_Qi (fun (x : Int32) (_ : Unit) => x = r) (fun _ t => va_P E.1 cls6 (wl E ad n L σ) t.heap ∧ va_D (va_A (wl E ad n L σ) sz) (wl E ad n L σ)) (va_A (wl E ad n L σ) sz)) ([.ref (ad 0), .int p1] : List Value).toArray s 0 0 (va_A (wl E ad n L σ) sz)) (F0 m 2 ls []) := by
    intro k2
    induction k2 with
    | zero =>
      intro x3 H locs ls res1 hD
      rw [D_SF_wouldBreakWithout_L2.eq_1] at hD
      cases hD
    | succ k2 ih =>
      intro x3 H locs ls res1 hD hret hex wo hl
      rw [D_SF_wouldBreakWithout_L2.eq_2] at hD
      refine lv_iload_n hx hb d_SF_wouldBreakWithout_2 rfl (lv_at hl 0 rfl) ?_
      refine lv_aload_n hx hb d_SF_wouldBreakWithout_3 rfl (lv_at hl 1 rfl) ?_
      refine g_get cx wo m0 (cel_0 E ad n σ) rfl in_SF 0 (by decide) wf_SF_12 rfl d_SF_wouldBreakWithout_4 ?_
      refine g_get cx wo m1 (cel_1 E ad n σ) rfl in_LA 4 (by decide) wf_SF_207 rfl d_SF_wouldBreakWithout_7 ?_
      refine lv_icmp_ge (tgt := 86) hx hb d_SF_wouldBreakWithout_10 (by decide) (fun c4 => ?_) (fun c4 => ?_)
      · have hD := ite_p hD c4
        exact hex  _ _ _ (Option.some.inj hD).symm wo (lv_sub hl [] rfl)
      · have hD := ite_n hD c4
        refine lv_iconst (v := 0) hx hb d_SF_wouldBreakWithout_13 (by decide) ?_
        refine lv_istore_n (lv' := [(3, .int (0 : Int32)), (2, .int x3), (0, .ref (ad 0)), (1, .int p1)]) hx hb d_SF_wouldBreakWithout_14 rfl hl (by decide) rfl (fun ls hl => ?_)
        refine lv_iconst (v := 0) hx hb d_SF_wouldBreakWithout_15 (by decide) ?_
        refine lv_istore (lv' := [(4, .int (0 : Int32)), (3, .int (0 : Int32)), (2, .int x3), (0, .ref (ad 0)), (1, .int p1)]) hx hb d_SF_wouldBreakWithout_16 hl (by decide) rfl (fun ls hl => ?_)
        have lp21 : ∀ (k6 : Nat) (x7 : Int32) (x8 : Int32) (H : Heap) (locs : List Loc) (ls : Array Slot) (res5 : Int32), D_SF_wouldBreakWithout_L18 F n σ x3 p1 k6 x7 x8 = some res5 → (∀ (x20 : Int32) (H : Heap) (locs : List Loc) (ls : Array Slot), res5 = x20 → Wo E (va_A (wl E ad n L σ) sz) s.heap (wl E ad n L σ) H locs → lv_has ls 6 [(3, .int x20), (2, .int x3), (0, .ref (ad 0)), (1, .int p1)] → W p l e ({ frames := 3, cells := 0, slots := 0, locals := 66 }) s m ([.ref (ad 0), .int p1] : List Value).toArray below meth c H locs 0 0 (MQ below (va_Qi (fun (x : Int32) (_ : Unit) => x = r) (fun _ t => va_P E.1 cls6 (wl E ad n L σ) t.heap ∧ va_D (va_A (wl E ad n L σ) sz) (wl E ad n L σ)) (va_A (wl E ad n L σ) sz)) ([.ref (ad 0), .int p1] : List Value).toArray s 0 0 (va_A (wl E ad n L σ) sz)) (F0 m 73 ls [])) → Wo E (va_A (wl E ad n L σ) sz) s.heap (wl E ad n L σ) H locs → lv_has ls 6 [(4, .int x7), (3, .int x8), (2, .int x3), (0, .ref (ad 0)), (1, .int p1)] → W p l e ({ frames := 3, cells := 0, slots := 0, locals := 66 }) s m ([.ref (ad 0), .int p1] : List Value).toArray below meth c H locs 0 0 (MQ below (va_Qi (fun (x : Int32) (_ : Unit) => x = r) (fun _ t => va_P E.1 cls6 (wl E ad n L σ) t.heap ∧ va_D (va_A (wl E ad n L σ) sz) (wl E ad n L σ)) (va_A (wl E ad n L σ) sz)) ([.ref (ad 0), .int p1] : List Value).toArray s 0 0 (va_A (wl E ad n L σ) sz)) (F0 m 18 ls []) := by
          intro k6
          induction k6 with
          | zero =>
            intro x7 x8 H locs ls res5 hD
            rw [D_SF_wouldBreakWithout_L18.eq_1] at hD
            cases hD
          | succ k6 ih =>
            intro x7 x8 H locs ls res5 hD hex wo hl
            rw [D_SF_wouldBreakWithout_L18.eq_2] at hD
            refine lv_iload hx hb d_SF_wouldBreakWithout_18 (lv_at hl 0 rfl) ?_
            refine lv_aload_n hx hb d_SF_wouldBreakWithout_20 rfl (lv_at hl 3 rfl) ?_
            refine g_get cx wo m0 (cel_0 E ad n σ) rfl in_SF 0 (by decide) wf_SF_12 rfl d_SF_wouldBreakWithout_21 ?_
            refine g_get cx wo m1 (cel_1 E ad n σ) rfl in_LA 1 (by decide) wf_SF_238 rfl d_SF_wouldBreakWithout_24 ?_
            refine lv_icmp_ge (tgt := 73) hx hb d_SF_wouldBreakWithout_27 (by decide) (fun c9 => ?_) (fun c9 => ?_)
            · have hD := ite_p hD c9
              exact hex x8 _ _ _ (Option.some.inj hD).symm wo (lv_sub hl [1, 2, 3, 4] rfl)
            · have hD := ite_n hD c9
              refine lv_aload_n hx hb d_SF_wouldBreakWithout_30 rfl (lv_at hl 3 rfl) ?_
              refine lv_iload_n hx hb d_SF_wouldBreakWithout_31 rfl (lv_at hl 2 rfl) ?_
              refine lv_iload hx hb d_SF_wouldBreakWithout_32 (lv_at hl 0 rfl) ?_
              obtain ⟨x10, hcx10, hD⟩ := bd_s hD
              try dsimp only [nm2] at hD
              refine call_Vi cx wo (k_SF_placeOf l E ad n L (fun a h => hL a ((by decide : ∀ a ∈ ([0, 1, 3, 15] : List Nat), a ∈ ([0, 1, 2, 3, 14, 15] : List Nat)) a h)) F σ  x3 x7 x10 hcx10) m0 (cel_0 E ad n σ) rfl rfl mw_SF_placeOf wm_SF_268 ⟨by decide, by decide⟩ ⟨by decide, by decide⟩ hl.1 rfl (Nat.le_of_ble_eq_true rfl) d_SF_wouldBreakWithout_34 (fun H locs wo => ?_)
              refine lv_istore (lv' := [(5, .int x10), (4, .int x7), (3, .int x8), (2, .int x3), (0, .ref (ad 0)), (1, .int p1)]) hx hb d_SF_wouldBreakWithout_37 hl (by decide) rfl (fun ls hl => ?_)
              refine lv_aload_n hx hb d_SF_wouldBreakWithout_39 rfl (lv_at hl 4 rfl) ?_
              refine g_get cx wo m0 (cel_0 E ad n σ) rfl in_SF 1 (by decide) wf_SF_23 rfl d_SF_wouldBreakWithout_40 ?_
              refine lv_iload hx hb d_SF_wouldBreakWithout_43 (lv_at hl 0 rfl) ?_
              obtain ⟨x11, hcx11, hD⟩ := bd_s hD
              try dsimp only [nm2] at hD
              refine call_Vi cx wo (k_RK_isValid l E ad n L (fun a h => hL a ((by decide : ∀ a ∈ ([2, 14] : List Nat), a ∈ ([0, 1, 2, 3, 14, 15] : List Nat)) a h)) F σ  x10 x11 hcx11) m2 (cel_2 E ad n σ) rfl rfl mw_RK_isValid wm_SF_280 ⟨by decide, by decide⟩ ⟨by decide, by decide⟩ hl.1 rfl (Nat.le_of_ble_eq_true rfl) d_SF_wouldBreakWithout_45 (fun H locs wo => ?_)
              refine lv_if_eq (tgt := 64) hx hb d_SF_wouldBreakWithout_48 (by decide) (fun c12 => ?_) (fun c12 => ?_)
              · have hD := ite_p hD c12
                obtain ⟨x13, ex13⟩ : ∃ y : Int32, y = x8 + (1 : Int32) := ⟨_, rfl⟩
                have hD := nm_at hD ex13
                try dsimp only at hD
                refine lv_iinc (v := x13) (lv' := [(3, .int x13), (5, .int x10), (4, .int x7), (2, .int x3), (0, .ref (ad 0)), (1, .int p1)]) hx hb d_SF_wouldBreakWithout_64 hl (k := 2) rfl (by rw [ex13]; rfl) (by decide) rfl (fun ls hl => ?_)
                obtain ⟨x14, ex14⟩ : ∃ y : Int32, y = x7 + (1 : Int32) := ⟨_, rfl⟩
                have hD := nm_at hD ex14
                try dsimp only at hD
                refine lv_iinc (v := x14) (lv' := [(4, .int x14), (3, .int x13), (5, .int x10), (2, .int x3), (0, .ref (ad 0)), (1, .int p1)]) hx hb d_SF_wouldBreakWithout_67 hl (k := 2) rfl (by rw [ex14]; rfl) (by decide) rfl (fun ls hl => ?_)
                refine lv_goto (tgt := 18) hx hb d_SF_wouldBreakWithout_70 (by decide) ?_
                exact ih x14 x13 _ _ _ _ hD hex wo (lv_sub hl [0, 1, 3, 4, 5] rfl)
              · have hD := ite_n hD c12
                refine lv_aload_n hx hb d_SF_wouldBreakWithout_51 rfl (lv_at hl 4 rfl) ?_
                refine g_get cx wo m0 (cel_0 E ad n σ) rfl in_SF 0 (by decide) wf_SF_12 rfl d_SF_wouldBreakWithout_52 ?_
                refine lv_iload hx hb d_SF_wouldBreakWithout_55 (lv_at hl 0 rfl) ?_
                obtain ⟨x15, hcx15, hD⟩ := bd_s hD
                try dsimp only [nm2] at hD
                refine call_Vi cx wo (k_LA_diskOf l E ad n L (fun a h => hL a ((by decide : ∀ a ∈ ([1] : List Nat), a ∈ ([0, 1, 2, 3, 14, 15] : List Nat)) a h)) F σ  x10 x15 hcx15) m1 (cel_1 E ad n σ) rfl rfl mw_LA_diskOf wm_SF_256 ⟨by decide, by decide⟩ ⟨by decide, by decide⟩ hl.1 rfl (Nat.le_of_ble_eq_true rfl) d_SF_wouldBreakWithout_57 (fun H locs wo => ?_)
                refine lv_iload_n hx hb d_SF_wouldBreakWithout_60 rfl (lv_at hl 5 rfl) ?_
                refine lv_icmp_ne (tgt := 67) hx hb d_SF_wouldBreakWithout_61 (by decide) (fun c16 => ?_) (fun c16 => ?_)
                · have hD := ite_n hD c16
                  obtain ⟨x17, ex17⟩ : ∃ y : Int32, y = x7 + (1 : Int32) := ⟨_, rfl⟩
                  have hD := nm_at hD ex17
                  try dsimp only at hD
                  refine lv_iinc (v := x17) (lv' := [(4, .int x17), (5, .int x10), (3, .int x8), (2, .int x3), (0, .ref (ad 0)), (1, .int p1)]) hx hb d_SF_wouldBreakWithout_67 hl (k := 1) rfl (by rw [ex17]; rfl) (by decide) rfl (fun ls hl => ?_)
                  refine lv_goto (tgt := 18) hx hb d_SF_wouldBreakWithout_70 (by decide) ?_
                  exact ih x17 x8 _ _ _ _ hD hex wo (lv_sub hl [0, 2, 3, 4, 5] rfl)
                · have hD := ite_p hD c16
                  obtain ⟨x18, ex18⟩ : ∃ y : Int32, y = x8 + (1 : Int32) := ⟨_, rfl⟩
                  have hD := nm_at hD ex18
                  try dsimp only at hD
                  refine lv_iinc (v := x18) (lv' := [(3, .int x18), (5, .int x10), (4, .int x7), (2, .int x3), (0, .ref (ad 0)), (1, .int p1)]) hx hb d_SF_wouldBreakWithout_64 hl (k := 2) rfl (by rw [ex18]; rfl) (by decide) rfl (fun ls hl => ?_)
                  obtain ⟨x19, ex19⟩ : ∃ y : Int32, y = x7 + (1 : Int32) := ⟨_, rfl⟩
                  have hD := nm_at hD ex19
                  try dsimp only at hD
                  refine lv_iinc (v := x19) (lv' := [(4, .int x19), (3, .int x18), (5, .int x10), (2, .int x3), (0, .ref (ad 0)), (1, .int p1)]) hx hb d_SF_wouldBreakWithout_67 hl (k := 2) rfl (by rw [ex19]; rfl) (by decide) rfl (fun ls hl => ?_)
                  refine lv_goto (tgt := 18) hx hb d_SF_wouldBreakWithout_70 (by decide) ?_
                  exact ih x19 x18 _ _ _ _ hD hex wo (lv_sub hl [0, 1, 3, 4, 5] rfl)
        obtain ⟨res22, hr23, hD⟩ := bd_s hD
        refine lp21 F (0 : Int32) (0 : Int32) _ _ _ _ hr23 (fun x20 H locs ls hz wo hl => ?_) wo (lv_sub hl [0, 1, 2, 3, 4] rfl)
        have hz := hz.symm
        subst hz
        try dsimp only at hD
        refine lv_iload_n hx hb d_SF_wouldBreakWithout_73 rfl (lv_at hl 0 rfl) ?_
        refine lv_iconst (v := 1) hx hb d_SF_wouldBreakWithout_74 (by decide) ?_
        refine lv_icmp_le (tgt := 80) hx hb d_SF_wouldBreakWithout_75 (by decide) (fun c24 => ?_) (fun c24 => ?_)
        · have hD := ite_p hD c24
          obtain ⟨x25, ex25⟩ : ∃ y : Int32, y = x3 + (1 : Int32) := ⟨_, rfl⟩
          have hD := nm_at hD ex25
          try dsimp only at hD
          refine lv_iinc (v := x25) (lv' := [(2, .int x25), (3, .int x20), (0, .ref (ad 0)), (1, .int p1)]) hx hb d_SF_wouldBreakWithout_80 hl (k := 1) rfl (by rw [ex25]; rfl) (by decide) rfl (fun ls hl => ?_)
          refine lv_goto (tgt := 2) hx hb d_SF_wouldBreakWithout_83 (by decide) ?_
          exact ih x25 _ _ _ _ hD hret hex wo (lv_sub hl [0, 2, 3] rfl)
        · have hD := ite_n hD c24
          refine lv_iconst (v := 1) hx hb d_SF_wouldBreakWithout_78 (by decide) ?_
          have hz := hret _ (Option.some.inj hD).symm
          cases hz
          exact t_ireti cx wo rfl rfl d_SF_wouldBreakWithout_79
  obtain ⟨res27, hr28, hD⟩ := bd_s hD
  refine lp26 F (0 : Int32) _ _ _ _ hr28 (fun z hz => by subst hz; exact (Option.some.inj hD).symm) (fun  H locs ls hz wo hl => ?_) wo (lv_sub hl [0, 1, 2] rfl)
  subst hz
  try dsimp only at hD
  refine lv_iconst (v := 0) hx hb d_SF_wouldBreakWithout_86 (by decide) ?_
  cases hD
  exact t_ireti cx wo rfl rfl d_SF_wouldBreakWithout_87
def D_SF_othersAreValid_L21 (F : Nat) (n : Nat → Nat) (σ : HS) (x2 : Int32) (x1 : Int32) : Nat → Int32 → Option ((Unit) ⊕ (Int32))
  | 0, _ => none
  | k4 + 1, x5 =>
      (if (σ.1 1 1) ≤ x5 then
        some (Sum.inl ())
      else
        (if x5 = x2 then
          nm (x5 + (1 : Int32)) (fun x8 =>
          D_SF_othersAreValid_L21 F n σ x2 x1 k4 x8)
        else
          (D_SF_placeOf F n σ x1 x5).bind (fun (x9 : Int32) =>
          (D_RK_isValid F n σ x9).bind (fun (x10 : Int32) =>
          (if x10 = 0 then
            some (Sum.inr (0 : Int32))
          else
            nm (x5 + (1 : Int32)) (fun x12 =>
            D_SF_othersAreValid_L21 F n σ x2 x1 k4 x12))))))
def D_SF_othersAreValid (F : Nat) (n : Nat → Nat) (σ : HS) (p1 : Int32) : Option (Int32) :=
(D_LA_stripeOfSlot F n σ p1).bind (fun (x1 : Int32) =>
  (D_LA_columnOfSlot F n σ p1).bind (fun (x2 : Int32) =>
  (D_SF_othersAreValid_L21 F n σ x2 x1 F (0 : Int32)).bind (fun q16 => match q16 with
    | Sum.inl _ =>
      some (1 : Int32)
    | Sum.inr z => some z)))
set_option maxRecDepth 100000 in
set_option maxHeartbeats 4000000 in
theorem k_SF_othersAreValid (l : Launch) (E : EV) (ad n : Nat → Nat) (L : List Nat) (hL : ∀ a ∈ ([0, 1, 2, 3, 14, 15] : List Nat), a ∈ L) (F : Nat) (σ  : HS) (p1 : Int32) (r : Int32) (hD : D_SF_othersAreValid F n σ p1 = some r) : CtI l E y_SF_othersAreValid c_SF_othersAreValid 5 (some FieldType.boolean) ({ frames := 3, cells := 0, slots := 0, locals := 66 }) [.ref (ad 0), .int p1] (wl E ad n L σ) r (wl E ad n L σ) := by
  refine fun sz => ent (by decide) (Nat.le_of_ble_eq_true rfl) ?_
  intro p e s m below meth c hsz cx wo ls hl
  have hx := cx.1.1
  have hb := cx.1.2.1
  have hown := cx.1.2.2.2.1
  have hts := cx.1.2.2.2.2
  have hl : lv_has ls 5 [(0, .ref (ad 0)), (1, .int p1)] := hl
  have m0 : 0 ∈ L := hL 0 (by decide)
  have m1 : 1 ∈ L := hL 1 (by decide)
  have m2 : 2 ∈ L := hL 2 (by decide)
  have m3 : 3 ∈ L := hL 3 (by decide)
  have m14 : 14 ∈ L := hL 14 (by decide)
  have m15 : 15 ∈ L := hL 15 (by decide)
  rw [D_SF_othersAreValid] at hD
  refine lv_aload_n hx hb d_SF_othersAreValid_0 rfl (lv_at hl 0 rfl) ?_
  refine g_get cx wo m0 (cel_0 E ad n σ) rfl in_SF 0 (by decide) wf_SF_12 rfl d_SF_othersAreValid_1 ?_
  refine lv_iload_n hx hb d_SF_othersAreValid_4 rfl (lv_at hl 1 rfl) ?_
  obtain ⟨x1, hcx1, hD⟩ := bd_s hD
  try dsimp only [nm2] at hD
  refine call_Vi cx wo (k_LA_stripeOfSlot l E ad n L (fun a h => hL a ((by decide : ∀ a ∈ ([1] : List Nat), a ∈ ([0, 1, 2, 3, 14, 15] : List Nat)) a h)) F σ  p1 x1 hcx1) m1 (cel_1 E ad n σ) rfl rfl mw_LA_stripeOfSlot wm_SF_300 ⟨by decide, by decide⟩ ⟨by decide, by decide⟩ hl.1 rfl (Nat.le_of_ble_eq_true rfl) d_SF_othersAreValid_5 (fun H locs wo => ?_)
  refine lv_istore_n (lv' := [(2, .int x1), (0, .ref (ad 0)), (1, .int p1)]) hx hb d_SF_othersAreValid_8 rfl hl (by decide) rfl (fun ls hl => ?_)
  refine lv_aload_n hx hb d_SF_othersAreValid_9 rfl (lv_at hl 1 rfl) ?_
  refine g_get cx wo m0 (cel_0 E ad n σ) rfl in_SF 0 (by decide) wf_SF_12 rfl d_SF_othersAreValid_10 ?_
  refine lv_iload_n hx hb d_SF_othersAreValid_13 rfl (lv_at hl 2 rfl) ?_
  obtain ⟨x2, hcx2, hD⟩ := bd_s hD
  try dsimp only [nm2] at hD
  refine call_Vi cx wo (k_LA_columnOfSlot l E ad n L (fun a h => hL a ((by decide : ∀ a ∈ ([1] : List Nat), a ∈ ([0, 1, 2, 3, 14, 15] : List Nat)) a h)) F σ  p1 x2 hcx2) m1 (cel_1 E ad n σ) rfl rfl mw_LA_columnOfSlot wm_SF_303 ⟨by decide, by decide⟩ ⟨by decide, by decide⟩ hl.1 rfl (Nat.le_of_ble_eq_true rfl) d_SF_othersAreValid_14 (fun H locs wo => ?_)
  refine lv_istore_n (lv' := [(3, .int x2), (2, .int x1), (0, .ref (ad 0)), (1, .int p1)]) hx hb d_SF_othersAreValid_17 rfl hl (by decide) rfl (fun ls hl => ?_)
  refine lv_iconst (v := 0) hx hb d_SF_othersAreValid_18 (by decide) ?_
  refine lv_istore (lv' := [(4, .int (0 : Int32)), (3, .int x2), (2, .int x1), (0, .ref (ad 0)), (1, .int p1)]) hx hb d_SF_othersAreValid_19 hl (by decide) rfl (fun ls hl => ?_)
  have lp13 : ∀ (k4 : Nat) (x5 : Int32) (H : Heap) (locs : List Loc) (ls : Array Slot) (res3 : (Unit) ⊕ (Int32)), D_SF_othersAreValid_L21 F n σ x2 x1 k4 x5 = some res3 → (∀ z, res3 = Sum.inr z → r = z) → (∀  (H : Heap) (locs : List Loc) (ls : Array Slot), res3 = Sum.inl () → Wo E (va_A (wl E ad n L σ) sz) s.heap (wl E ad n L σ) H locs → lv_has ls 5 [] → W p l e ({ frames := 3, cells := 0, slots := 0, locals := 66 }) s m ([.ref (ad 0), .int p1] : List Value).toArray below meth c H locs 0 0 (MQ below (va_Qi (fun (x : Int32) (_ : Unit) => x = r) (fun _ t => va_P E.1 cls6 (wl E ad n L σ) t.heap ∧ va_D (va_A (wl E ad n L σ) sz) (wl E ad n L σ)) (va_A (wl E ad n L σ) sz)) ([.ref (ad 0), .int p1] : List Value).toArray s 0 0 (va_A (wl E ad n L σ) sz)) (F0 m 64 ls [])) → Wo E (va_A (wl E ad n L σ) sz) s.heap (wl E ad n L σ) H locs → lv_has ls 5 [(4, .int x5), (3, .int x2), (2, .int x1), (0, .ref (ad 0))] → W p l e ({ frames := 3, cells := 0, slots := 0, locals := 66 }) s m ([.ref (ad 0), .int p1] : List Value).toArray below meth c H locs 0 0 (MQ below (va_Qi (fun (x : Int32) (_ : Unit) => x = r) (fun _ t => va_P E.1 cls6 (wl E ad n L σ) t.heap ∧ va_D (va_A (wl E ad n L σ) sz) (wl E ad n L σ)) (va_A (wl E ad n L σ) sz)) ([.ref (ad 0), .int p1] : List Value).toArray s 0 0 (va_A (wl E ad n L σ) sz)) (F0 m 21 ls []) := by
    intro k4
    induction k4 with
    | zero =>
      intro x5 H locs ls res3 hD
      rw [D_SF_othersAreValid_L21.eq_1] at hD
      cases hD
    | succ k4 ih =>
      intro x5 H locs ls res3 hD hret hex wo hl
      rw [D_SF_othersAreValid_L21.eq_2] at hD
      refine lv_iload hx hb d_SF_othersAreValid_21 (lv_at hl 0 rfl) ?_
      refine lv_aload_n hx hb d_SF_othersAreValid_23 rfl (lv_at hl 3 rfl) ?_
      refine g_get cx wo m0 (cel_0 E ad n σ) rfl in_SF 0 (by decide) wf_SF_12 rfl d_SF_othersAreValid_24 ?_
      refine g_get cx wo m1 (cel_1 E ad n σ) rfl in_LA 1 (by decide) wf_SF_238 rfl d_SF_othersAreValid_27 ?_
      refine lv_icmp_ge (tgt := 64) hx hb d_SF_othersAreValid_30 (by decide) (fun c6 => ?_) (fun c6 => ?_)
      · have hD := ite_p hD c6
        exact hex  _ _ _ (Option.some.inj hD).symm wo (lv_sub hl [] rfl)
      · have hD := ite_n hD c6
        refine lv_iload hx hb d_SF_othersAreValid_33 (lv_at hl 0 rfl) ?_
        refine lv_iload_n hx hb d_SF_othersAreValid_35 rfl (lv_at hl 1 rfl) ?_
        refine lv_icmp_eq (tgt := 58) hx hb d_SF_othersAreValid_36 (by decide) (fun c7 => ?_) (fun c7 => ?_)
        · have hD := ite_p hD c7
          obtain ⟨x8, ex8⟩ : ∃ y : Int32, y = x5 + (1 : Int32) := ⟨_, rfl⟩
          have hD := nm_at hD ex8
          try dsimp only at hD
          refine lv_iinc (v := x8) (lv' := [(4, .int x8), (3, .int x2), (2, .int x1), (0, .ref (ad 0))]) hx hb d_SF_othersAreValid_58 hl (k := 0) rfl (by rw [ex8]; rfl) (by decide) rfl (fun ls hl => ?_)
          refine lv_goto (tgt := 21) hx hb d_SF_othersAreValid_61 (by decide) ?_
          exact ih x8 _ _ _ _ hD hret hex wo (lv_sub hl [0, 1, 2, 3] rfl)
        · have hD := ite_n hD c7
          refine lv_aload_n hx hb d_SF_othersAreValid_39 rfl (lv_at hl 3 rfl) ?_
          refine g_get cx wo m0 (cel_0 E ad n σ) rfl in_SF 1 (by decide) wf_SF_23 rfl d_SF_othersAreValid_40 ?_
          refine lv_aload_n hx hb d_SF_othersAreValid_43 rfl (lv_at hl 3 rfl) ?_
          refine lv_iload_n hx hb d_SF_othersAreValid_44 rfl (lv_at hl 2 rfl) ?_
          refine lv_iload hx hb d_SF_othersAreValid_45 (lv_at hl 0 rfl) ?_
          obtain ⟨x9, hcx9, hD⟩ := bd_s hD
          try dsimp only [nm2] at hD
          refine call_Vi cx wo (k_SF_placeOf l E ad n L (fun a h => hL a ((by decide : ∀ a ∈ ([0, 1, 3, 15] : List Nat), a ∈ ([0, 1, 2, 3, 14, 15] : List Nat)) a h)) F σ  x1 x5 x9 hcx9) m0 (cel_0 E ad n σ) rfl rfl mw_SF_placeOf wm_SF_268 ⟨by decide, by decide⟩ ⟨by decide, by decide⟩ hl.1 rfl (Nat.le_of_ble_eq_true rfl) d_SF_othersAreValid_47 (fun H locs wo => ?_)
          obtain ⟨x10, hcx10, hD⟩ := bd_s hD
          try dsimp only [nm2] at hD
          refine call_Vi cx wo (k_RK_isValid l E ad n L (fun a h => hL a ((by decide : ∀ a ∈ ([2, 14] : List Nat), a ∈ ([0, 1, 2, 3, 14, 15] : List Nat)) a h)) F σ  x9 x10 hcx10) m2 (cel_2 E ad n σ) rfl rfl mw_RK_isValid wm_SF_280 ⟨by decide, by decide⟩ ⟨by decide, by decide⟩ hl.1 rfl (Nat.le_of_ble_eq_true rfl) d_SF_othersAreValid_50 (fun H locs wo => ?_)
          refine lv_if_ne (tgt := 58) hx hb d_SF_othersAreValid_53 (by decide) (fun c11 => ?_) (fun c11 => ?_)
          · have hD := ite_n hD c11
            obtain ⟨x12, ex12⟩ : ∃ y : Int32, y = x5 + (1 : Int32) := ⟨_, rfl⟩
            have hD := nm_at hD ex12
            try dsimp only at hD
            refine lv_iinc (v := x12) (lv' := [(4, .int x12), (3, .int x2), (2, .int x1), (0, .ref (ad 0))]) hx hb d_SF_othersAreValid_58 hl (k := 0) rfl (by rw [ex12]; rfl) (by decide) rfl (fun ls hl => ?_)
            refine lv_goto (tgt := 21) hx hb d_SF_othersAreValid_61 (by decide) ?_
            exact ih x12 _ _ _ _ hD hret hex wo (lv_sub hl [0, 1, 2, 3] rfl)
          · have hD := ite_p hD c11
            refine lv_iconst (v := 0) hx hb d_SF_othersAreValid_56 (by decide) ?_
            have hz := hret _ (Option.some.inj hD).symm
            cases hz
            exact t_ireti cx wo rfl rfl d_SF_othersAreValid_57
  obtain ⟨res14, hr15, hD⟩ := bd_s hD
  refine lp13 F (0 : Int32) _ _ _ _ hr15 (fun z hz => by subst hz; exact (Option.some.inj hD).symm) (fun  H locs ls hz wo hl => ?_) wo (lv_sub hl [0, 1, 2, 3] rfl)
  subst hz
  try dsimp only at hD
  refine lv_iconst (v := 1) hx hb d_SF_othersAreValid_64 (by decide) ?_
  cases hD
  exact t_ireti cx wo rfl rfl d_SF_othersAreValid_65
def D_SF_spoilPlace (F : Nat) (n : Nat → Nat) (σ : HS) (p1 : Int32) (p2 : Int32) (p3 : Int32) (p4 : Int64) : Option (HS × Int32) :=
(D_RK_damage F n σ p1 p2 p3 p4).bind (fun (σ2 : HS) =>
  (D_RK_isValid F n σ2 p1).bind (fun (x3 : Int32) =>
  jn (fun (x5 : Int32) =>
    (if x5 = 0 then
      (D_RK_damage F n σ2 p1 p2 p3 p4).bind (fun (σ9 : HS) =>
      grd (isB x5) (
      some (σ9, x5)))
    else
      grd (isB x5) (
      some (σ2, x5))))
  (fun j4 =>
  (if x3 = 0 then
    grd (inb p1 (n 16)) (
    (D_SF_othersAreValid F n σ2 (σ2.1 16 (p1).toNatClampNeg)).bind (fun (x13 : Int32) =>
    j4 x13))
  else
    (D_RK_isAsWritten F n σ2 p1).bind (fun (x14 : Int32) =>
    j4 x14)))))
set_option maxRecDepth 100000 in
set_option maxHeartbeats 4000000 in
theorem k_SF_spoilPlace (l : Launch) (E : EV) (ad n : Nat → Nat) (L : List Nat) (hL : ∀ a ∈ ([0, 1, 2, 3, 11, 12, 14, 15, 16] : List Nat), a ∈ L) (F : Nat) (σ σo : HS) (p1 : Int32) (p2 : Int32) (p3 : Int32) (p4 : Int64) (r : Int32) (hD : D_SF_spoilPlace F n σ p1 p2 p3 p4 = some (σo, r)) : CtI l E y_SF_spoilPlace c_SF_spoilPlace 7 (some FieldType.boolean) ({ frames := 4, cells := 0, slots := 0, locals := 90 }) [.ref (ad 0), .int p1, .int p2, .int p3, .long p4] (wl E ad n L σ) r (wl E ad n L σo) := by
  refine fun sz => ent (by decide) (Nat.le_of_ble_eq_true rfl) ?_
  intro p e s m below meth c hsz cx wo ls hl
  have hx := cx.1.1
  have hb := cx.1.2.1
  have hown := cx.1.2.2.2.1
  have hts := cx.1.2.2.2.2
  have hl : lv_has ls 7 [(0, .ref (ad 0)), (1, .int p1), (2, .int p2), (3, .int p3), (4, .long p4)] := hl
  have m0 : 0 ∈ L := hL 0 (by decide)
  have m1 : 1 ∈ L := hL 1 (by decide)
  have m2 : 2 ∈ L := hL 2 (by decide)
  have m3 : 3 ∈ L := hL 3 (by decide)
  have m11 : 11 ∈ L := hL 11 (by decide)
  have m12 : 12 ∈ L := hL 12 (by decide)
  have m14 : 14 ∈ L := hL 14 (by decide)
  have m15 : 15 ∈ L := hL 15 (by decide)
  have m16 : 16 ∈ L := hL 16 (by decide)
  rw [D_SF_spoilPlace] at hD
  refine lv_aload_n hx hb d_SF_spoilPlace_0 rfl (lv_at hl 0 rfl) ?_
  refine g_get cx wo m0 (cel_0 E ad n σ) rfl in_SF 1 (by decide) wf_SF_23 rfl d_SF_spoilPlace_1 ?_
  refine lv_iload_n hx hb d_SF_spoilPlace_4 rfl (lv_at hl 1 rfl) ?_
  refine lv_iload_n hx hb d_SF_spoilPlace_5 rfl (lv_at hl 2 rfl) ?_
  refine lv_iload_n hx hb d_SF_spoilPlace_6 rfl (lv_at hl 3 rfl) ?_
  refine lv_lload hx hb d_SF_spoilPlace_7 (lv_at hl 4 rfl) ?_
  obtain ⟨σ2, hcx1, hD⟩ := bd_s hD
  try dsimp only [nm2] at hD
  refine call_Vv cx wo (k_RK_damage l E ad n L (fun a h => hL a ((by decide : ∀ a ∈ ([2, 11, 12, 14] : List Nat), a ∈ ([0, 1, 2, 3, 11, 12, 14, 15, 16] : List Nat)) a h)) F σ σ2 p1 p2 p3 p4 hcx1) m2 (cel_2 E ad n σ) rfl rfl mw_RK_damage wm_SF_319 ⟨by decide, by decide⟩ ⟨by decide, by decide⟩ hl.1 rfl (Nat.le_of_ble_eq_true rfl) d_SF_spoilPlace_9 (fun H locs wo => ?_)
  refine lv_aload_n hx hb d_SF_spoilPlace_12 rfl (lv_at hl 0 rfl) ?_
  refine g_get cx wo m0 (cel_0 E ad n σ2) rfl in_SF 1 (by decide) wf_SF_23 rfl d_SF_spoilPlace_13 ?_
  refine lv_iload_n hx hb d_SF_spoilPlace_16 rfl (lv_at hl 1 rfl) ?_
  obtain ⟨x3, hcx3, hD⟩ := bd_s hD
  try dsimp only [nm2] at hD
  refine call_Vi cx wo (k_RK_isValid l E ad n L (fun a h => hL a ((by decide : ∀ a ∈ ([2, 14] : List Nat), a ∈ ([0, 1, 2, 3, 11, 12, 14, 15, 16] : List Nat)) a h)) F σ2  p1 x3 hcx3) m2 (cel_2 E ad n σ2) rfl rfl mw_RK_isValid wm_SF_280 ⟨by decide, by decide⟩ ⟨by decide, by decide⟩ hl.1 rfl (Nat.le_of_ble_eq_true rfl) d_SF_spoilPlace_17 (fun H locs wo => ?_)
  obtain ⟨j4, hj4, hD⟩ := jn_s hD
  try dsimp only at hD
  have j4_ok : ∀ (x5 : Int32) (H : Heap) (locs : List Loc) (ls : Array Slot), j4 x5 = some (σo, r) → Wo E (va_A (wl E ad n L σ) sz) s.heap (wl E ad n L σ2) H locs → lv_has ls 7 [(0, .ref (ad 0)), (1, .int p1), (2, .int p2), (3, .int p3), (4, .long p4)] → W p l e ({ frames := 4, cells := 0, slots := 0, locals := 90 }) s m ([.ref (ad 0), .int p1, .int p2, .int p3, .long p4] : List Value).toArray below meth c H locs 0 0 (MQ below (va_Qi (fun (x : Int32) (_ : Unit) => x = r) (fun _ t => va_P E.1 cls6 (wl E ad n L σo) t.heap ∧ va_D (va_A (wl E ad n L σ) sz) (wl E ad n L σo)) (va_A (wl E ad n L σ) sz)) ([.ref (ad 0), .int p1, .int p2, .int p3, .long p4] : List Value).toArray s 0 0 (va_A (wl E ad n L σ) sz)) (F0 m 47 ls [.int x5]) := by
    intro x5 H locs ls hD wo hl
    rw [hj4] at hD
    try dsimp only at hD
    refine lv_istore (lv' := [(6, .int x5), (0, .ref (ad 0)), (1, .int p1), (2, .int p2), (3, .int p3), (4, .long p4)]) hx hb d_SF_spoilPlace_47 hl (by decide) rfl (fun ls hl => ?_)
    refine lv_iload hx hb d_SF_spoilPlace_49 (lv_at hl 0 rfl) ?_
    refine lv_if_ne (tgt := 66) hx hb d_SF_spoilPlace_51 (by decide) (fun c6 => ?_) (fun c6 => ?_)
    · have hD := ite_n hD c6
      refine lv_iload hx hb d_SF_spoilPlace_66 (lv_at hl 0 rfl) ?_
      obtain ⟨g7, hD⟩ := grd_s hD
      cases hD
      exact t_ireti cx wo (isB_n g7) rfl d_SF_spoilPlace_68
    · have hD := ite_p hD c6
      refine lv_aload_n hx hb d_SF_spoilPlace_54 rfl (lv_at hl 1 rfl) ?_
      refine g_get cx wo m0 (cel_0 E ad n σ2) rfl in_SF 1 (by decide) wf_SF_23 rfl d_SF_spoilPlace_55 ?_
      refine lv_iload_n hx hb d_SF_spoilPlace_58 rfl (lv_at hl 2 rfl) ?_
      refine lv_iload_n hx hb d_SF_spoilPlace_59 rfl (lv_at hl 3 rfl) ?_
      refine lv_iload_n hx hb d_SF_spoilPlace_60 rfl (lv_at hl 4 rfl) ?_
      refine lv_lload hx hb d_SF_spoilPlace_61 (lv_at hl 5 rfl) ?_
      obtain ⟨σ9, hcx8, hD⟩ := bd_s hD
      try dsimp only [nm2] at hD
      refine call_Vv cx wo (k_RK_damage l E ad n L (fun a h => hL a ((by decide : ∀ a ∈ ([2, 11, 12, 14] : List Nat), a ∈ ([0, 1, 2, 3, 11, 12, 14, 15, 16] : List Nat)) a h)) F σ2 σ9 p1 p2 p3 p4 hcx8) m2 (cel_2 E ad n σ2) rfl rfl mw_RK_damage wm_SF_319 ⟨by decide, by decide⟩ ⟨by decide, by decide⟩ hl.1 rfl (Nat.le_of_ble_eq_true rfl) d_SF_spoilPlace_63 (fun H locs wo => ?_)
      refine lv_iload hx hb d_SF_spoilPlace_66 (lv_at hl 0 rfl) ?_
      obtain ⟨g10, hD⟩ := grd_s hD
      cases hD
      exact t_ireti cx wo (isB_n g10) rfl d_SF_spoilPlace_68
  refine lv_if_eq (tgt := 34) hx hb d_SF_spoilPlace_20 (by decide) (fun c11 => ?_) (fun c11 => ?_)
  · have hD := ite_p hD c11
    refine lv_aload_n hx hb d_SF_spoilPlace_34 rfl (lv_at hl 0 rfl) ?_
    refine lv_aload_n hx hb d_SF_spoilPlace_35 rfl (lv_at hl 0 rfl) ?_
    refine g_get cx wo m0 (cel_0 E ad n σ2) rfl in_SF 2 (by decide) wf_SF_32 rfl d_SF_spoilPlace_36 ?_
    refine g_get cx wo m3 (cel_3 E ad n σ2) rfl in_PL 1 (by decide) wf_SF_176 rfl d_SF_spoilPlace_39 ?_
    refine lv_iload_n hx hb d_SF_spoilPlace_42 rfl (lv_at hl 1 rfl) ?_
    obtain ⟨g12, hD⟩ := grd_s hD
    refine g_iald cx wo m16 (cel_16 E ad n σ2) g12 d_SF_spoilPlace_43 ?_
    obtain ⟨x13, hcx13, hD⟩ := bd_s hD
    try dsimp only [nm2] at hD
    refine call_Vi cx wo (k_SF_othersAreValid l E ad n L (fun a h => hL a ((by decide : ∀ a ∈ ([0, 1, 2, 3, 14, 15] : List Nat), a ∈ ([0, 1, 2, 3, 11, 12, 14, 15, 16] : List Nat)) a h)) F σ2  (σ2.1 16 (p1).toNatClampNeg) x13 hcx13) m0 (cel_0 E ad n σ2) rfl rfl mw_SF_othersAreValid wm_SF_326 ⟨by decide, by decide⟩ ⟨by decide, by decide⟩ hl.1 rfl (Nat.le_of_ble_eq_true rfl) d_SF_spoilPlace_44 (fun H locs wo => ?_)
    exact j4_ok x13 _ _ _ hD wo (lv_sub hl [0, 1, 2, 3, 4] rfl)
  · have hD := ite_n hD c11
    refine lv_aload_n hx hb d_SF_spoilPlace_23 rfl (lv_at hl 0 rfl) ?_
    refine g_get cx wo m0 (cel_0 E ad n σ2) rfl in_SF 1 (by decide) wf_SF_23 rfl d_SF_spoilPlace_24 ?_
    refine lv_iload_n hx hb d_SF_spoilPlace_27 rfl (lv_at hl 1 rfl) ?_
    obtain ⟨x14, hcx14, hD⟩ := bd_s hD
    try dsimp only [nm2] at hD
    refine call_Vi cx wo (k_RK_isAsWritten l E ad n L (fun a h => hL a ((by decide : ∀ a ∈ ([2, 12] : List Nat), a ∈ ([0, 1, 2, 3, 11, 12, 14, 15, 16] : List Nat)) a h)) F σ2  p1 x14 hcx14) m2 (cel_2 E ad n σ2) rfl rfl mw_RK_isAsWritten wm_SF_323 ⟨by decide, by decide⟩ ⟨by decide, by decide⟩ hl.1 rfl (Nat.le_of_ble_eq_true rfl) d_SF_spoilPlace_28 (fun H locs wo => ?_)
    refine lv_goto (tgt := 47) hx hb d_SF_spoilPlace_31 (by decide) ?_
    exact j4_ok x14 _ _ _ hD wo (lv_sub hl [0, 1, 2, 3, 4] rfl)
def D_SF_spoiltColumn_L2 (F : Nat) (n : Nat → Nat) (σ : HS) (p1 : Int32) : Nat → Int32 → Option ((Unit) ⊕ (Int32))
  | 0, _ => none
  | k2 + 1, x3 =>
      (if (σ.1 1 1) ≤ x3 then
        some (Sum.inl ())
      else
        (D_SF_placeOf F n σ p1 x3).bind (fun (x5 : Int32) =>
        (if x5 = (-1 : Int32) then
          nm (x3 + (1 : Int32)) (fun x7 =>
          D_SF_spoiltColumn_L2 F n σ p1 k2 x7)
        else
          (D_RK_isValid F n σ x5).bind (fun (x8 : Int32) =>
          (if x8 = 0 then
            some (Sum.inr x3)
          else
            nm (x3 + (1 : Int32)) (fun x10 =>
            D_SF_spoiltColumn_L2 F n σ p1 k2 x10))))))
def D_SF_spoiltColumn (F : Nat) (n : Nat → Nat) (σ : HS) (p1 : Int32) : Option (Int32) :=
(D_SF_spoiltColumn_L2 F n σ p1 F (0 : Int32)).bind (fun q14 => match q14 with
    | Sum.inl _ =>
      some (-1 : Int32)
    | Sum.inr z => some z)
set_option maxRecDepth 100000 in
set_option maxHeartbeats 4000000 in
theorem k_SF_spoiltColumn (l : Launch) (E : EV) (ad n : Nat → Nat) (L : List Nat) (hL : ∀ a ∈ ([0, 1, 2, 3, 14, 15] : List Nat), a ∈ L) (F : Nat) (σ  : HS) (p1 : Int32) (r : Int32) (hD : D_SF_spoiltColumn F n σ p1 = some r) : CtI l E y_SF_spoiltColumn c_SF_spoiltColumn 4 (some FieldType.int) ({ frames := 3, cells := 0, slots := 0, locals := 66 }) [.ref (ad 0), .int p1] (wl E ad n L σ) r (wl E ad n L σ) := by
  refine fun sz => ent (by decide) (Nat.le_of_ble_eq_true rfl) ?_
  intro p e s m below meth c hsz cx wo ls hl
  have hx := cx.1.1
  have hb := cx.1.2.1
  have hown := cx.1.2.2.2.1
  have hts := cx.1.2.2.2.2
  have hl : lv_has ls 4 [(0, .ref (ad 0)), (1, .int p1)] := hl
  have m0 : 0 ∈ L := hL 0 (by decide)
  have m1 : 1 ∈ L := hL 1 (by decide)
  have m2 : 2 ∈ L := hL 2 (by decide)
  have m3 : 3 ∈ L := hL 3 (by decide)
  have m14 : 14 ∈ L := hL 14 (by decide)
  have m15 : 15 ∈ L := hL 15 (by decide)
  rw [D_SF_spoiltColumn] at hD
  refine lv_iconst (v := 0) hx hb d_SF_spoiltColumn_0 (by decide) ?_
  refine lv_istore_n (lv' := [(2, .int (0 : Int32)), (0, .ref (ad 0)), (1, .int p1)]) hx hb d_SF_spoiltColumn_1 rfl hl (by decide) rfl (fun ls hl => ?_)
  have lp11 : ∀ (k2 : Nat) (x3 : Int32) (H : Heap) (locs : List Loc) (ls : Array Slot) (res1 : (Unit) ⊕ (Int32)), D_SF_spoiltColumn_L2 F n σ p1 k2 x3 = some res1 → (∀ z, res1 = Sum.inr z → r = z) → (∀  (H : Heap) (locs : List Loc) (ls : Array Slot), res1 = Sum.inl () → Wo E (va_A (wl E ad n L σ) sz) s.heap (wl E ad n L σ) H locs → lv_has ls 4 [] → W p l e ({ frames := 3, cells := 0, slots := 0, locals := 66 }) s m ([.ref (ad 0), .int p1] : List Value).toArray below meth c H locs 0 0 (MQ below (va_Qi (fun (x : Int32) (_ : Unit) => x = r) (fun _ t => va_P E.1 cls6 (wl E ad n L σ) t.heap ∧ va_D (va_A (wl E ad n L σ) sz) (wl E ad n L σ)) (va_A (wl E ad n L σ) sz)) ([.ref (ad 0), .int p1] : List Value).toArray s 0 0 (va_A (wl E ad n L σ) sz)) (F0 m 44 ls [])) → Wo E (va_A (wl E ad n L σ) sz) s.heap (wl E ad n L σ) H locs → lv_has ls 4 [(2, .int x3), (0, .ref (ad 0)), (1, .int p1)] → W p l e ({ frames := 3, cells := 0, slots := 0, locals := 66 }) s m ([.ref (ad 0), .int p1] : List Value).toArray below meth c H locs 0 0 (MQ below (va_Qi (fun (x : Int32) (_ : Unit) => x = r) (fun _ t => va_P E.1 cls6 (wl E ad n L σ) t.heap ∧ va_D (va_A (wl E ad n L σ) sz) (wl E ad n L σ)) (va_A (wl E ad n L σ) sz)) ([.ref (ad 0), .int p1] : List Value).toArray s 0 0 (va_A (wl E ad n L σ) sz)) (F0 m 2 ls []) := by
    intro k2
    induction k2 with
    | zero =>
      intro x3 H locs ls res1 hD
      rw [D_SF_spoiltColumn_L2.eq_1] at hD
      cases hD
    | succ k2 ih =>
      intro x3 H locs ls res1 hD hret hex wo hl
      rw [D_SF_spoiltColumn_L2.eq_2] at hD
      refine lv_iload_n hx hb d_SF_spoiltColumn_2 rfl (lv_at hl 0 rfl) ?_
      refine lv_aload_n hx hb d_SF_spoiltColumn_3 rfl (lv_at hl 1 rfl) ?_
      refine g_get cx wo m0 (cel_0 E ad n σ) rfl in_SF 0 (by decide) wf_SF_12 rfl d_SF_spoiltColumn_4 ?_
      refine g_get cx wo m1 (cel_1 E ad n σ) rfl in_LA 1 (by decide) wf_SF_238 rfl d_SF_spoiltColumn_7 ?_
      refine lv_icmp_ge (tgt := 44) hx hb d_SF_spoiltColumn_10 (by decide) (fun c4 => ?_) (fun c4 => ?_)
      · have hD := ite_p hD c4
        exact hex  _ _ _ (Option.some.inj hD).symm wo (lv_sub hl [] rfl)
      · have hD := ite_n hD c4
        refine lv_aload_n hx hb d_SF_spoiltColumn_13 rfl (lv_at hl 1 rfl) ?_
        refine lv_iload_n hx hb d_SF_spoiltColumn_14 rfl (lv_at hl 2 rfl) ?_
        refine lv_iload_n hx hb d_SF_spoiltColumn_15 rfl (lv_at hl 0 rfl) ?_
        obtain ⟨x5, hcx5, hD⟩ := bd_s hD
        try dsimp only [nm2] at hD
        refine call_Vi cx wo (k_SF_placeOf l E ad n L (fun a h => hL a ((by decide : ∀ a ∈ ([0, 1, 3, 15] : List Nat), a ∈ ([0, 1, 2, 3, 14, 15] : List Nat)) a h)) F σ  p1 x3 x5 hcx5) m0 (cel_0 E ad n σ) rfl rfl mw_SF_placeOf wm_SF_268 ⟨by decide, by decide⟩ ⟨by decide, by decide⟩ hl.1 rfl (Nat.le_of_ble_eq_true rfl) d_SF_spoiltColumn_16 (fun H locs wo => ?_)
        refine lv_istore_n (lv' := [(3, .int x5), (2, .int x3), (0, .ref (ad 0)), (1, .int p1)]) hx hb d_SF_spoiltColumn_19 rfl hl (by decide) rfl (fun ls hl => ?_)
        refine lv_iload_n hx hb d_SF_spoiltColumn_20 rfl (lv_at hl 0 rfl) ?_
        refine lv_iconst (v := -1) hx hb d_SF_spoiltColumn_21 (by decide) ?_
        refine lv_icmp_eq (tgt := 38) hx hb d_SF_spoiltColumn_22 (by decide) (fun c6 => ?_) (fun c6 => ?_)
        · have hD := ite_p hD c6
          obtain ⟨x7, ex7⟩ : ∃ y : Int32, y = x3 + (1 : Int32) := ⟨_, rfl⟩
          have hD := nm_at hD ex7
          try dsimp only at hD
          refine lv_iinc (v := x7) (lv' := [(2, .int x7), (3, .int x5), (0, .ref (ad 0)), (1, .int p1)]) hx hb d_SF_spoiltColumn_38 hl (k := 1) rfl (by rw [ex7]; rfl) (by decide) rfl (fun ls hl => ?_)
          refine lv_goto (tgt := 2) hx hb d_SF_spoiltColumn_41 (by decide) ?_
          exact ih x7 _ _ _ _ hD hret hex wo (lv_sub hl [0, 2, 3] rfl)
        · have hD := ite_n hD c6
          refine lv_aload_n hx hb d_SF_spoiltColumn_25 rfl (lv_at hl 2 rfl) ?_
          refine g_get cx wo m0 (cel_0 E ad n σ) rfl in_SF 1 (by decide) wf_SF_23 rfl d_SF_spoiltColumn_26 ?_
          refine lv_iload_n hx hb d_SF_spoiltColumn_29 rfl (lv_at hl 0 rfl) ?_
          obtain ⟨x8, hcx8, hD⟩ := bd_s hD
          try dsimp only [nm2] at hD
          refine call_Vi cx wo (k_RK_isValid l E ad n L (fun a h => hL a ((by decide : ∀ a ∈ ([2, 14] : List Nat), a ∈ ([0, 1, 2, 3, 14, 15] : List Nat)) a h)) F σ  x5 x8 hcx8) m2 (cel_2 E ad n σ) rfl rfl mw_RK_isValid wm_SF_280 ⟨by decide, by decide⟩ ⟨by decide, by decide⟩ hl.1 rfl (Nat.le_of_ble_eq_true rfl) d_SF_spoiltColumn_30 (fun H locs wo => ?_)
          refine lv_if_ne (tgt := 38) hx hb d_SF_spoiltColumn_33 (by decide) (fun c9 => ?_) (fun c9 => ?_)
          · have hD := ite_n hD c9
            obtain ⟨x10, ex10⟩ : ∃ y : Int32, y = x3 + (1 : Int32) := ⟨_, rfl⟩
            have hD := nm_at hD ex10
            try dsimp only at hD
            refine lv_iinc (v := x10) (lv' := [(2, .int x10), (3, .int x5), (0, .ref (ad 0)), (1, .int p1)]) hx hb d_SF_spoiltColumn_38 hl (k := 1) rfl (by rw [ex10]; rfl) (by decide) rfl (fun ls hl => ?_)
            refine lv_goto (tgt := 2) hx hb d_SF_spoiltColumn_41 (by decide) ?_
            exact ih x10 _ _ _ _ hD hret hex wo (lv_sub hl [0, 2, 3] rfl)
          · have hD := ite_p hD c9
            refine lv_iload_n hx hb d_SF_spoiltColumn_36 rfl (lv_at hl 1 rfl) ?_
            have hz := hret _ (Option.some.inj hD).symm
            cases hz
            exact t_ireti cx wo rfl rfl d_SF_spoiltColumn_37
  obtain ⟨res12, hr13, hD⟩ := bd_s hD
  refine lp11 F (0 : Int32) _ _ _ _ hr13 (fun z hz => by subst hz; exact (Option.some.inj hD).symm) (fun  H locs ls hz wo hl => ?_) wo (lv_sub hl [0, 1, 2] rfl)
  subst hz
  try dsimp only at hD
  refine lv_iconst (v := -1) hx hb d_SF_spoiltColumn_44 (by decide) ?_
  cases hD
  exact t_ireti cx wo rfl rfl d_SF_spoiltColumn_45
def D_SF_isHole_L10 (F : Nat) (n : Nat → Nat) (p1 : Int32) : Nat → HS → Int32 → Option ((HS) ⊕ (HS × Int32))
  | 0, _, _ => none
  | k5 + 1, σ3, x6 =>
      (if (σ3.1 1 1) ≤ x6 then
        some (Sum.inl σ3)
      else
        (D_SF_placeOf F n σ3 p1 x6).bind (fun (x8 : Int32) =>
        (if x8 = (-1 : Int32) then
          some (Sum.inr (σ3, (0 : Int32)))
        else
          (D_RK_addTo_7 F n σ3 x8).bind (fun (σ11 : HS) =>
          nm (x6 + (1 : Int32)) (fun x12 =>
          D_SF_isHole_L10 F n p1 k5 σ11 x12)))))
def D_SF_isHole_L55 (F : Nat) (n : Nat → Nat) (σ13 : HS)  : Nat → Int32 → Option ((Unit) ⊕ (HS × Int32))
  | 0, _ => none
  | k18 + 1, x19 =>
      (if (8 : Int32) ≤ x19 then
          some (Sum.inl ())
        else
          grd (inb x19 (n 7)) (
          (if (lg_cmp (σ13.2 7 (x19).toNatClampNeg) (0 : Int64)) = 0 then
            nm (x19 + (1 : Int32)) (fun x23 =>
            D_SF_isHole_L55 F n σ13  k18 x23)
          else
            some (Sum.inr (σ13, (1 : Int32))))))
def D_SF_isHole (F : Nat) (n : Nat → Nat) (σ : HS) (p1 : Int32) : Option (HS × Int32) :=
(D_AR_fillJ_7 F n σ (0 : Int64)).bind (fun (σ2 : HS) =>
  (D_SF_isHole_L10 F n p1 F σ2 (0 : Int32)).bind (fun q28 => match q28 with
    | Sum.inl σ13 =>
      (D_SF_isHole_L55 F n σ13  F (0 : Int32)).bind (fun q27 => match q27 with
      | Sum.inl _ =>
        some (σ13, (0 : Int32))
      | Sum.inr z => some z)
    | Sum.inr z => some z))
set_option maxRecDepth 100000 in
set_option maxHeartbeats 4000000 in
theorem k_SF_isHole (l : Launch) (E : EV) (ad n : Nat → Nat) (L : List Nat) (hL : ∀ a ∈ ([0, 1, 2, 3, 7, 11, 15] : List Nat), a ∈ L) (F : Nat) (σ σo : HS) (p1 : Int32) (r : Int32) (hD : D_SF_isHole F n σ p1 = some (σo, r)) : CtI l E y_SF_isHole c_SF_isHole 4 (some FieldType.boolean) ({ frames := 3, cells := 0, slots := 0, locals := 66 }) [.ref (ad 0), .int p1] (wl E ad n L σ) r (wl E ad n L σo) := by
  refine fun sz => ent (by decide) (Nat.le_of_ble_eq_true rfl) ?_
  intro p e s m below meth c hsz cx wo ls hl
  have hx := cx.1.1
  have hb := cx.1.2.1
  have hown := cx.1.2.2.2.1
  have hts := cx.1.2.2.2.2
  have hl : lv_has ls 4 [(0, .ref (ad 0)), (1, .int p1)] := hl
  have m0 : 0 ∈ L := hL 0 (by decide)
  have m1 : 1 ∈ L := hL 1 (by decide)
  have m2 : 2 ∈ L := hL 2 (by decide)
  have m3 : 3 ∈ L := hL 3 (by decide)
  have m7 : 7 ∈ L := hL 7 (by decide)
  have m11 : 11 ∈ L := hL 11 (by decide)
  have m15 : 15 ∈ L := hL 15 (by decide)
  rw [D_SF_isHole] at hD
  refine lv_aload_n hx hb d_SF_isHole_0 rfl (lv_at hl 0 rfl) ?_
  refine g_get cx wo m0 (cel_0 E ad n σ) rfl in_SF 9 (by decide) wf_SF_50 rfl d_SF_isHole_1 ?_
  refine lv_lconst (v := 0) hx hb d_SF_isHole_4 (by decide) ?_
  obtain ⟨σ2, hcx1, hD⟩ := bd_s hD
  try dsimp only [nm2] at hD
  refine call_Sv cx wo (k_AR_fillJ_7 l E ad n L (fun a h => hL a ((by decide : ∀ a ∈ ([7] : List Nat), a ∈ ([0, 1, 2, 3, 7, 11, 15] : List Nat)) a h)) F σ σ2 (0 : Int64) hcx1) mw_AR_fillJ wm_SF_103 ⟨by decide, by decide⟩ ⟨by decide, by decide⟩ hl.1 rfl (Nat.le_of_ble_eq_true rfl) d_SF_isHole_5 (fun H locs wo => ?_)
  refine lv_iconst (v := 0) hx hb d_SF_isHole_8 (by decide) ?_
  refine lv_istore_n (lv' := [(2, .int (0 : Int32)), (0, .ref (ad 0)), (1, .int p1)]) hx hb d_SF_isHole_9 rfl hl (by decide) rfl (fun ls hl => ?_)
  have lp14 : ∀ (k5 : Nat) (σ3 : HS) (x6 : Int32) (H : Heap) (locs : List Loc) (ls : Array Slot) (res4 : (HS) ⊕ (HS × Int32)), D_SF_isHole_L10 F n p1 k5 σ3 x6 = some res4 → (∀ z, res4 = Sum.inr z → (σo, r) = z) → (∀ (σ13 : HS) (H : Heap) (locs : List Loc) (ls : Array Slot), res4 = Sum.inl σ13 → Wo E (va_A (wl E ad n L σ) sz) s.heap (wl E ad n L σ13) H locs → lv_has ls 4 [(0, .ref (ad 0))] → W p l e ({ frames := 3, cells := 0, slots := 0, locals := 66 }) s m ([.ref (ad 0), .int p1] : List Value).toArray below meth c H locs 0 0 (MQ below (va_Qi (fun (x : Int32) (_ : Unit) => x = r) (fun _ t => va_P E.1 cls6 (wl E ad n L σo) t.heap ∧ va_D (va_A (wl E ad n L σ) sz) (wl E ad n L σo)) (va_A (wl E ad n L σ) sz)) ([.ref (ad 0), .int p1] : List Value).toArray s 0 0 (va_A (wl E ad n L σ) sz)) (F0 m 53 ls [])) → Wo E (va_A (wl E ad n L σ) sz) s.heap (wl E ad n L σ3) H locs → lv_has ls 4 [(2, .int x6), (0, .ref (ad 0)), (1, .int p1)] → W p l e ({ frames := 3, cells := 0, slots := 0, locals := 66 }) s m ([.ref (ad 0), .int p1] : List Value).toArray below meth c H locs 0 0 (MQ below (va_Qi (fun (x : Int32) (_ : Unit) => x = r) (fun _ t => va_P E.1 cls6 (wl E ad n L σo) t.heap ∧ va_D (va_A (wl E ad n L σ) sz) (wl E ad n L σo)) (va_A (wl E ad n L σ) sz)) ([.ref (ad 0), .int p1] : List Value).toArray s 0 0 (va_A (wl E ad n L σ) sz)) (F0 m 10 ls []) := by
    intro k5
    induction k5 with
    | zero =>
      intro σ3 x6 H locs ls res4 hD
      rw [D_SF_isHole_L10.eq_1] at hD
      cases hD
    | succ k5 ih =>
      intro σ3 x6 H locs ls res4 hD hret hex wo hl
      rw [D_SF_isHole_L10.eq_2] at hD
      refine lv_iload_n hx hb d_SF_isHole_10 rfl (lv_at hl 0 rfl) ?_
      refine lv_aload_n hx hb d_SF_isHole_11 rfl (lv_at hl 1 rfl) ?_
      refine g_get cx wo m0 (cel_0 E ad n σ3) rfl in_SF 0 (by decide) wf_SF_12 rfl d_SF_isHole_12 ?_
      refine g_get cx wo m1 (cel_1 E ad n σ3) rfl in_LA 1 (by decide) wf_SF_238 rfl d_SF_isHole_15 ?_
      refine lv_icmp_ge (tgt := 53) hx hb d_SF_isHole_18 (by decide) (fun c7 => ?_) (fun c7 => ?_)
      · have hD := ite_p hD c7
        exact hex σ3 _ _ _ (Option.some.inj hD).symm wo (lv_sub hl [1] rfl)
      · have hD := ite_n hD c7
        refine lv_aload_n hx hb d_SF_isHole_21 rfl (lv_at hl 1 rfl) ?_
        refine lv_iload_n hx hb d_SF_isHole_22 rfl (lv_at hl 2 rfl) ?_
        refine lv_iload_n hx hb d_SF_isHole_23 rfl (lv_at hl 0 rfl) ?_
        obtain ⟨x8, hcx8, hD⟩ := bd_s hD
        try dsimp only [nm2] at hD
        refine call_Vi cx wo (k_SF_placeOf l E ad n L (fun a h => hL a ((by decide : ∀ a ∈ ([0, 1, 3, 15] : List Nat), a ∈ ([0, 1, 2, 3, 7, 11, 15] : List Nat)) a h)) F σ3  p1 x6 x8 hcx8) m0 (cel_0 E ad n σ3) rfl rfl mw_SF_placeOf wm_SF_268 ⟨by decide, by decide⟩ ⟨by decide, by decide⟩ hl.1 rfl (Nat.le_of_ble_eq_true rfl) d_SF_isHole_24 (fun H locs wo => ?_)
        refine lv_istore_n (lv' := [(3, .int x8), (2, .int x6), (0, .ref (ad 0)), (1, .int p1)]) hx hb d_SF_isHole_27 rfl hl (by decide) rfl (fun ls hl => ?_)
        refine lv_iload_n hx hb d_SF_isHole_28 rfl (lv_at hl 0 rfl) ?_
        refine lv_iconst (v := -1) hx hb d_SF_isHole_29 (by decide) ?_
        refine lv_icmp_ne (tgt := 35) hx hb d_SF_isHole_30 (by decide) (fun c9 => ?_) (fun c9 => ?_)
        · have hD := ite_n hD c9
          refine lv_aload_n hx hb d_SF_isHole_35 rfl (lv_at hl 2 rfl) ?_
          refine g_get cx wo m0 (cel_0 E ad n σ3) rfl in_SF 1 (by decide) wf_SF_23 rfl d_SF_isHole_36 ?_
          refine lv_aload_n hx hb d_SF_isHole_39 rfl (lv_at hl 2 rfl) ?_
          refine g_get cx wo m0 (cel_0 E ad n σ3) rfl in_SF 9 (by decide) wf_SF_50 rfl d_SF_isHole_40 ?_
          refine lv_iload_n hx hb d_SF_isHole_43 rfl (lv_at hl 0 rfl) ?_
          obtain ⟨σ11, hcx10, hD⟩ := bd_s hD
          try dsimp only [nm2] at hD
          refine call_Vv cx wo (k_RK_addTo_7 l E ad n L (fun a h => hL a ((by decide : ∀ a ∈ ([2, 7, 11] : List Nat), a ∈ ([0, 1, 2, 3, 7, 11, 15] : List Nat)) a h)) F σ3 σ11 x8 hcx10) m2 (cel_2 E ad n σ3) rfl rfl mw_RK_addTo wm_SF_283 ⟨by decide, by decide⟩ ⟨by decide, by decide⟩ hl.1 rfl (Nat.le_of_ble_eq_true rfl) d_SF_isHole_44 (fun H locs wo => ?_)
          obtain ⟨x12, ex12⟩ : ∃ y : Int32, y = x6 + (1 : Int32) := ⟨_, rfl⟩
          have hD := nm_at hD ex12
          try dsimp only at hD
          refine lv_iinc (v := x12) (lv' := [(2, .int x12), (3, .int x8), (0, .ref (ad 0)), (1, .int p1)]) hx hb d_SF_isHole_47 hl (k := 1) rfl (by rw [ex12]; rfl) (by decide) rfl (fun ls hl => ?_)
          refine lv_goto (tgt := 10) hx hb d_SF_isHole_50 (by decide) ?_
          exact ih σ11 x12 _ _ _ _ hD hret hex wo (lv_sub hl [0, 2, 3] rfl)
        · have hD := ite_p hD c9
          refine lv_iconst (v := 0) hx hb d_SF_isHole_33 (by decide) ?_
          have hz := hret _ (Option.some.inj hD).symm
          cases hz
          exact t_ireti cx wo rfl rfl d_SF_isHole_34
  obtain ⟨res15, hr16, hD⟩ := bd_s hD
  refine lp14 F σ2 (0 : Int32) _ _ _ _ hr16 (fun z hz => by subst hz; exact (Option.some.inj hD).symm) (fun σ13 H locs ls hz wo hl => ?_) wo (lv_sub hl [0, 1, 2] rfl)
  subst hz
  try dsimp only at hD
  refine lv_iconst (v := 0) hx hb d_SF_isHole_53 (by decide) ?_
  refine lv_istore_n (lv' := [(2, .int (0 : Int32)), (0, .ref (ad 0))]) hx hb d_SF_isHole_54 rfl hl (by decide) rfl (fun ls hl => ?_)
  have lp24 : ∀ (k18 : Nat) (x19 : Int32) (H : Heap) (locs : List Loc) (ls : Array Slot) (res17 : (Unit) ⊕ (HS × Int32)), D_SF_isHole_L55 F n σ13  k18 x19 = some res17 → (∀ z, res17 = Sum.inr z → (σo, r) = z) → (∀  (H : Heap) (locs : List Loc) (ls : Array Slot), res17 = Sum.inl () → Wo E (va_A (wl E ad n L σ) sz) s.heap (wl E ad n L σ13) H locs → lv_has ls 4 [] → W p l e ({ frames := 3, cells := 0, slots := 0, locals := 66 }) s m ([.ref (ad 0), .int p1] : List Value).toArray below meth c H locs 0 0 (MQ below (va_Qi (fun (x : Int32) (_ : Unit) => x = r) (fun _ t => va_P E.1 cls6 (wl E ad n L σo) t.heap ∧ va_D (va_A (wl E ad n L σ) sz) (wl E ad n L σo)) (va_A (wl E ad n L σ) sz)) ([.ref (ad 0), .int p1] : List Value).toArray s 0 0 (va_A (wl E ad n L σ) sz)) (F0 m 80 ls [])) → Wo E (va_A (wl E ad n L σ) sz) s.heap (wl E ad n L σ13) H locs → lv_has ls 4 [(2, .int x19), (0, .ref (ad 0))] → W p l e ({ frames := 3, cells := 0, slots := 0, locals := 66 }) s m ([.ref (ad 0), .int p1] : List Value).toArray below meth c H locs 0 0 (MQ below (va_Qi (fun (x : Int32) (_ : Unit) => x = r) (fun _ t => va_P E.1 cls6 (wl E ad n L σo) t.heap ∧ va_D (va_A (wl E ad n L σ) sz) (wl E ad n L σo)) (va_A (wl E ad n L σ) sz)) ([.ref (ad 0), .int p1] : List Value).toArray s 0 0 (va_A (wl E ad n L σ) sz)) (F0 m 55 ls []) := by
    intro k18
    induction k18 with
    | zero =>
      intro x19 H locs ls res17 hD
      rw [D_SF_isHole_L55.eq_1] at hD
      cases hD
    | succ k18 ih =>
      intro x19 H locs ls res17 hD hret hex wo hl
      rw [D_SF_isHole_L55.eq_2] at hD
      refine lv_iload_n hx hb d_SF_isHole_55 rfl (lv_at hl 0 rfl) ?_
      refine lv_bipush (v := 8) hx hb d_SF_isHole_56 (by decide) ?_
      refine lv_icmp_ge (tgt := 80) hx hb d_SF_isHole_58 (by decide) (fun c20 => ?_) (fun c20 => ?_)
      · have hD := ite_p hD c20
        exact hex  _ _ _ (Option.some.inj hD).symm wo (lv_sub hl [] rfl)
      · have hD := ite_n hD c20
        refine lv_aload_n hx hb d_SF_isHole_61 rfl (lv_at hl 1 rfl) ?_
        refine g_get cx wo m0 (cel_0 E ad n σ13) rfl in_SF 9 (by decide) wf_SF_50 rfl d_SF_isHole_62 ?_
        refine lv_iload_n hx hb d_SF_isHole_65 rfl (lv_at hl 0 rfl) ?_
        obtain ⟨g21, hD⟩ := grd_s hD
        refine g_lald cx wo m7 (cel_7 E ad n σ13) g21 d_SF_isHole_66 ?_
        refine lv_lconst (v := 0) hx hb d_SF_isHole_67 (by decide) ?_
        refine W.lcmp hx hb d_SF_isHole_68 ?_
        refine lv_if_eq (tgt := 74) hx hb d_SF_isHole_69 (by decide) (fun c22 => ?_) (fun c22 => ?_)
        · have hD := ite_p hD c22
          obtain ⟨x23, ex23⟩ : ∃ y : Int32, y = x19 + (1 : Int32) := ⟨_, rfl⟩
          have hD := nm_at hD ex23
          try dsimp only at hD
          refine lv_iinc (v := x23) (lv' := [(2, .int x23), (0, .ref (ad 0))]) hx hb d_SF_isHole_74 hl (k := 0) rfl (by rw [ex23]; rfl) (by decide) rfl (fun ls hl => ?_)
          refine lv_goto (tgt := 55) hx hb d_SF_isHole_77 (by decide) ?_
          exact ih x23 _ _ _ _ hD hret hex wo (lv_sub hl [0, 1] rfl)
        · have hD := ite_n hD c22
          refine lv_iconst (v := 1) hx hb d_SF_isHole_72 (by decide) ?_
          have hz := hret _ (Option.some.inj hD).symm
          cases hz
          exact t_ireti cx wo rfl rfl d_SF_isHole_73
  obtain ⟨res25, hr26, hD⟩ := bd_s hD
  refine lp24 F (0 : Int32) _ _ _ _ hr26 (fun z hz => by subst hz; exact (Option.some.inj hD).symm) (fun  H locs ls hz wo hl => ?_) wo (lv_sub hl [0, 1] rfl)
  subst hz
  try dsimp only at hD
  refine lv_iconst (v := 0) hx hb d_SF_isHole_80 (by decide) ?_
  cases hD
  exact t_ireti cx wo rfl rfl d_SF_isHole_81
def D_SF_xorBytes_5_L3 (F : Nat) (n : Nat → Nat) (p1 : Int32) (p2 : Int32) (p3 : Int32) (p4 : Int64) : Nat → HS → Int32 → Option (HS)
  | 0, _, _ => none
  | k3 + 1, σ1, x4 =>
      (if p3 ≤ x4 then
        some σ1
      else
        nm (((p4).toUInt64 >>> ((((8 : Int32) * x4)).toInt64.toUInt64 &&& Int64.toUInt64 63)).toInt64 &&& (255 : Int64)) (fun x6 =>
        grd (inb (p1 + (((p2 + x4)).toUInt32 >>> (((3 : Int32)).toUInt32 &&& Int32.toUInt32 31)).toInt32) (n 5)) (
        grd (inb (p1 + (((p2 + x4)).toUInt32 >>> (((3 : Int32)).toUInt32 &&& Int32.toUInt32 31)).toInt32) (n 5)) (
        nm (stL σ1 5 ((p1 + (((p2 + x4)).toUInt32 >>> (((3 : Int32)).toUInt32 &&& Int32.toUInt32 31)).toInt32)).toNatClampNeg ((σ1.2 5 ((p1 + (((p2 + x4)).toUInt32 >>> (((3 : Int32)).toUInt32 &&& Int32.toUInt32 31)).toInt32)).toNatClampNeg) ^^^ (x6 <<< ((((8 : Int32) * ((p2 + x4) &&& (7 : Int32)))).toInt64 &&& 63)))) (fun σ9 =>
        nm (x4 + (1 : Int32)) (fun x10 =>
        D_SF_xorBytes_5_L3 F n p1 p2 p3 p4 k3 σ9 x10))))))
def D_SF_xorBytes_5 (F : Nat) (n : Nat → Nat) (σ : HS) (p1 : Int32) (p2 : Int32) (p3 : Int32) (p4 : Int64) : Option (HS) :=
(D_SF_xorBytes_5_L3 F n p1 p2 p3 p4 F σ (0 : Int32)).bind (fun (σ11 : HS) =>
  some σ11)
set_option maxRecDepth 100000 in
set_option maxHeartbeats 4000000 in
theorem k_SF_xorBytes_5 (l : Launch) (E : EV) (ad n : Nat → Nat) (L : List Nat) (hL : ∀ a ∈ ([5] : List Nat), a ∈ L) (F : Nat) (σ σo : HS) (p1 : Int32) (p2 : Int32) (p3 : Int32) (p4 : Int64)  (hD : D_SF_xorBytes_5 F n σ p1 p2 p3 p4 = some σo) : CtV l E y_SF_xorBytes c_SF_xorBytes 9 none ({ frames := 0, cells := 0, slots := 0, locals := 0 }) [.ref (ad 5), .int p1, .int p2, .int p3, .long p4] (wl E ad n L σ) (wl E ad n L σo) := by
  refine fun sz => ent (by decide) (Nat.le_of_ble_eq_true rfl) ?_
  intro p e s m below meth c hsz cx wo ls hl
  have hx := cx.1.1
  have hb := cx.1.2.1
  have hown := cx.1.2.2.2.1
  have hts := cx.1.2.2.2.2
  have hl : lv_has ls 9 [(0, .ref (ad 5)), (1, .int p1), (2, .int p2), (3, .int p3), (4, .long p4)] := hl
  have m5 : 5 ∈ L := hL 5 (by decide)
  rw [D_SF_xorBytes_5] at hD
  refine lv_iconst (v := 0) hx hb d_SF_xorBytes_0 (by decide) ?_
  refine lv_istore (lv' := [(6, .int (0 : Int32)), (0, .ref (ad 5)), (1, .int p1), (2, .int p2), (3, .int p3), (4, .long p4)]) hx hb d_SF_xorBytes_1 hl (by decide) rfl (fun ls hl => ?_)
  have lp12 : ∀ (k3 : Nat) (σ1 : HS) (x4 : Int32) (H : Heap) (locs : List Loc) (ls : Array Slot) (res2 : HS), D_SF_xorBytes_5_L3 F n p1 p2 p3 p4 k3 σ1 x4 = some res2 → (∀ (σ11 : HS) (H : Heap) (locs : List Loc) (ls : Array Slot), res2 = σ11 → Wo E (va_A (wl E ad n L σ) sz) s.heap (wl E ad n L σ11) H locs → lv_has ls 9 [] → W p l e ({ frames := 0, cells := 0, slots := 0, locals := 0 }) s m ([.ref (ad 5), .int p1, .int p2, .int p3, .long p4] : List Value).toArray below meth c H locs 0 0 (MQ below (va_Qv (fun (_ : Unit) => True) (fun _ t => va_P E.1 cls6 (wl E ad n L σo) t.heap ∧ va_D (va_A (wl E ad n L σ) sz) (wl E ad n L σo)) (va_A (wl E ad n L σ) sz)) ([.ref (ad 5), .int p1, .int p2, .int p3, .long p4] : List Value).toArray s 0 0 (va_A (wl E ad n L σ) sz)) (F0 m 55 ls [])) → Wo E (va_A (wl E ad n L σ) sz) s.heap (wl E ad n L σ1) H locs → lv_has ls 9 [(6, .int x4), (0, .ref (ad 5)), (1, .int p1), (2, .int p2), (3, .int p3), (4, .long p4)] → W p l e ({ frames := 0, cells := 0, slots := 0, locals := 0 }) s m ([.ref (ad 5), .int p1, .int p2, .int p3, .long p4] : List Value).toArray below meth c H locs 0 0 (MQ below (va_Qv (fun (_ : Unit) => True) (fun _ t => va_P E.1 cls6 (wl E ad n L σo) t.heap ∧ va_D (va_A (wl E ad n L σ) sz) (wl E ad n L σo)) (va_A (wl E ad n L σ) sz)) ([.ref (ad 5), .int p1, .int p2, .int p3, .long p4] : List Value).toArray s 0 0 (va_A (wl E ad n L σ) sz)) (F0 m 3 ls []) := by
    intro k3
    induction k3 with
    | zero =>
      intro σ1 x4 H locs ls res2 hD
      rw [D_SF_xorBytes_5_L3.eq_1] at hD
      cases hD
    | succ k3 ih =>
      intro σ1 x4 H locs ls res2 hD hex wo hl
      rw [D_SF_xorBytes_5_L3.eq_2] at hD
      refine lv_iload hx hb d_SF_xorBytes_3 (lv_at hl 0 rfl) ?_
      refine lv_iload_n hx hb d_SF_xorBytes_5 rfl (lv_at hl 4 rfl) ?_
      refine lv_icmp_ge (tgt := 55) hx hb d_SF_xorBytes_6 (by decide) (fun c5 => ?_) (fun c5 => ?_)
      · have hD := ite_p hD c5
        exact hex σ1 _ _ _ (Option.some.inj hD).symm wo (lv_sub hl [] rfl)
      · have hD := ite_n hD c5
        refine lv_lload hx hb d_SF_xorBytes_9 (lv_at hl 5 rfl) ?_
        refine lv_bipush (v := 8) hx hb d_SF_xorBytes_11 (by decide) ?_
        refine lv_iload hx hb d_SF_xorBytes_13 (lv_at hl 0 rfl) ?_
        refine lv_imul hx hb d_SF_xorBytes_15 ?_
        refine lv_lushr hx hb d_SF_xorBytes_16 rfl ?_
        refine lv_ldc2 hx hb hown (hts _ wj_SF_329) d_SF_xorBytes_17 ?_
        refine lv_land hx hb d_SF_xorBytes_20 ?_
        refine lv_topl (fun x6 ex6 => ?_)
        have hD := nm_at hD ex6
        try dsimp only at hD
        refine lv_lstore (lv' := [(7, .long x6), (6, .int x4), (0, .ref (ad 5)), (1, .int p1), (2, .int p2), (3, .int p3), (4, .long p4)]) hx hb d_SF_xorBytes_21 hl (by decide) rfl (fun ls hl => ?_)
        refine lv_aload_n hx hb d_SF_xorBytes_23 rfl (lv_at hl 2 rfl) ?_
        refine lv_iload_n hx hb d_SF_xorBytes_24 rfl (lv_at hl 3 rfl) ?_
        refine lv_iload_n hx hb d_SF_xorBytes_25 rfl (lv_at hl 4 rfl) ?_
        refine lv_iload hx hb d_SF_xorBytes_26 (lv_at hl 1 rfl) ?_
        refine lv_iadd hx hb d_SF_xorBytes_28 ?_
        refine lv_iconst (v := 3) hx hb d_SF_xorBytes_29 (by decide) ?_
        refine lv_iushr hx hb d_SF_xorBytes_30 rfl ?_
        refine lv_iadd hx hb d_SF_xorBytes_31 ?_
        refine lv_dup2_11 hx hb d_SF_xorBytes_32 rfl rfl ?_
        obtain ⟨g7, hD⟩ := grd_s hD
        refine g_lald cx wo m5 (cel_5 E ad n σ1) g7 d_SF_xorBytes_33 ?_
        refine lv_lload hx hb d_SF_xorBytes_34 (lv_at hl 0 rfl) ?_
        refine lv_bipush (v := 8) hx hb d_SF_xorBytes_36 (by decide) ?_
        refine lv_iload_n hx hb d_SF_xorBytes_38 rfl (lv_at hl 4 rfl) ?_
        refine lv_iload hx hb d_SF_xorBytes_39 (lv_at hl 1 rfl) ?_
        refine lv_iadd hx hb d_SF_xorBytes_41 ?_
        refine lv_bipush (v := 7) hx hb d_SF_xorBytes_42 (by decide) ?_
        refine lv_iand hx hb d_SF_xorBytes_44 ?_
        refine lv_imul hx hb d_SF_xorBytes_45 ?_
        refine lv_lshl hx hb d_SF_xorBytes_46 rfl ?_
        refine lv_lxor hx hb d_SF_xorBytes_47 ?_
        obtain ⟨g8, hD⟩ := grd_s hD
        refine g_last cx wo m5 (cel_5 E ad n) g8 d_SF_xorBytes_48 (fun H locs wo => ?_)
        obtain ⟨σ9, eσ9⟩ : ∃ z, z = stL σ1 5 ((p1 + (((p2 + x4)).toUInt32 >>> (((3 : Int32)).toUInt32 &&& Int32.toUInt32 31)).toInt32)).toNatClampNeg ((σ1.2 5 ((p1 + (((p2 + x4)).toUInt32 >>> (((3 : Int32)).toUInt32 &&& Int32.toUInt32 31)).toInt32)).toNatClampNeg) ^^^ (x6 <<< ((((8 : Int32) * ((p2 + x4) &&& (7 : Int32)))).toInt64 &&& 63))) := ⟨_, rfl⟩
        rw [← eσ9] at wo
        have hD := nm_at hD eσ9
        try dsimp only at hD
        obtain ⟨x10, ex10⟩ : ∃ y : Int32, y = x4 + (1 : Int32) := ⟨_, rfl⟩
        have hD := nm_at hD ex10
        try dsimp only at hD
        refine lv_iinc (v := x10) (lv' := [(6, .int x10), (7, .long x6), (0, .ref (ad 5)), (1, .int p1), (2, .int p2), (3, .int p3), (4, .long p4)]) hx hb d_SF_xorBytes_49 hl (k := 1) rfl (by rw [ex10]; rfl) (by decide) rfl (fun ls hl => ?_)
        refine lv_goto (tgt := 3) hx hb d_SF_xorBytes_52 (by decide) ?_
        exact ih σ9 x10 _ _ _ _ hD hex wo (lv_sub hl [0, 2, 3, 4, 5, 6] rfl)
  obtain ⟨res13, hr14, hD⟩ := bd_s hD
  refine lp12 F σ (0 : Int32) _ _ _ _ hr14 (fun σ11 H locs ls hz wo hl => ?_) wo (lv_sub hl [0, 1, 2, 3, 4, 5] rfl)
  have hz := hz.symm
  subst hz
  try dsimp only at hD
  cases hD
  exact t_vret cx wo d_SF_xorBytes_55
