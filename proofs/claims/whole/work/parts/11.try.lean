def D_LA_cell (F : Nat) (n : Nat → Nat) (σ : HS) (p1 : Int32) (p2 : Int32) : Option (Int32) :=
some ((p1 * ((σ.1 1 2) + (1 : Int32))) + p2)
set_option maxRecDepth 100000 in
set_option maxHeartbeats 4000000 in
theorem k_LA_cell (l : Launch) (E : EV) (ad n : Nat → Nat) (L : List Nat) (hL : ∀ a ∈ ([1] : List Nat), a ∈ L) (F : Nat) (σ  : HS) (p1 : Int32) (p2 : Int32) (r : Int32) (hD : D_LA_cell F n σ p1 p2 = some r) : CtI l E y_LA_cell c_LA_cell 3 (some FieldType.int) ({ frames := 0, cells := 0, slots := 0, locals := 0 }) [.ref (ad 1), .int p1, .int p2] (wl E ad n L σ) r (wl E ad n L σ) := by
  refine fun sz => ent (by decide) (Nat.le_of_ble_eq_true rfl) ?_
  intro p e s m below meth c hsz cx wo ls hl
  have hx := cx.1.1
  have hb := cx.1.2.1
  have hown := cx.1.2.2.2.1
  have hts := cx.1.2.2.2.2
  have hl : lv_has ls 3 [(0, .ref (ad 1)), (1, .int p1), (2, .int p2)] := hl
  have m1 : 1 ∈ L := hL 1 (by decide)
  rw [D_LA_cell] at hD
  refine lv_iload_n hx hb d_LA_cell_0 rfl (lv_at hl 1 rfl) ?_
  refine lv_aload_n hx hb d_LA_cell_1 rfl (lv_at hl 0 rfl) ?_
  refine g_get cx wo m1 (cel_1 E ad n σ) rfl in_LA 2 (by decide) wf_LA_16 rfl d_LA_cell_2 ?_
  refine lv_iconst (v := 1) hx hb d_LA_cell_5 (by decide) ?_
  refine lv_iadd hx hb d_LA_cell_6 ?_
  refine lv_imul hx hb d_LA_cell_7 ?_
  refine lv_iload_n hx hb d_LA_cell_8 rfl (lv_at hl 2 rfl) ?_
  refine lv_iadd hx hb d_LA_cell_9 ?_
  cases hD
  exact t_ireti cx wo rfl rfl d_LA_cell_10
def D_LA_diskOf (F : Nat) (n : Nat → Nat) (σ : HS) (p1 : Int32) : Option (Int32) :=
grd (decide (¬ ((σ.1 1 2) + (1 : Int32)) = 0)) (
  some (p1 / ((σ.1 1 2) + (1 : Int32))))
set_option maxRecDepth 100000 in
set_option maxHeartbeats 4000000 in
theorem k_LA_diskOf (l : Launch) (E : EV) (ad n : Nat → Nat) (L : List Nat) (hL : ∀ a ∈ ([1] : List Nat), a ∈ L) (F : Nat) (σ  : HS) (p1 : Int32) (r : Int32) (hD : D_LA_diskOf F n σ p1 = some r) : CtI l E y_LA_diskOf c_LA_diskOf 2 (some FieldType.int) ({ frames := 0, cells := 0, slots := 0, locals := 0 }) [.ref (ad 1), .int p1] (wl E ad n L σ) r (wl E ad n L σ) := by
  refine fun sz => ent (by decide) (Nat.le_of_ble_eq_true rfl) ?_
  intro p e s m below meth c hsz cx wo ls hl
  have hx := cx.1.1
  have hb := cx.1.2.1
  have hown := cx.1.2.2.2.1
  have hts := cx.1.2.2.2.2
  have hl : lv_has ls 2 [(0, .ref (ad 1)), (1, .int p1)] := hl
  have m1 : 1 ∈ L := hL 1 (by decide)
  rw [D_LA_diskOf] at hD
  refine lv_iload_n hx hb d_LA_diskOf_0 rfl (lv_at hl 1 rfl) ?_
  refine lv_aload_n hx hb d_LA_diskOf_1 rfl (lv_at hl 0 rfl) ?_
  refine g_get cx wo m1 (cel_1 E ad n σ) rfl in_LA 2 (by decide) wf_LA_16 rfl d_LA_diskOf_2 ?_
  refine lv_iconst (v := 1) hx hb d_LA_diskOf_5 (by decide) ?_
  refine lv_iadd hx hb d_LA_diskOf_6 ?_
  obtain ⟨g1, hD⟩ := grd_s hD
  refine lv_idiv hx hb d_LA_diskOf_7 (of_decide_eq_true g1) ?_
  cases hD
  exact t_ireti cx wo rfl rfl d_LA_diskOf_8
def D_LA_logOf (F : Nat) (n : Nat → Nat) (σ : HS) (p1 : Int32) : Option (Int32) :=
(D_LA_cell F n σ p1 (σ.1 1 2)).bind (fun (x1 : Int32) =>
  some x1)
set_option maxRecDepth 100000 in
set_option maxHeartbeats 4000000 in
theorem k_LA_logOf (l : Launch) (E : EV) (ad n : Nat → Nat) (L : List Nat) (hL : ∀ a ∈ ([1] : List Nat), a ∈ L) (F : Nat) (σ  : HS) (p1 : Int32) (r : Int32) (hD : D_LA_logOf F n σ p1 = some r) : CtI l E y_LA_logOf c_LA_logOf 2 (some FieldType.int) ({ frames := 1, cells := 0, slots := 0, locals := 22 }) [.ref (ad 1), .int p1] (wl E ad n L σ) r (wl E ad n L σ) := by
  refine fun sz => ent (by decide) (Nat.le_of_ble_eq_true rfl) ?_
  intro p e s m below meth c hsz cx wo ls hl
  have hx := cx.1.1
  have hb := cx.1.2.1
  have hown := cx.1.2.2.2.1
  have hts := cx.1.2.2.2.2
  have hl : lv_has ls 2 [(0, .ref (ad 1)), (1, .int p1)] := hl
  have m1 : 1 ∈ L := hL 1 (by decide)
  rw [D_LA_logOf] at hD
  refine lv_aload_n hx hb d_LA_logOf_0 rfl (lv_at hl 0 rfl) ?_
  refine lv_iload_n hx hb d_LA_logOf_1 rfl (lv_at hl 1 rfl) ?_
  refine lv_aload_n hx hb d_LA_logOf_2 rfl (lv_at hl 0 rfl) ?_
  refine g_get cx wo m1 (cel_1 E ad n σ) rfl in_LA 2 (by decide) wf_LA_16 rfl d_LA_logOf_3 ?_
  obtain ⟨x1, hcx1, hD⟩ := bd_s hD
  try dsimp only [nm2] at hD
  refine call_Vi cx wo (k_LA_cell l E ad n L (fun a h => hL a ((by decide : ∀ a ∈ ([1] : List Nat), a ∈ ([1] : List Nat)) a h)) F σ  p1 (σ.1 1 2) x1 hcx1) m1 (cel_1 E ad n σ) rfl rfl mw_LA_cell wm_LA_59 ⟨by decide, by decide⟩ ⟨by decide, by decide⟩ hl.1 rfl (Nat.le_of_ble_eq_true rfl) d_LA_logOf_6 (fun H locs wo => ?_)
  cases hD
  exact t_ireti cx wo rfl rfl d_LA_logOf_9
def D_LA_slot (F : Nat) (n : Nat → Nat) (σ : HS) (p1 : Int32) (p2 : Int32) : Option (Int32) :=
some ((p1 * (σ.1 1 0)) + p2)
set_option maxRecDepth 100000 in
set_option maxHeartbeats 4000000 in
theorem k_LA_slot (l : Launch) (E : EV) (ad n : Nat → Nat) (L : List Nat) (hL : ∀ a ∈ ([1] : List Nat), a ∈ L) (F : Nat) (σ  : HS) (p1 : Int32) (p2 : Int32) (r : Int32) (hD : D_LA_slot F n σ p1 p2 = some r) : CtI l E y_LA_slot c_LA_slot 3 (some FieldType.int) ({ frames := 0, cells := 0, slots := 0, locals := 0 }) [.ref (ad 1), .int p1, .int p2] (wl E ad n L σ) r (wl E ad n L σ) := by
  refine fun sz => ent (by decide) (Nat.le_of_ble_eq_true rfl) ?_
  intro p e s m below meth c hsz cx wo ls hl
  have hx := cx.1.1
  have hb := cx.1.2.1
  have hown := cx.1.2.2.2.1
  have hts := cx.1.2.2.2.2
  have hl : lv_has ls 3 [(0, .ref (ad 1)), (1, .int p1), (2, .int p2)] := hl
  have m1 : 1 ∈ L := hL 1 (by decide)
  rw [D_LA_slot] at hD
  refine lv_iload_n hx hb d_LA_slot_0 rfl (lv_at hl 1 rfl) ?_
  refine lv_aload_n hx hb d_LA_slot_1 rfl (lv_at hl 0 rfl) ?_
  refine g_get cx wo m1 (cel_1 E ad n σ) rfl in_LA 0 (by decide) wf_LA_7 rfl d_LA_slot_2 ?_
  refine lv_imul hx hb d_LA_slot_5 ?_
  refine lv_iload_n hx hb d_LA_slot_6 rfl (lv_at hl 2 rfl) ?_
  refine lv_iadd hx hb d_LA_slot_7 ?_
  cases hD
  exact t_ireti cx wo rfl rfl d_LA_slot_8
def D_LA_slotOf (F : Nat) (n : Nat → Nat) (σ : HS) (p1 : Int32) (p2 : Int32) : Option (Int32) :=
grd (decide (¬ (σ.1 1 3) = 0)) (
  grd (decide (¬ (σ.1 1 3) = 0)) (
  (D_LA_slot F n σ (p1 / (σ.1 1 3)) (((σ.1 1 1) * (p1 - p1 / (σ.1 1 3) * (σ.1 1 3))) + p2)).bind (fun (x3 : Int32) =>
  some x3)))
set_option maxRecDepth 100000 in
set_option maxHeartbeats 4000000 in
theorem k_LA_slotOf (l : Launch) (E : EV) (ad n : Nat → Nat) (L : List Nat) (hL : ∀ a ∈ ([1] : List Nat), a ∈ L) (F : Nat) (σ  : HS) (p1 : Int32) (p2 : Int32) (r : Int32) (hD : D_LA_slotOf F n σ p1 p2 = some r) : CtI l E y_LA_slotOf c_LA_slotOf 3 (some FieldType.int) ({ frames := 1, cells := 0, slots := 0, locals := 22 }) [.ref (ad 1), .int p1, .int p2] (wl E ad n L σ) r (wl E ad n L σ) := by
  refine fun sz => ent (by decide) (Nat.le_of_ble_eq_true rfl) ?_
  intro p e s m below meth c hsz cx wo ls hl
  have hx := cx.1.1
  have hb := cx.1.2.1
  have hown := cx.1.2.2.2.1
  have hts := cx.1.2.2.2.2
  have hl : lv_has ls 3 [(0, .ref (ad 1)), (1, .int p1), (2, .int p2)] := hl
  have m1 : 1 ∈ L := hL 1 (by decide)
  rw [D_LA_slotOf] at hD
  refine lv_aload_n hx hb d_LA_slotOf_0 rfl (lv_at hl 0 rfl) ?_
  refine lv_iload_n hx hb d_LA_slotOf_1 rfl (lv_at hl 1 rfl) ?_
  refine lv_aload_n hx hb d_LA_slotOf_2 rfl (lv_at hl 0 rfl) ?_
  refine g_get cx wo m1 (cel_1 E ad n σ) rfl in_LA 3 (by decide) wf_LA_19 rfl d_LA_slotOf_3 ?_
  obtain ⟨g1, hD⟩ := grd_s hD
  refine lv_idiv hx hb d_LA_slotOf_6 (of_decide_eq_true g1) ?_
  refine lv_aload_n hx hb d_LA_slotOf_7 rfl (lv_at hl 0 rfl) ?_
  refine g_get cx wo m1 (cel_1 E ad n σ) rfl in_LA 1 (by decide) wf_LA_13 rfl d_LA_slotOf_8 ?_
  refine lv_iload_n hx hb d_LA_slotOf_11 rfl (lv_at hl 1 rfl) ?_
  refine lv_aload_n hx hb d_LA_slotOf_12 rfl (lv_at hl 0 rfl) ?_
  refine g_get cx wo m1 (cel_1 E ad n σ) rfl in_LA 3 (by decide) wf_LA_19 rfl d_LA_slotOf_13 ?_
  obtain ⟨g2, hD⟩ := grd_s hD
  refine lv_irem hx hb d_LA_slotOf_16 (of_decide_eq_true g2) ?_
  refine lv_imul hx hb d_LA_slotOf_17 ?_
  refine lv_iload_n hx hb d_LA_slotOf_18 rfl (lv_at hl 2 rfl) ?_
  refine lv_iadd hx hb d_LA_slotOf_19 ?_
  obtain ⟨x3, hcx3, hD⟩ := bd_s hD
  try dsimp only [nm2] at hD
  refine call_Vi cx wo (k_LA_slot l E ad n L (fun a h => hL a ((by decide : ∀ a ∈ ([1] : List Nat), a ∈ ([1] : List Nat)) a h)) F σ  (p1 / (σ.1 1 3)) (((σ.1 1 1) * (p1 - p1 / (σ.1 1 3) * (σ.1 1 3))) + p2) x3 hcx3) m1 (cel_1 E ad n σ) rfl rfl mw_LA_slot wm_LA_63 ⟨by decide, by decide⟩ ⟨by decide, by decide⟩ hl.1 rfl (Nat.le_of_ble_eq_true rfl) d_LA_slotOf_20 (fun H locs wo => ?_)
  cases hD
  exact t_ireti cx wo rfl rfl d_LA_slotOf_23
def D_LA_stripeOfSlot (F : Nat) (n : Nat → Nat) (σ : HS) (p1 : Int32) : Option (Int32) :=
grd (decide (¬ (σ.1 1 0) = 0)) (
  grd (decide (¬ (σ.1 1 0) = 0)) (
  grd (decide (¬ (σ.1 1 1) = 0)) (
  some (((p1 / (σ.1 1 0)) * (σ.1 1 3)) + ((p1 - p1 / (σ.1 1 0) * (σ.1 1 0)) / (σ.1 1 1))))))
set_option maxRecDepth 100000 in
set_option maxHeartbeats 4000000 in
theorem k_LA_stripeOfSlot (l : Launch) (E : EV) (ad n : Nat → Nat) (L : List Nat) (hL : ∀ a ∈ ([1] : List Nat), a ∈ L) (F : Nat) (σ  : HS) (p1 : Int32) (r : Int32) (hD : D_LA_stripeOfSlot F n σ p1 = some r) : CtI l E y_LA_stripeOfSlot c_LA_stripeOfSlot 2 (some FieldType.int) ({ frames := 0, cells := 0, slots := 0, locals := 0 }) [.ref (ad 1), .int p1] (wl E ad n L σ) r (wl E ad n L σ) := by
  refine fun sz => ent (by decide) (Nat.le_of_ble_eq_true rfl) ?_
  intro p e s m below meth c hsz cx wo ls hl
  have hx := cx.1.1
  have hb := cx.1.2.1
  have hown := cx.1.2.2.2.1
  have hts := cx.1.2.2.2.2
  have hl : lv_has ls 2 [(0, .ref (ad 1)), (1, .int p1)] := hl
  have m1 : 1 ∈ L := hL 1 (by decide)
  rw [D_LA_stripeOfSlot] at hD
  refine lv_iload_n hx hb d_LA_stripeOfSlot_0 rfl (lv_at hl 1 rfl) ?_
  refine lv_aload_n hx hb d_LA_stripeOfSlot_1 rfl (lv_at hl 0 rfl) ?_
  refine g_get cx wo m1 (cel_1 E ad n σ) rfl in_LA 0 (by decide) wf_LA_7 rfl d_LA_stripeOfSlot_2 ?_
  obtain ⟨g1, hD⟩ := grd_s hD
  refine lv_idiv hx hb d_LA_stripeOfSlot_5 (of_decide_eq_true g1) ?_
  refine lv_aload_n hx hb d_LA_stripeOfSlot_6 rfl (lv_at hl 0 rfl) ?_
  refine g_get cx wo m1 (cel_1 E ad n σ) rfl in_LA 3 (by decide) wf_LA_19 rfl d_LA_stripeOfSlot_7 ?_
  refine lv_imul hx hb d_LA_stripeOfSlot_10 ?_
  refine lv_iload_n hx hb d_LA_stripeOfSlot_11 rfl (lv_at hl 1 rfl) ?_
  refine lv_aload_n hx hb d_LA_stripeOfSlot_12 rfl (lv_at hl 0 rfl) ?_
  refine g_get cx wo m1 (cel_1 E ad n σ) rfl in_LA 0 (by decide) wf_LA_7 rfl d_LA_stripeOfSlot_13 ?_
  obtain ⟨g2, hD⟩ := grd_s hD
  refine lv_irem hx hb d_LA_stripeOfSlot_16 (of_decide_eq_true g2) ?_
  refine lv_aload_n hx hb d_LA_stripeOfSlot_17 rfl (lv_at hl 0 rfl) ?_
  refine g_get cx wo m1 (cel_1 E ad n σ) rfl in_LA 1 (by decide) wf_LA_13 rfl d_LA_stripeOfSlot_18 ?_
  obtain ⟨g3, hD⟩ := grd_s hD
  refine lv_idiv hx hb d_LA_stripeOfSlot_21 (of_decide_eq_true g3) ?_
  refine lv_iadd hx hb d_LA_stripeOfSlot_22 ?_
  cases hD
  exact t_ireti cx wo rfl rfl d_LA_stripeOfSlot_23
def D_LA_columnOfSlot (F : Nat) (n : Nat → Nat) (σ : HS) (p1 : Int32) : Option (Int32) :=
grd (decide (¬ (σ.1 1 0) = 0)) (
  grd (decide (¬ (σ.1 1 1) = 0)) (
  some ((p1 - p1 / (σ.1 1 0) * (σ.1 1 0)) - (p1 - p1 / (σ.1 1 0) * (σ.1 1 0)) / (σ.1 1 1) * (σ.1 1 1))))
set_option maxRecDepth 100000 in
set_option maxHeartbeats 4000000 in
theorem k_LA_columnOfSlot (l : Launch) (E : EV) (ad n : Nat → Nat) (L : List Nat) (hL : ∀ a ∈ ([1] : List Nat), a ∈ L) (F : Nat) (σ  : HS) (p1 : Int32) (r : Int32) (hD : D_LA_columnOfSlot F n σ p1 = some r) : CtI l E y_LA_columnOfSlot c_LA_columnOfSlot 2 (some FieldType.int) ({ frames := 0, cells := 0, slots := 0, locals := 0 }) [.ref (ad 1), .int p1] (wl E ad n L σ) r (wl E ad n L σ) := by
  refine fun sz => ent (by decide) (Nat.le_of_ble_eq_true rfl) ?_
  intro p e s m below meth c hsz cx wo ls hl
  have hx := cx.1.1
  have hb := cx.1.2.1
  have hown := cx.1.2.2.2.1
  have hts := cx.1.2.2.2.2
  have hl : lv_has ls 2 [(0, .ref (ad 1)), (1, .int p1)] := hl
  have m1 : 1 ∈ L := hL 1 (by decide)
  rw [D_LA_columnOfSlot] at hD
  refine lv_iload_n hx hb d_LA_columnOfSlot_0 rfl (lv_at hl 1 rfl) ?_
  refine lv_aload_n hx hb d_LA_columnOfSlot_1 rfl (lv_at hl 0 rfl) ?_
  refine g_get cx wo m1 (cel_1 E ad n σ) rfl in_LA 0 (by decide) wf_LA_7 rfl d_LA_columnOfSlot_2 ?_
  obtain ⟨g1, hD⟩ := grd_s hD
  refine lv_irem hx hb d_LA_columnOfSlot_5 (of_decide_eq_true g1) ?_
  refine lv_aload_n hx hb d_LA_columnOfSlot_6 rfl (lv_at hl 0 rfl) ?_
  refine g_get cx wo m1 (cel_1 E ad n σ) rfl in_LA 1 (by decide) wf_LA_13 rfl d_LA_columnOfSlot_7 ?_
  obtain ⟨g2, hD⟩ := grd_s hD
  refine lv_irem hx hb d_LA_columnOfSlot_10 (of_decide_eq_true g2) ?_
  cases hD
  exact t_ireti cx wo rfl rfl d_LA_columnOfSlot_11
def D_LA_tagOf (F : Nat) (n : Nat → Nat) (σ : HS) (p1 : Int32) : Option (Int32) :=
grd (decide (¬ (σ.1 1 0) = 0)) (
  some ((p1 - p1 / (σ.1 1 0) * (σ.1 1 0)) + (1 : Int32)))
set_option maxRecDepth 100000 in
set_option maxHeartbeats 4000000 in
theorem k_LA_tagOf (l : Launch) (E : EV) (ad n : Nat → Nat) (L : List Nat) (hL : ∀ a ∈ ([1] : List Nat), a ∈ L) (F : Nat) (σ  : HS) (p1 : Int32) (r : Int32) (hD : D_LA_tagOf F n σ p1 = some r) : CtI l E y_LA_tagOf c_LA_tagOf 2 (some FieldType.int) ({ frames := 0, cells := 0, slots := 0, locals := 0 }) [.ref (ad 1), .int p1] (wl E ad n L σ) r (wl E ad n L σ) := by
  refine fun sz => ent (by decide) (Nat.le_of_ble_eq_true rfl) ?_
  intro p e s m below meth c hsz cx wo ls hl
  have hx := cx.1.1
  have hb := cx.1.2.1
  have hown := cx.1.2.2.2.1
  have hts := cx.1.2.2.2.2
  have hl : lv_has ls 2 [(0, .ref (ad 1)), (1, .int p1)] := hl
  have m1 : 1 ∈ L := hL 1 (by decide)
  rw [D_LA_tagOf] at hD
  refine lv_iload_n hx hb d_LA_tagOf_0 rfl (lv_at hl 1 rfl) ?_
  refine lv_aload_n hx hb d_LA_tagOf_1 rfl (lv_at hl 0 rfl) ?_
  refine g_get cx wo m1 (cel_1 E ad n σ) rfl in_LA 0 (by decide) wf_LA_7 rfl d_LA_tagOf_2 ?_
  obtain ⟨g1, hD⟩ := grd_s hD
  refine lv_irem hx hb d_LA_tagOf_5 (of_decide_eq_true g1) ?_
  refine lv_iconst (v := 1) hx hb d_LA_tagOf_6 (by decide) ?_
  refine lv_iadd hx hb d_LA_tagOf_7 ?_
  cases hD
  exact t_ireti cx wo rfl rfl d_LA_tagOf_8
def D_LA_stripeOfBlock (F : Nat) (n : Nat → Nat) (σ : HS) (p1 : Int32) : Option (Int32) :=
grd (decide (¬ (σ.1 1 7) = 0)) (
  some (p1 / (σ.1 1 7)))
set_option maxRecDepth 100000 in
set_option maxHeartbeats 4000000 in
theorem k_LA_stripeOfBlock (l : Launch) (E : EV) (ad n : Nat → Nat) (L : List Nat) (hL : ∀ a ∈ ([1] : List Nat), a ∈ L) (F : Nat) (σ  : HS) (p1 : Int32) (r : Int32) (hD : D_LA_stripeOfBlock F n σ p1 = some r) : CtI l E y_LA_stripeOfBlock c_LA_stripeOfBlock 2 (some FieldType.int) ({ frames := 0, cells := 0, slots := 0, locals := 0 }) [.ref (ad 1), .int p1] (wl E ad n L σ) r (wl E ad n L σ) := by
  refine fun sz => ent (by decide) (Nat.le_of_ble_eq_true rfl) ?_
  intro p e s m below meth c hsz cx wo ls hl
  have hx := cx.1.1
  have hb := cx.1.2.1
  have hown := cx.1.2.2.2.1
  have hts := cx.1.2.2.2.2
  have hl : lv_has ls 2 [(0, .ref (ad 1)), (1, .int p1)] := hl
  have m1 : 1 ∈ L := hL 1 (by decide)
  rw [D_LA_stripeOfBlock] at hD
  refine lv_iload_n hx hb d_LA_stripeOfBlock_0 rfl (lv_at hl 1 rfl) ?_
  refine lv_aload_n hx hb d_LA_stripeOfBlock_1 rfl (lv_at hl 0 rfl) ?_
  refine g_get cx wo m1 (cel_1 E ad n σ) rfl in_LA 7 (by decide) wf_LA_25 rfl d_LA_stripeOfBlock_2 ?_
  obtain ⟨g1, hD⟩ := grd_s hD
  refine lv_idiv hx hb d_LA_stripeOfBlock_5 (of_decide_eq_true g1) ?_
  cases hD
  exact t_ireti cx wo rfl rfl d_LA_stripeOfBlock_6
def D_LA_columnOfBlock (F : Nat) (n : Nat → Nat) (σ : HS) (p1 : Int32) : Option (Int32) :=
grd (decide (¬ (σ.1 1 7) = 0)) (
  some (p1 - p1 / (σ.1 1 7) * (σ.1 1 7)))
set_option maxRecDepth 100000 in
set_option maxHeartbeats 4000000 in
theorem k_LA_columnOfBlock (l : Launch) (E : EV) (ad n : Nat → Nat) (L : List Nat) (hL : ∀ a ∈ ([1] : List Nat), a ∈ L) (F : Nat) (σ  : HS) (p1 : Int32) (r : Int32) (hD : D_LA_columnOfBlock F n σ p1 = some r) : CtI l E y_LA_columnOfBlock c_LA_columnOfBlock 2 (some FieldType.int) ({ frames := 0, cells := 0, slots := 0, locals := 0 }) [.ref (ad 1), .int p1] (wl E ad n L σ) r (wl E ad n L σ) := by
  refine fun sz => ent (by decide) (Nat.le_of_ble_eq_true rfl) ?_
  intro p e s m below meth c hsz cx wo ls hl
  have hx := cx.1.1
  have hb := cx.1.2.1
  have hown := cx.1.2.2.2.1
  have hts := cx.1.2.2.2.2
  have hl : lv_has ls 2 [(0, .ref (ad 1)), (1, .int p1)] := hl
  have m1 : 1 ∈ L := hL 1 (by decide)
  rw [D_LA_columnOfBlock] at hD
  refine lv_iload_n hx hb d_LA_columnOfBlock_0 rfl (lv_at hl 1 rfl) ?_
  refine lv_aload_n hx hb d_LA_columnOfBlock_1 rfl (lv_at hl 0 rfl) ?_
  refine g_get cx wo m1 (cel_1 E ad n σ) rfl in_LA 7 (by decide) wf_LA_25 rfl d_LA_columnOfBlock_2 ?_
  obtain ⟨g1, hD⟩ := grd_s hD
  refine lv_irem hx hb d_LA_columnOfBlock_5 (of_decide_eq_true g1) ?_
  cases hD
  exact t_ireti cx wo rfl rfl d_LA_columnOfBlock_6
def D_PW_cut (F : Nat) (n : Nat → Nat) (σ : HS)  : Option (HS) :=
nm (stF σ 4 0 (0 : Int32)) (fun σ1 =>
  nm (stF σ1 4 1 (0 : Int32)) (fun σ2 =>
  some σ2))
set_option maxRecDepth 100000 in
set_option maxHeartbeats 4000000 in
theorem k_PW_cut (l : Launch) (E : EV) (ad n : Nat → Nat) (L : List Nat) (hL : ∀ a ∈ ([4] : List Nat), a ∈ L) (F : Nat) (σ σo : HS)   (hD : D_PW_cut F n σ  = some σo) : CtV l E y_PW_cut c_PW_cut 1 none ({ frames := 0, cells := 0, slots := 0, locals := 0 }) [.ref (ad 4)] (wl E ad n L σ) (wl E ad n L σo) := by
  refine fun sz => ent (by decide) (Nat.le_of_ble_eq_true rfl) ?_
  intro p e s m below meth c hsz cx wo ls hl
  have hx := cx.1.1
  have hb := cx.1.2.1
  have hown := cx.1.2.2.2.1
  have hts := cx.1.2.2.2.2
  have hl : lv_has ls 1 [(0, .ref (ad 4))] := hl
  have m4 : 4 ∈ L := hL 4 (by decide)
  rw [D_PW_cut] at hD
  refine lv_aload_n hx hb d_PW_cut_0 rfl (lv_at hl 0 rfl) ?_
  refine lv_iconst (v := 0) hx hb d_PW_cut_1 (by decide) ?_
  refine g_put cx wo m4 (cel_4 E ad n σ) rfl in_PW t_PW tok_PW n_PW 0 (by decide) wf_PW_7 rfl rfl rfl (Nat.le_of_ble_eq_true rfl) rfl d_PW_cut_2 (fun H locs wo => ?_)
  obtain ⟨σ1, eσ1⟩ : ∃ z, z = stF σ 4 0 (0 : Int32) := ⟨_, rfl⟩
  rw [← eσ1] at wo
  have hD := nm_at hD eσ1
  try dsimp only at hD
  refine lv_aload_n hx hb d_PW_cut_5 rfl (lv_at hl 0 rfl) ?_
  refine lv_iconst (v := 0) hx hb d_PW_cut_6 (by decide) ?_
  refine g_put cx wo m4 (cel_4 E ad n σ1) rfl in_PW t_PW tok_PW n_PW 1 (by decide) wf_PW_13 rfl rfl rfl (Nat.le_of_ble_eq_true rfl) rfl d_PW_cut_7 (fun H locs wo => ?_)
  obtain ⟨σ2, eσ2⟩ : ∃ z, z = stF σ1 4 1 (0 : Int32) := ⟨_, rfl⟩
  rw [← eσ2] at wo
  have hD := nm_at hD eσ2
  try dsimp only at hD
  cases hD
  exact t_vret cx wo d_PW_cut_10
def D_PW_spendWrite (F : Nat) (n : Nat → Nat) (σ : HS)  : Option (HS × Int32) :=
(if (σ.1 4 1) = (1 : Int32) then
    (D_PW_cut F n σ ).bind (fun (σ7 : HS) =>
    some (σ7, (0 : Int32)))
  else
    (if (σ.1 4 1) ≤ (1 : Int32) then
      nm (stF σ 4 2 ((σ.1 4 2) + (1 : Int32))) (fun σ3 =>
      some (σ3, (1 : Int32)))
    else
      nm (stF σ 4 1 ((σ.1 4 1) - (1 : Int32))) (fun σ4 =>
      nm (stF σ4 4 2 ((σ4.1 4 2) + (1 : Int32))) (fun σ5 =>
      some (σ5, (1 : Int32))))))
set_option maxRecDepth 100000 in
set_option maxHeartbeats 4000000 in
theorem k_PW_spendWrite (l : Launch) (E : EV) (ad n : Nat → Nat) (L : List Nat) (hL : ∀ a ∈ ([4] : List Nat), a ∈ L) (F : Nat) (σ σo : HS)  (r : Int32) (hD : D_PW_spendWrite F n σ  = some (σo, r)) : CtI l E y_PW_spendWrite c_PW_spendWrite 1 (some FieldType.boolean) ({ frames := 1, cells := 0, slots := 0, locals := 20 }) [.ref (ad 4)] (wl E ad n L σ) r (wl E ad n L σo) := by
  refine fun sz => ent (by decide) (Nat.le_of_ble_eq_true rfl) ?_
  intro p e s m below meth c hsz cx wo ls hl
  have hx := cx.1.1
  have hb := cx.1.2.1
  have hown := cx.1.2.2.2.1
  have hts := cx.1.2.2.2.2
  have hl : lv_has ls 1 [(0, .ref (ad 4))] := hl
  have m4 : 4 ∈ L := hL 4 (by decide)
  rw [D_PW_spendWrite] at hD
  refine lv_aload_n hx hb d_PW_spendWrite_0 rfl (lv_at hl 0 rfl) ?_
  refine g_get cx wo m4 (cel_4 E ad n σ) rfl in_PW 1 (by decide) wf_PW_13 rfl d_PW_spendWrite_1 ?_
  refine lv_iconst (v := 1) hx hb d_PW_spendWrite_4 (by decide) ?_
  refine lv_icmp_ne (tgt := 14) hx hb d_PW_spendWrite_5 (by decide) (fun c1 => ?_) (fun c1 => ?_)
  · have hD := ite_n hD c1
    refine lv_aload_n hx hb d_PW_spendWrite_14 rfl (lv_at hl 0 rfl) ?_
    refine g_get cx wo m4 (cel_4 E ad n σ) rfl in_PW 1 (by decide) wf_PW_13 rfl d_PW_spendWrite_15 ?_
    refine lv_iconst (v := 1) hx hb d_PW_spendWrite_18 (by decide) ?_
    refine lv_icmp_le (tgt := 32) hx hb d_PW_spendWrite_19 (by decide) (fun c2 => ?_) (fun c2 => ?_)
    · have hD := ite_p hD c2
      refine lv_aload_n hx hb d_PW_spendWrite_32 rfl (lv_at hl 0 rfl) ?_
      refine lv_dup hx hb d_PW_spendWrite_33 rfl ?_
      refine g_get cx wo m4 (cel_4 E ad n σ) rfl in_PW 2 (by decide) wf_PW_20 rfl d_PW_spendWrite_34 ?_
      refine lv_iconst (v := 1) hx hb d_PW_spendWrite_37 (by decide) ?_
      refine lv_iadd hx hb d_PW_spendWrite_38 ?_
      refine g_put cx wo m4 (cel_4 E ad n σ) rfl in_PW t_PW tok_PW n_PW 2 (by decide) wf_PW_20 rfl rfl rfl (Nat.le_of_ble_eq_true rfl) rfl d_PW_spendWrite_39 (fun H locs wo => ?_)
      obtain ⟨σ3, eσ3⟩ : ∃ z, z = stF σ 4 2 ((σ.1 4 2) + (1 : Int32)) := ⟨_, rfl⟩
      rw [← eσ3] at wo
      have hD := nm_at hD eσ3
      try dsimp only at hD
      refine lv_iconst (v := 1) hx hb d_PW_spendWrite_42 (by decide) ?_
      cases hD
      exact t_ireti cx wo rfl rfl d_PW_spendWrite_43
    · have hD := ite_n hD c2
      refine lv_aload_n hx hb d_PW_spendWrite_22 rfl (lv_at hl 0 rfl) ?_
      refine lv_dup hx hb d_PW_spendWrite_23 rfl ?_
      refine g_get cx wo m4 (cel_4 E ad n σ) rfl in_PW 1 (by decide) wf_PW_13 rfl d_PW_spendWrite_24 ?_
      refine lv_iconst (v := 1) hx hb d_PW_spendWrite_27 (by decide) ?_
      refine lv_isub hx hb d_PW_spendWrite_28 ?_
      refine g_put cx wo m4 (cel_4 E ad n σ) rfl in_PW t_PW tok_PW n_PW 1 (by decide) wf_PW_13 rfl rfl rfl (Nat.le_of_ble_eq_true rfl) rfl d_PW_spendWrite_29 (fun H locs wo => ?_)
      obtain ⟨σ4, eσ4⟩ : ∃ z, z = stF σ 4 1 ((σ.1 4 1) - (1 : Int32)) := ⟨_, rfl⟩
      rw [← eσ4] at wo
      have hD := nm_at hD eσ4
      try dsimp only at hD
      refine lv_aload_n hx hb d_PW_spendWrite_32 rfl (lv_at hl 0 rfl) ?_
      refine lv_dup hx hb d_PW_spendWrite_33 rfl ?_
      refine g_get cx wo m4 (cel_4 E ad n σ4) rfl in_PW 2 (by decide) wf_PW_20 rfl d_PW_spendWrite_34 ?_
      refine lv_iconst (v := 1) hx hb d_PW_spendWrite_37 (by decide) ?_
      refine lv_iadd hx hb d_PW_spendWrite_38 ?_
      refine g_put cx wo m4 (cel_4 E ad n σ4) rfl in_PW t_PW tok_PW n_PW 2 (by decide) wf_PW_20 rfl rfl rfl (Nat.le_of_ble_eq_true rfl) rfl d_PW_spendWrite_39 (fun H locs wo => ?_)
      obtain ⟨σ5, eσ5⟩ : ∃ z, z = stF σ4 4 2 ((σ4.1 4 2) + (1 : Int32)) := ⟨_, rfl⟩
      rw [← eσ5] at wo
      have hD := nm_at hD eσ5
      try dsimp only at hD
      refine lv_iconst (v := 1) hx hb d_PW_spendWrite_42 (by decide) ?_
      cases hD
      exact t_ireti cx wo rfl rfl d_PW_spendWrite_43
  · have hD := ite_p hD c1
    refine lv_aload_n hx hb d_PW_spendWrite_8 rfl (lv_at hl 0 rfl) ?_
    obtain ⟨σ7, hcx6, hD⟩ := bd_s hD
    try dsimp only [nm2] at hD
    refine call_Vv cx wo (k_PW_cut l E ad n L (fun a h => hL a ((by decide : ∀ a ∈ ([4] : List Nat), a ∈ ([4] : List Nat)) a h)) F σ σ7  hcx6) m4 (cel_4 E ad n σ) rfl rfl mw_PW_cut wm_PW_17 ⟨by decide, by decide⟩ ⟨by decide, by decide⟩ hl.1 rfl (Nat.le_of_ble_eq_true rfl) d_PW_spendWrite_9 (fun H locs wo => ?_)
    refine lv_iconst (v := 0) hx hb d_PW_spendWrite_12 (by decide) ?_
    cases hD
    exact t_ireti cx wo rfl rfl d_PW_spendWrite_13
def D_RK_isWritten (F : Nat) (n : Nat → Nat) (σ : HS) (p1 : Int32) : Option (Int32) :=
grd (inb p1 (n 13)) (
  grd (isB (σ.1 13 (p1).toNatClampNeg)) (
  some (σ.1 13 (p1).toNatClampNeg)))
set_option maxRecDepth 100000 in
set_option maxHeartbeats 4000000 in
theorem k_RK_isWritten (l : Launch) (E : EV) (ad n : Nat → Nat) (L : List Nat) (hL : ∀ a ∈ ([2, 13] : List Nat), a ∈ L) (F : Nat) (σ  : HS) (p1 : Int32) (r : Int32) (hD : D_RK_isWritten F n σ p1 = some r) : CtI l E y_RK_isWritten c_RK_isWritten 2 (some FieldType.boolean) ({ frames := 0, cells := 0, slots := 0, locals := 0 }) [.ref (ad 2), .int p1] (wl E ad n L σ) r (wl E ad n L σ) := by
  refine fun sz => ent (by decide) (Nat.le_of_ble_eq_true rfl) ?_
  intro p e s m below meth c hsz cx wo ls hl
  have hx := cx.1.1
  have hb := cx.1.2.1
  have hown := cx.1.2.2.2.1
  have hts := cx.1.2.2.2.2
  have hl : lv_has ls 2 [(0, .ref (ad 2)), (1, .int p1)] := hl
  have m2 : 2 ∈ L := hL 2 (by decide)
  have m13 : 13 ∈ L := hL 13 (by decide)
  rw [D_RK_isWritten] at hD
  refine lv_aload_n hx hb d_RK_isWritten_0 rfl (lv_at hl 0 rfl) ?_
  refine g_get cx wo m2 (cel_2 E ad n σ) rfl in_RK 4 (by decide) wf_RK_35 rfl d_RK_isWritten_1 ?_
  refine lv_iload_n hx hb d_RK_isWritten_4 rfl (lv_at hl 1 rfl) ?_
  obtain ⟨g1, hD⟩ := grd_s hD
  refine g_zald cx wo m13 (cel_13 E ad n σ) g1 d_RK_isWritten_5 ?_
  obtain ⟨g2, hD⟩ := grd_s hD
  cases hD
  exact t_ireti cx wo (isB_n g2) rfl d_RK_isWritten_6
def D_RK_isValid (F : Nat) (n : Nat → Nat) (σ : HS) (p1 : Int32) : Option (Int32) :=
(if p1 = (-1 : Int32) then
    some (0 : Int32)
  else
    grd (inb p1 (n 14)) (
    (if (σ.1 14 (p1).toNatClampNeg) = 0 then
      some (0 : Int32)
    else
      some (1 : Int32))))
set_option maxRecDepth 100000 in
set_option maxHeartbeats 4000000 in
theorem k_RK_isValid (l : Launch) (E : EV) (ad n : Nat → Nat) (L : List Nat) (hL : ∀ a ∈ ([2, 14] : List Nat), a ∈ L) (F : Nat) (σ  : HS) (p1 : Int32) (r : Int32) (hD : D_RK_isValid F n σ p1 = some r) : CtI l E y_RK_isValid c_RK_isValid 2 (some FieldType.boolean) ({ frames := 0, cells := 0, slots := 0, locals := 0 }) [.ref (ad 2), .int p1] (wl E ad n L σ) r (wl E ad n L σ) := by
  refine fun sz => ent (by decide) (Nat.le_of_ble_eq_true rfl) ?_
  intro p e s m below meth c hsz cx wo ls hl
  have hx := cx.1.1
  have hb := cx.1.2.1
  have hown := cx.1.2.2.2.1
  have hts := cx.1.2.2.2.2
  have hl : lv_has ls 2 [(0, .ref (ad 2)), (1, .int p1)] := hl
  have m2 : 2 ∈ L := hL 2 (by decide)
  have m14 : 14 ∈ L := hL 14 (by decide)
  rw [D_RK_isValid] at hD
  refine lv_iload_n hx hb d_RK_isValid_0 rfl (lv_at hl 1 rfl) ?_
  refine lv_iconst (v := -1) hx hb d_RK_isValid_1 (by decide) ?_
  refine lv_icmp_eq (tgt := 18) hx hb d_RK_isValid_2 (by decide) (fun c1 => ?_) (fun c1 => ?_)
  · have hD := ite_p hD c1
    refine lv_iconst (v := 0) hx hb d_RK_isValid_18 (by decide) ?_
    cases hD
    exact t_ireti cx wo rfl rfl d_RK_isValid_19
  · have hD := ite_n hD c1
    refine lv_aload_n hx hb d_RK_isValid_5 rfl (lv_at hl 0 rfl) ?_
    refine g_get cx wo m2 (cel_2 E ad n σ) rfl in_RK 5 (by decide) wf_RK_38 rfl d_RK_isValid_6 ?_
    refine lv_iload_n hx hb d_RK_isValid_9 rfl (lv_at hl 1 rfl) ?_
    obtain ⟨g2, hD⟩ := grd_s hD
    refine g_zald cx wo m14 (cel_14 E ad n σ) g2 d_RK_isValid_10 ?_
    refine lv_if_eq (tgt := 18) hx hb d_RK_isValid_11 (by decide) (fun c3 => ?_) (fun c3 => ?_)
    · have hD := ite_p hD c3
      refine lv_iconst (v := 0) hx hb d_RK_isValid_18 (by decide) ?_
      cases hD
      exact t_ireti cx wo rfl rfl d_RK_isValid_19
    · have hD := ite_n hD c3
      refine lv_iconst (v := 1) hx hb d_RK_isValid_14 (by decide) ?_
      refine lv_goto (tgt := 19) hx hb d_RK_isValid_15 (by decide) ?_
      cases hD
      exact t_ireti cx wo rfl rfl d_RK_isValid_19
def D_RK_tag (F : Nat) (n : Nat → Nat) (σ : HS) (p1 : Int32) : Option (Int32) :=
grd (inb ((p1 * (9 : Int32)) + (8 : Int32)) (n 11)) (
  some (((σ.2 11 (((p1 * (9 : Int32)) + (8 : Int32))).toNatClampNeg) &&& (65535 : Int64))).toInt32)
set_option maxRecDepth 100000 in
set_option maxHeartbeats 4000000 in
theorem k_RK_tag (l : Launch) (E : EV) (ad n : Nat → Nat) (L : List Nat) (hL : ∀ a ∈ ([2, 11] : List Nat), a ∈ L) (F : Nat) (σ  : HS) (p1 : Int32) (r : Int32) (hD : D_RK_tag F n σ p1 = some r) : CtI l E y_RK_tag c_RK_tag 2 (some FieldType.int) ({ frames := 0, cells := 0, slots := 0, locals := 0 }) [.ref (ad 2), .int p1] (wl E ad n L σ) r (wl E ad n L σ) := by
  refine fun sz => ent (by decide) (Nat.le_of_ble_eq_true rfl) ?_
  intro p e s m below meth c hsz cx wo ls hl
  have hx := cx.1.1
  have hb := cx.1.2.1
  have hown := cx.1.2.2.2.1
  have hts := cx.1.2.2.2.2
  have hl : lv_has ls 2 [(0, .ref (ad 2)), (1, .int p1)] := hl
  have m2 : 2 ∈ L := hL 2 (by decide)
  have m11 : 11 ∈ L := hL 11 (by decide)
  rw [D_RK_tag] at hD
  refine lv_aload_n hx hb d_RK_tag_0 rfl (lv_at hl 0 rfl) ?_
  refine g_get cx wo m2 (cel_2 E ad n σ) rfl in_RK 2 (by decide) wf_RK_28 rfl d_RK_tag_1 ?_
  refine lv_iload_n hx hb d_RK_tag_4 rfl (lv_at hl 1 rfl) ?_
  refine lv_bipush (v := 9) hx hb d_RK_tag_5 (by decide) ?_
  refine lv_imul hx hb d_RK_tag_7 ?_
  refine lv_bipush (v := 8) hx hb d_RK_tag_8 (by decide) ?_
  refine lv_iadd hx hb d_RK_tag_10 ?_
  obtain ⟨g1, hD⟩ := grd_s hD
  refine g_lald cx wo m11 (cel_11 E ad n σ) g1 d_RK_tag_11 ?_
  refine lv_ldc2 hx hb hown (hts _ wj_RK_89) d_RK_tag_12 ?_
  refine lv_land hx hb d_RK_tag_15 ?_
  refine lv_l2i hx hb d_RK_tag_16 rfl ?_
  cases hD
  exact t_ireti cx wo rfl rfl d_RK_tag_17
