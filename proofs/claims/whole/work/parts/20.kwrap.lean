def D_LW_feed_0_30 (F : Nat) (n : Nat → Nat) (σ : HS) (p1 : Int32) (p2 : Int64) : Option (HS × Int32) :=
(D_SF_feed F n σ p1 p2).bind (fun (q5 : HS × (Int32 ⊕ Nat)) => nm2 q5 (fun (σ1 : HS) (r2 : Int32 ⊕ Nat) =>
  xc r2 (fun (x3 : Int32) =>
    grd (inb (0 : Int32) (n 30)) (
    nm (stL σ1 30 ((0 : Int32)).toNatClampNeg (x3).toInt64) (fun σ8 =>
    some (σ8, (0 : Int32)))))
  (fun (k4 : Nat) => (if k4 = 1 then
    some (σ1, (1 : Int32))
  else (if k4 = 2 then
    some (σ1, (2 : Int32))
  else none)))))
set_option maxRecDepth 100000 in
set_option maxHeartbeats 4000000 in
theorem k_LW_feed_0_30 (l : Launch) (hfl : l.stackTraces = false) (E : EV) (ad n : Nat → Nat) (L : List Nat) (hL : ∀ a ∈ ([0, 5, 30] : List Nat), a ∈ L) (F : Nat) (σ σo : HS) (p1 : Int32) (p2 : Int64) (r : Int32) (hD : D_LW_feed_0_30 F n σ p1 p2 = some (σo, r)) : CtW l E y_LW_feed c_LW_feed 6 (some FieldType.int) [(0, 11, 14, 13), (0, 11, 18, 15)] ({ frames := 7, cells := 1, slots := 6, locals := 113 }) [.ref (ad 0), .int p1, .long p2, .ref (ad 30)] (wl E ad n L σ) r (wl E ad n L σo) := by
  refine fun sz => entW (by decide) (Nat.le_of_ble_eq_true rfl) ?_
  intro p e s m below meth c hsz cx htab kt sx wo ls hl
  have hx := cx.1.1
  have hb := cx.1.2.1
  have hown := cx.1.2.2.2.1
  have hts := cx.1.2.2.2.2
  have hl : lv_has ls 6 [(0, .ref (ad 0)), (1, .int p1), (2, .long p2), (4, .ref (ad 30))] := hl
  have m0 : 0 ∈ L := hL 0 (by decide)
  have m5 : 5 ∈ L := hL 5 (by decide)
  have m30 : 30 ∈ L := hL 30 (by decide)
  rw [D_LW_feed_0_30] at hD
  refine lv_aload hx hb d_LW_feed_0 (lv_at hl 3 rfl) ?_
  refine lv_iconst (v := 0) hx hb d_LW_feed_2 (by decide) ?_
  refine lv_aload_n hx hb d_LW_feed_3 rfl (lv_at hl 0 rfl) ?_
  refine lv_iload_n hx hb d_LW_feed_4 rfl (lv_at hl 1 rfl) ?_
  refine lv_lload_n hx hb d_LW_feed_5 rfl (lv_at hl 2 rfl) ?_
  obtain ⟨⟨σ1, r2⟩, hc6, hD⟩ := bd_s hD
  try dsimp only [nm2] at hD
  rcases r2 with x3 | k4
  · dsimp only [xc] at hD
    refine w_callR (v := some (.int x3)) cx kt sx wo (k_SF_feed l hfl E ad n L (fun a h => hL a ((by decide : ∀ a ∈ ([0, 5] : List Nat), a ∈ ([0, 5, 30] : List Nat)) a h)) F σ σ1 p1 p2 (Sum.inl x3) hc6) m0 (cel_0 E ad n σ) rfl rfl mw_SF_feed wm_LW_7 ⟨by decide, by decide⟩ ⟨by decide, by decide⟩ hl.1 rfl (Nat.le_of_ble_eq_true rfl) d_LW_feed_6 (fun H locs wo => ?_)
    refine W.eq (g2 := F0 m 9 ls [.int x3, .int (0 : Int32), .ref (ad 30)]) rfl ?_
    refine lv_i2l hx hb d_LW_feed_9 rfl ?_
    obtain ⟨g7, hD⟩ := grd_s hD
    refine g_last cx wo m30 (cel_30 E ad n) g7 d_LW_feed_10 (fun H locs wo => ?_)
    obtain ⟨σ8, eσ8⟩ : ∃ z, z = stL σ1 30 ((0 : Int32)).toNatClampNeg (x3).toInt64 := ⟨_, rfl⟩
    rw [← eσ8] at wo
    have hD := nm_at hD eσ8
    try dsimp only at hD
    refine lv_goto (tgt := 22) hx hb d_LW_feed_11 (by decide) ?_
    refine lv_iconst (v := 0) hx hb d_LW_feed_22 (by decide) ?_
    cases hD
    exact t_ireti cx wo rfl rfl d_LW_feed_23
  · dsimp only [xc] at hD
    by_cases c9 : k4 = 1
    · have hD := ite_p hD c9
      subst c9
      refine w_callC (k := 1) (hpc := 14) cx kt sx wo (k_SF_feed l hfl E ad n L (fun a h => hL a ((by decide : ∀ a ∈ ([0, 5] : List Nat), a ∈ ([0, 5, 30] : List Nat)) a h)) F σ σ1 p1 p2 (Sum.inr 1) hc6) m0 (cel_0 E ad n σ) rfl rfl mw_SF_feed wm_LW_7 ⟨by decide, by decide⟩ ⟨by decide, by decide⟩ hl.1 rfl (Nat.le_of_ble_eq_true rfl) d_LW_feed_6 (ctb_1 (k := 1) htab (by decide) (by decide) (by decide)) (fun x10 H locs wo => ?_)
      refine lv_astore (lv' := [(5, .ref x10), (0, .ref (ad 0)), (1, .int p1), (2, .long p2), (4, .ref (ad 30))]) hx hb d_LW_feed_14 hl (by decide) rfl (fun ls hl => ?_)
      refine lv_iconst (v := 1) hx hb d_LW_feed_16 (by decide) ?_
      cases hD
      exact t_ireti cx wo rfl rfl d_LW_feed_17
    have hD := ite_n hD c9
    by_cases c11 : k4 = 2
    · have hD := ite_p hD c11
      subst c11
      refine w_callC (k := 2) (hpc := 18) cx kt sx wo (k_SF_feed l hfl E ad n L (fun a h => hL a ((by decide : ∀ a ∈ ([0, 5] : List Nat), a ∈ ([0, 5, 30] : List Nat)) a h)) F σ σ1 p1 p2 (Sum.inr 2) hc6) m0 (cel_0 E ad n σ) rfl rfl mw_SF_feed wm_LW_7 ⟨by decide, by decide⟩ ⟨by decide, by decide⟩ hl.1 rfl (Nat.le_of_ble_eq_true rfl) d_LW_feed_6 (ctb_2 htab (by decide) (by decide) (by decide) (by decide)) (fun x12 H locs wo => ?_)
      refine lv_astore (lv' := [(5, .ref x12), (0, .ref (ad 0)), (1, .int p1), (2, .long p2), (4, .ref (ad 30))]) hx hb d_LW_feed_18 hl (by decide) rfl (fun ls hl => ?_)
      refine lv_iconst (v := 2) hx hb d_LW_feed_20 (by decide) ?_
      cases hD
      exact t_ireti cx wo rfl rfl d_LW_feed_21
    have hD := ite_n hD c11
    cases hD
def D_LW_write_0_30 (F : Nat) (n : Nat → Nat) (σ : HS) (p1 : Int32) : Option (HS × Int32) :=
(D_SF_write F n σ p1).bind (fun (q5 : HS × (Int32 ⊕ Nat)) => nm2 q5 (fun (σ1 : HS) (r2 : Int32 ⊕ Nat) =>
  xc r2 (fun (x3 : Int32) =>
    (if x3 = 0 then
      grd (inb (0 : Int32) (n 30)) (
      nm (stL σ1 30 ((0 : Int32)).toNatClampNeg (0 : Int64)) (fun σ9 =>
      some (σ9, (0 : Int32))))
    else
      grd (inb (0 : Int32) (n 30)) (
      nm (stL σ1 30 ((0 : Int32)).toNatClampNeg (1 : Int64)) (fun σ11 =>
      some (σ11, (0 : Int32))))))
  (fun (k4 : Nat) => (if k4 = 1 then
    some (σ1, (1 : Int32))
  else (if k4 = 2 then
    some (σ1, (2 : Int32))
  else none)))))
set_option maxRecDepth 100000 in
set_option maxHeartbeats 4000000 in
theorem k_LW_write_0_30 (l : Launch) (hfl : l.stackTraces = false) (E : EV) (ad n : Nat → Nat) (L : List Nat) (hL : ∀ a ∈ ([0, 1, 2, 3, 4, 5, 6, 7, 8, 11, 12, 13, 14, 15, 30] : List Nat), a ∈ L) (F : Nat) (σ σo : HS) (p1 : Int32) (r : Int32) (hD : D_LW_write_0_30 F n σ p1 = some (σo, r)) : CtW l E y_LW_write c_LW_write 4 (some FieldType.int) [(0, 16, 19, 13), (0, 16, 22, 15)] ({ frames := 7, cells := 1, slots := 6, locals := 163 }) [.ref (ad 0), .int p1, .ref (ad 30)] (wl E ad n L σ) r (wl E ad n L σo) := by
  refine fun sz => entW (by decide) (Nat.le_of_ble_eq_true rfl) ?_
  intro p e s m below meth c hsz cx htab kt sx wo ls hl
  have hx := cx.1.1
  have hb := cx.1.2.1
  have hown := cx.1.2.2.2.1
  have hts := cx.1.2.2.2.2
  have hl : lv_has ls 4 [(0, .ref (ad 0)), (1, .int p1), (2, .ref (ad 30))] := hl
  have m0 : 0 ∈ L := hL 0 (by decide)
  have m1 : 1 ∈ L := hL 1 (by decide)
  have m2 : 2 ∈ L := hL 2 (by decide)
  have m3 : 3 ∈ L := hL 3 (by decide)
  have m4 : 4 ∈ L := hL 4 (by decide)
  have m5 : 5 ∈ L := hL 5 (by decide)
  have m6 : 6 ∈ L := hL 6 (by decide)
  have m7 : 7 ∈ L := hL 7 (by decide)
  have m8 : 8 ∈ L := hL 8 (by decide)
  have m11 : 11 ∈ L := hL 11 (by decide)
  have m12 : 12 ∈ L := hL 12 (by decide)
  have m13 : 13 ∈ L := hL 13 (by decide)
  have m14 : 14 ∈ L := hL 14 (by decide)
  have m15 : 15 ∈ L := hL 15 (by decide)
  have m30 : 30 ∈ L := hL 30 (by decide)
  rw [D_LW_write_0_30] at hD
  refine lv_aload_n hx hb d_LW_write_0 rfl (lv_at hl 2 rfl) ?_
  refine lv_iconst (v := 0) hx hb d_LW_write_1 (by decide) ?_
  refine lv_aload_n hx hb d_LW_write_2 rfl (lv_at hl 0 rfl) ?_
  refine lv_iload_n hx hb d_LW_write_3 rfl (lv_at hl 1 rfl) ?_
  obtain ⟨⟨σ1, r2⟩, hc6, hD⟩ := bd_s hD
  try dsimp only [nm2] at hD
  rcases r2 with x3 | k4
  · dsimp only [xc] at hD
    refine w_callR (v := some (.int x3)) cx kt sx wo (k_SF_write l hfl E ad n L (fun a h => hL a ((by decide : ∀ a ∈ ([0, 1, 2, 3, 4, 5, 6, 7, 8, 11, 12, 13, 14, 15] : List Nat), a ∈ ([0, 1, 2, 3, 4, 5, 6, 7, 8, 11, 12, 13, 14, 15, 30] : List Nat)) a h)) F σ σ1 p1 (Sum.inl x3) hc6) m0 (cel_0 E ad n σ) rfl rfl mw_SF_write wm_LW_17 ⟨by decide, by decide⟩ ⟨by decide, by decide⟩ hl.1 rfl (Nat.le_of_ble_eq_true rfl) d_LW_write_4 (fun H locs wo => ?_)
    refine W.eq (g2 := F0 m 7 ls [.int x3, .int (0 : Int32), .ref (ad 30)]) rfl ?_
    refine lv_if_eq (tgt := 14) hx hb d_LW_write_7 (by decide) (fun c7 => ?_) (fun c7 => ?_)
    · have hD := ite_p hD c7
      refine lv_lconst (v := 0) hx hb d_LW_write_14 (by decide) ?_
      obtain ⟨g8, hD⟩ := grd_s hD
      refine g_last cx wo m30 (cel_30 E ad n) g8 d_LW_write_15 (fun H locs wo => ?_)
      obtain ⟨σ9, eσ9⟩ : ∃ z, z = stL σ1 30 ((0 : Int32)).toNatClampNeg (0 : Int64) := ⟨_, rfl⟩
      rw [← eσ9] at wo
      have hD := nm_at hD eσ9
      try dsimp only at hD
      refine lv_goto (tgt := 25) hx hb d_LW_write_16 (by decide) ?_
      refine lv_iconst (v := 0) hx hb d_LW_write_25 (by decide) ?_
      cases hD
      exact t_ireti cx wo rfl rfl d_LW_write_26
    · have hD := ite_n hD c7
      refine lv_lconst (v := 1) hx hb d_LW_write_10 (by decide) ?_
      refine lv_goto (tgt := 15) hx hb d_LW_write_11 (by decide) ?_
      obtain ⟨g10, hD⟩ := grd_s hD
      refine g_last cx wo m30 (cel_30 E ad n) g10 d_LW_write_15 (fun H locs wo => ?_)
      obtain ⟨σ11, eσ11⟩ : ∃ z, z = stL σ1 30 ((0 : Int32)).toNatClampNeg (1 : Int64) := ⟨_, rfl⟩
      rw [← eσ11] at wo
      have hD := nm_at hD eσ11
      try dsimp only at hD
      refine lv_goto (tgt := 25) hx hb d_LW_write_16 (by decide) ?_
      refine lv_iconst (v := 0) hx hb d_LW_write_25 (by decide) ?_
      cases hD
      exact t_ireti cx wo rfl rfl d_LW_write_26
  · dsimp only [xc] at hD
    by_cases c12 : k4 = 1
    · have hD := ite_p hD c12
      subst c12
      refine w_callC (k := 1) (hpc := 19) cx kt sx wo (k_SF_write l hfl E ad n L (fun a h => hL a ((by decide : ∀ a ∈ ([0, 1, 2, 3, 4, 5, 6, 7, 8, 11, 12, 13, 14, 15] : List Nat), a ∈ ([0, 1, 2, 3, 4, 5, 6, 7, 8, 11, 12, 13, 14, 15, 30] : List Nat)) a h)) F σ σ1 p1 (Sum.inr 1) hc6) m0 (cel_0 E ad n σ) rfl rfl mw_SF_write wm_LW_17 ⟨by decide, by decide⟩ ⟨by decide, by decide⟩ hl.1 rfl (Nat.le_of_ble_eq_true rfl) d_LW_write_4 (ctb_1 (k := 1) htab (by decide) (by decide) (by decide)) (fun x13 H locs wo => ?_)
      refine lv_astore_n (lv' := [(3, .ref x13), (0, .ref (ad 0)), (1, .int p1), (2, .ref (ad 30))]) hx hb d_LW_write_19 rfl hl (by decide) rfl (fun ls hl => ?_)
      refine lv_iconst (v := 1) hx hb d_LW_write_20 (by decide) ?_
      cases hD
      exact t_ireti cx wo rfl rfl d_LW_write_21
    have hD := ite_n hD c12
    by_cases c14 : k4 = 2
    · have hD := ite_p hD c14
      subst c14
      refine w_callC (k := 2) (hpc := 22) cx kt sx wo (k_SF_write l hfl E ad n L (fun a h => hL a ((by decide : ∀ a ∈ ([0, 1, 2, 3, 4, 5, 6, 7, 8, 11, 12, 13, 14, 15] : List Nat), a ∈ ([0, 1, 2, 3, 4, 5, 6, 7, 8, 11, 12, 13, 14, 15, 30] : List Nat)) a h)) F σ σ1 p1 (Sum.inr 2) hc6) m0 (cel_0 E ad n σ) rfl rfl mw_SF_write wm_LW_17 ⟨by decide, by decide⟩ ⟨by decide, by decide⟩ hl.1 rfl (Nat.le_of_ble_eq_true rfl) d_LW_write_4 (ctb_2 htab (by decide) (by decide) (by decide) (by decide)) (fun x15 H locs wo => ?_)
      refine lv_astore_n (lv' := [(3, .ref x15), (0, .ref (ad 0)), (1, .int p1), (2, .ref (ad 30))]) hx hb d_LW_write_22 rfl hl (by decide) rfl (fun ls hl => ?_)
      refine lv_iconst (v := 2) hx hb d_LW_write_23 (by decide) ?_
      cases hD
      exact t_ireti cx wo rfl rfl d_LW_write_24
    have hD := ite_n hD c14
    cases hD
def D_LW_read_0_30 (F : Nat) (n : Nat → Nat) (σ : HS) (p1 : Int32) (p2 : Int32) : Option (HS × Int32) :=
(D_SF_read F n σ p1 p2).bind (fun (q5 : HS × (Int64 ⊕ Nat)) => nm2 q5 (fun (σ1 : HS) (r2 : Int64 ⊕ Nat) =>
  xc r2 (fun (x3 : Int64) =>
    grd (inb (0 : Int32) (n 30)) (
    nm (stL σ1 30 ((0 : Int32)).toNatClampNeg x3) (fun σ8 =>
    some (σ8, (0 : Int32)))))
  (fun (k4 : Nat) => (if k4 = 1 then
    some (σ1, (1 : Int32))
  else (if k4 = 2 then
    some (σ1, (2 : Int32))
  else none)))))
set_option maxRecDepth 100000 in
set_option maxHeartbeats 4000000 in
theorem k_LW_read_0_30 (l : Launch) (hfl : l.stackTraces = false) (E : EV) (ad n : Nat → Nat) (L : List Nat) (hL : ∀ a ∈ ([0, 1, 2, 3, 4, 7, 11, 14, 15, 30] : List Nat), a ∈ L) (F : Nat) (σ σo : HS) (p1 : Int32) (p2 : Int32) (r : Int32) (hD : D_LW_read_0_30 F n σ p1 p2 = some (σo, r)) : CtW l E y_LW_read c_LW_read 5 (some FieldType.int) [(0, 9, 12, 13), (0, 9, 16, 15)] ({ frames := 7, cells := 1, slots := 6, locals := 135 }) [.ref (ad 0), .int p1, .int p2, .ref (ad 30)] (wl E ad n L σ) r (wl E ad n L σo) := by
  refine fun sz => entW (by decide) (Nat.le_of_ble_eq_true rfl) ?_
  intro p e s m below meth c hsz cx htab kt sx wo ls hl
  have hx := cx.1.1
  have hb := cx.1.2.1
  have hown := cx.1.2.2.2.1
  have hts := cx.1.2.2.2.2
  have hl : lv_has ls 5 [(0, .ref (ad 0)), (1, .int p1), (2, .int p2), (3, .ref (ad 30))] := hl
  have m0 : 0 ∈ L := hL 0 (by decide)
  have m1 : 1 ∈ L := hL 1 (by decide)
  have m2 : 2 ∈ L := hL 2 (by decide)
  have m3 : 3 ∈ L := hL 3 (by decide)
  have m4 : 4 ∈ L := hL 4 (by decide)
  have m7 : 7 ∈ L := hL 7 (by decide)
  have m11 : 11 ∈ L := hL 11 (by decide)
  have m14 : 14 ∈ L := hL 14 (by decide)
  have m15 : 15 ∈ L := hL 15 (by decide)
  have m30 : 30 ∈ L := hL 30 (by decide)
  rw [D_LW_read_0_30] at hD
  refine lv_aload_n hx hb d_LW_read_0 rfl (lv_at hl 3 rfl) ?_
  refine lv_iconst (v := 0) hx hb d_LW_read_1 (by decide) ?_
  refine lv_aload_n hx hb d_LW_read_2 rfl (lv_at hl 0 rfl) ?_
  refine lv_iload_n hx hb d_LW_read_3 rfl (lv_at hl 1 rfl) ?_
  refine lv_iload_n hx hb d_LW_read_4 rfl (lv_at hl 2 rfl) ?_
  obtain ⟨⟨σ1, r2⟩, hc6, hD⟩ := bd_s hD
  try dsimp only [nm2] at hD
  rcases r2 with x3 | k4
  · dsimp only [xc] at hD
    refine w_callR (v := some (.long x3)) cx kt sx wo (k_SF_read l hfl E ad n L (fun a h => hL a ((by decide : ∀ a ∈ ([0, 1, 2, 3, 4, 7, 11, 14, 15] : List Nat), a ∈ ([0, 1, 2, 3, 4, 7, 11, 14, 15, 30] : List Nat)) a h)) F σ σ1 p1 p2 (Sum.inl x3) hc6) m0 (cel_0 E ad n σ) rfl rfl mw_SF_read wm_LW_21 ⟨by decide, by decide⟩ ⟨by decide, by decide⟩ hl.1 rfl (Nat.le_of_ble_eq_true rfl) d_LW_read_5 (fun H locs wo => ?_)
    refine W.eq (g2 := F0 m 8 ls [.long x3, .int (0 : Int32), .ref (ad 30)]) rfl ?_
    obtain ⟨g7, hD⟩ := grd_s hD
    refine g_last cx wo m30 (cel_30 E ad n) g7 d_LW_read_8 (fun H locs wo => ?_)
    obtain ⟨σ8, eσ8⟩ : ∃ z, z = stL σ1 30 ((0 : Int32)).toNatClampNeg x3 := ⟨_, rfl⟩
    rw [← eσ8] at wo
    have hD := nm_at hD eσ8
    try dsimp only at hD
    refine lv_goto (tgt := 20) hx hb d_LW_read_9 (by decide) ?_
    refine lv_iconst (v := 0) hx hb d_LW_read_20 (by decide) ?_
    cases hD
    exact t_ireti cx wo rfl rfl d_LW_read_21
  · dsimp only [xc] at hD
    by_cases c9 : k4 = 1
    · have hD := ite_p hD c9
      subst c9
      refine w_callC (k := 1) (hpc := 12) cx kt sx wo (k_SF_read l hfl E ad n L (fun a h => hL a ((by decide : ∀ a ∈ ([0, 1, 2, 3, 4, 7, 11, 14, 15] : List Nat), a ∈ ([0, 1, 2, 3, 4, 7, 11, 14, 15, 30] : List Nat)) a h)) F σ σ1 p1 p2 (Sum.inr 1) hc6) m0 (cel_0 E ad n σ) rfl rfl mw_SF_read wm_LW_21 ⟨by decide, by decide⟩ ⟨by decide, by decide⟩ hl.1 rfl (Nat.le_of_ble_eq_true rfl) d_LW_read_5 (ctb_1 (k := 1) htab (by decide) (by decide) (by decide)) (fun x10 H locs wo => ?_)
      refine lv_astore (lv' := [(4, .ref x10), (0, .ref (ad 0)), (1, .int p1), (2, .int p2), (3, .ref (ad 30))]) hx hb d_LW_read_12 hl (by decide) rfl (fun ls hl => ?_)
      refine lv_iconst (v := 1) hx hb d_LW_read_14 (by decide) ?_
      cases hD
      exact t_ireti cx wo rfl rfl d_LW_read_15
    have hD := ite_n hD c9
    by_cases c11 : k4 = 2
    · have hD := ite_p hD c11
      subst c11
      refine w_callC (k := 2) (hpc := 16) cx kt sx wo (k_SF_read l hfl E ad n L (fun a h => hL a ((by decide : ∀ a ∈ ([0, 1, 2, 3, 4, 7, 11, 14, 15] : List Nat), a ∈ ([0, 1, 2, 3, 4, 7, 11, 14, 15, 30] : List Nat)) a h)) F σ σ1 p1 p2 (Sum.inr 2) hc6) m0 (cel_0 E ad n σ) rfl rfl mw_SF_read wm_LW_21 ⟨by decide, by decide⟩ ⟨by decide, by decide⟩ hl.1 rfl (Nat.le_of_ble_eq_true rfl) d_LW_read_5 (ctb_2 htab (by decide) (by decide) (by decide) (by decide)) (fun x12 H locs wo => ?_)
      refine lv_astore (lv' := [(4, .ref x12), (0, .ref (ad 0)), (1, .int p1), (2, .int p2), (3, .ref (ad 30))]) hx hb d_LW_read_16 hl (by decide) rfl (fun ls hl => ?_)
      refine lv_iconst (v := 2) hx hb d_LW_read_18 (by decide) ?_
      cases hD
      exact t_ireti cx wo rfl rfl d_LW_read_19
    have hD := ite_n hD c11
    cases hD
def D_LW_lose_0 (F : Nat) (n : Nat → Nat) (σ : HS) (p1 : Int32) : Option (HS × Int32) :=
(D_SF_lose F n σ p1).bind (fun (q5 : HS × (Unit ⊕ Nat)) => nm2 q5 (fun (σ1 : HS) (r2 : Unit ⊕ Nat) =>
  xc r2 (fun (x3 : Unit) =>
    some (σ1, (0 : Int32)))
  (fun (k4 : Nat) => (if k4 = 1 then
    some (σ1, (1 : Int32))
  else none))))
set_option maxRecDepth 100000 in
set_option maxHeartbeats 4000000 in
theorem k_LW_lose_0 (l : Launch) (hfl : l.stackTraces = false) (E : EV) (ad n : Nat → Nat) (L : List Nat) (hL : ∀ a ∈ ([0, 4] : List Nat), a ∈ L) (F : Nat) (σ σo : HS) (p1 : Int32) (r : Int32) (hD : D_LW_lose_0 F n σ p1 = some (σo, r)) : CtW l E y_LW_lose c_LW_lose 3 (some FieldType.int) [(0, 5, 8, 13)] ({ frames := 7, cells := 1, slots := 6, locals := 111 }) [.ref (ad 0), .int p1] (wl E ad n L σ) r (wl E ad n L σo) := by
  refine fun sz => entW (by decide) (Nat.le_of_ble_eq_true rfl) ?_
  intro p e s m below meth c hsz cx htab kt sx wo ls hl
  have hx := cx.1.1
  have hb := cx.1.2.1
  have hown := cx.1.2.2.2.1
  have hts := cx.1.2.2.2.2
  have hl : lv_has ls 3 [(0, .ref (ad 0)), (1, .int p1)] := hl
  have m0 : 0 ∈ L := hL 0 (by decide)
  have m4 : 4 ∈ L := hL 4 (by decide)
  rw [D_LW_lose_0] at hD
  refine lv_aload_n hx hb d_LW_lose_0 rfl (lv_at hl 0 rfl) ?_
  refine lv_iload_n hx hb d_LW_lose_1 rfl (lv_at hl 1 rfl) ?_
  obtain ⟨⟨σ1, r2⟩, hc6, hD⟩ := bd_s hD
  try dsimp only [nm2] at hD
  rcases r2 with x3 | k4
  · dsimp only [xc] at hD
    refine w_callR (v := none) cx kt sx wo (k_SF_lose l hfl E ad n L (fun a h => hL a ((by decide : ∀ a ∈ ([0, 4] : List Nat), a ∈ ([0, 4] : List Nat)) a h)) F σ σ1 p1 (Sum.inl x3) hc6) m0 (cel_0 E ad n σ) rfl rfl mw_SF_lose wm_LW_25 ⟨by decide, by decide⟩ ⟨by decide, by decide⟩ hl.1 rfl (Nat.le_of_ble_eq_true rfl) d_LW_lose_2 (fun H locs wo => ?_)
    refine W.eq (g2 := F0 m 5 ls []) rfl ?_
    refine lv_goto (tgt := 11) hx hb d_LW_lose_5 (by decide) ?_
    refine lv_iconst (v := 0) hx hb d_LW_lose_11 (by decide) ?_
    cases hD
    exact t_ireti cx wo rfl rfl d_LW_lose_12
  · dsimp only [xc] at hD
    by_cases c7 : k4 = 1
    · have hD := ite_p hD c7
      subst c7
      refine w_callC (k := 1) (hpc := 8) cx kt sx wo (k_SF_lose l hfl E ad n L (fun a h => hL a ((by decide : ∀ a ∈ ([0, 4] : List Nat), a ∈ ([0, 4] : List Nat)) a h)) F σ σ1 p1 (Sum.inr 1) hc6) m0 (cel_0 E ad n σ) rfl rfl mw_SF_lose wm_LW_25 ⟨by decide, by decide⟩ ⟨by decide, by decide⟩ hl.1 rfl (Nat.le_of_ble_eq_true rfl) d_LW_lose_2 (ctb_1 (k := 1) htab (by decide) (by decide) (by decide)) (fun x8 H locs wo => ?_)
      refine lv_astore_n (lv' := [(2, .ref x8), (0, .ref (ad 0)), (1, .int p1)]) hx hb d_LW_lose_8 rfl hl (by decide) rfl (fun ls hl => ?_)
      refine lv_iconst (v := 1) hx hb d_LW_lose_9 (by decide) ?_
      cases hD
      exact t_ireti cx wo rfl rfl d_LW_lose_10
    have hD := ite_n hD c7
    cases hD
def D_LW_off_0 (F : Nat) (n : Nat → Nat) (σ : HS)  : Option (HS × Int32) :=
(D_SF_off F n σ ).bind (fun (q5 : HS × (Unit ⊕ Nat)) => nm2 q5 (fun (σ1 : HS) (r2 : Unit ⊕ Nat) =>
  xc r2 (fun (x3 : Unit) =>
    some (σ1, (0 : Int32)))
  (fun (k4 : Nat) => (if k4 = 2 then
    some (σ1, (1 : Int32))
  else none))))
set_option maxRecDepth 100000 in
set_option maxHeartbeats 4000000 in
theorem k_LW_off_0 (l : Launch) (hfl : l.stackTraces = false) (E : EV) (ad n : Nat → Nat) (L : List Nat) (hL : ∀ a ∈ ([0, 4] : List Nat), a ∈ L) (F : Nat) (σ σo : HS)  (r : Int32) (hD : D_LW_off_0 F n σ  = some (σo, r)) : CtW l E y_LW_off c_LW_off 2 (some FieldType.int) [(0, 4, 7, 15)] ({ frames := 7, cells := 1, slots := 6, locals := 110 }) [.ref (ad 0)] (wl E ad n L σ) r (wl E ad n L σo) := by
  refine fun sz => entW (by decide) (Nat.le_of_ble_eq_true rfl) ?_
  intro p e s m below meth c hsz cx htab kt sx wo ls hl
  have hx := cx.1.1
  have hb := cx.1.2.1
  have hown := cx.1.2.2.2.1
  have hts := cx.1.2.2.2.2
  have hl : lv_has ls 2 [(0, .ref (ad 0))] := hl
  have m0 : 0 ∈ L := hL 0 (by decide)
  have m4 : 4 ∈ L := hL 4 (by decide)
  rw [D_LW_off_0] at hD
  refine lv_aload_n hx hb d_LW_off_0 rfl (lv_at hl 0 rfl) ?_
  obtain ⟨⟨σ1, r2⟩, hc6, hD⟩ := bd_s hD
  try dsimp only [nm2] at hD
  rcases r2 with x3 | k4
  · dsimp only [xc] at hD
    refine w_callR (v := none) cx kt sx wo (k_SF_off l hfl E ad n L (fun a h => hL a ((by decide : ∀ a ∈ ([0, 4] : List Nat), a ∈ ([0, 4] : List Nat)) a h)) F σ σ1  (Sum.inl x3) hc6) m0 (cel_0 E ad n σ) rfl rfl mw_SF_off wm_LW_29 ⟨by decide, by decide⟩ ⟨by decide, by decide⟩ hl.1 rfl (Nat.le_of_ble_eq_true rfl) d_LW_off_1 (fun H locs wo => ?_)
    refine W.eq (g2 := F0 m 4 ls []) rfl ?_
    refine lv_goto (tgt := 10) hx hb d_LW_off_4 (by decide) ?_
    refine lv_iconst (v := 0) hx hb d_LW_off_10 (by decide) ?_
    cases hD
    exact t_ireti cx wo rfl rfl d_LW_off_11
  · dsimp only [xc] at hD
    by_cases c7 : k4 = 2
    · have hD := ite_p hD c7
      subst c7
      refine w_callC (k := 2) (hpc := 7) cx kt sx wo (k_SF_off l hfl E ad n L (fun a h => hL a ((by decide : ∀ a ∈ ([0, 4] : List Nat), a ∈ ([0, 4] : List Nat)) a h)) F σ σ1  (Sum.inr 2) hc6) m0 (cel_0 E ad n σ) rfl rfl mw_SF_off wm_LW_29 ⟨by decide, by decide⟩ ⟨by decide, by decide⟩ hl.1 rfl (Nat.le_of_ble_eq_true rfl) d_LW_off_1 (ctb_1 (k := 2) htab (by decide) (by decide) (by decide)) (fun x8 H locs wo => ?_)
      refine lv_astore_n (lv' := [(1, .ref x8), (0, .ref (ad 0))]) hx hb d_LW_off_7 rfl hl (by decide) rfl (fun ls hl => ?_)
      refine lv_iconst (v := 1) hx hb d_LW_off_8 (by decide) ?_
      cases hD
      exact t_ireti cx wo rfl rfl d_LW_off_9
    have hD := ite_n hD c7
    cases hD
def D_LW_open_0_30 (F : Nat) (n : Nat → Nat) (σ : HS)  : Option (HS × Int32) :=
(D_SF_open F n σ ).bind (fun (q5 : HS × (Int32 ⊕ Nat)) => nm2 q5 (fun (σ1 : HS) (r2 : Int32 ⊕ Nat) =>
  xc r2 (fun (x3 : Int32) =>
    (if x3 = 0 then
      grd (inb (0 : Int32) (n 30)) (
      nm (stL σ1 30 ((0 : Int32)).toNatClampNeg (0 : Int64)) (fun σ9 =>
      some (σ9, (0 : Int32))))
    else
      grd (inb (0 : Int32) (n 30)) (
      nm (stL σ1 30 ((0 : Int32)).toNatClampNeg (1 : Int64)) (fun σ11 =>
      some (σ11, (0 : Int32))))))
  (fun (k4 : Nat) => (if k4 = 2 then
    some (σ1, (1 : Int32))
  else none))))
set_option maxRecDepth 100000 in
set_option maxHeartbeats 4000000 in
theorem k_LW_open_0_30 (l : Launch) (hfl : l.stackTraces = false) (E : EV) (ad n : Nat → Nat) (L : List Nat) (hL : ∀ a ∈ ([0, 1, 2, 3, 4, 7, 8, 9, 11, 12, 13, 14, 15, 16, 30] : List Nat), a ∈ L) (F : Nat) (σ σo : HS)  (r : Int32) (hD : D_LW_open_0_30 F n σ  = some (σo, r)) : CtW l E y_LW_open c_LW_open 3 (some FieldType.int) [(0, 15, 18, 15)] ({ frames := 7, cells := 1, slots := 6, locals := 164 }) [.ref (ad 0), .ref (ad 30)] (wl E ad n L σ) r (wl E ad n L σo) := by
  refine fun sz => entW (by decide) (Nat.le_of_ble_eq_true rfl) ?_
  intro p e s m below meth c hsz cx htab kt sx wo ls hl
  have hx := cx.1.1
  have hb := cx.1.2.1
  have hown := cx.1.2.2.2.1
  have hts := cx.1.2.2.2.2
  have hl : lv_has ls 3 [(0, .ref (ad 0)), (1, .ref (ad 30))] := hl
  have m0 : 0 ∈ L := hL 0 (by decide)
  have m1 : 1 ∈ L := hL 1 (by decide)
  have m2 : 2 ∈ L := hL 2 (by decide)
  have m3 : 3 ∈ L := hL 3 (by decide)
  have m4 : 4 ∈ L := hL 4 (by decide)
  have m7 : 7 ∈ L := hL 7 (by decide)
  have m8 : 8 ∈ L := hL 8 (by decide)
  have m9 : 9 ∈ L := hL 9 (by decide)
  have m11 : 11 ∈ L := hL 11 (by decide)
  have m12 : 12 ∈ L := hL 12 (by decide)
  have m13 : 13 ∈ L := hL 13 (by decide)
  have m14 : 14 ∈ L := hL 14 (by decide)
  have m15 : 15 ∈ L := hL 15 (by decide)
  have m16 : 16 ∈ L := hL 16 (by decide)
  have m30 : 30 ∈ L := hL 30 (by decide)
  rw [D_LW_open_0_30] at hD
  refine lv_aload_n hx hb d_LW_open_0 rfl (lv_at hl 1 rfl) ?_
  refine lv_iconst (v := 0) hx hb d_LW_open_1 (by decide) ?_
  refine lv_aload_n hx hb d_LW_open_2 rfl (lv_at hl 0 rfl) ?_
  obtain ⟨⟨σ1, r2⟩, hc6, hD⟩ := bd_s hD
  try dsimp only [nm2] at hD
  rcases r2 with x3 | k4
  · dsimp only [xc] at hD
    refine w_callR (v := some (.int x3)) cx kt sx wo (k_SF_open l hfl E ad n L (fun a h => hL a ((by decide : ∀ a ∈ ([0, 1, 2, 3, 4, 7, 8, 9, 11, 12, 13, 14, 15, 16] : List Nat), a ∈ ([0, 1, 2, 3, 4, 7, 8, 9, 11, 12, 13, 14, 15, 16, 30] : List Nat)) a h)) F σ σ1  (Sum.inl x3) hc6) m0 (cel_0 E ad n σ) rfl rfl mw_SF_open wm_LW_32 ⟨by decide, by decide⟩ ⟨by decide, by decide⟩ hl.1 rfl (Nat.le_of_ble_eq_true rfl) d_LW_open_3 (fun H locs wo => ?_)
    refine W.eq (g2 := F0 m 6 ls [.int x3, .int (0 : Int32), .ref (ad 30)]) rfl ?_
    refine lv_if_eq (tgt := 13) hx hb d_LW_open_6 (by decide) (fun c7 => ?_) (fun c7 => ?_)
    · have hD := ite_p hD c7
      refine lv_lconst (v := 0) hx hb d_LW_open_13 (by decide) ?_
      obtain ⟨g8, hD⟩ := grd_s hD
      refine g_last cx wo m30 (cel_30 E ad n) g8 d_LW_open_14 (fun H locs wo => ?_)
      obtain ⟨σ9, eσ9⟩ : ∃ z, z = stL σ1 30 ((0 : Int32)).toNatClampNeg (0 : Int64) := ⟨_, rfl⟩
      rw [← eσ9] at wo
      have hD := nm_at hD eσ9
      try dsimp only at hD
      refine lv_goto (tgt := 21) hx hb d_LW_open_15 (by decide) ?_
      refine lv_iconst (v := 0) hx hb d_LW_open_21 (by decide) ?_
      cases hD
      exact t_ireti cx wo rfl rfl d_LW_open_22
    · have hD := ite_n hD c7
      refine lv_lconst (v := 1) hx hb d_LW_open_9 (by decide) ?_
      refine lv_goto (tgt := 14) hx hb d_LW_open_10 (by decide) ?_
      obtain ⟨g10, hD⟩ := grd_s hD
      refine g_last cx wo m30 (cel_30 E ad n) g10 d_LW_open_14 (fun H locs wo => ?_)
      obtain ⟨σ11, eσ11⟩ : ∃ z, z = stL σ1 30 ((0 : Int32)).toNatClampNeg (1 : Int64) := ⟨_, rfl⟩
      rw [← eσ11] at wo
      have hD := nm_at hD eσ11
      try dsimp only at hD
      refine lv_goto (tgt := 21) hx hb d_LW_open_15 (by decide) ?_
      refine lv_iconst (v := 0) hx hb d_LW_open_21 (by decide) ?_
      cases hD
      exact t_ireti cx wo rfl rfl d_LW_open_22
  · dsimp only [xc] at hD
    by_cases c12 : k4 = 2
    · have hD := ite_p hD c12
      subst c12
      refine w_callC (k := 2) (hpc := 18) cx kt sx wo (k_SF_open l hfl E ad n L (fun a h => hL a ((by decide : ∀ a ∈ ([0, 1, 2, 3, 4, 7, 8, 9, 11, 12, 13, 14, 15, 16] : List Nat), a ∈ ([0, 1, 2, 3, 4, 7, 8, 9, 11, 12, 13, 14, 15, 16, 30] : List Nat)) a h)) F σ σ1  (Sum.inr 2) hc6) m0 (cel_0 E ad n σ) rfl rfl mw_SF_open wm_LW_32 ⟨by decide, by decide⟩ ⟨by decide, by decide⟩ hl.1 rfl (Nat.le_of_ble_eq_true rfl) d_LW_open_3 (ctb_1 (k := 2) htab (by decide) (by decide) (by decide)) (fun x13 H locs wo => ?_)
      refine lv_astore_n (lv' := [(2, .ref x13), (0, .ref (ad 0)), (1, .ref (ad 30))]) hx hb d_LW_open_18 rfl hl (by decide) rfl (fun ls hl => ?_)
      refine lv_iconst (v := 1) hx hb d_LW_open_19 (by decide) ?_
      cases hD
      exact t_ireti cx wo rfl rfl d_LW_open_20
    have hD := ite_n hD c12
    cases hD
def D_LW_fail_0_30 (F : Nat) (n : Nat → Nat) (σ : HS) (p1 : Int32) : Option (HS × Int32) :=
(D_SF_fail F n σ p1).bind (fun (q5 : HS × (Int32 ⊕ Nat)) => nm2 q5 (fun (σ1 : HS) (r2 : Int32 ⊕ Nat) =>
  xc r2 (fun (x3 : Int32) =>
    (if x3 = 0 then
      grd (inb (0 : Int32) (n 30)) (
      nm (stL σ1 30 ((0 : Int32)).toNatClampNeg (0 : Int64)) (fun σ9 =>
      some (σ9, (0 : Int32))))
    else
      grd (inb (0 : Int32) (n 30)) (
      nm (stL σ1 30 ((0 : Int32)).toNatClampNeg (1 : Int64)) (fun σ11 =>
      some (σ11, (0 : Int32))))))
  (fun (k4 : Nat) => (if k4 = 1 then
    some (σ1, (1 : Int32))
  else none))))
set_option maxRecDepth 100000 in
set_option maxHeartbeats 4000000 in
theorem k_LW_fail_0_30 (l : Launch) (hfl : l.stackTraces = false) (E : EV) (ad n : Nat → Nat) (L : List Nat) (hL : ∀ a ∈ ([0, 1, 2, 3, 4, 9, 10, 11, 13, 14, 15, 16, 30] : List Nat), a ∈ L) (F : Nat) (σ σo : HS) (p1 : Int32) (r : Int32) (hD : D_LW_fail_0_30 F n σ p1 = some (σo, r)) : CtW l E y_LW_fail c_LW_fail 4 (some FieldType.int) [(0, 16, 19, 13)] ({ frames := 7, cells := 1, slots := 6, locals := 112 }) [.ref (ad 0), .int p1, .ref (ad 30)] (wl E ad n L σ) r (wl E ad n L σo) := by
  refine fun sz => entW (by decide) (Nat.le_of_ble_eq_true rfl) ?_
  intro p e s m below meth c hsz cx htab kt sx wo ls hl
  have hx := cx.1.1
  have hb := cx.1.2.1
  have hown := cx.1.2.2.2.1
  have hts := cx.1.2.2.2.2
  have hl : lv_has ls 4 [(0, .ref (ad 0)), (1, .int p1), (2, .ref (ad 30))] := hl
  have m0 : 0 ∈ L := hL 0 (by decide)
  have m1 : 1 ∈ L := hL 1 (by decide)
  have m2 : 2 ∈ L := hL 2 (by decide)
  have m3 : 3 ∈ L := hL 3 (by decide)
  have m4 : 4 ∈ L := hL 4 (by decide)
  have m9 : 9 ∈ L := hL 9 (by decide)
  have m10 : 10 ∈ L := hL 10 (by decide)
  have m11 : 11 ∈ L := hL 11 (by decide)
  have m13 : 13 ∈ L := hL 13 (by decide)
  have m14 : 14 ∈ L := hL 14 (by decide)
  have m15 : 15 ∈ L := hL 15 (by decide)
  have m16 : 16 ∈ L := hL 16 (by decide)
  have m30 : 30 ∈ L := hL 30 (by decide)
  rw [D_LW_fail_0_30] at hD
  refine lv_aload_n hx hb d_LW_fail_0 rfl (lv_at hl 2 rfl) ?_
  refine lv_iconst (v := 0) hx hb d_LW_fail_1 (by decide) ?_
  refine lv_aload_n hx hb d_LW_fail_2 rfl (lv_at hl 0 rfl) ?_
  refine lv_iload_n hx hb d_LW_fail_3 rfl (lv_at hl 1 rfl) ?_
  obtain ⟨⟨σ1, r2⟩, hc6, hD⟩ := bd_s hD
  try dsimp only [nm2] at hD
  rcases r2 with x3 | k4
  · dsimp only [xc] at hD
    refine w_callR (v := some (.int x3)) cx kt sx wo (k_SF_fail l hfl E ad n L (fun a h => hL a ((by decide : ∀ a ∈ ([0, 1, 2, 3, 4, 9, 10, 11, 13, 14, 15, 16] : List Nat), a ∈ ([0, 1, 2, 3, 4, 9, 10, 11, 13, 14, 15, 16, 30] : List Nat)) a h)) F σ σ1 p1 (Sum.inl x3) hc6) m0 (cel_0 E ad n σ) rfl rfl mw_SF_fail wm_LW_36 ⟨by decide, by decide⟩ ⟨by decide, by decide⟩ hl.1 rfl (Nat.le_of_ble_eq_true rfl) d_LW_fail_4 (fun H locs wo => ?_)
    refine W.eq (g2 := F0 m 7 ls [.int x3, .int (0 : Int32), .ref (ad 30)]) rfl ?_
    refine lv_if_eq (tgt := 14) hx hb d_LW_fail_7 (by decide) (fun c7 => ?_) (fun c7 => ?_)
    · have hD := ite_p hD c7
      refine lv_lconst (v := 0) hx hb d_LW_fail_14 (by decide) ?_
      obtain ⟨g8, hD⟩ := grd_s hD
      refine g_last cx wo m30 (cel_30 E ad n) g8 d_LW_fail_15 (fun H locs wo => ?_)
      obtain ⟨σ9, eσ9⟩ : ∃ z, z = stL σ1 30 ((0 : Int32)).toNatClampNeg (0 : Int64) := ⟨_, rfl⟩
      rw [← eσ9] at wo
      have hD := nm_at hD eσ9
      try dsimp only at hD
      refine lv_goto (tgt := 22) hx hb d_LW_fail_16 (by decide) ?_
      refine lv_iconst (v := 0) hx hb d_LW_fail_22 (by decide) ?_
      cases hD
      exact t_ireti cx wo rfl rfl d_LW_fail_23
    · have hD := ite_n hD c7
      refine lv_lconst (v := 1) hx hb d_LW_fail_10 (by decide) ?_
      refine lv_goto (tgt := 15) hx hb d_LW_fail_11 (by decide) ?_
      obtain ⟨g10, hD⟩ := grd_s hD
      refine g_last cx wo m30 (cel_30 E ad n) g10 d_LW_fail_15 (fun H locs wo => ?_)
      obtain ⟨σ11, eσ11⟩ : ∃ z, z = stL σ1 30 ((0 : Int32)).toNatClampNeg (1 : Int64) := ⟨_, rfl⟩
      rw [← eσ11] at wo
      have hD := nm_at hD eσ11
      try dsimp only at hD
      refine lv_goto (tgt := 22) hx hb d_LW_fail_16 (by decide) ?_
      refine lv_iconst (v := 0) hx hb d_LW_fail_22 (by decide) ?_
      cases hD
      exact t_ireti cx wo rfl rfl d_LW_fail_23
  · dsimp only [xc] at hD
    by_cases c12 : k4 = 1
    · have hD := ite_p hD c12
      subst c12
      refine w_callC (k := 1) (hpc := 19) cx kt sx wo (k_SF_fail l hfl E ad n L (fun a h => hL a ((by decide : ∀ a ∈ ([0, 1, 2, 3, 4, 9, 10, 11, 13, 14, 15, 16] : List Nat), a ∈ ([0, 1, 2, 3, 4, 9, 10, 11, 13, 14, 15, 16, 30] : List Nat)) a h)) F σ σ1 p1 (Sum.inr 1) hc6) m0 (cel_0 E ad n σ) rfl rfl mw_SF_fail wm_LW_36 ⟨by decide, by decide⟩ ⟨by decide, by decide⟩ hl.1 rfl (Nat.le_of_ble_eq_true rfl) d_LW_fail_4 (ctb_1 (k := 1) htab (by decide) (by decide) (by decide)) (fun x13 H locs wo => ?_)
      refine lv_astore_n (lv' := [(3, .ref x13), (0, .ref (ad 0)), (1, .int p1), (2, .ref (ad 30))]) hx hb d_LW_fail_19 rfl hl (by decide) rfl (fun ls hl => ?_)
      refine lv_iconst (v := 1) hx hb d_LW_fail_20 (by decide) ?_
      cases hD
      exact t_ireti cx wo rfl rfl d_LW_fail_21
    have hD := ite_n hD c12
    cases hD
def D_LW_replace_0_30 (F : Nat) (n : Nat → Nat) (σ : HS) (p1 : Int32) : Option (HS × Int32) :=
(D_SF_replace F n σ p1).bind (fun (q5 : HS × (Int32 ⊕ Nat)) => nm2 q5 (fun (σ1 : HS) (r2 : Int32 ⊕ Nat) =>
  xc r2 (fun (x3 : Int32) =>
    (if x3 = 0 then
      grd (inb (0 : Int32) (n 30)) (
      nm (stL σ1 30 ((0 : Int32)).toNatClampNeg (0 : Int64)) (fun σ9 =>
      some (σ9, (0 : Int32))))
    else
      grd (inb (0 : Int32) (n 30)) (
      nm (stL σ1 30 ((0 : Int32)).toNatClampNeg (1 : Int64)) (fun σ11 =>
      some (σ11, (0 : Int32))))))
  (fun (k4 : Nat) => (if k4 = 1 then
    some (σ1, (1 : Int32))
  else none))))
set_option maxRecDepth 100000 in
set_option maxHeartbeats 4000000 in
theorem k_LW_replace_0_30 (l : Launch) (hfl : l.stackTraces = false) (E : EV) (ad n : Nat → Nat) (L : List Nat) (hL : ∀ a ∈ ([0, 1, 2, 10, 30] : List Nat), a ∈ L) (F : Nat) (σ σo : HS) (p1 : Int32) (r : Int32) (hD : D_LW_replace_0_30 F n σ p1 = some (σo, r)) : CtW l E y_LW_replace c_LW_replace 4 (some FieldType.int) [(0, 16, 19, 13)] ({ frames := 7, cells := 1, slots := 6, locals := 111 }) [.ref (ad 0), .int p1, .ref (ad 30)] (wl E ad n L σ) r (wl E ad n L σo) := by
  refine fun sz => entW (by decide) (Nat.le_of_ble_eq_true rfl) ?_
  intro p e s m below meth c hsz cx htab kt sx wo ls hl
  have hx := cx.1.1
  have hb := cx.1.2.1
  have hown := cx.1.2.2.2.1
  have hts := cx.1.2.2.2.2
  have hl : lv_has ls 4 [(0, .ref (ad 0)), (1, .int p1), (2, .ref (ad 30))] := hl
  have m0 : 0 ∈ L := hL 0 (by decide)
  have m1 : 1 ∈ L := hL 1 (by decide)
  have m2 : 2 ∈ L := hL 2 (by decide)
  have m10 : 10 ∈ L := hL 10 (by decide)
  have m30 : 30 ∈ L := hL 30 (by decide)
  rw [D_LW_replace_0_30] at hD
  refine lv_aload_n hx hb d_LW_replace_0 rfl (lv_at hl 2 rfl) ?_
  refine lv_iconst (v := 0) hx hb d_LW_replace_1 (by decide) ?_
  refine lv_aload_n hx hb d_LW_replace_2 rfl (lv_at hl 0 rfl) ?_
  refine lv_iload_n hx hb d_LW_replace_3 rfl (lv_at hl 1 rfl) ?_
  obtain ⟨⟨σ1, r2⟩, hc6, hD⟩ := bd_s hD
  try dsimp only [nm2] at hD
  rcases r2 with x3 | k4
  · dsimp only [xc] at hD
    refine w_callR (v := some (.int x3)) cx kt sx wo (k_SF_replace l hfl E ad n L (fun a h => hL a ((by decide : ∀ a ∈ ([0, 1, 2, 10] : List Nat), a ∈ ([0, 1, 2, 10, 30] : List Nat)) a h)) F σ σ1 p1 (Sum.inl x3) hc6) m0 (cel_0 E ad n σ) rfl rfl mw_SF_replace wm_LW_39 ⟨by decide, by decide⟩ ⟨by decide, by decide⟩ hl.1 rfl (Nat.le_of_ble_eq_true rfl) d_LW_replace_4 (fun H locs wo => ?_)
    refine W.eq (g2 := F0 m 7 ls [.int x3, .int (0 : Int32), .ref (ad 30)]) rfl ?_
    refine lv_if_eq (tgt := 14) hx hb d_LW_replace_7 (by decide) (fun c7 => ?_) (fun c7 => ?_)
    · have hD := ite_p hD c7
      refine lv_lconst (v := 0) hx hb d_LW_replace_14 (by decide) ?_
      obtain ⟨g8, hD⟩ := grd_s hD
      refine g_last cx wo m30 (cel_30 E ad n) g8 d_LW_replace_15 (fun H locs wo => ?_)
      obtain ⟨σ9, eσ9⟩ : ∃ z, z = stL σ1 30 ((0 : Int32)).toNatClampNeg (0 : Int64) := ⟨_, rfl⟩
      rw [← eσ9] at wo
      have hD := nm_at hD eσ9
      try dsimp only at hD
      refine lv_goto (tgt := 22) hx hb d_LW_replace_16 (by decide) ?_
      refine lv_iconst (v := 0) hx hb d_LW_replace_22 (by decide) ?_
      cases hD
      exact t_ireti cx wo rfl rfl d_LW_replace_23
    · have hD := ite_n hD c7
      refine lv_lconst (v := 1) hx hb d_LW_replace_10 (by decide) ?_
      refine lv_goto (tgt := 15) hx hb d_LW_replace_11 (by decide) ?_
      obtain ⟨g10, hD⟩ := grd_s hD
      refine g_last cx wo m30 (cel_30 E ad n) g10 d_LW_replace_15 (fun H locs wo => ?_)
      obtain ⟨σ11, eσ11⟩ : ∃ z, z = stL σ1 30 ((0 : Int32)).toNatClampNeg (1 : Int64) := ⟨_, rfl⟩
      rw [← eσ11] at wo
      have hD := nm_at hD eσ11
      try dsimp only at hD
      refine lv_goto (tgt := 22) hx hb d_LW_replace_16 (by decide) ?_
      refine lv_iconst (v := 0) hx hb d_LW_replace_22 (by decide) ?_
      cases hD
      exact t_ireti cx wo rfl rfl d_LW_replace_23
  · dsimp only [xc] at hD
    by_cases c12 : k4 = 1
    · have hD := ite_p hD c12
      subst c12
      refine w_callC (k := 1) (hpc := 19) cx kt sx wo (k_SF_replace l hfl E ad n L (fun a h => hL a ((by decide : ∀ a ∈ ([0, 1, 2, 10] : List Nat), a ∈ ([0, 1, 2, 10, 30] : List Nat)) a h)) F σ σ1 p1 (Sum.inr 1) hc6) m0 (cel_0 E ad n σ) rfl rfl mw_SF_replace wm_LW_39 ⟨by decide, by decide⟩ ⟨by decide, by decide⟩ hl.1 rfl (Nat.le_of_ble_eq_true rfl) d_LW_replace_4 (ctb_1 (k := 1) htab (by decide) (by decide) (by decide)) (fun x13 H locs wo => ?_)
      refine lv_astore_n (lv' := [(3, .ref x13), (0, .ref (ad 0)), (1, .int p1), (2, .ref (ad 30))]) hx hb d_LW_replace_19 rfl hl (by decide) rfl (fun ls hl => ?_)
      refine lv_iconst (v := 1) hx hb d_LW_replace_20 (by decide) ?_
      cases hD
      exact t_ireti cx wo rfl rfl d_LW_replace_21
    have hD := ite_n hD c12
    cases hD
def D_LW_spoil_0_30 (F : Nat) (n : Nat → Nat) (σ : HS) (p1 : Int32) (p2 : Int32) (p3 : Int32) (p4 : Int32) (p5 : Int64) : Option (HS × Int32) :=
(D_SF_spoil F n σ p1 p2 p3 p4 p5).bind (fun (q5 : HS × (Int32 ⊕ Nat)) => nm2 q5 (fun (σ1 : HS) (r2 : Int32 ⊕ Nat) =>
  xc r2 (fun (x3 : Int32) =>
    (if x3 = 0 then
      grd (inb (0 : Int32) (n 30)) (
      nm (stL σ1 30 ((0 : Int32)).toNatClampNeg (0 : Int64)) (fun σ9 =>
      some (σ9, (0 : Int32))))
    else
      grd (inb (0 : Int32) (n 30)) (
      nm (stL σ1 30 ((0 : Int32)).toNatClampNeg (1 : Int64)) (fun σ11 =>
      some (σ11, (0 : Int32))))))
  (fun (k4 : Nat) => (if k4 = 1 then
    some (σ1, (1 : Int32))
  else none))))
set_option maxRecDepth 100000 in
set_option maxHeartbeats 4000000 in
theorem k_LW_spoil_0_30 (l : Launch) (hfl : l.stackTraces = false) (E : EV) (ad n : Nat → Nat) (L : List Nat) (hL : ∀ a ∈ ([0, 1, 2, 3, 4, 10, 11, 12, 14, 15, 16, 30] : List Nat), a ∈ L) (F : Nat) (σ σo : HS) (p1 : Int32) (p2 : Int32) (p3 : Int32) (p4 : Int32) (p5 : Int64) (r : Int32) (hD : D_LW_spoil_0_30 F n σ p1 p2 p3 p4 p5 = some (σo, r)) : CtW l E y_LW_spoil c_LW_spoil 9 (some FieldType.int) [(0, 23, 26, 13)] ({ frames := 7, cells := 1, slots := 6, locals := 143 }) [.ref (ad 0), .int p1, .int p2, .int p3, .int p4, .long p5, .ref (ad 30)] (wl E ad n L σ) r (wl E ad n L σo) := by
  refine fun sz => entW (by decide) (Nat.le_of_ble_eq_true rfl) ?_
  intro p e s m below meth c hsz cx htab kt sx wo ls hl
  have hx := cx.1.1
  have hb := cx.1.2.1
  have hown := cx.1.2.2.2.1
  have hts := cx.1.2.2.2.2
  have hl : lv_has ls 9 [(0, .ref (ad 0)), (1, .int p1), (2, .int p2), (3, .int p3), (4, .int p4), (5, .long p5), (7, .ref (ad 30))] := hl
  have m0 : 0 ∈ L := hL 0 (by decide)
  have m1 : 1 ∈ L := hL 1 (by decide)
  have m2 : 2 ∈ L := hL 2 (by decide)
  have m3 : 3 ∈ L := hL 3 (by decide)
  have m4 : 4 ∈ L := hL 4 (by decide)
  have m10 : 10 ∈ L := hL 10 (by decide)
  have m11 : 11 ∈ L := hL 11 (by decide)
  have m12 : 12 ∈ L := hL 12 (by decide)
  have m14 : 14 ∈ L := hL 14 (by decide)
  have m15 : 15 ∈ L := hL 15 (by decide)
  have m16 : 16 ∈ L := hL 16 (by decide)
  have m30 : 30 ∈ L := hL 30 (by decide)
  rw [D_LW_spoil_0_30] at hD
  refine lv_aload hx hb d_LW_spoil_0 (lv_at hl 6 rfl) ?_
  refine lv_iconst (v := 0) hx hb d_LW_spoil_2 (by decide) ?_
  refine lv_aload_n hx hb d_LW_spoil_3 rfl (lv_at hl 0 rfl) ?_
  refine lv_iload_n hx hb d_LW_spoil_4 rfl (lv_at hl 1 rfl) ?_
  refine lv_iload_n hx hb d_LW_spoil_5 rfl (lv_at hl 2 rfl) ?_
  refine lv_iload_n hx hb d_LW_spoil_6 rfl (lv_at hl 3 rfl) ?_
  refine lv_iload hx hb d_LW_spoil_7 (lv_at hl 4 rfl) ?_
  refine lv_lload hx hb d_LW_spoil_9 (lv_at hl 5 rfl) ?_
  obtain ⟨⟨σ1, r2⟩, hc6, hD⟩ := bd_s hD
  try dsimp only [nm2] at hD
  rcases r2 with x3 | k4
  · dsimp only [xc] at hD
    refine w_callR (v := some (.int x3)) cx kt sx wo (k_SF_spoil l hfl E ad n L (fun a h => hL a ((by decide : ∀ a ∈ ([0, 1, 2, 3, 4, 10, 11, 12, 14, 15, 16] : List Nat), a ∈ ([0, 1, 2, 3, 4, 10, 11, 12, 14, 15, 16, 30] : List Nat)) a h)) F σ σ1 p1 p2 p3 p4 p5 (Sum.inl x3) hc6) m0 (cel_0 E ad n σ) rfl rfl mw_SF_spoil wm_LW_42 ⟨by decide, by decide⟩ ⟨by decide, by decide⟩ hl.1 rfl (Nat.le_of_ble_eq_true rfl) d_LW_spoil_11 (fun H locs wo => ?_)
    refine W.eq (g2 := F0 m 14 ls [.int x3, .int (0 : Int32), .ref (ad 30)]) rfl ?_
    refine lv_if_eq (tgt := 21) hx hb d_LW_spoil_14 (by decide) (fun c7 => ?_) (fun c7 => ?_)
    · have hD := ite_p hD c7
      refine lv_lconst (v := 0) hx hb d_LW_spoil_21 (by decide) ?_
      obtain ⟨g8, hD⟩ := grd_s hD
      refine g_last cx wo m30 (cel_30 E ad n) g8 d_LW_spoil_22 (fun H locs wo => ?_)
      obtain ⟨σ9, eσ9⟩ : ∃ z, z = stL σ1 30 ((0 : Int32)).toNatClampNeg (0 : Int64) := ⟨_, rfl⟩
      rw [← eσ9] at wo
      have hD := nm_at hD eσ9
      try dsimp only at hD
      refine lv_goto (tgt := 30) hx hb d_LW_spoil_23 (by decide) ?_
      refine lv_iconst (v := 0) hx hb d_LW_spoil_30 (by decide) ?_
      cases hD
      exact t_ireti cx wo rfl rfl d_LW_spoil_31
    · have hD := ite_n hD c7
      refine lv_lconst (v := 1) hx hb d_LW_spoil_17 (by decide) ?_
      refine lv_goto (tgt := 22) hx hb d_LW_spoil_18 (by decide) ?_
      obtain ⟨g10, hD⟩ := grd_s hD
      refine g_last cx wo m30 (cel_30 E ad n) g10 d_LW_spoil_22 (fun H locs wo => ?_)
      obtain ⟨σ11, eσ11⟩ : ∃ z, z = stL σ1 30 ((0 : Int32)).toNatClampNeg (1 : Int64) := ⟨_, rfl⟩
      rw [← eσ11] at wo
      have hD := nm_at hD eσ11
      try dsimp only at hD
      refine lv_goto (tgt := 30) hx hb d_LW_spoil_23 (by decide) ?_
      refine lv_iconst (v := 0) hx hb d_LW_spoil_30 (by decide) ?_
      cases hD
      exact t_ireti cx wo rfl rfl d_LW_spoil_31
  · dsimp only [xc] at hD
    by_cases c12 : k4 = 1
    · have hD := ite_p hD c12
      subst c12
      refine w_callC (k := 1) (hpc := 26) cx kt sx wo (k_SF_spoil l hfl E ad n L (fun a h => hL a ((by decide : ∀ a ∈ ([0, 1, 2, 3, 4, 10, 11, 12, 14, 15, 16] : List Nat), a ∈ ([0, 1, 2, 3, 4, 10, 11, 12, 14, 15, 16, 30] : List Nat)) a h)) F σ σ1 p1 p2 p3 p4 p5 (Sum.inr 1) hc6) m0 (cel_0 E ad n σ) rfl rfl mw_SF_spoil wm_LW_42 ⟨by decide, by decide⟩ ⟨by decide, by decide⟩ hl.1 rfl (Nat.le_of_ble_eq_true rfl) d_LW_spoil_11 (ctb_1 (k := 1) htab (by decide) (by decide) (by decide)) (fun x13 H locs wo => ?_)
      refine lv_astore (lv' := [(8, .ref x13), (0, .ref (ad 0)), (1, .int p1), (2, .int p2), (3, .int p3), (4, .int p4), (5, .long p5), (7, .ref (ad 30))]) hx hb d_LW_spoil_26 hl (by decide) rfl (fun ls hl => ?_)
      refine lv_iconst (v := 1) hx hb d_LW_spoil_28 (by decide) ?_
      cases hD
      exact t_ireti cx wo rfl rfl d_LW_spoil_29
    have hD := ite_n hD c12
    cases hD
def D_LW_rebuild_0_30 (F : Nat) (n : Nat → Nat) (σ : HS)  : Option (HS × Int32) :=
(D_SF_rebuild F n σ ).bind (fun (q5 : HS × (Int32 ⊕ Nat)) => nm2 q5 (fun (σ1 : HS) (r2 : Int32 ⊕ Nat) =>
  xc r2 (fun (x3 : Int32) =>
    grd (inb (0 : Int32) (n 30)) (
    nm (stL σ1 30 ((0 : Int32)).toNatClampNeg (x3).toInt64) (fun σ8 =>
    some (σ8, (0 : Int32)))))
  (fun (k4 : Nat) => (if k4 = 2 then
    some (σ1, (1 : Int32))
  else none))))
set_option maxRecDepth 100000 in
set_option maxHeartbeats 4000000 in
theorem k_LW_rebuild_0_30 (l : Launch) (hfl : l.stackTraces = false) (E : EV) (ad n : Nat → Nat) (L : List Nat) (hL : ∀ a ∈ ([0, 1, 2, 3, 4, 7, 9, 10, 11, 12, 13, 14, 15, 16, 30] : List Nat), a ∈ L) (F : Nat) (σ σo : HS)  (r : Int32) (hD : D_LW_rebuild_0_30 F n σ  = some (σo, r)) : CtW l E y_LW_rebuild c_LW_rebuild 3 (some FieldType.int) [(0, 8, 11, 15)] ({ frames := 7, cells := 1, slots := 6, locals := 158 }) [.ref (ad 0), .ref (ad 30)] (wl E ad n L σ) r (wl E ad n L σo) := by
  refine fun sz => entW (by decide) (Nat.le_of_ble_eq_true rfl) ?_
  intro p e s m below meth c hsz cx htab kt sx wo ls hl
  have hx := cx.1.1
  have hb := cx.1.2.1
  have hown := cx.1.2.2.2.1
  have hts := cx.1.2.2.2.2
  have hl : lv_has ls 3 [(0, .ref (ad 0)), (1, .ref (ad 30))] := hl
  have m0 : 0 ∈ L := hL 0 (by decide)
  have m1 : 1 ∈ L := hL 1 (by decide)
  have m2 : 2 ∈ L := hL 2 (by decide)
  have m3 : 3 ∈ L := hL 3 (by decide)
  have m4 : 4 ∈ L := hL 4 (by decide)
  have m7 : 7 ∈ L := hL 7 (by decide)
  have m9 : 9 ∈ L := hL 9 (by decide)
  have m10 : 10 ∈ L := hL 10 (by decide)
  have m11 : 11 ∈ L := hL 11 (by decide)
  have m12 : 12 ∈ L := hL 12 (by decide)
  have m13 : 13 ∈ L := hL 13 (by decide)
  have m14 : 14 ∈ L := hL 14 (by decide)
  have m15 : 15 ∈ L := hL 15 (by decide)
  have m16 : 16 ∈ L := hL 16 (by decide)
  have m30 : 30 ∈ L := hL 30 (by decide)
  rw [D_LW_rebuild_0_30] at hD
  refine lv_aload_n hx hb d_LW_rebuild_0 rfl (lv_at hl 1 rfl) ?_
  refine lv_iconst (v := 0) hx hb d_LW_rebuild_1 (by decide) ?_
  refine lv_aload_n hx hb d_LW_rebuild_2 rfl (lv_at hl 0 rfl) ?_
  obtain ⟨⟨σ1, r2⟩, hc6, hD⟩ := bd_s hD
  try dsimp only [nm2] at hD
  rcases r2 with x3 | k4
  · dsimp only [xc] at hD
    refine w_callR (v := some (.int x3)) cx kt sx wo (k_SF_rebuild l hfl E ad n L (fun a h => hL a ((by decide : ∀ a ∈ ([0, 1, 2, 3, 4, 7, 9, 10, 11, 12, 13, 14, 15, 16] : List Nat), a ∈ ([0, 1, 2, 3, 4, 7, 9, 10, 11, 12, 13, 14, 15, 16, 30] : List Nat)) a h)) F σ σ1  (Sum.inl x3) hc6) m0 (cel_0 E ad n σ) rfl rfl mw_SF_rebuild wm_LW_46 ⟨by decide, by decide⟩ ⟨by decide, by decide⟩ hl.1 rfl (Nat.le_of_ble_eq_true rfl) d_LW_rebuild_3 (fun H locs wo => ?_)
    refine W.eq (g2 := F0 m 6 ls [.int x3, .int (0 : Int32), .ref (ad 30)]) rfl ?_
    refine lv_i2l hx hb d_LW_rebuild_6 rfl ?_
    obtain ⟨g7, hD⟩ := grd_s hD
    refine g_last cx wo m30 (cel_30 E ad n) g7 d_LW_rebuild_7 (fun H locs wo => ?_)
    obtain ⟨σ8, eσ8⟩ : ∃ z, z = stL σ1 30 ((0 : Int32)).toNatClampNeg (x3).toInt64 := ⟨_, rfl⟩
    rw [← eσ8] at wo
    have hD := nm_at hD eσ8
    try dsimp only at hD
    refine lv_goto (tgt := 14) hx hb d_LW_rebuild_8 (by decide) ?_
    refine lv_iconst (v := 0) hx hb d_LW_rebuild_14 (by decide) ?_
    cases hD
    exact t_ireti cx wo rfl rfl d_LW_rebuild_15
  · dsimp only [xc] at hD
    by_cases c9 : k4 = 2
    · have hD := ite_p hD c9
      subst c9
      refine w_callC (k := 2) (hpc := 11) cx kt sx wo (k_SF_rebuild l hfl E ad n L (fun a h => hL a ((by decide : ∀ a ∈ ([0, 1, 2, 3, 4, 7, 9, 10, 11, 12, 13, 14, 15, 16] : List Nat), a ∈ ([0, 1, 2, 3, 4, 7, 9, 10, 11, 12, 13, 14, 15, 16, 30] : List Nat)) a h)) F σ σ1  (Sum.inr 2) hc6) m0 (cel_0 E ad n σ) rfl rfl mw_SF_rebuild wm_LW_46 ⟨by decide, by decide⟩ ⟨by decide, by decide⟩ hl.1 rfl (Nat.le_of_ble_eq_true rfl) d_LW_rebuild_3 (ctb_1 (k := 2) htab (by decide) (by decide) (by decide)) (fun x10 H locs wo => ?_)
      refine lv_astore_n (lv' := [(2, .ref x10), (0, .ref (ad 0)), (1, .ref (ad 30))]) hx hb d_LW_rebuild_11 rfl hl (by decide) rfl (fun ls hl => ?_)
      refine lv_iconst (v := 1) hx hb d_LW_rebuild_12 (by decide) ?_
      cases hD
      exact t_ireti cx wo rfl rfl d_LW_rebuild_13
    have hD := ite_n hD c9
    cases hD
def D_LW_copyBack_0_30 (F : Nat) (n : Nat → Nat) (σ : HS)  : Option (HS × Int32) :=
(D_SF_copyBack F n σ ).bind (fun (q5 : HS × (Int32 ⊕ Nat)) => nm2 q5 (fun (σ1 : HS) (r2 : Int32 ⊕ Nat) =>
  xc r2 (fun (x3 : Int32) =>
    grd (inb (0 : Int32) (n 30)) (
    nm (stL σ1 30 ((0 : Int32)).toNatClampNeg (x3).toInt64) (fun σ8 =>
    some (σ8, (0 : Int32)))))
  (fun (k4 : Nat) => (if k4 = 2 then
    some (σ1, (1 : Int32))
  else none))))
set_option maxRecDepth 100000 in
set_option maxHeartbeats 4000000 in
theorem k_LW_copyBack_0_30 (l : Launch) (hfl : l.stackTraces = false) (E : EV) (ad n : Nat → Nat) (L : List Nat) (hL : ∀ a ∈ ([0, 1, 2, 3, 4, 7, 8, 9, 10, 11, 12, 13, 14, 15, 16, 30] : List Nat), a ∈ L) (F : Nat) (σ σo : HS)  (r : Int32) (hD : D_LW_copyBack_0_30 F n σ  = some (σo, r)) : CtW l E y_LW_copyBack c_LW_copyBack 3 (some FieldType.int) [(0, 8, 11, 15)] ({ frames := 7, cells := 1, slots := 6, locals := 157 }) [.ref (ad 0), .ref (ad 30)] (wl E ad n L σ) r (wl E ad n L σo) := by
  refine fun sz => entW (by decide) (Nat.le_of_ble_eq_true rfl) ?_
  intro p e s m below meth c hsz cx htab kt sx wo ls hl
  have hx := cx.1.1
  have hb := cx.1.2.1
  have hown := cx.1.2.2.2.1
  have hts := cx.1.2.2.2.2
  have hl : lv_has ls 3 [(0, .ref (ad 0)), (1, .ref (ad 30))] := hl
  have m0 : 0 ∈ L := hL 0 (by decide)
  have m1 : 1 ∈ L := hL 1 (by decide)
  have m2 : 2 ∈ L := hL 2 (by decide)
  have m3 : 3 ∈ L := hL 3 (by decide)
  have m4 : 4 ∈ L := hL 4 (by decide)
  have m7 : 7 ∈ L := hL 7 (by decide)
  have m8 : 8 ∈ L := hL 8 (by decide)
  have m9 : 9 ∈ L := hL 9 (by decide)
  have m10 : 10 ∈ L := hL 10 (by decide)
  have m11 : 11 ∈ L := hL 11 (by decide)
  have m12 : 12 ∈ L := hL 12 (by decide)
  have m13 : 13 ∈ L := hL 13 (by decide)
  have m14 : 14 ∈ L := hL 14 (by decide)
  have m15 : 15 ∈ L := hL 15 (by decide)
  have m16 : 16 ∈ L := hL 16 (by decide)
  have m30 : 30 ∈ L := hL 30 (by decide)
  rw [D_LW_copyBack_0_30] at hD
  refine lv_aload_n hx hb d_LW_copyBack_0 rfl (lv_at hl 1 rfl) ?_
  refine lv_iconst (v := 0) hx hb d_LW_copyBack_1 (by decide) ?_
  refine lv_aload_n hx hb d_LW_copyBack_2 rfl (lv_at hl 0 rfl) ?_
  obtain ⟨⟨σ1, r2⟩, hc6, hD⟩ := bd_s hD
  try dsimp only [nm2] at hD
  rcases r2 with x3 | k4
  · dsimp only [xc] at hD
    refine w_callR (v := some (.int x3)) cx kt sx wo (k_SF_copyBack l hfl E ad n L (fun a h => hL a ((by decide : ∀ a ∈ ([0, 1, 2, 3, 4, 7, 8, 9, 10, 11, 12, 13, 14, 15, 16] : List Nat), a ∈ ([0, 1, 2, 3, 4, 7, 8, 9, 10, 11, 12, 13, 14, 15, 16, 30] : List Nat)) a h)) F σ σ1  (Sum.inl x3) hc6) m0 (cel_0 E ad n σ) rfl rfl mw_SF_copyBack wm_LW_50 ⟨by decide, by decide⟩ ⟨by decide, by decide⟩ hl.1 rfl (Nat.le_of_ble_eq_true rfl) d_LW_copyBack_3 (fun H locs wo => ?_)
    refine W.eq (g2 := F0 m 6 ls [.int x3, .int (0 : Int32), .ref (ad 30)]) rfl ?_
    refine lv_i2l hx hb d_LW_copyBack_6 rfl ?_
    obtain ⟨g7, hD⟩ := grd_s hD
    refine g_last cx wo m30 (cel_30 E ad n) g7 d_LW_copyBack_7 (fun H locs wo => ?_)
    obtain ⟨σ8, eσ8⟩ : ∃ z, z = stL σ1 30 ((0 : Int32)).toNatClampNeg (x3).toInt64 := ⟨_, rfl⟩
    rw [← eσ8] at wo
    have hD := nm_at hD eσ8
    try dsimp only at hD
    refine lv_goto (tgt := 14) hx hb d_LW_copyBack_8 (by decide) ?_
    refine lv_iconst (v := 0) hx hb d_LW_copyBack_14 (by decide) ?_
    cases hD
    exact t_ireti cx wo rfl rfl d_LW_copyBack_15
  · dsimp only [xc] at hD
    by_cases c9 : k4 = 2
    · have hD := ite_p hD c9
      subst c9
      refine w_callC (k := 2) (hpc := 11) cx kt sx wo (k_SF_copyBack l hfl E ad n L (fun a h => hL a ((by decide : ∀ a ∈ ([0, 1, 2, 3, 4, 7, 8, 9, 10, 11, 12, 13, 14, 15, 16] : List Nat), a ∈ ([0, 1, 2, 3, 4, 7, 8, 9, 10, 11, 12, 13, 14, 15, 16, 30] : List Nat)) a h)) F σ σ1  (Sum.inr 2) hc6) m0 (cel_0 E ad n σ) rfl rfl mw_SF_copyBack wm_LW_50 ⟨by decide, by decide⟩ ⟨by decide, by decide⟩ hl.1 rfl (Nat.le_of_ble_eq_true rfl) d_LW_copyBack_3 (ctb_1 (k := 2) htab (by decide) (by decide) (by decide)) (fun x10 H locs wo => ?_)
      refine lv_astore_n (lv' := [(2, .ref x10), (0, .ref (ad 0)), (1, .ref (ad 30))]) hx hb d_LW_copyBack_11 rfl hl (by decide) rfl (fun ls hl => ?_)
      refine lv_iconst (v := 1) hx hb d_LW_copyBack_12 (by decide) ?_
      cases hD
      exact t_ireti cx wo rfl rfl d_LW_copyBack_13
    have hD := ite_n hD c9
    cases hD
def D_LW_scrub_0_30 (F : Nat) (n : Nat → Nat) (σ : HS)  : Option (HS × Int32) :=
(D_SF_scrub F n σ ).bind (fun (q5 : HS × (Int32 ⊕ Nat)) => nm2 q5 (fun (σ1 : HS) (r2 : Int32 ⊕ Nat) =>
  xc r2 (fun (x3 : Int32) =>
    grd (inb (0 : Int32) (n 30)) (
    nm (stL σ1 30 ((0 : Int32)).toNatClampNeg (x3).toInt64) (fun σ8 =>
    some (σ8, (0 : Int32)))))
  (fun (k4 : Nat) => (if k4 = 2 then
    some (σ1, (1 : Int32))
  else none))))
set_option maxRecDepth 100000 in
set_option maxHeartbeats 4000000 in
theorem k_LW_scrub_0_30 (l : Launch) (hfl : l.stackTraces = false) (E : EV) (ad n : Nat → Nat) (L : List Nat) (hL : ∀ a ∈ ([0, 1, 2, 3, 4, 7, 11, 12, 13, 14, 15, 30] : List Nat), a ∈ L) (F : Nat) (σ σo : HS)  (r : Int32) (hD : D_LW_scrub_0_30 F n σ  = some (σo, r)) : CtW l E y_LW_scrub c_LW_scrub 3 (some FieldType.int) [(0, 8, 11, 15)] ({ frames := 7, cells := 1, slots := 6, locals := 118 }) [.ref (ad 0), .ref (ad 30)] (wl E ad n L σ) r (wl E ad n L σo) := by
  refine fun sz => entW (by decide) (Nat.le_of_ble_eq_true rfl) ?_
  intro p e s m below meth c hsz cx htab kt sx wo ls hl
  have hx := cx.1.1
  have hb := cx.1.2.1
  have hown := cx.1.2.2.2.1
  have hts := cx.1.2.2.2.2
  have hl : lv_has ls 3 [(0, .ref (ad 0)), (1, .ref (ad 30))] := hl
  have m0 : 0 ∈ L := hL 0 (by decide)
  have m1 : 1 ∈ L := hL 1 (by decide)
  have m2 : 2 ∈ L := hL 2 (by decide)
  have m3 : 3 ∈ L := hL 3 (by decide)
  have m4 : 4 ∈ L := hL 4 (by decide)
  have m7 : 7 ∈ L := hL 7 (by decide)
  have m11 : 11 ∈ L := hL 11 (by decide)
  have m12 : 12 ∈ L := hL 12 (by decide)
  have m13 : 13 ∈ L := hL 13 (by decide)
  have m14 : 14 ∈ L := hL 14 (by decide)
  have m15 : 15 ∈ L := hL 15 (by decide)
  have m30 : 30 ∈ L := hL 30 (by decide)
  rw [D_LW_scrub_0_30] at hD
  refine lv_aload_n hx hb d_LW_scrub_0 rfl (lv_at hl 1 rfl) ?_
  refine lv_iconst (v := 0) hx hb d_LW_scrub_1 (by decide) ?_
  refine lv_aload_n hx hb d_LW_scrub_2 rfl (lv_at hl 0 rfl) ?_
  obtain ⟨⟨σ1, r2⟩, hc6, hD⟩ := bd_s hD
  try dsimp only [nm2] at hD
  rcases r2 with x3 | k4
  · dsimp only [xc] at hD
    refine w_callR (v := some (.int x3)) cx kt sx wo (k_SF_scrub l hfl E ad n L (fun a h => hL a ((by decide : ∀ a ∈ ([0, 1, 2, 3, 4, 7, 11, 12, 13, 14, 15] : List Nat), a ∈ ([0, 1, 2, 3, 4, 7, 11, 12, 13, 14, 15, 30] : List Nat)) a h)) F σ σ1  (Sum.inl x3) hc6) m0 (cel_0 E ad n σ) rfl rfl mw_SF_scrub wm_LW_53 ⟨by decide, by decide⟩ ⟨by decide, by decide⟩ hl.1 rfl (Nat.le_of_ble_eq_true rfl) d_LW_scrub_3 (fun H locs wo => ?_)
    refine W.eq (g2 := F0 m 6 ls [.int x3, .int (0 : Int32), .ref (ad 30)]) rfl ?_
    refine lv_i2l hx hb d_LW_scrub_6 rfl ?_
    obtain ⟨g7, hD⟩ := grd_s hD
    refine g_last cx wo m30 (cel_30 E ad n) g7 d_LW_scrub_7 (fun H locs wo => ?_)
    obtain ⟨σ8, eσ8⟩ : ∃ z, z = stL σ1 30 ((0 : Int32)).toNatClampNeg (x3).toInt64 := ⟨_, rfl⟩
    rw [← eσ8] at wo
    have hD := nm_at hD eσ8
    try dsimp only at hD
    refine lv_goto (tgt := 14) hx hb d_LW_scrub_8 (by decide) ?_
    refine lv_iconst (v := 0) hx hb d_LW_scrub_14 (by decide) ?_
    cases hD
    exact t_ireti cx wo rfl rfl d_LW_scrub_15
  · dsimp only [xc] at hD
    by_cases c9 : k4 = 2
    · have hD := ite_p hD c9
      subst c9
      refine w_callC (k := 2) (hpc := 11) cx kt sx wo (k_SF_scrub l hfl E ad n L (fun a h => hL a ((by decide : ∀ a ∈ ([0, 1, 2, 3, 4, 7, 11, 12, 13, 14, 15] : List Nat), a ∈ ([0, 1, 2, 3, 4, 7, 11, 12, 13, 14, 15, 30] : List Nat)) a h)) F σ σ1  (Sum.inr 2) hc6) m0 (cel_0 E ad n σ) rfl rfl mw_SF_scrub wm_LW_53 ⟨by decide, by decide⟩ ⟨by decide, by decide⟩ hl.1 rfl (Nat.le_of_ble_eq_true rfl) d_LW_scrub_3 (ctb_1 (k := 2) htab (by decide) (by decide) (by decide)) (fun x10 H locs wo => ?_)
      refine lv_astore_n (lv' := [(2, .ref x10), (0, .ref (ad 0)), (1, .ref (ad 30))]) hx hb d_LW_scrub_11 rfl hl (by decide) rfl (fun ls hl => ?_)
      refine lv_iconst (v := 1) hx hb d_LW_scrub_12 (by decide) ?_
      cases hD
      exact t_ireti cx wo rfl rfl d_LW_scrub_13
    have hD := ite_n hD c9
    cases hD
def D_LW_look_0_30 (F : Nat) (n : Nat → Nat) (σ : HS) (p1 : Int32) : Option (HS × Int32) :=
(D_SF_look F n σ p1).bind (fun (q5 : HS × (Int32 ⊕ Nat)) => nm2 q5 (fun (σ1 : HS) (r2 : Int32 ⊕ Nat) =>
  xc r2 (fun (x3 : Int32) =>
    grd (inb (0 : Int32) (n 30)) (
    nm (stL σ1 30 ((0 : Int32)).toNatClampNeg (x3).toInt64) (fun σ8 =>
    some (σ8, (0 : Int32)))))
  (fun (k4 : Nat) => (if k4 = 1 then
    some (σ1, (1 : Int32))
  else none))))
set_option maxRecDepth 100000 in
set_option maxHeartbeats 4000000 in
theorem k_LW_look_0_30 (l : Launch) (hfl : l.stackTraces = false) (E : EV) (ad n : Nat → Nat) (L : List Nat) (hL : ∀ a ∈ ([0, 1, 2, 3, 4, 9, 10, 11, 13, 14, 15, 16, 30] : List Nat), a ∈ L) (F : Nat) (σ σo : HS) (p1 : Int32) (r : Int32) (hD : D_LW_look_0_30 F n σ p1 = some (σo, r)) : CtW l E y_LW_look c_LW_look 4 (some FieldType.int) [(0, 9, 12, 13)] ({ frames := 7, cells := 1, slots := 6, locals := 111 }) [.ref (ad 0), .int p1, .ref (ad 30)] (wl E ad n L σ) r (wl E ad n L σo) := by
  refine fun sz => entW (by decide) (Nat.le_of_ble_eq_true rfl) ?_
  intro p e s m below meth c hsz cx htab kt sx wo ls hl
  have hx := cx.1.1
  have hb := cx.1.2.1
  have hown := cx.1.2.2.2.1
  have hts := cx.1.2.2.2.2
  have hl : lv_has ls 4 [(0, .ref (ad 0)), (1, .int p1), (2, .ref (ad 30))] := hl
  have m0 : 0 ∈ L := hL 0 (by decide)
  have m1 : 1 ∈ L := hL 1 (by decide)
  have m2 : 2 ∈ L := hL 2 (by decide)
  have m3 : 3 ∈ L := hL 3 (by decide)
  have m4 : 4 ∈ L := hL 4 (by decide)
  have m9 : 9 ∈ L := hL 9 (by decide)
  have m10 : 10 ∈ L := hL 10 (by decide)
  have m11 : 11 ∈ L := hL 11 (by decide)
  have m13 : 13 ∈ L := hL 13 (by decide)
  have m14 : 14 ∈ L := hL 14 (by decide)
  have m15 : 15 ∈ L := hL 15 (by decide)
  have m16 : 16 ∈ L := hL 16 (by decide)
  have m30 : 30 ∈ L := hL 30 (by decide)
  rw [D_LW_look_0_30] at hD
  refine lv_aload_n hx hb d_LW_look_0 rfl (lv_at hl 2 rfl) ?_
  refine lv_iconst (v := 0) hx hb d_LW_look_1 (by decide) ?_
  refine lv_aload_n hx hb d_LW_look_2 rfl (lv_at hl 0 rfl) ?_
  refine lv_iload_n hx hb d_LW_look_3 rfl (lv_at hl 1 rfl) ?_
  obtain ⟨⟨σ1, r2⟩, hc6, hD⟩ := bd_s hD
  try dsimp only [nm2] at hD
  rcases r2 with x3 | k4
  · dsimp only [xc] at hD
    refine w_callR (v := some (.int x3)) cx kt sx wo (k_SF_look l hfl E ad n L (fun a h => hL a ((by decide : ∀ a ∈ ([0, 1, 2, 3, 4, 9, 10, 11, 13, 14, 15, 16] : List Nat), a ∈ ([0, 1, 2, 3, 4, 9, 10, 11, 13, 14, 15, 16, 30] : List Nat)) a h)) F σ σ1 p1 (Sum.inl x3) hc6) m0 (cel_0 E ad n σ) rfl rfl mw_SF_look wm_LW_56 ⟨by decide, by decide⟩ ⟨by decide, by decide⟩ hl.1 rfl (Nat.le_of_ble_eq_true rfl) d_LW_look_4 (fun H locs wo => ?_)
    refine W.eq (g2 := F0 m 7 ls [.int x3, .int (0 : Int32), .ref (ad 30)]) rfl ?_
    refine lv_i2l hx hb d_LW_look_7 rfl ?_
    obtain ⟨g7, hD⟩ := grd_s hD
    refine g_last cx wo m30 (cel_30 E ad n) g7 d_LW_look_8 (fun H locs wo => ?_)
    obtain ⟨σ8, eσ8⟩ : ∃ z, z = stL σ1 30 ((0 : Int32)).toNatClampNeg (x3).toInt64 := ⟨_, rfl⟩
    rw [← eσ8] at wo
    have hD := nm_at hD eσ8
    try dsimp only at hD
    refine lv_goto (tgt := 15) hx hb d_LW_look_9 (by decide) ?_
    refine lv_iconst (v := 0) hx hb d_LW_look_15 (by decide) ?_
    cases hD
    exact t_ireti cx wo rfl rfl d_LW_look_16
  · dsimp only [xc] at hD
    by_cases c9 : k4 = 1
    · have hD := ite_p hD c9
      subst c9
      refine w_callC (k := 1) (hpc := 12) cx kt sx wo (k_SF_look l hfl E ad n L (fun a h => hL a ((by decide : ∀ a ∈ ([0, 1, 2, 3, 4, 9, 10, 11, 13, 14, 15, 16] : List Nat), a ∈ ([0, 1, 2, 3, 4, 9, 10, 11, 13, 14, 15, 16, 30] : List Nat)) a h)) F σ σ1 p1 (Sum.inr 1) hc6) m0 (cel_0 E ad n σ) rfl rfl mw_SF_look wm_LW_56 ⟨by decide, by decide⟩ ⟨by decide, by decide⟩ hl.1 rfl (Nat.le_of_ble_eq_true rfl) d_LW_look_4 (ctb_1 (k := 1) htab (by decide) (by decide) (by decide)) (fun x10 H locs wo => ?_)
      refine lv_astore_n (lv' := [(3, .ref x10), (0, .ref (ad 0)), (1, .int p1), (2, .ref (ad 30))]) hx hb d_LW_look_12 rfl hl (by decide) rfl (fun ls hl => ?_)
      refine lv_iconst (v := 1) hx hb d_LW_look_13 (by decide) ?_
      cases hD
      exact t_ireti cx wo rfl rfl d_LW_look_14
    have hD := ite_n hD c9
    cases hD
def D_LW_place_0_30 (F : Nat) (n : Nat → Nat) (σ : HS) (p1 : Int32) (p2 : Int32) : Option (HS × Int32) :=
(D_SF_place F n σ p1 p2).bind (fun (q5 : HS × (Int32 ⊕ Nat)) => nm2 q5 (fun (σ1 : HS) (r2 : Int32 ⊕ Nat) =>
  xc r2 (fun (x3 : Int32) =>
    grd (inb (0 : Int32) (n 30)) (
    nm (stL σ1 30 ((0 : Int32)).toNatClampNeg (x3).toInt64) (fun σ8 =>
    some (σ8, (0 : Int32)))))
  (fun (k4 : Nat) => (if k4 = 1 then
    some (σ1, (1 : Int32))
  else none))))
set_option maxRecDepth 100000 in
set_option maxHeartbeats 4000000 in
theorem k_LW_place_0_30 (l : Launch) (hfl : l.stackTraces = false) (E : EV) (ad n : Nat → Nat) (L : List Nat) (hL : ∀ a ∈ ([0, 1, 2, 3, 4, 9, 11, 13, 14, 15, 16, 30] : List Nat), a ∈ L) (F : Nat) (σ σo : HS) (p1 : Int32) (p2 : Int32) (r : Int32) (hD : D_LW_place_0_30 F n σ p1 p2 = some (σo, r)) : CtW l E y_LW_place c_LW_place 5 (some FieldType.int) [(0, 10, 13, 13)] ({ frames := 7, cells := 1, slots := 6, locals := 113 }) [.ref (ad 0), .int p1, .int p2, .ref (ad 30)] (wl E ad n L σ) r (wl E ad n L σo) := by
  refine fun sz => entW (by decide) (Nat.le_of_ble_eq_true rfl) ?_
  intro p e s m below meth c hsz cx htab kt sx wo ls hl
  have hx := cx.1.1
  have hb := cx.1.2.1
  have hown := cx.1.2.2.2.1
  have hts := cx.1.2.2.2.2
  have hl : lv_has ls 5 [(0, .ref (ad 0)), (1, .int p1), (2, .int p2), (3, .ref (ad 30))] := hl
  have m0 : 0 ∈ L := hL 0 (by decide)
  have m1 : 1 ∈ L := hL 1 (by decide)
  have m2 : 2 ∈ L := hL 2 (by decide)
  have m3 : 3 ∈ L := hL 3 (by decide)
  have m4 : 4 ∈ L := hL 4 (by decide)
  have m9 : 9 ∈ L := hL 9 (by decide)
  have m11 : 11 ∈ L := hL 11 (by decide)
  have m13 : 13 ∈ L := hL 13 (by decide)
  have m14 : 14 ∈ L := hL 14 (by decide)
  have m15 : 15 ∈ L := hL 15 (by decide)
  have m16 : 16 ∈ L := hL 16 (by decide)
  have m30 : 30 ∈ L := hL 30 (by decide)
  rw [D_LW_place_0_30] at hD
  refine lv_aload_n hx hb d_LW_place_0 rfl (lv_at hl 3 rfl) ?_
  refine lv_iconst (v := 0) hx hb d_LW_place_1 (by decide) ?_
  refine lv_aload_n hx hb d_LW_place_2 rfl (lv_at hl 0 rfl) ?_
  refine lv_iload_n hx hb d_LW_place_3 rfl (lv_at hl 1 rfl) ?_
  refine lv_iload_n hx hb d_LW_place_4 rfl (lv_at hl 2 rfl) ?_
  obtain ⟨⟨σ1, r2⟩, hc6, hD⟩ := bd_s hD
  try dsimp only [nm2] at hD
  rcases r2 with x3 | k4
  · dsimp only [xc] at hD
    refine w_callR (v := some (.int x3)) cx kt sx wo (k_SF_place l hfl E ad n L (fun a h => hL a ((by decide : ∀ a ∈ ([0, 1, 2, 3, 4, 9, 11, 13, 14, 15, 16] : List Nat), a ∈ ([0, 1, 2, 3, 4, 9, 11, 13, 14, 15, 16, 30] : List Nat)) a h)) F σ σ1 p1 p2 (Sum.inl x3) hc6) m0 (cel_0 E ad n σ) rfl rfl mw_SF_place wm_LW_60 ⟨by decide, by decide⟩ ⟨by decide, by decide⟩ hl.1 rfl (Nat.le_of_ble_eq_true rfl) d_LW_place_5 (fun H locs wo => ?_)
    refine W.eq (g2 := F0 m 8 ls [.int x3, .int (0 : Int32), .ref (ad 30)]) rfl ?_
    refine lv_i2l hx hb d_LW_place_8 rfl ?_
    obtain ⟨g7, hD⟩ := grd_s hD
    refine g_last cx wo m30 (cel_30 E ad n) g7 d_LW_place_9 (fun H locs wo => ?_)
    obtain ⟨σ8, eσ8⟩ : ∃ z, z = stL σ1 30 ((0 : Int32)).toNatClampNeg (x3).toInt64 := ⟨_, rfl⟩
    rw [← eσ8] at wo
    have hD := nm_at hD eσ8
    try dsimp only at hD
    refine lv_goto (tgt := 17) hx hb d_LW_place_10 (by decide) ?_
    refine lv_iconst (v := 0) hx hb d_LW_place_17 (by decide) ?_
    cases hD
    exact t_ireti cx wo rfl rfl d_LW_place_18
  · dsimp only [xc] at hD
    by_cases c9 : k4 = 1
    · have hD := ite_p hD c9
      subst c9
      refine w_callC (k := 1) (hpc := 13) cx kt sx wo (k_SF_place l hfl E ad n L (fun a h => hL a ((by decide : ∀ a ∈ ([0, 1, 2, 3, 4, 9, 11, 13, 14, 15, 16] : List Nat), a ∈ ([0, 1, 2, 3, 4, 9, 11, 13, 14, 15, 16, 30] : List Nat)) a h)) F σ σ1 p1 p2 (Sum.inr 1) hc6) m0 (cel_0 E ad n σ) rfl rfl mw_SF_place wm_LW_60 ⟨by decide, by decide⟩ ⟨by decide, by decide⟩ hl.1 rfl (Nat.le_of_ble_eq_true rfl) d_LW_place_5 (ctb_1 (k := 1) htab (by decide) (by decide) (by decide)) (fun x10 H locs wo => ?_)
      refine lv_astore (lv' := [(4, .ref x10), (0, .ref (ad 0)), (1, .int p1), (2, .int p2), (3, .ref (ad 30))]) hx hb d_LW_place_13 hl (by decide) rfl (fun ls hl => ?_)
      refine lv_iconst (v := 1) hx hb d_LW_place_15 (by decide) ?_
      cases hD
      exact t_ireti cx wo rfl rfl d_LW_place_16
    have hD := ite_n hD c9
    cases hD
