def D_SF_feed (F : Nat) (n : Nat → Nat) (σ : HS) (p1 : Int32) (p2 : Int64) : Option (HS × (Int32 ⊕ Nat)) :=
(if p1 < (1 : Int32) then
    some (σ, Sum.inr 1)
  else
    (if p1 ≤ (8 : Int32) then
      (if ((σ.1 0 5) + p1) ≤ (64 : Int32) then
        (D_SF_xorBytes_5 F n σ (0 : Int32) (σ.1 0 5) p1 p2).bind (fun (σ5 : HS) =>
        nm (stF σ5 0 5 ((σ5.1 0 5) + p1)) (fun σ6 =>
        some (σ6, Sum.inl (σ6.1 0 5))))
      else
        some (σ, Sum.inr 2))
    else
      some (σ, Sum.inr 1)))
set_option maxRecDepth 100000 in
set_option maxHeartbeats 4000000 in
theorem k_SF_feed (l : Launch) (hfl : l.stackTraces = false) (E : EV) (ad n : Nat → Nat) (L : List Nat) (hL : ∀ a ∈ ([0, 5] : List Nat), a ∈ L) (F : Nat) (σ σo : HS) (p1 : Int32) (p2 : Int64) (r : Int32 ⊕ Nat) (hD : D_SF_feed F n σ p1 p2 = some (σo, r)) : CtX l E y_SF_feed c_SF_feed 4 (some FieldType.int) ({ frames := 6, cells := 1, slots := 6, locals := 90 }) [.ref (ad 0), .int p1, .long p2] (wl E ad n L σ) (outI r) (wl E ad n L σo) := by
  refine fun sz => entX (by decide) (Nat.le_of_ble_eq_true rfl) ?_
  intro p e s m below meth c hsz cx hne kt sx wo ls hl
  have hx := cx.1.1
  have hb := cx.1.2.1
  have hown := cx.1.2.2.2.1
  have hts := cx.1.2.2.2.2
  have hl : lv_has ls 4 [(0, .ref (ad 0)), (1, .int p1), (2, .long p2)] := hl
  have m0 : 0 ∈ L := hL 0 (by decide)
  have m5 : 5 ∈ L := hL 5 (by decide)
  rw [D_SF_feed] at hD
  refine lv_iload_n hx hb d_SF_feed_0 rfl (lv_at hl 1 rfl) ?_
  refine lv_iconst (v := 1) hx hb d_SF_feed_1 (by decide) ?_
  refine lv_icmp_lt (tgt := 11) hx hb d_SF_feed_2 (by decide) (fun c1 => ?_) (fun c1 => ?_)
  · have hD := ite_p hD c1
    cases hD
    exact t_throw (k := 1) cx hsz hne kt sx hfl wo own_1 (by decide) wk_SF_56 wp_IA wn_IA (tx := "n is not 1 .. 8") (by decide) hl.1 ⟨by decide, by decide, by decide, by decide⟩ d_SF_feed_11 d_SF_feed_14 d_SF_feed_15 d_SF_feed_17 d_SF_feed_20
  · have hD := ite_n hD c1
    refine lv_iload_n hx hb d_SF_feed_5 rfl (lv_at hl 1 rfl) ?_
    refine lv_bipush (v := 8) hx hb d_SF_feed_6 (by decide) ?_
    refine lv_icmp_le (tgt := 21) hx hb d_SF_feed_8 (by decide) (fun c2 => ?_) (fun c2 => ?_)
    · have hD := ite_p hD c2
      refine lv_aload_n hx hb d_SF_feed_21 rfl (lv_at hl 0 rfl) ?_
      refine g_get cx wo m0 (cel_0 E ad n σ) rfl in_SF 5 (by decide) wf_SF_63 rfl d_SF_feed_22 ?_
      refine lv_iload_n hx hb d_SF_feed_25 rfl (lv_at hl 1 rfl) ?_
      refine lv_iadd hx hb d_SF_feed_26 ?_
      refine lv_bipush (v := 64) hx hb d_SF_feed_27 (by decide) ?_
      refine lv_icmp_le (tgt := 42) hx hb d_SF_feed_29 (by decide) (fun c3 => ?_) (fun c3 => ?_)
      · have hD := ite_p hD c3
        refine lv_aload_n hx hb d_SF_feed_42 rfl (lv_at hl 0 rfl) ?_
        refine g_get cx wo m0 (cel_0 E ad n σ) rfl in_SF 4 (by decide) wf_SF_43 rfl d_SF_feed_43 ?_
        refine lv_iconst (v := 0) hx hb d_SF_feed_46 (by decide) ?_
        refine lv_aload_n hx hb d_SF_feed_47 rfl (lv_at hl 0 rfl) ?_
        refine g_get cx wo m0 (cel_0 E ad n σ) rfl in_SF 5 (by decide) wf_SF_63 rfl d_SF_feed_48 ?_
        refine lv_iload_n hx hb d_SF_feed_51 rfl (lv_at hl 1 rfl) ?_
        refine lv_lload_n hx hb d_SF_feed_52 rfl (lv_at hl 2 rfl) ?_
        obtain ⟨σ5, hcx4, hD⟩ := bd_s hD
        try dsimp only [nm2] at hD
        refine call_Sv cx wo (k_SF_xorBytes_5 l E ad n L (fun a h => hL a ((by decide : ∀ a ∈ ([5] : List Nat), a ∈ ([0, 5] : List Nat)) a h)) F σ σ5 (0 : Int32) (σ.1 0 5) p1 p2 hcx4) mw_SF_xorBytes wm_SF_72 ⟨by decide, by decide⟩ ⟨by decide, by decide⟩ hl.1 rfl (Nat.le_of_ble_eq_true rfl) d_SF_feed_53 (fun H locs wo => ?_)
        refine lv_aload_n hx hb d_SF_feed_56 rfl (lv_at hl 0 rfl) ?_
        refine lv_dup hx hb d_SF_feed_57 rfl ?_
        refine g_get cx wo m0 (cel_0 E ad n σ5) rfl in_SF 5 (by decide) wf_SF_63 rfl d_SF_feed_58 ?_
        refine lv_iload_n hx hb d_SF_feed_61 rfl (lv_at hl 1 rfl) ?_
        refine lv_iadd hx hb d_SF_feed_62 ?_
        refine g_put cx wo m0 (cel_0 E ad n σ5) rfl in_SF t_SF tok_SF n_SF 5 (by decide) wf_SF_63 rfl rfl rfl (Nat.le_of_ble_eq_true rfl) rfl d_SF_feed_63 (fun H locs wo => ?_)
        obtain ⟨σ6, eσ6⟩ : ∃ z, z = stF σ5 0 5 ((σ5.1 0 5) + p1) := ⟨_, rfl⟩
        rw [← eσ6] at wo
        have hD := nm_at hD eσ6
        try dsimp only at hD
        refine lv_aload_n hx hb d_SF_feed_66 rfl (lv_at hl 0 rfl) ?_
        refine g_get cx wo m0 (cel_0 E ad n σ6) rfl in_SF 5 (by decide) wf_SF_63 rfl d_SF_feed_67 ?_
        cases hD
        exact tX_i cx wo rfl d_SF_feed_70
      · have hD := ite_n hD c3
        cases hD
        exact t_throw (k := 2) cx hsz hne kt sx hfl wo own_2 (by decide) wk_SF_67 wp_IS wn_IS (tx := "the tape would have more than 64 bytes") (by decide) hl.1 ⟨by decide, by decide, by decide, by decide⟩ d_SF_feed_32 d_SF_feed_35 d_SF_feed_36 d_SF_feed_38 d_SF_feed_41
    · have hD := ite_n hD c2
      cases hD
      exact t_throw (k := 1) cx hsz hne kt sx hfl wo own_1 (by decide) wk_SF_56 wp_IA wn_IA (tx := "n is not 1 .. 8") (by decide) hl.1 ⟨by decide, by decide, by decide, by decide⟩ d_SF_feed_11 d_SF_feed_14 d_SF_feed_15 d_SF_feed_17 d_SF_feed_20
def D_SF_write (F : Nat) (n : Nat → Nat) (σ : HS) (p1 : Int32) : Option (HS × (Int32 ⊕ Nat)) :=
(if p1 < 0 then
    some (σ, Sum.inr 1)
  else
    (if p1 < (σ.1 1 5) then
      (if (σ.1 4 0) = 0 then
        some (σ, Sum.inr 2)
      else
        (D_SF_takeTape F n σ ).bind (fun (σ5 : HS) =>
        (D_LA_stripeOfBlock F n σ5 p1).bind (fun (x6 : Int32) =>
        (D_LA_columnOfBlock F n σ5 p1).bind (fun (x7 : Int32) =>
        (D_SF_writeFresh F n σ5 x6 x7).bind (fun (qx8 : HS × Int32) => nm2 qx8 (fun (σ9 : HS) (x8 : Int32) =>
        grd (isB x8) (
        some (σ9, Sum.inl x8))))))))
    else
      some (σ, Sum.inr 1)))
set_option maxRecDepth 100000 in
set_option maxHeartbeats 4000000 in
theorem k_SF_write (l : Launch) (hfl : l.stackTraces = false) (E : EV) (ad n : Nat → Nat) (L : List Nat) (hL : ∀ a ∈ ([0, 1, 2, 3, 4, 5, 6, 7, 8, 11, 12, 13, 14, 15] : List Nat), a ∈ L) (F : Nat) (σ σo : HS) (p1 : Int32) (r : Int32 ⊕ Nat) (hD : D_SF_write F n σ p1 = some (σo, r)) : CtX l E y_SF_write c_SF_write 2 (some FieldType.boolean) ({ frames := 6, cells := 1, slots := 6, locals := 142 }) [.ref (ad 0), .int p1] (wl E ad n L σ) (outI r) (wl E ad n L σo) := by
  refine fun sz => entX (by decide) (Nat.le_of_ble_eq_true rfl) ?_
  intro p e s m below meth c hsz cx hne kt sx wo ls hl
  have hx := cx.1.1
  have hb := cx.1.2.1
  have hown := cx.1.2.2.2.1
  have hts := cx.1.2.2.2.2
  have hl : lv_has ls 2 [(0, .ref (ad 0)), (1, .int p1)] := hl
  have m0 : 0 ∈ L := hL 0 (by decide)
  have m1 : 1 ∈ L := hL 1 (by decide)
  have m2 : 2 ∈ L := hL 2 (by decide)
  have m3 : 3 ∈ L := hL 3 (by decide)
  have m4 : 4 ∈ L := hL 4 (by decide)
  have m5 : 5 ∈ L := hL 5 (by decide)
  have m6 : 6 ∈ L := hL 6 (by decide)
  have m7 : 7 ∈ L := hL 7 (by decide)
  have m8 : 8 ∈ L := hL 8 (by decide)
  have m11 : 11 ∈ L := hL 11 (by decide)
  have m12 : 12 ∈ L := hL 12 (by decide)
  have m13 : 13 ∈ L := hL 13 (by decide)
  have m14 : 14 ∈ L := hL 14 (by decide)
  have m15 : 15 ∈ L := hL 15 (by decide)
  rw [D_SF_write] at hD
  refine lv_iload_n hx hb d_SF_write_0 rfl (lv_at hl 1 rfl) ?_
  refine lv_if_lt (tgt := 15) hx hb d_SF_write_1 (by decide) (fun c1 => ?_) (fun c1 => ?_)
  · have hD := ite_p hD c1
    cases hD
    exact t_throw (k := 1) cx hsz hne kt sx hfl wo own_1 (by decide) wk_SF_56 wp_IA wn_IA (tx := "there is no such block") (by decide) hl.1 ⟨by decide, by decide, by decide, by decide⟩ d_SF_write_15 d_SF_write_18 d_SF_write_19 d_SF_write_21 d_SF_write_24
  · have hD := ite_n hD c1
    refine lv_iload_n hx hb d_SF_write_4 rfl (lv_at hl 1 rfl) ?_
    refine lv_aload_n hx hb d_SF_write_5 rfl (lv_at hl 0 rfl) ?_
    refine g_get cx wo m0 (cel_0 E ad n σ) rfl in_SF 0 (by decide) wf_SF_12 rfl d_SF_write_6 ?_
    refine g_get cx wo m1 (cel_1 E ad n σ) rfl in_LA 5 (by decide) wf_SF_76 rfl d_SF_write_9 ?_
    refine lv_icmp_lt (tgt := 25) hx hb d_SF_write_12 (by decide) (fun c2 => ?_) (fun c2 => ?_)
    · have hD := ite_p hD c2
      refine lv_aload_n hx hb d_SF_write_25 rfl (lv_at hl 0 rfl) ?_
      refine g_get cx wo m0 (cel_0 E ad n σ) rfl in_SF 3 (by decide) wf_SF_39 rfl d_SF_write_26 ?_
      refine g_get cx wo m4 (cel_4 E ad n σ) rfl in_PW 0 (by decide) wf_SF_81 rfl d_SF_write_29 ?_
      refine lv_if_ne (tgt := 45) hx hb d_SF_write_32 (by decide) (fun c3 => ?_) (fun c3 => ?_)
      · have hD := ite_n hD c3
        refine lv_aload_n hx hb d_SF_write_45 rfl (lv_at hl 0 rfl) ?_
        obtain ⟨σ5, hcx4, hD⟩ := bd_s hD
        try dsimp only [nm2] at hD
        refine call_Vv cx wo (k_SF_takeTape l E ad n L (fun a h => hL a ((by decide : ∀ a ∈ ([0, 5, 6] : List Nat), a ∈ ([0, 1, 2, 3, 4, 5, 6, 7, 8, 11, 12, 13, 14, 15] : List Nat)) a h)) F σ σ5  hcx4) m0 (cel_0 E ad n σ) rfl rfl mw_SF_takeTape wm_SF_87 ⟨by decide, by decide⟩ ⟨by decide, by decide⟩ hl.1 rfl (Nat.le_of_ble_eq_true rfl) d_SF_write_46 (fun H locs wo => ?_)
        refine lv_aload_n hx hb d_SF_write_49 rfl (lv_at hl 0 rfl) ?_
        refine lv_aload_n hx hb d_SF_write_50 rfl (lv_at hl 0 rfl) ?_
        refine g_get cx wo m0 (cel_0 E ad n σ5) rfl in_SF 0 (by decide) wf_SF_12 rfl d_SF_write_51 ?_
        refine lv_iload_n hx hb d_SF_write_54 rfl (lv_at hl 1 rfl) ?_
        obtain ⟨x6, hcx6, hD⟩ := bd_s hD
        try dsimp only [nm2] at hD
        refine call_Vi cx wo (k_LA_stripeOfBlock l E ad n L (fun a h => hL a ((by decide : ∀ a ∈ ([1] : List Nat), a ∈ ([0, 1, 2, 3, 4, 5, 6, 7, 8, 11, 12, 13, 14, 15] : List Nat)) a h)) F σ5  p1 x6 hcx6) m1 (cel_1 E ad n σ5) rfl rfl mw_LA_stripeOfBlock wm_SF_90 ⟨by decide, by decide⟩ ⟨by decide, by decide⟩ hl.1 rfl (Nat.le_of_ble_eq_true rfl) d_SF_write_55 (fun H locs wo => ?_)
        refine lv_aload_n hx hb d_SF_write_58 rfl (lv_at hl 0 rfl) ?_
        refine g_get cx wo m0 (cel_0 E ad n σ5) rfl in_SF 0 (by decide) wf_SF_12 rfl d_SF_write_59 ?_
        refine lv_iload_n hx hb d_SF_write_62 rfl (lv_at hl 1 rfl) ?_
        obtain ⟨x7, hcx7, hD⟩ := bd_s hD
        try dsimp only [nm2] at hD
        refine call_Vi cx wo (k_LA_columnOfBlock l E ad n L (fun a h => hL a ((by decide : ∀ a ∈ ([1] : List Nat), a ∈ ([0, 1, 2, 3, 4, 5, 6, 7, 8, 11, 12, 13, 14, 15] : List Nat)) a h)) F σ5  p1 x7 hcx7) m1 (cel_1 E ad n σ5) rfl rfl mw_LA_columnOfBlock wm_SF_94 ⟨by decide, by decide⟩ ⟨by decide, by decide⟩ hl.1 rfl (Nat.le_of_ble_eq_true rfl) d_SF_write_63 (fun H locs wo => ?_)
        obtain ⟨⟨σ9, x8⟩, hcx8, hD⟩ := bd_s hD
        try dsimp only [nm2] at hD
        refine call_Vi cx wo (k_SF_writeFresh l E ad n L (fun a h => hL a ((by decide : ∀ a ∈ ([0, 1, 2, 3, 4, 6, 7, 8, 11, 12, 13, 14, 15] : List Nat), a ∈ ([0, 1, 2, 3, 4, 5, 6, 7, 8, 11, 12, 13, 14, 15] : List Nat)) a h)) F σ5 σ9 x6 x7 x8 hcx8) m0 (cel_0 E ad n σ5) rfl rfl mw_SF_writeFresh wm_SF_97 ⟨by decide, by decide⟩ ⟨by decide, by decide⟩ hl.1 rfl (Nat.le_of_ble_eq_true rfl) d_SF_write_66 (fun H locs wo => ?_)
        obtain ⟨g10, hD⟩ := grd_s hD
        cases hD
        exact tX_i cx wo (isB_n g10) d_SF_write_69
      · have hD := ite_p hD c3
        cases hD
        exact t_throw (k := 2) cx hsz hne kt sx hfl wo own_2 (by decide) wk_SF_67 wp_IS wn_IS (tx := "it is off") (by decide) hl.1 ⟨by decide, by decide, by decide, by decide⟩ d_SF_write_35 d_SF_write_38 d_SF_write_39 d_SF_write_41 d_SF_write_44
    · have hD := ite_n hD c2
      cases hD
      exact t_throw (k := 1) cx hsz hne kt sx hfl wo own_1 (by decide) wk_SF_56 wp_IA wn_IA (tx := "there is no such block") (by decide) hl.1 ⟨by decide, by decide, by decide, by decide⟩ d_SF_write_15 d_SF_write_18 d_SF_write_19 d_SF_write_21 d_SF_write_24
def D_SF_read (F : Nat) (n : Nat → Nat) (σ : HS) (p1 : Int32) (p2 : Int32) : Option (HS × (Int64 ⊕ Nat)) :=
(if p1 < 0 then
    some (σ, Sum.inr 1)
  else
    (if p1 < (σ.1 1 5) then
      (if p2 < 0 then
        some (σ, Sum.inr 1)
      else
        (if p2 < (8 : Int32) then
          (if (σ.1 4 0) = 0 then
            some (σ, Sum.inr 2)
          else
            (D_AR_fillJ_7 F n σ (0 : Int64)).bind (fun (σ7 : HS) =>
            (D_LA_stripeOfBlock F n σ7 p1).bind (fun (x8 : Int32) =>
            (D_LA_columnOfBlock F n σ7 p1).bind (fun (x9 : Int32) =>
            (D_SF_addRead F n σ7 x8 x9).bind (fun (σ11 : HS) =>
            grd (inb p2 (n 7)) (
            some (σ11, Sum.inl (σ11.2 7 (p2).toNatClampNeg))))))))
        else
          some (σ, Sum.inr 1)))
    else
      some (σ, Sum.inr 1)))
set_option maxRecDepth 100000 in
set_option maxHeartbeats 4000000 in
theorem k_SF_read (l : Launch) (hfl : l.stackTraces = false) (E : EV) (ad n : Nat → Nat) (L : List Nat) (hL : ∀ a ∈ ([0, 1, 2, 3, 4, 7, 11, 14, 15] : List Nat), a ∈ L) (F : Nat) (σ σo : HS) (p1 : Int32) (p2 : Int32) (r : Int64 ⊕ Nat) (hD : D_SF_read F n σ p1 p2 = some (σo, r)) : CtX l E y_SF_read c_SF_read 3 (some FieldType.long) ({ frames := 6, cells := 1, slots := 6, locals := 113 }) [.ref (ad 0), .int p1, .int p2] (wl E ad n L σ) (outL r) (wl E ad n L σo) := by
  refine fun sz => entX (by decide) (Nat.le_of_ble_eq_true rfl) ?_
  intro p e s m below meth c hsz cx hne kt sx wo ls hl
  have hx := cx.1.1
  have hb := cx.1.2.1
  have hown := cx.1.2.2.2.1
  have hts := cx.1.2.2.2.2
  have hl : lv_has ls 3 [(0, .ref (ad 0)), (1, .int p1), (2, .int p2)] := hl
  have m0 : 0 ∈ L := hL 0 (by decide)
  have m1 : 1 ∈ L := hL 1 (by decide)
  have m2 : 2 ∈ L := hL 2 (by decide)
  have m3 : 3 ∈ L := hL 3 (by decide)
  have m4 : 4 ∈ L := hL 4 (by decide)
  have m7 : 7 ∈ L := hL 7 (by decide)
  have m11 : 11 ∈ L := hL 11 (by decide)
  have m14 : 14 ∈ L := hL 14 (by decide)
  have m15 : 15 ∈ L := hL 15 (by decide)
  rw [D_SF_read] at hD
  refine lv_iload_n hx hb d_SF_read_0 rfl (lv_at hl 1 rfl) ?_
  refine lv_if_lt (tgt := 15) hx hb d_SF_read_1 (by decide) (fun c1 => ?_) (fun c1 => ?_)
  · have hD := ite_p hD c1
    cases hD
    exact t_throw (k := 1) cx hsz hne kt sx hfl wo own_1 (by decide) wk_SF_56 wp_IA wn_IA (tx := "there is no such block") (by decide) hl.1 ⟨by decide, by decide, by decide, by decide⟩ d_SF_read_15 d_SF_read_18 d_SF_read_19 d_SF_read_21 d_SF_read_24
  · have hD := ite_n hD c1
    refine lv_iload_n hx hb d_SF_read_4 rfl (lv_at hl 1 rfl) ?_
    refine lv_aload_n hx hb d_SF_read_5 rfl (lv_at hl 0 rfl) ?_
    refine g_get cx wo m0 (cel_0 E ad n σ) rfl in_SF 0 (by decide) wf_SF_12 rfl d_SF_read_6 ?_
    refine g_get cx wo m1 (cel_1 E ad n σ) rfl in_LA 5 (by decide) wf_SF_76 rfl d_SF_read_9 ?_
    refine lv_icmp_lt (tgt := 25) hx hb d_SF_read_12 (by decide) (fun c2 => ?_) (fun c2 => ?_)
    · have hD := ite_p hD c2
      refine lv_iload_n hx hb d_SF_read_25 rfl (lv_at hl 2 rfl) ?_
      refine lv_if_lt (tgt := 35) hx hb d_SF_read_26 (by decide) (fun c3 => ?_) (fun c3 => ?_)
      · have hD := ite_p hD c3
        cases hD
        exact t_throw (k := 1) cx hsz hne kt sx hfl wo own_1 (by decide) wk_SF_56 wp_IA wn_IA (tx := "k is not 0 .. 7") (by decide) hl.1 ⟨by decide, by decide, by decide, by decide⟩ d_SF_read_35 d_SF_read_38 d_SF_read_39 d_SF_read_41 d_SF_read_44
      · have hD := ite_n hD c3
        refine lv_iload_n hx hb d_SF_read_29 rfl (lv_at hl 2 rfl) ?_
        refine lv_bipush (v := 8) hx hb d_SF_read_30 (by decide) ?_
        refine lv_icmp_lt (tgt := 45) hx hb d_SF_read_32 (by decide) (fun c4 => ?_) (fun c4 => ?_)
        · have hD := ite_p hD c4
          refine lv_aload_n hx hb d_SF_read_45 rfl (lv_at hl 0 rfl) ?_
          refine g_get cx wo m0 (cel_0 E ad n σ) rfl in_SF 3 (by decide) wf_SF_39 rfl d_SF_read_46 ?_
          refine g_get cx wo m4 (cel_4 E ad n σ) rfl in_PW 0 (by decide) wf_SF_81 rfl d_SF_read_49 ?_
          refine lv_if_ne (tgt := 65) hx hb d_SF_read_52 (by decide) (fun c5 => ?_) (fun c5 => ?_)
          · have hD := ite_n hD c5
            refine lv_aload_n hx hb d_SF_read_65 rfl (lv_at hl 0 rfl) ?_
            refine g_get cx wo m0 (cel_0 E ad n σ) rfl in_SF 9 (by decide) wf_SF_50 rfl d_SF_read_66 ?_
            refine lv_lconst (v := 0) hx hb d_SF_read_69 (by decide) ?_
            obtain ⟨σ7, hcx6, hD⟩ := bd_s hD
            try dsimp only [nm2] at hD
            refine call_Sv cx wo (k_AR_fillJ_7 l E ad n L (fun a h => hL a ((by decide : ∀ a ∈ ([7] : List Nat), a ∈ ([0, 1, 2, 3, 4, 7, 11, 14, 15] : List Nat)) a h)) F σ σ7 (0 : Int64) hcx6) mw_AR_fillJ wm_SF_103 ⟨by decide, by decide⟩ ⟨by decide, by decide⟩ hl.1 rfl (Nat.le_of_ble_eq_true rfl) d_SF_read_70 (fun H locs wo => ?_)
            refine lv_aload_n hx hb d_SF_read_73 rfl (lv_at hl 0 rfl) ?_
            refine lv_aload_n hx hb d_SF_read_74 rfl (lv_at hl 0 rfl) ?_
            refine g_get cx wo m0 (cel_0 E ad n σ7) rfl in_SF 0 (by decide) wf_SF_12 rfl d_SF_read_75 ?_
            refine lv_iload_n hx hb d_SF_read_78 rfl (lv_at hl 1 rfl) ?_
            obtain ⟨x8, hcx8, hD⟩ := bd_s hD
            try dsimp only [nm2] at hD
            refine call_Vi cx wo (k_LA_stripeOfBlock l E ad n L (fun a h => hL a ((by decide : ∀ a ∈ ([1] : List Nat), a ∈ ([0, 1, 2, 3, 4, 7, 11, 14, 15] : List Nat)) a h)) F σ7  p1 x8 hcx8) m1 (cel_1 E ad n σ7) rfl rfl mw_LA_stripeOfBlock wm_SF_90 ⟨by decide, by decide⟩ ⟨by decide, by decide⟩ hl.1 rfl (Nat.le_of_ble_eq_true rfl) d_SF_read_79 (fun H locs wo => ?_)
            refine lv_aload_n hx hb d_SF_read_82 rfl (lv_at hl 0 rfl) ?_
            refine g_get cx wo m0 (cel_0 E ad n σ7) rfl in_SF 0 (by decide) wf_SF_12 rfl d_SF_read_83 ?_
            refine lv_iload_n hx hb d_SF_read_86 rfl (lv_at hl 1 rfl) ?_
            obtain ⟨x9, hcx9, hD⟩ := bd_s hD
            try dsimp only [nm2] at hD
            refine call_Vi cx wo (k_LA_columnOfBlock l E ad n L (fun a h => hL a ((by decide : ∀ a ∈ ([1] : List Nat), a ∈ ([0, 1, 2, 3, 4, 7, 11, 14, 15] : List Nat)) a h)) F σ7  p1 x9 hcx9) m1 (cel_1 E ad n σ7) rfl rfl mw_LA_columnOfBlock wm_SF_94 ⟨by decide, by decide⟩ ⟨by decide, by decide⟩ hl.1 rfl (Nat.le_of_ble_eq_true rfl) d_SF_read_87 (fun H locs wo => ?_)
            obtain ⟨σ11, hcx10, hD⟩ := bd_s hD
            try dsimp only [nm2] at hD
            refine call_Vv cx wo (k_SF_addRead l E ad n L (fun a h => hL a ((by decide : ∀ a ∈ ([0, 1, 2, 3, 7, 11, 14, 15] : List Nat), a ∈ ([0, 1, 2, 3, 4, 7, 11, 14, 15] : List Nat)) a h)) F σ7 σ11 x8 x9 hcx10) m0 (cel_0 E ad n σ7) rfl rfl mw_SF_addRead wm_SF_109 ⟨by decide, by decide⟩ ⟨by decide, by decide⟩ hl.1 rfl (Nat.le_of_ble_eq_true rfl) d_SF_read_90 (fun H locs wo => ?_)
            refine lv_aload_n hx hb d_SF_read_93 rfl (lv_at hl 0 rfl) ?_
            refine g_get cx wo m0 (cel_0 E ad n σ11) rfl in_SF 9 (by decide) wf_SF_50 rfl d_SF_read_94 ?_
            refine lv_iload_n hx hb d_SF_read_97 rfl (lv_at hl 2 rfl) ?_
            obtain ⟨g12, hD⟩ := grd_s hD
            refine g_lald cx wo m7 (cel_7 E ad n σ11) g12 d_SF_read_98 ?_
            cases hD
            exact tX_l cx wo d_SF_read_99
          · have hD := ite_p hD c5
            cases hD
            exact t_throw (k := 2) cx hsz hne kt sx hfl wo own_2 (by decide) wk_SF_67 wp_IS wn_IS (tx := "it is off") (by decide) hl.1 ⟨by decide, by decide, by decide, by decide⟩ d_SF_read_55 d_SF_read_58 d_SF_read_59 d_SF_read_61 d_SF_read_64
        · have hD := ite_n hD c4
          cases hD
          exact t_throw (k := 1) cx hsz hne kt sx hfl wo own_1 (by decide) wk_SF_56 wp_IA wn_IA (tx := "k is not 0 .. 7") (by decide) hl.1 ⟨by decide, by decide, by decide, by decide⟩ d_SF_read_35 d_SF_read_38 d_SF_read_39 d_SF_read_41 d_SF_read_44
    · have hD := ite_n hD c2
      cases hD
      exact t_throw (k := 1) cx hsz hne kt sx hfl wo own_1 (by decide) wk_SF_56 wp_IA wn_IA (tx := "there is no such block") (by decide) hl.1 ⟨by decide, by decide, by decide, by decide⟩ d_SF_read_15 d_SF_read_18 d_SF_read_19 d_SF_read_21 d_SF_read_24
def D_SF_lose (F : Nat) (n : Nat → Nat) (σ : HS) (p1 : Int32) : Option (HS × (Unit ⊕ Nat)) :=
(if 0 ≤ p1 then
    nm (stF σ 4 1 p1) (fun σ2 =>
    some (σ2, Sum.inl ()))
  else
    some (σ, Sum.inr 1))
set_option maxRecDepth 100000 in
set_option maxHeartbeats 4000000 in
theorem k_SF_lose (l : Launch) (hfl : l.stackTraces = false) (E : EV) (ad n : Nat → Nat) (L : List Nat) (hL : ∀ a ∈ ([0, 4] : List Nat), a ∈ L) (F : Nat) (σ σo : HS) (p1 : Int32) (r : Unit ⊕ Nat) (hD : D_SF_lose F n σ p1 = some (σo, r)) : CtX l E y_SF_lose c_SF_lose 2 none ({ frames := 6, cells := 1, slots := 6, locals := 90 }) [.ref (ad 0), .int p1] (wl E ad n L σ) (outV r) (wl E ad n L σo) := by
  refine fun sz => entX (by decide) (Nat.le_of_ble_eq_true rfl) ?_
  intro p e s m below meth c hsz cx hne kt sx wo ls hl
  have hx := cx.1.1
  have hb := cx.1.2.1
  have hown := cx.1.2.2.2.1
  have hts := cx.1.2.2.2.2
  have hl : lv_has ls 2 [(0, .ref (ad 0)), (1, .int p1)] := hl
  have m0 : 0 ∈ L := hL 0 (by decide)
  have m4 : 4 ∈ L := hL 4 (by decide)
  rw [D_SF_lose] at hD
  refine lv_iload_n hx hb d_SF_lose_0 rfl (lv_at hl 1 rfl) ?_
  refine lv_if_ge (tgt := 14) hx hb d_SF_lose_1 (by decide) (fun c1 => ?_) (fun c1 => ?_)
  · have hD := ite_p hD c1
    refine lv_aload_n hx hb d_SF_lose_14 rfl (lv_at hl 0 rfl) ?_
    refine g_get cx wo m0 (cel_0 E ad n σ) rfl in_SF 3 (by decide) wf_SF_39 rfl d_SF_lose_15 ?_
    refine lv_iload_n hx hb d_SF_lose_18 rfl (lv_at hl 1 rfl) ?_
    refine g_put cx wo m4 (cel_4 E ad n σ) rfl in_PW t_PW tok_PW n_PW 1 (by decide) wf_SF_115 rfl rfl rfl (Nat.le_of_ble_eq_true rfl) rfl d_SF_lose_19 (fun H locs wo => ?_)
    obtain ⟨σ2, eσ2⟩ : ∃ z, z = stF σ 4 1 p1 := ⟨_, rfl⟩
    rw [← eσ2] at wo
    have hD := nm_at hD eσ2
    try dsimp only at hD
    cases hD
    exact tX_v cx wo d_SF_lose_22
  · have hD := ite_n hD c1
    cases hD
    exact t_throw (k := 1) cx hsz hne kt sx hfl wo own_1 (by decide) wk_SF_56 wp_IA wn_IA (tx := "n is below 0") (by decide) hl.1 ⟨by decide, by decide, by decide, by decide⟩ d_SF_lose_4 d_SF_lose_7 d_SF_lose_8 d_SF_lose_10 d_SF_lose_13
def D_SF_off (F : Nat) (n : Nat → Nat) (σ : HS)  : Option (HS × (Unit ⊕ Nat)) :=
(if (σ.1 4 0) = 0 then
    some (σ, Sum.inr 2)
  else
    (D_PW_cut F n σ ).bind (fun (σ3 : HS) =>
    some (σ3, Sum.inl ())))
set_option maxRecDepth 100000 in
set_option maxHeartbeats 4000000 in
theorem k_SF_off (l : Launch) (hfl : l.stackTraces = false) (E : EV) (ad n : Nat → Nat) (L : List Nat) (hL : ∀ a ∈ ([0, 4] : List Nat), a ∈ L) (F : Nat) (σ σo : HS)  (r : Unit ⊕ Nat) (hD : D_SF_off F n σ  = some (σo, r)) : CtX l E y_SF_off c_SF_off 1 none ({ frames := 6, cells := 1, slots := 6, locals := 90 }) [.ref (ad 0)] (wl E ad n L σ) (outV r) (wl E ad n L σo) := by
  refine fun sz => entX (by decide) (Nat.le_of_ble_eq_true rfl) ?_
  intro p e s m below meth c hsz cx hne kt sx wo ls hl
  have hx := cx.1.1
  have hb := cx.1.2.1
  have hown := cx.1.2.2.2.1
  have hts := cx.1.2.2.2.2
  have hl : lv_has ls 1 [(0, .ref (ad 0))] := hl
  have m0 : 0 ∈ L := hL 0 (by decide)
  have m4 : 4 ∈ L := hL 4 (by decide)
  rw [D_SF_off] at hD
  refine lv_aload_n hx hb d_SF_off_0 rfl (lv_at hl 0 rfl) ?_
  refine g_get cx wo m0 (cel_0 E ad n σ) rfl in_SF 3 (by decide) wf_SF_39 rfl d_SF_off_1 ?_
  refine g_get cx wo m4 (cel_4 E ad n σ) rfl in_PW 0 (by decide) wf_SF_81 rfl d_SF_off_4 ?_
  refine lv_if_ne (tgt := 20) hx hb d_SF_off_7 (by decide) (fun c1 => ?_) (fun c1 => ?_)
  · have hD := ite_n hD c1
    refine lv_aload_n hx hb d_SF_off_20 rfl (lv_at hl 0 rfl) ?_
    refine g_get cx wo m0 (cel_0 E ad n σ) rfl in_SF 3 (by decide) wf_SF_39 rfl d_SF_off_21 ?_
    obtain ⟨σ3, hcx2, hD⟩ := bd_s hD
    try dsimp only [nm2] at hD
    refine call_Vv cx wo (k_PW_cut l E ad n L (fun a h => hL a ((by decide : ∀ a ∈ ([4] : List Nat), a ∈ ([0, 4] : List Nat)) a h)) F σ σ3  hcx2) m4 (cel_4 E ad n σ) rfl rfl mw_PW_cut wm_SF_118 ⟨by decide, by decide⟩ ⟨by decide, by decide⟩ hl.1 rfl (Nat.le_of_ble_eq_true rfl) d_SF_off_24 (fun H locs wo => ?_)
    cases hD
    exact tX_v cx wo d_SF_off_27
  · have hD := ite_p hD c1
    cases hD
    exact t_throw (k := 2) cx hsz hne kt sx hfl wo own_2 (by decide) wk_SF_67 wp_IS wn_IS (tx := "it is off") (by decide) hl.1 ⟨by decide, by decide, by decide, by decide⟩ d_SF_off_10 d_SF_off_13 d_SF_off_14 d_SF_off_16 d_SF_off_19
def D_SF_open (F : Nat) (n : Nat → Nat) (σ : HS)  : Option (HS × (Int32 ⊕ Nat)) :=
(if (σ.1 4 0) = 0 then
    nm (stF σ 4 0 (1 : Int32)) (fun σ2 =>
    nm (stF σ2 0 6 (0 : Int32)) (fun σ3 =>
    (D_PL_find F n σ3 ).bind (fun (σ5 : HS) =>
    (D_SF_replayLogs F n σ5 ).bind (fun (qx6 : HS × Int32) => nm2 qx6 (fun (σ7 : HS) (x6 : Int32) =>
    (if x6 = 0 then
      some (σ7, Sum.inl (0 : Int32))
    else
      (D_SF_clearFreeSpares F n σ7 ).bind (fun (qx9 : HS × Int32) => nm2 qx9 (fun (σ10 : HS) (x9 : Int32) =>
      (if x9 = 0 then
        some (σ10, Sum.inl (0 : Int32))
      else
        some (σ10, Sum.inl (1 : Int32)))))))))))
  else
    some (σ, Sum.inr 2))
set_option maxRecDepth 100000 in
set_option maxHeartbeats 4000000 in
theorem k_SF_open (l : Launch) (hfl : l.stackTraces = false) (E : EV) (ad n : Nat → Nat) (L : List Nat) (hL : ∀ a ∈ ([0, 1, 2, 3, 4, 7, 8, 9, 11, 12, 13, 14, 15, 16] : List Nat), a ∈ L) (F : Nat) (σ σo : HS)  (r : Int32 ⊕ Nat) (hD : D_SF_open F n σ  = some (σo, r)) : CtX l E y_SF_open c_SF_open 1 (some FieldType.boolean) ({ frames := 6, cells := 1, slots := 6, locals := 144 }) [.ref (ad 0)] (wl E ad n L σ) (outI r) (wl E ad n L σo) := by
  refine fun sz => entX (by decide) (Nat.le_of_ble_eq_true rfl) ?_
  intro p e s m below meth c hsz cx hne kt sx wo ls hl
  have hx := cx.1.1
  have hb := cx.1.2.1
  have hown := cx.1.2.2.2.1
  have hts := cx.1.2.2.2.2
  have hl : lv_has ls 1 [(0, .ref (ad 0))] := hl
  have m0 : 0 ∈ L := hL 0 (by decide)
  have m1 : 1 ∈ L := hL 1 (by decide)
  have m2 : 2 ∈ L := hL 2 (by decide)
  have m3 : 3 ∈ L := hL 3 (by decide)
  have m4 : 4 ∈ L := hL 4 (by decide)
  have m7 : 7 ∈ L := hL 7 (by decide)
  have m8 : 8 ∈ L := hL 8 (by decide)
  have m9 : 9 ∈ L := hL 9 (by decide)
  have m11 : 11 ∈ L := hL 11 (by decide)
  have m12 : 12 ∈ L := hL 12 (by decide)
  have m13 : 13 ∈ L := hL 13 (by decide)
  have m14 : 14 ∈ L := hL 14 (by decide)
  have m15 : 15 ∈ L := hL 15 (by decide)
  have m16 : 16 ∈ L := hL 16 (by decide)
  rw [D_SF_open] at hD
  refine lv_aload_n hx hb d_SF_open_0 rfl (lv_at hl 0 rfl) ?_
  refine g_get cx wo m0 (cel_0 E ad n σ) rfl in_SF 3 (by decide) wf_SF_39 rfl d_SF_open_1 ?_
  refine g_get cx wo m4 (cel_4 E ad n σ) rfl in_PW 0 (by decide) wf_SF_81 rfl d_SF_open_4 ?_
  refine lv_if_eq (tgt := 20) hx hb d_SF_open_7 (by decide) (fun c1 => ?_) (fun c1 => ?_)
  · have hD := ite_p hD c1
    refine lv_aload_n hx hb d_SF_open_20 rfl (lv_at hl 0 rfl) ?_
    refine g_get cx wo m0 (cel_0 E ad n σ) rfl in_SF 3 (by decide) wf_SF_39 rfl d_SF_open_21 ?_
    refine lv_iconst (v := 1) hx hb d_SF_open_24 (by decide) ?_
    refine g_put cx wo m4 (cel_4 E ad n σ) rfl in_PW t_PW tok_PW n_PW 0 (by decide) wf_SF_81 rfl rfl rfl (Nat.le_of_ble_eq_true rfl) rfl d_SF_open_25 (fun H locs wo => ?_)
    obtain ⟨σ2, eσ2⟩ : ∃ z, z = stF σ 4 0 (1 : Int32) := ⟨_, rfl⟩
    rw [← eσ2] at wo
    have hD := nm_at hD eσ2
    try dsimp only at hD
    refine lv_aload_n hx hb d_SF_open_28 rfl (lv_at hl 0 rfl) ?_
    refine lv_iconst (v := 0) hx hb d_SF_open_29 (by decide) ?_
    refine g_put cx wo m0 (cel_0 E ad n σ2) rfl in_SF t_SF tok_SF n_SF 6 (by decide) wf_SF_123 rfl rfl rfl (Nat.le_of_ble_eq_true rfl) rfl d_SF_open_30 (fun H locs wo => ?_)
    obtain ⟨σ3, eσ3⟩ : ∃ z, z = stF σ2 0 6 (0 : Int32) := ⟨_, rfl⟩
    rw [← eσ3] at wo
    have hD := nm_at hD eσ3
    try dsimp only at hD
    refine lv_aload_n hx hb d_SF_open_33 rfl (lv_at hl 0 rfl) ?_
    refine g_get cx wo m0 (cel_0 E ad n σ3) rfl in_SF 2 (by decide) wf_SF_32 rfl d_SF_open_34 ?_
    obtain ⟨σ5, hcx4, hD⟩ := bd_s hD
    try dsimp only [nm2] at hD
    refine call_Vv cx wo (k_PL_find l E ad n L (fun a h => hL a ((by decide : ∀ a ∈ ([1, 2, 3, 9, 11, 13, 14, 15, 16] : List Nat), a ∈ ([0, 1, 2, 3, 4, 7, 8, 9, 11, 12, 13, 14, 15, 16] : List Nat)) a h)) F σ3 σ5  hcx4) m3 (cel_3 E ad n σ3) rfl rfl mw_PL_find wm_SF_126 ⟨by decide, by decide⟩ ⟨by decide, by decide⟩ hl.1 rfl (Nat.le_of_ble_eq_true rfl) d_SF_open_37 (fun H locs wo => ?_)
    refine lv_aload_n hx hb d_SF_open_40 rfl (lv_at hl 0 rfl) ?_
    obtain ⟨⟨σ7, x6⟩, hcx6, hD⟩ := bd_s hD
    try dsimp only [nm2] at hD
    refine call_Vi cx wo (k_SF_replayLogs l E ad n L (fun a h => hL a ((by decide : ∀ a ∈ ([0, 1, 2, 3, 4, 7, 8, 11, 12, 13, 14, 15] : List Nat), a ∈ ([0, 1, 2, 3, 4, 7, 8, 9, 11, 12, 13, 14, 15, 16] : List Nat)) a h)) F σ5 σ7  x6 hcx6) m0 (cel_0 E ad n σ5) rfl rfl mw_SF_replayLogs wm_SF_129 ⟨by decide, by decide⟩ ⟨by decide, by decide⟩ hl.1 rfl (Nat.le_of_ble_eq_true rfl) d_SF_open_41 (fun H locs wo => ?_)
    refine lv_if_eq (tgt := 58) hx hb d_SF_open_44 (by decide) (fun c8 => ?_) (fun c8 => ?_)
    · have hD := ite_p hD c8
      refine lv_iconst (v := 0) hx hb d_SF_open_58 (by decide) ?_
      cases hD
      exact tX_i cx wo rfl d_SF_open_59
    · have hD := ite_n hD c8
      refine lv_aload_n hx hb d_SF_open_47 rfl (lv_at hl 0 rfl) ?_
      obtain ⟨⟨σ10, x9⟩, hcx9, hD⟩ := bd_s hD
      try dsimp only [nm2] at hD
      refine call_Vi cx wo (k_SF_clearFreeSpares l E ad n L (fun a h => hL a ((by decide : ∀ a ∈ ([0, 1, 2, 3, 4, 8, 9, 11, 12, 13, 14, 16] : List Nat), a ∈ ([0, 1, 2, 3, 4, 7, 8, 9, 11, 12, 13, 14, 15, 16] : List Nat)) a h)) F σ7 σ10  x9 hcx9) m0 (cel_0 E ad n σ7) rfl rfl mw_SF_clearFreeSpares wm_SF_133 ⟨by decide, by decide⟩ ⟨by decide, by decide⟩ hl.1 rfl (Nat.le_of_ble_eq_true rfl) d_SF_open_48 (fun H locs wo => ?_)
      refine lv_if_eq (tgt := 58) hx hb d_SF_open_51 (by decide) (fun c11 => ?_) (fun c11 => ?_)
      · have hD := ite_p hD c11
        refine lv_iconst (v := 0) hx hb d_SF_open_58 (by decide) ?_
        cases hD
        exact tX_i cx wo rfl d_SF_open_59
      · have hD := ite_n hD c11
        refine lv_iconst (v := 1) hx hb d_SF_open_54 (by decide) ?_
        refine lv_goto (tgt := 59) hx hb d_SF_open_55 (by decide) ?_
        cases hD
        exact tX_i cx wo rfl d_SF_open_59
  · have hD := ite_n hD c1
    cases hD
    exact t_throw (k := 2) cx hsz hne kt sx hfl wo own_2 (by decide) wk_SF_67 wp_IS wn_IS (tx := "it is on") (by decide) hl.1 ⟨by decide, by decide, by decide, by decide⟩ d_SF_open_10 d_SF_open_13 d_SF_open_14 d_SF_open_16 d_SF_open_19
def D_SF_fail (F : Nat) (n : Nat → Nat) (σ : HS) (p1 : Int32) : Option (HS × (Int32 ⊕ Nat)) :=
(if p1 < 0 then
    some (σ, Sum.inr 1)
  else
    (if p1 < (σ.1 1 0) then
      grd (inb p1 (n 10)) (
      (if (σ.1 10 (p1).toNatClampNeg) = 0 then
        some (σ, Sum.inl (0 : Int32))
      else
        (D_SF_findPlacesIfOff F n σ ).bind (fun (σ6 : HS) =>
        (D_SF_wouldBreakWithout F n σ6 p1).bind (fun (x7 : Int32) =>
        (if x7 = 0 then
          (D_RK_removeDisk F n σ6 p1).bind (fun (σ10 : HS) =>
          (D_PL_dropDisk F n σ10 p1).bind (fun (σ12 : HS) =>
          some (σ12, Sum.inl (1 : Int32))))
        else
          some (σ6, Sum.inl (0 : Int32)))))))
    else
      some (σ, Sum.inr 1)))
set_option maxRecDepth 100000 in
set_option maxHeartbeats 4000000 in
theorem k_SF_fail (l : Launch) (hfl : l.stackTraces = false) (E : EV) (ad n : Nat → Nat) (L : List Nat) (hL : ∀ a ∈ ([0, 1, 2, 3, 4, 9, 10, 11, 13, 14, 15, 16] : List Nat), a ∈ L) (F : Nat) (σ σo : HS) (p1 : Int32) (r : Int32 ⊕ Nat) (hD : D_SF_fail F n σ p1 = some (σo, r)) : CtX l E y_SF_fail c_SF_fail 2 (some FieldType.boolean) ({ frames := 6, cells := 1, slots := 6, locals := 91 }) [.ref (ad 0), .int p1] (wl E ad n L σ) (outI r) (wl E ad n L σo) := by
  refine fun sz => entX (by decide) (Nat.le_of_ble_eq_true rfl) ?_
  intro p e s m below meth c hsz cx hne kt sx wo ls hl
  have hx := cx.1.1
  have hb := cx.1.2.1
  have hown := cx.1.2.2.2.1
  have hts := cx.1.2.2.2.2
  have hl : lv_has ls 2 [(0, .ref (ad 0)), (1, .int p1)] := hl
  have m0 : 0 ∈ L := hL 0 (by decide)
  have m1 : 1 ∈ L := hL 1 (by decide)
  have m2 : 2 ∈ L := hL 2 (by decide)
  have m3 : 3 ∈ L := hL 3 (by decide)
  have m4 : 4 ∈ L := hL 4 (by decide)
  have m9 : 9 ∈ L := hL 9 (by decide)
  have m10 : 10 ∈ L := hL 10 (by decide)
  have m11 : 11 ∈ L := hL 11 (by decide)
  have m13 : 13 ∈ L := hL 13 (by decide)
  have m14 : 14 ∈ L := hL 14 (by decide)
  have m15 : 15 ∈ L := hL 15 (by decide)
  have m16 : 16 ∈ L := hL 16 (by decide)
  rw [D_SF_fail] at hD
  refine lv_iload_n hx hb d_SF_fail_0 rfl (lv_at hl 1 rfl) ?_
  refine lv_if_lt (tgt := 15) hx hb d_SF_fail_1 (by decide) (fun c1 => ?_) (fun c1 => ?_)
  · have hD := ite_p hD c1
    cases hD
    exact t_throw (k := 1) cx hsz hne kt sx hfl wo own_1 (by decide) wk_SF_56 wp_IA wn_IA (tx := "there is no such disk") (by decide) hl.1 ⟨by decide, by decide, by decide, by decide⟩ d_SF_fail_15 d_SF_fail_18 d_SF_fail_19 d_SF_fail_21 d_SF_fail_24
  · have hD := ite_n hD c1
    refine lv_iload_n hx hb d_SF_fail_4 rfl (lv_at hl 1 rfl) ?_
    refine lv_aload_n hx hb d_SF_fail_5 rfl (lv_at hl 0 rfl) ?_
    refine g_get cx wo m0 (cel_0 E ad n σ) rfl in_SF 0 (by decide) wf_SF_12 rfl d_SF_fail_6 ?_
    refine g_get cx wo m1 (cel_1 E ad n σ) rfl in_LA 0 (by decide) wf_SF_136 rfl d_SF_fail_9 ?_
    refine lv_icmp_lt (tgt := 25) hx hb d_SF_fail_12 (by decide) (fun c2 => ?_) (fun c2 => ?_)
    · have hD := ite_p hD c2
      refine lv_aload_n hx hb d_SF_fail_25 rfl (lv_at hl 0 rfl) ?_
      refine g_get cx wo m0 (cel_0 E ad n σ) rfl in_SF 1 (by decide) wf_SF_23 rfl d_SF_fail_26 ?_
      refine g_get cx wo m2 (cel_2 E ad n σ) rfl in_RK 0 (by decide) wf_SF_141 rfl d_SF_fail_29 ?_
      refine lv_iload_n hx hb d_SF_fail_32 rfl (lv_at hl 1 rfl) ?_
      obtain ⟨g3, hD⟩ := grd_s hD
      refine g_zald cx wo m10 (cel_10 E ad n σ) g3 d_SF_fail_33 ?_
      refine lv_if_ne (tgt := 39) hx hb d_SF_fail_34 (by decide) (fun c4 => ?_) (fun c4 => ?_)
      · have hD := ite_n hD c4
        refine lv_aload_n hx hb d_SF_fail_39 rfl (lv_at hl 0 rfl) ?_
        obtain ⟨σ6, hcx5, hD⟩ := bd_s hD
        try dsimp only [nm2] at hD
        refine call_Vv cx wo (k_SF_findPlacesIfOff l E ad n L (fun a h => hL a ((by decide : ∀ a ∈ ([0, 1, 2, 3, 4, 9, 11, 13, 14, 15, 16] : List Nat), a ∈ ([0, 1, 2, 3, 4, 9, 10, 11, 13, 14, 15, 16] : List Nat)) a h)) F σ σ6  hcx5) m0 (cel_0 E ad n σ) rfl rfl mw_SF_findPlacesIfOff wm_SF_145 ⟨by decide, by decide⟩ ⟨by decide, by decide⟩ hl.1 rfl (Nat.le_of_ble_eq_true rfl) d_SF_fail_40 (fun H locs wo => ?_)
        refine lv_aload_n hx hb d_SF_fail_43 rfl (lv_at hl 0 rfl) ?_
        refine lv_iload_n hx hb d_SF_fail_44 rfl (lv_at hl 1 rfl) ?_
        obtain ⟨x7, hcx7, hD⟩ := bd_s hD
        try dsimp only [nm2] at hD
        refine call_Vi cx wo (k_SF_wouldBreakWithout l E ad n L (fun a h => hL a ((by decide : ∀ a ∈ ([0, 1, 2, 3, 14, 15] : List Nat), a ∈ ([0, 1, 2, 3, 4, 9, 10, 11, 13, 14, 15, 16] : List Nat)) a h)) F σ6  p1 x7 hcx7) m0 (cel_0 E ad n σ6) rfl rfl mw_SF_wouldBreakWithout wm_SF_148 ⟨by decide, by decide⟩ ⟨by decide, by decide⟩ hl.1 rfl (Nat.le_of_ble_eq_true rfl) d_SF_fail_45 (fun H locs wo => ?_)
        refine lv_if_eq (tgt := 53) hx hb d_SF_fail_48 (by decide) (fun c8 => ?_) (fun c8 => ?_)
        · have hD := ite_p hD c8
          refine lv_aload_n hx hb d_SF_fail_53 rfl (lv_at hl 0 rfl) ?_
          refine g_get cx wo m0 (cel_0 E ad n σ6) rfl in_SF 1 (by decide) wf_SF_23 rfl d_SF_fail_54 ?_
          refine lv_iload_n hx hb d_SF_fail_57 rfl (lv_at hl 1 rfl) ?_
          obtain ⟨σ10, hcx9, hD⟩ := bd_s hD
          try dsimp only [nm2] at hD
          refine call_Vv cx wo (k_RK_removeDisk l E ad n L (fun a h => hL a ((by decide : ∀ a ∈ ([1, 2, 10, 13, 14] : List Nat), a ∈ ([0, 1, 2, 3, 4, 9, 10, 11, 13, 14, 15, 16] : List Nat)) a h)) F σ6 σ10 p1 hcx9) m2 (cel_2 E ad n σ6) rfl rfl mw_RK_removeDisk wm_SF_152 ⟨by decide, by decide⟩ ⟨by decide, by decide⟩ hl.1 rfl (Nat.le_of_ble_eq_true rfl) d_SF_fail_58 (fun H locs wo => ?_)
          refine lv_aload_n hx hb d_SF_fail_61 rfl (lv_at hl 0 rfl) ?_
          refine g_get cx wo m0 (cel_0 E ad n σ10) rfl in_SF 2 (by decide) wf_SF_32 rfl d_SF_fail_62 ?_
          refine lv_iload_n hx hb d_SF_fail_65 rfl (lv_at hl 1 rfl) ?_
          obtain ⟨σ12, hcx11, hD⟩ := bd_s hD
          try dsimp only [nm2] at hD
          refine call_Vv cx wo (k_PL_dropDisk l E ad n L (fun a h => hL a ((by decide : ∀ a ∈ ([1, 3, 15, 16] : List Nat), a ∈ ([0, 1, 2, 3, 4, 9, 10, 11, 13, 14, 15, 16] : List Nat)) a h)) F σ10 σ12 p1 hcx11) m3 (cel_3 E ad n σ10) rfl rfl mw_PL_dropDisk wm_SF_156 ⟨by decide, by decide⟩ ⟨by decide, by decide⟩ hl.1 rfl (Nat.le_of_ble_eq_true rfl) d_SF_fail_66 (fun H locs wo => ?_)
          refine lv_iconst (v := 1) hx hb d_SF_fail_69 (by decide) ?_
          cases hD
          exact tX_i cx wo rfl d_SF_fail_70
        · have hD := ite_n hD c8
          refine lv_iconst (v := 0) hx hb d_SF_fail_51 (by decide) ?_
          cases hD
          exact tX_i cx wo rfl d_SF_fail_52
      · have hD := ite_p hD c4
        refine lv_iconst (v := 0) hx hb d_SF_fail_37 (by decide) ?_
        cases hD
        exact tX_i cx wo rfl d_SF_fail_38
    · have hD := ite_n hD c2
      cases hD
      exact t_throw (k := 1) cx hsz hne kt sx hfl wo own_1 (by decide) wk_SF_56 wp_IA wn_IA (tx := "there is no such disk") (by decide) hl.1 ⟨by decide, by decide, by decide, by decide⟩ d_SF_fail_15 d_SF_fail_18 d_SF_fail_19 d_SF_fail_21 d_SF_fail_24
def D_SF_replace (F : Nat) (n : Nat → Nat) (σ : HS) (p1 : Int32) : Option (HS × (Int32 ⊕ Nat)) :=
(if p1 < 0 then
    some (σ, Sum.inr 1)
  else
    (if p1 < (σ.1 1 0) then
      grd (inb p1 (n 10)) (
      (if (σ.1 10 (p1).toNatClampNeg) = 0 then
        grd (inb p1 (n 10)) (
        nm (stI σ 10 (p1).toNatClampNeg (vp_nar .boolean (1 : Int32))) (fun σ6 =>
        some (σ6, Sum.inl (1 : Int32))))
      else
        some (σ, Sum.inl (0 : Int32))))
    else
      some (σ, Sum.inr 1)))
set_option maxRecDepth 100000 in
set_option maxHeartbeats 4000000 in
theorem k_SF_replace (l : Launch) (hfl : l.stackTraces = false) (E : EV) (ad n : Nat → Nat) (L : List Nat) (hL : ∀ a ∈ ([0, 1, 2, 10] : List Nat), a ∈ L) (F : Nat) (σ σo : HS) (p1 : Int32) (r : Int32 ⊕ Nat) (hD : D_SF_replace F n σ p1 = some (σo, r)) : CtX l E y_SF_replace c_SF_replace 2 (some FieldType.boolean) ({ frames := 6, cells := 1, slots := 6, locals := 90 }) [.ref (ad 0), .int p1] (wl E ad n L σ) (outI r) (wl E ad n L σo) := by
  refine fun sz => entX (by decide) (Nat.le_of_ble_eq_true rfl) ?_
  intro p e s m below meth c hsz cx hne kt sx wo ls hl
  have hx := cx.1.1
  have hb := cx.1.2.1
  have hown := cx.1.2.2.2.1
  have hts := cx.1.2.2.2.2
  have hl : lv_has ls 2 [(0, .ref (ad 0)), (1, .int p1)] := hl
  have m0 : 0 ∈ L := hL 0 (by decide)
  have m1 : 1 ∈ L := hL 1 (by decide)
  have m2 : 2 ∈ L := hL 2 (by decide)
  have m10 : 10 ∈ L := hL 10 (by decide)
  rw [D_SF_replace] at hD
  refine lv_iload_n hx hb d_SF_replace_0 rfl (lv_at hl 1 rfl) ?_
  refine lv_if_lt (tgt := 15) hx hb d_SF_replace_1 (by decide) (fun c1 => ?_) (fun c1 => ?_)
  · have hD := ite_p hD c1
    cases hD
    exact t_throw (k := 1) cx hsz hne kt sx hfl wo own_1 (by decide) wk_SF_56 wp_IA wn_IA (tx := "there is no such disk") (by decide) hl.1 ⟨by decide, by decide, by decide, by decide⟩ d_SF_replace_15 d_SF_replace_18 d_SF_replace_19 d_SF_replace_21 d_SF_replace_24
  · have hD := ite_n hD c1
    refine lv_iload_n hx hb d_SF_replace_4 rfl (lv_at hl 1 rfl) ?_
    refine lv_aload_n hx hb d_SF_replace_5 rfl (lv_at hl 0 rfl) ?_
    refine g_get cx wo m0 (cel_0 E ad n σ) rfl in_SF 0 (by decide) wf_SF_12 rfl d_SF_replace_6 ?_
    refine g_get cx wo m1 (cel_1 E ad n σ) rfl in_LA 0 (by decide) wf_SF_136 rfl d_SF_replace_9 ?_
    refine lv_icmp_lt (tgt := 25) hx hb d_SF_replace_12 (by decide) (fun c2 => ?_) (fun c2 => ?_)
    · have hD := ite_p hD c2
      refine lv_aload_n hx hb d_SF_replace_25 rfl (lv_at hl 0 rfl) ?_
      refine g_get cx wo m0 (cel_0 E ad n σ) rfl in_SF 1 (by decide) wf_SF_23 rfl d_SF_replace_26 ?_
      refine g_get cx wo m2 (cel_2 E ad n σ) rfl in_RK 0 (by decide) wf_SF_141 rfl d_SF_replace_29 ?_
      refine lv_iload_n hx hb d_SF_replace_32 rfl (lv_at hl 1 rfl) ?_
      obtain ⟨g3, hD⟩ := grd_s hD
      refine g_zald cx wo m10 (cel_10 E ad n σ) g3 d_SF_replace_33 ?_
      refine lv_if_eq (tgt := 39) hx hb d_SF_replace_34 (by decide) (fun c4 => ?_) (fun c4 => ?_)
      · have hD := ite_p hD c4
        refine lv_aload_n hx hb d_SF_replace_39 rfl (lv_at hl 0 rfl) ?_
        refine g_get cx wo m0 (cel_0 E ad n σ) rfl in_SF 1 (by decide) wf_SF_23 rfl d_SF_replace_40 ?_
        refine g_get cx wo m2 (cel_2 E ad n σ) rfl in_RK 0 (by decide) wf_SF_141 rfl d_SF_replace_43 ?_
        refine lv_iload_n hx hb d_SF_replace_46 rfl (lv_at hl 1 rfl) ?_
        refine lv_iconst (v := 1) hx hb d_SF_replace_47 (by decide) ?_
        obtain ⟨g5, hD⟩ := grd_s hD
        refine g_zast cx wo m10 (cel_10 E ad n) g5 d_SF_replace_48 (fun H locs wo => ?_)
        obtain ⟨σ6, eσ6⟩ : ∃ z, z = stI σ 10 (p1).toNatClampNeg (vp_nar .boolean (1 : Int32)) := ⟨_, rfl⟩
        rw [← eσ6] at wo
        have hD := nm_at hD eσ6
        try dsimp only at hD
        refine lv_iconst (v := 1) hx hb d_SF_replace_49 (by decide) ?_
        cases hD
        exact tX_i cx wo rfl d_SF_replace_50
      · have hD := ite_n hD c4
        refine lv_iconst (v := 0) hx hb d_SF_replace_37 (by decide) ?_
        cases hD
        exact tX_i cx wo rfl d_SF_replace_38
    · have hD := ite_n hD c2
      cases hD
      exact t_throw (k := 1) cx hsz hne kt sx hfl wo own_1 (by decide) wk_SF_56 wp_IA wn_IA (tx := "there is no such disk") (by decide) hl.1 ⟨by decide, by decide, by decide, by decide⟩ d_SF_replace_15 d_SF_replace_18 d_SF_replace_19 d_SF_replace_21 d_SF_replace_24
def D_SF_lowestBytes (F : Nat) (n : Nat → Nat) (σ : HS) (p0 : Int32) (p1 : Int64) : Option (Int64) :=
(if p0 < (8 : Int32) then
    some (p1 &&& (((1 : Int64) <<< ((((8 : Int32) * p0)).toInt64 &&& 63)) - (1 : Int64)))
  else
    some p1)
set_option maxRecDepth 100000 in
set_option maxHeartbeats 4000000 in
theorem k_SF_lowestBytes (l : Launch) (E : EV) (ad n : Nat → Nat) (L : List Nat) (hL : ∀ a ∈ ([] : List Nat), a ∈ L) (F : Nat) (σ  : HS) (p0 : Int32) (p1 : Int64) (r : Int64) (hD : D_SF_lowestBytes F n σ p0 p1 = some r) : CtPL l E y_SF_lowestBytes c_SF_lowestBytes 3 (some FieldType.long) ({ frames := 0, cells := 0, slots := 0, locals := 0 }) [.int p0, .long p1] (wl E ad n L σ) r  := by
  refine fun sz => entP (by decide) (Nat.le_of_ble_eq_true rfl) ?_
  intro p e s m below meth c hsz cx wo ls hl
  have hx := cx.1.1
  have hb := cx.1.2.1
  have hown := cx.1.2.2.2.1
  have hts := cx.1.2.2.2.2
  have hl : lv_has ls 3 [(0, .int p0), (1, .long p1)] := hl
  rw [D_SF_lowestBytes] at hD
  refine lv_iload_n hx hb d_SF_lowestBytes_0 rfl (lv_at hl 0 rfl) ?_
  refine lv_bipush (v := 8) hx hb d_SF_lowestBytes_1 (by decide) ?_
  refine lv_icmp_lt (tgt := 10) hx hb d_SF_lowestBytes_3 (by decide) (fun c1 => ?_) (fun c1 => ?_)
  · have hD := ite_p hD c1
    refine lv_lload_n hx hb d_SF_lowestBytes_10 rfl (lv_at hl 1 rfl) ?_
    refine lv_lconst (v := 1) hx hb d_SF_lowestBytes_11 (by decide) ?_
    refine lv_bipush (v := 8) hx hb d_SF_lowestBytes_12 (by decide) ?_
    refine lv_iload_n hx hb d_SF_lowestBytes_14 rfl (lv_at hl 0 rfl) ?_
    refine lv_imul hx hb d_SF_lowestBytes_15 ?_
    refine lv_lshl hx hb d_SF_lowestBytes_16 rfl ?_
    refine lv_lconst (v := 1) hx hb d_SF_lowestBytes_17 (by decide) ?_
    refine lv_lsub hx hb d_SF_lowestBytes_18 ?_
    refine lv_land hx hb d_SF_lowestBytes_19 ?_
    cases hD
    exact t_lretP cx rfl d_SF_lowestBytes_20
  · have hD := ite_n hD c1
    refine lv_lload_n hx hb d_SF_lowestBytes_6 rfl (lv_at hl 1 rfl) ?_
    refine lv_goto (tgt := 20) hx hb d_SF_lowestBytes_7 (by decide) ?_
    cases hD
    exact t_lretP cx rfl d_SF_lowestBytes_20
def D_SF_spoil (F : Nat) (n : Nat → Nat) (σ : HS) (p1 : Int32) (p2 : Int32) (p3 : Int32) (p4 : Int32) (p5 : Int64) : Option (HS × (Int32 ⊕ Nat)) :=
(if p1 < 0 then
    some (σ, Sum.inr 1)
  else
    (if p1 < (σ.1 1 0) then
      (if p2 < 0 then
        some (σ, Sum.inr 1)
      else
        (if p2 < (σ.1 1 2) then
          (if p4 < (1 : Int32) then
            some (σ, Sum.inr 1)
          else
            (if p4 ≤ (8 : Int32) then
              (if p3 < 0 then
                some (σ, Sum.inr 1)
              else
                (if p3 ≤ ((70 : Int32) - p4) then
                  (D_SF_lowestBytes F n σ p4 p5).bind (fun (x9 : Int64) =>
                  (if (lg_cmp x9 (0 : Int64)) = 0 then
                    some (σ, Sum.inr 1)
                  else
                    (D_LA_cell F n σ p1 p2).bind (fun (x11 : Int32) =>
                    (if (σ.1 4 0) = 0 then
                      some (σ, Sum.inl (0 : Int32))
                    else
                      grd (inb p1 (n 10)) (
                      (if (σ.1 10 (p1).toNatClampNeg) = 0 then
                        some (σ, Sum.inl (0 : Int32))
                      else
                        grd (inb x11 (n 16)) (
                        (if (σ.1 16 (x11).toNatClampNeg) = (-1 : Int32) then
                          some (σ, Sum.inl (0 : Int32))
                        else
                          (D_SF_spoilPlace F n σ x11 p3 p4 p5).bind (fun (qx17 : HS × Int32) => nm2 qx17 (fun (σ18 : HS) (x17 : Int32) =>
                          grd (isB x17) (
                          some (σ18, Sum.inl x17))))))))))))
                else
                  some (σ, Sum.inr 1)))
            else
              some (σ, Sum.inr 1)))
        else
          some (σ, Sum.inr 1)))
    else
      some (σ, Sum.inr 1)))
set_option maxRecDepth 100000 in
set_option maxHeartbeats 4000000 in
theorem k_SF_spoil (l : Launch) (hfl : l.stackTraces = false) (E : EV) (ad n : Nat → Nat) (L : List Nat) (hL : ∀ a ∈ ([0, 1, 2, 3, 4, 10, 11, 12, 14, 15, 16] : List Nat), a ∈ L) (F : Nat) (σ σo : HS) (p1 : Int32) (p2 : Int32) (p3 : Int32) (p4 : Int32) (p5 : Int64) (r : Int32 ⊕ Nat) (hD : D_SF_spoil F n σ p1 p2 p3 p4 p5 = some (σo, r)) : CtX l E y_SF_spoil c_SF_spoil 8 (some FieldType.boolean) ({ frames := 6, cells := 1, slots := 6, locals := 116 }) [.ref (ad 0), .int p1, .int p2, .int p3, .int p4, .long p5] (wl E ad n L σ) (outI r) (wl E ad n L σo) := by
  refine fun sz => entX (by decide) (Nat.le_of_ble_eq_true rfl) ?_
  intro p e s m below meth c hsz cx hne kt sx wo ls hl
  have hx := cx.1.1
  have hb := cx.1.2.1
  have hown := cx.1.2.2.2.1
  have hts := cx.1.2.2.2.2
  have hl : lv_has ls 8 [(0, .ref (ad 0)), (1, .int p1), (2, .int p2), (3, .int p3), (4, .int p4), (5, .long p5)] := hl
  have m0 : 0 ∈ L := hL 0 (by decide)
  have m1 : 1 ∈ L := hL 1 (by decide)
  have m2 : 2 ∈ L := hL 2 (by decide)
  have m3 : 3 ∈ L := hL 3 (by decide)
  have m4 : 4 ∈ L := hL 4 (by decide)
  have m10 : 10 ∈ L := hL 10 (by decide)
  have m11 : 11 ∈ L := hL 11 (by decide)
  have m12 : 12 ∈ L := hL 12 (by decide)
  have m14 : 14 ∈ L := hL 14 (by decide)
  have m15 : 15 ∈ L := hL 15 (by decide)
  have m16 : 16 ∈ L := hL 16 (by decide)
  rw [D_SF_spoil] at hD
  refine lv_iload_n hx hb d_SF_spoil_0 rfl (lv_at hl 1 rfl) ?_
  refine lv_if_lt (tgt := 15) hx hb d_SF_spoil_1 (by decide) (fun c1 => ?_) (fun c1 => ?_)
  · have hD := ite_p hD c1
    cases hD
    exact t_throw (k := 1) cx hsz hne kt sx hfl wo own_1 (by decide) wk_SF_56 wp_IA wn_IA (tx := "there is no such disk") (by decide) hl.1 ⟨by decide, by decide, by decide, by decide⟩ d_SF_spoil_15 d_SF_spoil_18 d_SF_spoil_19 d_SF_spoil_21 d_SF_spoil_24
  · have hD := ite_n hD c1
    refine lv_iload_n hx hb d_SF_spoil_4 rfl (lv_at hl 1 rfl) ?_
    refine lv_aload_n hx hb d_SF_spoil_5 rfl (lv_at hl 0 rfl) ?_
    refine g_get cx wo m0 (cel_0 E ad n σ) rfl in_SF 0 (by decide) wf_SF_12 rfl d_SF_spoil_6 ?_
    refine g_get cx wo m1 (cel_1 E ad n σ) rfl in_LA 0 (by decide) wf_SF_136 rfl d_SF_spoil_9 ?_
    refine lv_icmp_lt (tgt := 25) hx hb d_SF_spoil_12 (by decide) (fun c2 => ?_) (fun c2 => ?_)
    · have hD := ite_p hD c2
      refine lv_iload_n hx hb d_SF_spoil_25 rfl (lv_at hl 2 rfl) ?_
      refine lv_if_lt (tgt := 40) hx hb d_SF_spoil_26 (by decide) (fun c3 => ?_) (fun c3 => ?_)
      · have hD := ite_p hD c3
        cases hD
        exact t_throw (k := 1) cx hsz hne kt sx hfl wo own_1 (by decide) wk_SF_56 wp_IA wn_IA (tx := "offset is not 0 .. ROWS - 1") (by decide) hl.1 ⟨by decide, by decide, by decide, by decide⟩ d_SF_spoil_40 d_SF_spoil_43 d_SF_spoil_44 d_SF_spoil_46 d_SF_spoil_49
      · have hD := ite_n hD c3
        refine lv_iload_n hx hb d_SF_spoil_29 rfl (lv_at hl 2 rfl) ?_
        refine lv_aload_n hx hb d_SF_spoil_30 rfl (lv_at hl 0 rfl) ?_
        refine g_get cx wo m0 (cel_0 E ad n σ) rfl in_SF 0 (by decide) wf_SF_12 rfl d_SF_spoil_31 ?_
        refine g_get cx wo m1 (cel_1 E ad n σ) rfl in_LA 2 (by decide) wf_SF_159 rfl d_SF_spoil_34 ?_
        refine lv_icmp_lt (tgt := 50) hx hb d_SF_spoil_37 (by decide) (fun c4 => ?_) (fun c4 => ?_)
        · have hD := ite_p hD c4
          refine lv_iload hx hb d_SF_spoil_50 (lv_at hl 4 rfl) ?_
          refine lv_iconst (v := 1) hx hb d_SF_spoil_52 (by decide) ?_
          refine lv_icmp_lt (tgt := 63) hx hb d_SF_spoil_53 (by decide) (fun c5 => ?_) (fun c5 => ?_)
          · have hD := ite_p hD c5
            cases hD
            exact t_throw (k := 1) cx hsz hne kt sx hfl wo own_1 (by decide) wk_SF_56 wp_IA wn_IA (tx := "n is not 1 .. 8") (by decide) hl.1 ⟨by decide, by decide, by decide, by decide⟩ d_SF_spoil_63 d_SF_spoil_66 d_SF_spoil_67 d_SF_spoil_69 d_SF_spoil_72
          · have hD := ite_n hD c5
            refine lv_iload hx hb d_SF_spoil_56 (lv_at hl 4 rfl) ?_
            refine lv_bipush (v := 8) hx hb d_SF_spoil_58 (by decide) ?_
            refine lv_icmp_le (tgt := 73) hx hb d_SF_spoil_60 (by decide) (fun c6 => ?_) (fun c6 => ?_)
            · have hD := ite_p hD c6
              refine lv_iload_n hx hb d_SF_spoil_73 rfl (lv_at hl 3 rfl) ?_
              refine lv_if_lt (tgt := 86) hx hb d_SF_spoil_74 (by decide) (fun c7 => ?_) (fun c7 => ?_)
              · have hD := ite_p hD c7
                cases hD
                exact t_throw (k := 1) cx hsz hne kt sx hfl wo own_1 (by decide) wk_SF_56 wp_IA wn_IA (tx := "at is not 0 .. 70 - n") (by decide) hl.1 ⟨by decide, by decide, by decide, by decide⟩ d_SF_spoil_86 d_SF_spoil_89 d_SF_spoil_90 d_SF_spoil_92 d_SF_spoil_95
              · have hD := ite_n hD c7
                refine lv_iload_n hx hb d_SF_spoil_77 rfl (lv_at hl 3 rfl) ?_
                refine lv_bipush (v := 70) hx hb d_SF_spoil_78 (by decide) ?_
                refine lv_iload hx hb d_SF_spoil_80 (lv_at hl 4 rfl) ?_
                refine lv_isub hx hb d_SF_spoil_82 ?_
                refine lv_icmp_le (tgt := 96) hx hb d_SF_spoil_83 (by decide) (fun c8 => ?_) (fun c8 => ?_)
                · have hD := ite_p hD c8
                  refine lv_iload hx hb d_SF_spoil_96 (lv_at hl 4 rfl) ?_
                  refine lv_lload hx hb d_SF_spoil_98 (lv_at hl 5 rfl) ?_
                  obtain ⟨x9, hcx9, hD⟩ := bd_s hD
                  try dsimp only [nm2] at hD
                  refine call_PSl cx wo (k_SF_lowestBytes l E ad n L (fun a h => hL a ((by decide : ∀ a ∈ ([] : List Nat), a ∈ ([0, 1, 2, 3, 4, 10, 11, 12, 14, 15, 16] : List Nat)) a h)) F σ  p4 p5 x9 hcx9) mw_SF_lowestBytes wm_SF_166 ⟨by decide, by decide⟩ ⟨by decide, by decide⟩ hl.1 rfl (Nat.le_of_ble_eq_true rfl) d_SF_spoil_100 ?_
                  refine lv_lconst (v := 0) hx hb d_SF_spoil_103 (by decide) ?_
                  refine W.lcmp hx hb d_SF_spoil_104 ?_
                  refine lv_if_ne (tgt := 118) hx hb d_SF_spoil_105 (by decide) (fun c10 => ?_) (fun c10 => ?_)
                  · have hD := ite_n hD c10
                    refine lv_aload_n hx hb d_SF_spoil_118 rfl (lv_at hl 0 rfl) ?_
                    refine g_get cx wo m0 (cel_0 E ad n σ) rfl in_SF 0 (by decide) wf_SF_12 rfl d_SF_spoil_119 ?_
                    refine lv_iload_n hx hb d_SF_spoil_122 rfl (lv_at hl 1 rfl) ?_
                    refine lv_iload_n hx hb d_SF_spoil_123 rfl (lv_at hl 2 rfl) ?_
                    obtain ⟨x11, hcx11, hD⟩ := bd_s hD
                    try dsimp only [nm2] at hD
                    refine call_Vi cx wo (k_LA_cell l E ad n L (fun a h => hL a ((by decide : ∀ a ∈ ([1] : List Nat), a ∈ ([0, 1, 2, 3, 4, 10, 11, 12, 14, 15, 16] : List Nat)) a h)) F σ  p1 p2 x11 hcx11) m1 (cel_1 E ad n σ) rfl rfl mw_LA_cell wm_SF_172 ⟨by decide, by decide⟩ ⟨by decide, by decide⟩ hl.1 rfl (Nat.le_of_ble_eq_true rfl) d_SF_spoil_124 (fun H locs wo => ?_)
                    refine lv_istore (lv' := [(7, .int x11), (0, .ref (ad 0)), (1, .int p1), (2, .int p2), (3, .int p3), (4, .int p4), (5, .long p5)]) hx hb d_SF_spoil_127 hl (by decide) rfl (fun ls hl => ?_)
                    refine lv_aload_n hx hb d_SF_spoil_129 rfl (lv_at hl 1 rfl) ?_
                    refine g_get cx wo m0 (cel_0 E ad n σ) rfl in_SF 3 (by decide) wf_SF_39 rfl d_SF_spoil_130 ?_
                    refine g_get cx wo m4 (cel_4 E ad n σ) rfl in_PW 0 (by decide) wf_SF_81 rfl d_SF_spoil_133 ?_
                    refine lv_if_eq (tgt := 165) hx hb d_SF_spoil_136 (by decide) (fun c12 => ?_) (fun c12 => ?_)
                    · have hD := ite_p hD c12
                      refine lv_iconst (v := 0) hx hb d_SF_spoil_165 (by decide) ?_
                      cases hD
                      exact tX_i cx wo rfl d_SF_spoil_166
                    · have hD := ite_n hD c12
                      refine lv_aload_n hx hb d_SF_spoil_139 rfl (lv_at hl 1 rfl) ?_
                      refine g_get cx wo m0 (cel_0 E ad n σ) rfl in_SF 1 (by decide) wf_SF_23 rfl d_SF_spoil_140 ?_
                      refine g_get cx wo m2 (cel_2 E ad n σ) rfl in_RK 0 (by decide) wf_SF_141 rfl d_SF_spoil_143 ?_
                      refine lv_iload_n hx hb d_SF_spoil_146 rfl (lv_at hl 2 rfl) ?_
                      obtain ⟨g13, hD⟩ := grd_s hD
                      refine g_zald cx wo m10 (cel_10 E ad n σ) g13 d_SF_spoil_147 ?_
                      refine lv_if_eq (tgt := 165) hx hb d_SF_spoil_148 (by decide) (fun c14 => ?_) (fun c14 => ?_)
                      · have hD := ite_p hD c14
                        refine lv_iconst (v := 0) hx hb d_SF_spoil_165 (by decide) ?_
                        cases hD
                        exact tX_i cx wo rfl d_SF_spoil_166
                      · have hD := ite_n hD c14
                        refine lv_aload_n hx hb d_SF_spoil_151 rfl (lv_at hl 1 rfl) ?_
                        refine g_get cx wo m0 (cel_0 E ad n σ) rfl in_SF 2 (by decide) wf_SF_32 rfl d_SF_spoil_152 ?_
                        refine g_get cx wo m3 (cel_3 E ad n σ) rfl in_PL 1 (by decide) wf_SF_176 rfl d_SF_spoil_155 ?_
                        refine lv_iload hx hb d_SF_spoil_158 (lv_at hl 0 rfl) ?_
                        obtain ⟨g15, hD⟩ := grd_s hD
                        refine g_iald cx wo m16 (cel_16 E ad n σ) g15 d_SF_spoil_160 ?_
                        refine lv_iconst (v := -1) hx hb d_SF_spoil_161 (by decide) ?_
                        refine lv_icmp_ne (tgt := 167) hx hb d_SF_spoil_162 (by decide) (fun c16 => ?_) (fun c16 => ?_)
                        · have hD := ite_n hD c16
                          refine lv_aload_n hx hb d_SF_spoil_167 rfl (lv_at hl 1 rfl) ?_
                          refine lv_iload hx hb d_SF_spoil_168 (lv_at hl 0 rfl) ?_
                          refine lv_iload_n hx hb d_SF_spoil_170 rfl (lv_at hl 4 rfl) ?_
                          refine lv_iload hx hb d_SF_spoil_171 (lv_at hl 5 rfl) ?_
                          refine lv_lload hx hb d_SF_spoil_173 (lv_at hl 6 rfl) ?_
                          obtain ⟨⟨σ18, x17⟩, hcx17, hD⟩ := bd_s hD
                          try dsimp only [nm2] at hD
                          refine call_Vi cx wo (k_SF_spoilPlace l E ad n L (fun a h => hL a ((by decide : ∀ a ∈ ([0, 1, 2, 3, 11, 12, 14, 15, 16] : List Nat), a ∈ ([0, 1, 2, 3, 4, 10, 11, 12, 14, 15, 16] : List Nat)) a h)) F σ σ18 x11 p3 p4 p5 x17 hcx17) m0 (cel_0 E ad n σ) rfl rfl mw_SF_spoilPlace wm_SF_180 ⟨by decide, by decide⟩ ⟨by decide, by decide⟩ hl.1 rfl (Nat.le_of_ble_eq_true rfl) d_SF_spoil_175 (fun H locs wo => ?_)
                          obtain ⟨g19, hD⟩ := grd_s hD
                          cases hD
                          exact tX_i cx wo (isB_n g19) d_SF_spoil_178
                        · have hD := ite_p hD c16
                          refine lv_iconst (v := 0) hx hb d_SF_spoil_165 (by decide) ?_
                          cases hD
                          exact tX_i cx wo rfl d_SF_spoil_166
                  · have hD := ite_p hD c10
                    cases hD
                    exact t_throw (k := 1) cx hsz hne kt sx hfl wo own_1 (by decide) wk_SF_56 wp_IA wn_IA (tx := "the bytes of mask are all 0") (by decide) hl.1 ⟨by decide, by decide, by decide, by decide⟩ d_SF_spoil_108 d_SF_spoil_111 d_SF_spoil_112 d_SF_spoil_114 d_SF_spoil_117
                · have hD := ite_n hD c8
                  cases hD
                  exact t_throw (k := 1) cx hsz hne kt sx hfl wo own_1 (by decide) wk_SF_56 wp_IA wn_IA (tx := "at is not 0 .. 70 - n") (by decide) hl.1 ⟨by decide, by decide, by decide, by decide⟩ d_SF_spoil_86 d_SF_spoil_89 d_SF_spoil_90 d_SF_spoil_92 d_SF_spoil_95
            · have hD := ite_n hD c6
              cases hD
              exact t_throw (k := 1) cx hsz hne kt sx hfl wo own_1 (by decide) wk_SF_56 wp_IA wn_IA (tx := "n is not 1 .. 8") (by decide) hl.1 ⟨by decide, by decide, by decide, by decide⟩ d_SF_spoil_63 d_SF_spoil_66 d_SF_spoil_67 d_SF_spoil_69 d_SF_spoil_72
        · have hD := ite_n hD c4
          cases hD
          exact t_throw (k := 1) cx hsz hne kt sx hfl wo own_1 (by decide) wk_SF_56 wp_IA wn_IA (tx := "offset is not 0 .. ROWS - 1") (by decide) hl.1 ⟨by decide, by decide, by decide, by decide⟩ d_SF_spoil_40 d_SF_spoil_43 d_SF_spoil_44 d_SF_spoil_46 d_SF_spoil_49
    · have hD := ite_n hD c2
      cases hD
      exact t_throw (k := 1) cx hsz hne kt sx hfl wo own_1 (by decide) wk_SF_56 wp_IA wn_IA (tx := "there is no such disk") (by decide) hl.1 ⟨by decide, by decide, by decide, by decide⟩ d_SF_spoil_15 d_SF_spoil_18 d_SF_spoil_19 d_SF_spoil_21 d_SF_spoil_24
def D_SF_rebuild_L22 (F : Nat) (n : Nat → Nat)  : Nat → HS → Int32 → Option ((HS) ⊕ (HS × (Int32 ⊕ Nat)))
  | 0, _, _ => none
  | k4 + 1, σ2, x5 =>
      (if (σ2.1 1 2) ≤ x5 then
          some (Sum.inl σ2)
        else
          (D_PL_firstFreeSpare F n σ2 x5).bind (fun (x7 : Int32) =>
          jn (fun (x9 : Int32) =>
            (if x9 = (-1 : Int32) then
              nm (x5 + (1 : Int32)) (fun x11 =>
              D_SF_rebuild_L22 F n  k4 σ2 x11)
            else
              (D_SF_moveTo F n σ2 x9 x7).bind (fun (qx12 : HS × Int32) => nm2 qx12 (fun (σ13 : HS) (x12 : Int32) =>
              (if x12 = 0 then
                some (Sum.inr (σ13, Sum.inl (-1 : Int32)))
              else
                some (Sum.inr (σ13, Sum.inl (1 : Int32))))))))
          (fun j8 =>
          (if x7 = (-1 : Int32) then
            j8 (-1 : Int32)
          else
            (D_PL_firstToRebuild F n σ2 x5).bind (fun (x16 : Int32) =>
            j8 x16)))))
def D_SF_rebuild (F : Nat) (n : Nat → Nat) (σ : HS)  : Option (HS × (Int32 ⊕ Nat)) :=
(if (σ.1 4 0) = 0 then
    some (σ, Sum.inr 2)
  else
    (D_SF_rebuild_L22 F n  F σ (0 : Int32)).bind (fun q21 => match q21 with
      | Sum.inl σ17 =>
        some (σ17, Sum.inl (0 : Int32))
      | Sum.inr z => some z))
set_option maxRecDepth 100000 in
set_option maxHeartbeats 4000000 in
theorem k_SF_rebuild (l : Launch) (hfl : l.stackTraces = false) (E : EV) (ad n : Nat → Nat) (L : List Nat) (hL : ∀ a ∈ ([0, 1, 2, 3, 4, 7, 9, 10, 11, 12, 13, 14, 15, 16] : List Nat), a ∈ L) (F : Nat) (σ σo : HS)  (r : Int32 ⊕ Nat) (hD : D_SF_rebuild F n σ  = some (σo, r)) : CtX l E y_SF_rebuild c_SF_rebuild 4 (some FieldType.int) ({ frames := 6, cells := 1, slots := 6, locals := 135 }) [.ref (ad 0)] (wl E ad n L σ) (outI r) (wl E ad n L σo) := by
  refine fun sz => entX (by decide) (Nat.le_of_ble_eq_true rfl) ?_
  intro p e s m below meth c hsz cx hne kt sx wo ls hl
  have hx := cx.1.1
  have hb := cx.1.2.1
  have hown := cx.1.2.2.2.1
  have hts := cx.1.2.2.2.2
  have hl : lv_has ls 4 [(0, .ref (ad 0))] := hl
  have m0 : 0 ∈ L := hL 0 (by decide)
  have m1 : 1 ∈ L := hL 1 (by decide)
  have m2 : 2 ∈ L := hL 2 (by decide)
  have m3 : 3 ∈ L := hL 3 (by decide)
  have m4 : 4 ∈ L := hL 4 (by decide)
  have m7 : 7 ∈ L := hL 7 (by decide)
  have m9 : 9 ∈ L := hL 9 (by decide)
  have m10 : 10 ∈ L := hL 10 (by decide)
  have m11 : 11 ∈ L := hL 11 (by decide)
  have m12 : 12 ∈ L := hL 12 (by decide)
  have m13 : 13 ∈ L := hL 13 (by decide)
  have m14 : 14 ∈ L := hL 14 (by decide)
  have m15 : 15 ∈ L := hL 15 (by decide)
  have m16 : 16 ∈ L := hL 16 (by decide)
  rw [D_SF_rebuild] at hD
  refine lv_aload_n hx hb d_SF_rebuild_0 rfl (lv_at hl 0 rfl) ?_
  refine g_get cx wo m0 (cel_0 E ad n σ) rfl in_SF 3 (by decide) wf_SF_39 rfl d_SF_rebuild_1 ?_
  refine g_get cx wo m4 (cel_4 E ad n σ) rfl in_PW 0 (by decide) wf_SF_81 rfl d_SF_rebuild_4 ?_
  refine lv_if_ne (tgt := 20) hx hb d_SF_rebuild_7 (by decide) (fun c1 => ?_) (fun c1 => ?_)
  · have hD := ite_n hD c1
    refine lv_iconst (v := 0) hx hb d_SF_rebuild_20 (by decide) ?_
    refine lv_istore_n (lv' := [(1, .int (0 : Int32)), (0, .ref (ad 0))]) hx hb d_SF_rebuild_21 rfl hl (by decide) rfl (fun ls hl => ?_)
    have lp18 : ∀ (k4 : Nat) (σ2 : HS) (x5 : Int32) (H : Heap) (locs : List Loc) (ls : Array Slot) (res3 : (HS) ⊕ (HS × (Int32 ⊕ Nat))), D_SF_rebuild_L22 F n  k4 σ2 x5 = some res3 → (∀ z, res3 = Sum.inr z → (σo, r) = z) → (∀ (σ17 : HS) (H : Heap) (locs : List Loc) (ls : Array Slot), res3 = Sum.inl σ17 → Wo E (va_A (wl E ad n L σ) sz) s.heap (wl E ad n L σ17) H locs → lv_has ls 4 [] → W p l e ({ frames := 6, cells := 1, slots := 6, locals := 135 }) s m ([.ref (ad 0)] : List Value).toArray below meth c H locs 0 0 (MQX below (QX E (wl E ad n L σ) sz (outI r) (wl E ad n L σo)) ([.ref (ad 0)] : List Value).toArray s 1 6 (va_A (wl E ad n L σ) sz)) (F0 m 86 ls [])) → Wo E (va_A (wl E ad n L σ) sz) s.heap (wl E ad n L σ2) H locs → lv_has ls 4 [(1, .int x5), (0, .ref (ad 0))] → W p l e ({ frames := 6, cells := 1, slots := 6, locals := 135 }) s m ([.ref (ad 0)] : List Value).toArray below meth c H locs 0 0 (MQX below (QX E (wl E ad n L σ) sz (outI r) (wl E ad n L σo)) ([.ref (ad 0)] : List Value).toArray s 1 6 (va_A (wl E ad n L σ) sz)) (F0 m 22 ls []) := by
      intro k4
      induction k4 with
      | zero =>
        intro σ2 x5 H locs ls res3 hD
        rw [D_SF_rebuild_L22.eq_1] at hD
        cases hD
      | succ k4 ih =>
        intro σ2 x5 H locs ls res3 hD hret hex wo hl
        rw [D_SF_rebuild_L22.eq_2] at hD
        refine lv_iload_n hx hb d_SF_rebuild_22 rfl (lv_at hl 0 rfl) ?_
        refine lv_aload_n hx hb d_SF_rebuild_23 rfl (lv_at hl 1 rfl) ?_
        refine g_get cx wo m0 (cel_0 E ad n σ2) rfl in_SF 0 (by decide) wf_SF_12 rfl d_SF_rebuild_24 ?_
        refine g_get cx wo m1 (cel_1 E ad n σ2) rfl in_LA 2 (by decide) wf_SF_159 rfl d_SF_rebuild_27 ?_
        refine lv_icmp_ge (tgt := 86) hx hb d_SF_rebuild_30 (by decide) (fun c6 => ?_) (fun c6 => ?_)
        · have hD := ite_p hD c6
          exact hex σ2 _ _ _ (Option.some.inj hD).symm wo (lv_sub hl [] rfl)
        · have hD := ite_n hD c6
          refine lv_aload_n hx hb d_SF_rebuild_33 rfl (lv_at hl 1 rfl) ?_
          refine g_get cx wo m0 (cel_0 E ad n σ2) rfl in_SF 2 (by decide) wf_SF_32 rfl d_SF_rebuild_34 ?_
          refine lv_iload_n hx hb d_SF_rebuild_37 rfl (lv_at hl 0 rfl) ?_
          obtain ⟨x7, hcx7, hD⟩ := bd_s hD
          try dsimp only [nm2] at hD
          refine call_Vi cx wo (k_PL_firstFreeSpare l E ad n L (fun a h => hL a ((by decide : ∀ a ∈ ([1, 2, 3, 9, 10, 16] : List Nat), a ∈ ([0, 1, 2, 3, 4, 7, 9, 10, 11, 12, 13, 14, 15, 16] : List Nat)) a h)) F σ2  x5 x7 hcx7) m3 (cel_3 E ad n σ2) rfl rfl mw_PL_firstFreeSpare wm_SF_184 ⟨by decide, by decide⟩ ⟨by decide, by decide⟩ hl.1 rfl (Nat.le_of_ble_eq_true rfl) d_SF_rebuild_38 (fun H locs wo => ?_)
          refine lv_istore_n (lv' := [(2, .int x7), (1, .int x5), (0, .ref (ad 0))]) hx hb d_SF_rebuild_41 rfl hl (by decide) rfl (fun ls hl => ?_)
          refine lv_iload_n hx hb d_SF_rebuild_42 rfl (lv_at hl 0 rfl) ?_
          refine lv_iconst (v := -1) hx hb d_SF_rebuild_43 (by decide) ?_
          obtain ⟨j8, hj8, hD⟩ := jn_s hD
          try dsimp only at hD
          have j8_ok : ∀ (x9 : Int32) (H : Heap) (locs : List Loc) (ls : Array Slot), j8 x9 = some res3 → Wo E (va_A (wl E ad n L σ) sz) s.heap (wl E ad n L σ2) H locs → lv_has ls 4 [(2, .int x7), (1, .int x5), (0, .ref (ad 0))] → W p l e ({ frames := 6, cells := 1, slots := 6, locals := 135 }) s m ([.ref (ad 0)] : List Value).toArray below meth c H locs 0 0 (MQX below (QX E (wl E ad n L σ) sz (outI r) (wl E ad n L σo)) ([.ref (ad 0)] : List Value).toArray s 1 6 (va_A (wl E ad n L σ) sz)) (F0 m 59 ls [.int x9]) := by
            intro x9 H locs ls hD wo hl
            rw [hj8] at hD
            try dsimp only at hD
            refine lv_istore_n (lv' := [(3, .int x9), (2, .int x7), (1, .int x5), (0, .ref (ad 0))]) hx hb d_SF_rebuild_59 rfl hl (by decide) rfl (fun ls hl => ?_)
            refine lv_iload_n hx hb d_SF_rebuild_60 rfl (lv_at hl 0 rfl) ?_
            refine lv_iconst (v := -1) hx hb d_SF_rebuild_61 (by decide) ?_
            refine lv_icmp_eq (tgt := 80) hx hb d_SF_rebuild_62 (by decide) (fun c10 => ?_) (fun c10 => ?_)
            · have hD := ite_p hD c10
              obtain ⟨x11, ex11⟩ : ∃ y : Int32, y = x5 + (1 : Int32) := ⟨_, rfl⟩
              have hD := nm_at hD ex11
              try dsimp only at hD
              refine lv_iinc (v := x11) (lv' := [(1, .int x11), (3, .int x9), (2, .int x7), (0, .ref (ad 0))]) hx hb d_SF_rebuild_80 hl (k := 2) rfl (by rw [ex11]; rfl) (by decide) rfl (fun ls hl => ?_)
              refine lv_goto (tgt := 22) hx hb d_SF_rebuild_83 (by decide) ?_
              exact ih σ2 x11 _ _ _ _ hD hret hex wo (lv_sub hl [0, 3] rfl)
            · have hD := ite_n hD c10
              refine lv_aload_n hx hb d_SF_rebuild_65 rfl (lv_at hl 3 rfl) ?_
              refine lv_iload_n hx hb d_SF_rebuild_66 rfl (lv_at hl 0 rfl) ?_
              refine lv_iload_n hx hb d_SF_rebuild_67 rfl (lv_at hl 1 rfl) ?_
              obtain ⟨⟨σ13, x12⟩, hcx12, hD⟩ := bd_s hD
              try dsimp only [nm2] at hD
              refine call_Vi cx wo (k_SF_moveTo l E ad n L (fun a h => hL a ((by decide : ∀ a ∈ ([0, 1, 2, 3, 4, 7, 11, 12, 13, 14, 15, 16] : List Nat), a ∈ ([0, 1, 2, 3, 4, 7, 9, 10, 11, 12, 13, 14, 15, 16] : List Nat)) a h)) F σ2 σ13 x9 x7 x12 hcx12) m0 (cel_0 E ad n σ2) rfl rfl mw_SF_moveTo wm_SF_190 ⟨by decide, by decide⟩ ⟨by decide, by decide⟩ hl.1 rfl (Nat.le_of_ble_eq_true rfl) d_SF_rebuild_68 (fun H locs wo => ?_)
              refine lv_if_eq (tgt := 78) hx hb d_SF_rebuild_71 (by decide) (fun c14 => ?_) (fun c14 => ?_)
              · have hD := ite_p hD c14
                refine lv_iconst (v := -1) hx hb d_SF_rebuild_78 (by decide) ?_
                have hz := hret _ (Option.some.inj hD).symm
                cases hz
                exact tX_i cx wo rfl d_SF_rebuild_79
              · have hD := ite_n hD c14
                refine lv_iconst (v := 1) hx hb d_SF_rebuild_74 (by decide) ?_
                refine lv_goto (tgt := 79) hx hb d_SF_rebuild_75 (by decide) ?_
                have hz := hret _ (Option.some.inj hD).symm
                cases hz
                exact tX_i cx wo rfl d_SF_rebuild_79
          refine lv_icmp_ne (tgt := 51) hx hb d_SF_rebuild_44 (by decide) (fun c15 => ?_) (fun c15 => ?_)
          · have hD := ite_n hD c15
            refine lv_aload_n hx hb d_SF_rebuild_51 rfl (lv_at hl 2 rfl) ?_
            refine g_get cx wo m0 (cel_0 E ad n σ2) rfl in_SF 2 (by decide) wf_SF_32 rfl d_SF_rebuild_52 ?_
            refine lv_iload_n hx hb d_SF_rebuild_55 rfl (lv_at hl 1 rfl) ?_
            obtain ⟨x16, hcx16, hD⟩ := bd_s hD
            try dsimp only [nm2] at hD
            refine call_Vi cx wo (k_PL_firstToRebuild l E ad n L (fun a h => hL a ((by decide : ∀ a ∈ ([1, 2, 3, 9, 10, 15] : List Nat), a ∈ ([0, 1, 2, 3, 4, 7, 9, 10, 11, 12, 13, 14, 15, 16] : List Nat)) a h)) F σ2  x5 x16 hcx16) m3 (cel_3 E ad n σ2) rfl rfl mw_PL_firstToRebuild wm_SF_187 ⟨by decide, by decide⟩ ⟨by decide, by decide⟩ hl.1 rfl (Nat.le_of_ble_eq_true rfl) d_SF_rebuild_56 (fun H locs wo => ?_)
            exact j8_ok x16 _ _ _ hD wo (lv_sub hl [0, 1, 2] rfl)
          · have hD := ite_p hD c15
            refine lv_iconst (v := -1) hx hb d_SF_rebuild_47 (by decide) ?_
            refine lv_goto (tgt := 59) hx hb d_SF_rebuild_48 (by decide) ?_
            exact j8_ok (-1 : Int32) _ _ _ hD wo (lv_sub hl [0, 1, 2] rfl)
    obtain ⟨res19, hr20, hD⟩ := bd_s hD
    refine lp18 F σ (0 : Int32) _ _ _ _ hr20 (fun z hz => by subst hz; exact (Option.some.inj hD).symm) (fun σ17 H locs ls hz wo hl => ?_) wo (lv_sub hl [0, 1] rfl)
    subst hz
    try dsimp only at hD
    refine lv_iconst (v := 0) hx hb d_SF_rebuild_86 (by decide) ?_
    cases hD
    exact tX_i cx wo rfl d_SF_rebuild_87
  · have hD := ite_p hD c1
    cases hD
    exact t_throw (k := 2) cx hsz hne kt sx hfl wo own_2 (by decide) wk_SF_67 wp_IS wn_IS (tx := "it is off") (by decide) hl.1 ⟨by decide, by decide, by decide, by decide⟩ d_SF_rebuild_10 d_SF_rebuild_13 d_SF_rebuild_14 d_SF_rebuild_16 d_SF_rebuild_19
def D_SF_copyBack (F : Nat) (n : Nat → Nat) (σ : HS)  : Option (HS × (Int32 ⊕ Nat)) :=
(if (σ.1 4 0) = 0 then
    some (σ, Sum.inr 2)
  else
    (D_PL_firstToCopyBack F n σ ).bind (fun (x2 : Int32) =>
    (if x2 = (-1 : Int32) then
      some (σ, Sum.inl (0 : Int32))
    else
      grd (inb x2 (n 15)) (
      nm (σ.1 15 (x2).toNatClampNeg) (fun x5 =>
      grd (inb x2 (n 9)) (
      (D_SF_moveTo F n σ x2 (σ.1 9 (x2).toNatClampNeg)).bind (fun (qx7 : HS × Int32) => nm2 qx7 (fun (σ8 : HS) (x7 : Int32) =>
      (if x7 = 0 then
        some (σ8, Sum.inl (-1 : Int32))
      else
        (if x5 = (-1 : Int32) then
          some (σ8, Sum.inl (1 : Int32))
        else
          (D_SF_putCell_8 F n σ8 x5 (0 : Int32)).bind (fun (qx11 : HS × Int32) => nm2 qx11 (fun (σ12 : HS) (x11 : Int32) =>
          (if x11 = 0 then
            some (σ12, Sum.inl (-1 : Int32))
          else
            some (σ12, Sum.inl (1 : Int32)))))))))))))))
set_option maxRecDepth 100000 in
set_option maxHeartbeats 4000000 in
theorem k_SF_copyBack (l : Launch) (hfl : l.stackTraces = false) (E : EV) (ad n : Nat → Nat) (L : List Nat) (hL : ∀ a ∈ ([0, 1, 2, 3, 4, 7, 8, 9, 10, 11, 12, 13, 14, 15, 16] : List Nat), a ∈ L) (F : Nat) (σ σo : HS)  (r : Int32 ⊕ Nat) (hD : D_SF_copyBack F n σ  = some (σo, r)) : CtX l E y_SF_copyBack c_SF_copyBack 3 (some FieldType.int) ({ frames := 6, cells := 1, slots := 6, locals := 135 }) [.ref (ad 0)] (wl E ad n L σ) (outI r) (wl E ad n L σo) := by
  refine fun sz => entX (by decide) (Nat.le_of_ble_eq_true rfl) ?_
  intro p e s m below meth c hsz cx hne kt sx wo ls hl
  have hx := cx.1.1
  have hb := cx.1.2.1
  have hown := cx.1.2.2.2.1
  have hts := cx.1.2.2.2.2
  have hl : lv_has ls 3 [(0, .ref (ad 0))] := hl
  have m0 : 0 ∈ L := hL 0 (by decide)
  have m1 : 1 ∈ L := hL 1 (by decide)
  have m2 : 2 ∈ L := hL 2 (by decide)
  have m3 : 3 ∈ L := hL 3 (by decide)
  have m4 : 4 ∈ L := hL 4 (by decide)
  have m7 : 7 ∈ L := hL 7 (by decide)
  have m8 : 8 ∈ L := hL 8 (by decide)
  have m9 : 9 ∈ L := hL 9 (by decide)
  have m10 : 10 ∈ L := hL 10 (by decide)
  have m11 : 11 ∈ L := hL 11 (by decide)
  have m12 : 12 ∈ L := hL 12 (by decide)
  have m13 : 13 ∈ L := hL 13 (by decide)
  have m14 : 14 ∈ L := hL 14 (by decide)
  have m15 : 15 ∈ L := hL 15 (by decide)
  have m16 : 16 ∈ L := hL 16 (by decide)
  rw [D_SF_copyBack] at hD
  refine lv_aload_n hx hb d_SF_copyBack_0 rfl (lv_at hl 0 rfl) ?_
  refine g_get cx wo m0 (cel_0 E ad n σ) rfl in_SF 3 (by decide) wf_SF_39 rfl d_SF_copyBack_1 ?_
  refine g_get cx wo m4 (cel_4 E ad n σ) rfl in_PW 0 (by decide) wf_SF_81 rfl d_SF_copyBack_4 ?_
  refine lv_if_ne (tgt := 20) hx hb d_SF_copyBack_7 (by decide) (fun c1 => ?_) (fun c1 => ?_)
  · have hD := ite_n hD c1
    refine lv_aload_n hx hb d_SF_copyBack_20 rfl (lv_at hl 0 rfl) ?_
    refine g_get cx wo m0 (cel_0 E ad n σ) rfl in_SF 2 (by decide) wf_SF_32 rfl d_SF_copyBack_21 ?_
    obtain ⟨x2, hcx2, hD⟩ := bd_s hD
    try dsimp only [nm2] at hD
    refine call_Vi cx wo (k_PL_firstToCopyBack l E ad n L (fun a h => hL a ((by decide : ∀ a ∈ ([1, 2, 3, 9, 10, 13] : List Nat), a ∈ ([0, 1, 2, 3, 4, 7, 8, 9, 10, 11, 12, 13, 14, 15, 16] : List Nat)) a h)) F σ   x2 hcx2) m3 (cel_3 E ad n σ) rfl rfl mw_PL_firstToCopyBack wm_SF_193 ⟨by decide, by decide⟩ ⟨by decide, by decide⟩ hl.1 rfl (Nat.le_of_ble_eq_true rfl) d_SF_copyBack_24 (fun H locs wo => ?_)
    refine lv_istore_n (lv' := [(1, .int x2), (0, .ref (ad 0))]) hx hb d_SF_copyBack_27 rfl hl (by decide) rfl (fun ls hl => ?_)
    refine lv_iload_n hx hb d_SF_copyBack_28 rfl (lv_at hl 0 rfl) ?_
    refine lv_iconst (v := -1) hx hb d_SF_copyBack_29 (by decide) ?_
    refine lv_icmp_ne (tgt := 35) hx hb d_SF_copyBack_30 (by decide) (fun c3 => ?_) (fun c3 => ?_)
    · have hD := ite_n hD c3
      refine lv_aload_n hx hb d_SF_copyBack_35 rfl (lv_at hl 1 rfl) ?_
      refine g_get cx wo m0 (cel_0 E ad n σ) rfl in_SF 2 (by decide) wf_SF_32 rfl d_SF_copyBack_36 ?_
      refine g_get cx wo m3 (cel_3 E ad n σ) rfl in_PL 0 (by decide) wf_SF_197 rfl d_SF_copyBack_39 ?_
      refine lv_iload_n hx hb d_SF_copyBack_42 rfl (lv_at hl 0 rfl) ?_
      obtain ⟨g4, hD⟩ := grd_s hD
      refine g_iald cx wo m15 (cel_15 E ad n σ) g4 d_SF_copyBack_43 ?_
      refine lv_topi (fun x5 ex5 => ?_)
      have hD := nm_at hD ex5
      try dsimp only at hD
      refine lv_istore_n (lv' := [(2, .int x5), (1, .int x2), (0, .ref (ad 0))]) hx hb d_SF_copyBack_44 rfl hl (by decide) rfl (fun ls hl => ?_)
      refine lv_aload_n hx hb d_SF_copyBack_45 rfl (lv_at hl 2 rfl) ?_
      refine lv_iload_n hx hb d_SF_copyBack_46 rfl (lv_at hl 1 rfl) ?_
      refine lv_aload_n hx hb d_SF_copyBack_47 rfl (lv_at hl 2 rfl) ?_
      refine g_get cx wo m0 (cel_0 E ad n σ) rfl in_SF 0 (by decide) wf_SF_12 rfl d_SF_copyBack_48 ?_
      refine g_get cx wo m1 (cel_1 E ad n σ) rfl in_LA 9 (by decide) wf_SF_200 rfl d_SF_copyBack_51 ?_
      refine lv_iload_n hx hb d_SF_copyBack_54 rfl (lv_at hl 1 rfl) ?_
      obtain ⟨g6, hD⟩ := grd_s hD
      refine g_iald cx wo m9 (cel_9 E ad n σ) g6 d_SF_copyBack_55 ?_
      obtain ⟨⟨σ8, x7⟩, hcx7, hD⟩ := bd_s hD
      try dsimp only [nm2] at hD
      refine call_Vi cx wo (k_SF_moveTo l E ad n L (fun a h => hL a ((by decide : ∀ a ∈ ([0, 1, 2, 3, 4, 7, 11, 12, 13, 14, 15, 16] : List Nat), a ∈ ([0, 1, 2, 3, 4, 7, 8, 9, 10, 11, 12, 13, 14, 15, 16] : List Nat)) a h)) F σ σ8 x2 (σ.1 9 (x2).toNatClampNeg) x7 hcx7) m0 (cel_0 E ad n σ) rfl rfl mw_SF_moveTo wm_SF_190 ⟨by decide, by decide⟩ ⟨by decide, by decide⟩ hl.1 rfl (Nat.le_of_ble_eq_true rfl) d_SF_copyBack_56 (fun H locs wo => ?_)
      refine lv_if_ne (tgt := 64) hx hb d_SF_copyBack_59 (by decide) (fun c9 => ?_) (fun c9 => ?_)
      · have hD := ite_n hD c9
        refine lv_iload_n hx hb d_SF_copyBack_64 rfl (lv_at hl 0 rfl) ?_
        refine lv_iconst (v := -1) hx hb d_SF_copyBack_65 (by decide) ?_
        refine lv_icmp_eq (tgt := 82) hx hb d_SF_copyBack_66 (by decide) (fun c10 => ?_) (fun c10 => ?_)
        · have hD := ite_p hD c10
          refine lv_iconst (v := 1) hx hb d_SF_copyBack_82 (by decide) ?_
          refine lv_goto (tgt := 87) hx hb d_SF_copyBack_83 (by decide) ?_
          cases hD
          exact tX_i cx wo rfl d_SF_copyBack_87
        · have hD := ite_n hD c10
          refine lv_aload_n hx hb d_SF_copyBack_69 rfl (lv_at hl 2 rfl) ?_
          refine lv_iload_n hx hb d_SF_copyBack_70 rfl (lv_at hl 0 rfl) ?_
          refine lv_aload_n hx hb d_SF_copyBack_71 rfl (lv_at hl 2 rfl) ?_
          refine g_get cx wo m0 (cel_0 E ad n σ8) rfl in_SF 10 (by decide) wf_SF_53 rfl d_SF_copyBack_72 ?_
          refine lv_iconst (v := 0) hx hb d_SF_copyBack_75 (by decide) ?_
          obtain ⟨⟨σ12, x11⟩, hcx11, hD⟩ := bd_s hD
          try dsimp only [nm2] at hD
          refine call_Vi cx wo (k_SF_putCell_8 l E ad n L (fun a h => hL a ((by decide : ∀ a ∈ ([0, 2, 4, 8, 11, 12, 13, 14] : List Nat), a ∈ ([0, 1, 2, 3, 4, 7, 8, 9, 10, 11, 12, 13, 14, 15, 16] : List Nat)) a h)) F σ8 σ12 x5 (0 : Int32) x11 hcx11) m0 (cel_0 E ad n σ8) rfl rfl mw_SF_putCell wm_SF_203 ⟨by decide, by decide⟩ ⟨by decide, by decide⟩ hl.1 rfl (Nat.le_of_ble_eq_true rfl) d_SF_copyBack_76 (fun H locs wo => ?_)
          refine lv_if_eq (tgt := 86) hx hb d_SF_copyBack_79 (by decide) (fun c13 => ?_) (fun c13 => ?_)
          · have hD := ite_p hD c13
            refine lv_iconst (v := -1) hx hb d_SF_copyBack_86 (by decide) ?_
            cases hD
            exact tX_i cx wo rfl d_SF_copyBack_87
          · have hD := ite_n hD c13
            refine lv_iconst (v := 1) hx hb d_SF_copyBack_82 (by decide) ?_
            refine lv_goto (tgt := 87) hx hb d_SF_copyBack_83 (by decide) ?_
            cases hD
            exact tX_i cx wo rfl d_SF_copyBack_87
      · have hD := ite_p hD c9
        refine lv_iconst (v := -1) hx hb d_SF_copyBack_62 (by decide) ?_
        cases hD
        exact tX_i cx wo rfl d_SF_copyBack_63
    · have hD := ite_p hD c3
      refine lv_iconst (v := 0) hx hb d_SF_copyBack_33 (by decide) ?_
      cases hD
      exact tX_i cx wo rfl d_SF_copyBack_34
  · have hD := ite_p hD c1
    cases hD
    exact t_throw (k := 2) cx hsz hne kt sx hfl wo own_2 (by decide) wk_SF_67 wp_IS wn_IS (tx := "it is off") (by decide) hl.1 ⟨by decide, by decide, by decide, by decide⟩ d_SF_copyBack_10 d_SF_copyBack_13 d_SF_copyBack_14 d_SF_copyBack_16 d_SF_copyBack_19
def D_SF_scrub (F : Nat) (n : Nat → Nat) (σ : HS)  : Option (HS × (Int32 ⊕ Nat)) :=
(if (σ.1 4 0) = 0 then
    some (σ, Sum.inr 2)
  else
    nm (σ.1 0 6) (fun x2 =>
    jn (fun (x4 : Int32) =>
      nm (stF σ 0 6 x4) (fun σ5 =>
      (D_SF_spoiltColumn F n σ5 x2).bind (fun (x6 : Int32) =>
      (if x6 = (-1 : Int32) then
        (D_SF_isHole F n σ5 x2).bind (fun (qx8 : HS × Int32) => nm2 qx8 (fun (σ9 : HS) (x8 : Int32) =>
        (if x8 = 0 then
          some (σ9, Sum.inl (0 : Int32))
        else
          nm (stF σ9 0 7 ((σ9.1 0 7) + (1 : Int32))) (fun σ11 =>
          some (σ11, Sum.inl (0 : Int32))))))
      else
        (D_AR_fillJ_7 F n σ5 (0 : Int64)).bind (fun (σ13 : HS) =>
        (D_SF_addOthers F n σ13 x2 x6).bind (fun (σ15 : HS) =>
        (D_SF_putColumn_7 F n σ15 x2 x6).bind (fun (qx16 : HS × Int32) => nm2 qx16 (fun (σ17 : HS) (x16 : Int32) =>
        (if x16 = 0 then
          some (σ17, Sum.inl (-1 : Int32))
        else
          some (σ17, Sum.inl (1 : Int32)))))))))))
    (fun j3 =>
    (if (σ.1 1 4) ≤ (x2 + (1 : Int32)) then
      j3 (0 : Int32)
    else
      j3 (x2 + (1 : Int32))))))
set_option maxRecDepth 100000 in
set_option maxHeartbeats 4000000 in
theorem k_SF_scrub (l : Launch) (hfl : l.stackTraces = false) (E : EV) (ad n : Nat → Nat) (L : List Nat) (hL : ∀ a ∈ ([0, 1, 2, 3, 4, 7, 11, 12, 13, 14, 15] : List Nat), a ∈ L) (F : Nat) (σ σo : HS)  (r : Int32 ⊕ Nat) (hD : D_SF_scrub F n σ  = some (σo, r)) : CtX l E y_SF_scrub c_SF_scrub 3 (some FieldType.int) ({ frames := 6, cells := 1, slots := 6, locals := 96 }) [.ref (ad 0)] (wl E ad n L σ) (outI r) (wl E ad n L σo) := by
  refine fun sz => entX (by decide) (Nat.le_of_ble_eq_true rfl) ?_
  intro p e s m below meth c hsz cx hne kt sx wo ls hl
  have hx := cx.1.1
  have hb := cx.1.2.1
  have hown := cx.1.2.2.2.1
  have hts := cx.1.2.2.2.2
  have hl : lv_has ls 3 [(0, .ref (ad 0))] := hl
  have m0 : 0 ∈ L := hL 0 (by decide)
  have m1 : 1 ∈ L := hL 1 (by decide)
  have m2 : 2 ∈ L := hL 2 (by decide)
  have m3 : 3 ∈ L := hL 3 (by decide)
  have m4 : 4 ∈ L := hL 4 (by decide)
  have m7 : 7 ∈ L := hL 7 (by decide)
  have m11 : 11 ∈ L := hL 11 (by decide)
  have m12 : 12 ∈ L := hL 12 (by decide)
  have m13 : 13 ∈ L := hL 13 (by decide)
  have m14 : 14 ∈ L := hL 14 (by decide)
  have m15 : 15 ∈ L := hL 15 (by decide)
  rw [D_SF_scrub] at hD
  refine lv_aload_n hx hb d_SF_scrub_0 rfl (lv_at hl 0 rfl) ?_
  refine g_get cx wo m0 (cel_0 E ad n σ) rfl in_SF 3 (by decide) wf_SF_39 rfl d_SF_scrub_1 ?_
  refine g_get cx wo m4 (cel_4 E ad n σ) rfl in_PW 0 (by decide) wf_SF_81 rfl d_SF_scrub_4 ?_
  refine lv_if_ne (tgt := 20) hx hb d_SF_scrub_7 (by decide) (fun c1 => ?_) (fun c1 => ?_)
  · have hD := ite_n hD c1
    refine lv_aload_n hx hb d_SF_scrub_20 rfl (lv_at hl 0 rfl) ?_
    refine g_get cx wo m0 (cel_0 E ad n σ) rfl in_SF 6 (by decide) wf_SF_123 rfl d_SF_scrub_21 ?_
    refine lv_topi (fun x2 ex2 => ?_)
    have hD := nm_at hD ex2
    try dsimp only at hD
    refine lv_istore_n (lv' := [(1, .int x2), (0, .ref (ad 0))]) hx hb d_SF_scrub_24 rfl hl (by decide) rfl (fun ls hl => ?_)
    refine lv_aload_n hx hb d_SF_scrub_25 rfl (lv_at hl 1 rfl) ?_
    refine lv_iload_n hx hb d_SF_scrub_26 rfl (lv_at hl 0 rfl) ?_
    refine lv_iconst (v := 1) hx hb d_SF_scrub_27 (by decide) ?_
    refine lv_iadd hx hb d_SF_scrub_28 ?_
    refine lv_aload_n hx hb d_SF_scrub_29 rfl (lv_at hl 1 rfl) ?_
    refine g_get cx wo m0 (cel_0 E ad n σ) rfl in_SF 0 (by decide) wf_SF_12 rfl d_SF_scrub_30 ?_
    refine g_get cx wo m1 (cel_1 E ad n σ) rfl in_LA 4 (by decide) wf_SF_207 rfl d_SF_scrub_33 ?_
    obtain ⟨j3, hj3, hD⟩ := jn_s hD
    try dsimp only at hD
    have j3_ok : ∀ (x4 : Int32) (H : Heap) (locs : List Loc) (ls : Array Slot), j3 x4 = some (σo, r) → Wo E (va_A (wl E ad n L σ) sz) s.heap (wl E ad n L σ) H locs → lv_has ls 3 [(1, .int x2), (0, .ref (ad 0))] → W p l e ({ frames := 6, cells := 1, slots := 6, locals := 96 }) s m ([.ref (ad 0)] : List Value).toArray below meth c H locs 0 0 (MQX below (QX E (wl E ad n L σ) sz (outI r) (wl E ad n L σo)) ([.ref (ad 0)] : List Value).toArray s 1 6 (va_A (wl E ad n L σ) sz)) (F0 m 46 ls [.int x4, .ref (ad 0)]) := by
      intro x4 H locs ls hD wo hl
      rw [hj3] at hD
      try dsimp only at hD
      refine g_put cx wo m0 (cel_0 E ad n σ) rfl in_SF t_SF tok_SF n_SF 6 (by decide) wf_SF_123 rfl rfl rfl (Nat.le_of_ble_eq_true rfl) rfl d_SF_scrub_46 (fun H locs wo => ?_)
      obtain ⟨σ5, eσ5⟩ : ∃ z, z = stF σ 0 6 x4 := ⟨_, rfl⟩
      rw [← eσ5] at wo
      have hD := nm_at hD eσ5
      try dsimp only at hD
      refine lv_aload_n hx hb d_SF_scrub_49 rfl (lv_at hl 1 rfl) ?_
      refine lv_iload_n hx hb d_SF_scrub_50 rfl (lv_at hl 0 rfl) ?_
      obtain ⟨x6, hcx6, hD⟩ := bd_s hD
      try dsimp only [nm2] at hD
      refine call_Vi cx wo (k_SF_spoiltColumn l E ad n L (fun a h => hL a ((by decide : ∀ a ∈ ([0, 1, 2, 3, 14, 15] : List Nat), a ∈ ([0, 1, 2, 3, 4, 7, 11, 12, 13, 14, 15] : List Nat)) a h)) F σ5  x2 x6 hcx6) m0 (cel_0 E ad n σ5) rfl rfl mw_SF_spoiltColumn wm_SF_210 ⟨by decide, by decide⟩ ⟨by decide, by decide⟩ hl.1 rfl (Nat.le_of_ble_eq_true rfl) d_SF_scrub_51 (fun H locs wo => ?_)
      refine lv_istore_n (lv' := [(2, .int x6), (1, .int x2), (0, .ref (ad 0))]) hx hb d_SF_scrub_54 rfl hl (by decide) rfl (fun ls hl => ?_)
      refine lv_iload_n hx hb d_SF_scrub_55 rfl (lv_at hl 0 rfl) ?_
      refine lv_iconst (v := -1) hx hb d_SF_scrub_56 (by decide) ?_
      refine lv_icmp_eq (tgt := 93) hx hb d_SF_scrub_57 (by decide) (fun c7 => ?_) (fun c7 => ?_)
      · have hD := ite_p hD c7
        refine lv_aload_n hx hb d_SF_scrub_93 rfl (lv_at hl 2 rfl) ?_
        refine lv_iload_n hx hb d_SF_scrub_94 rfl (lv_at hl 1 rfl) ?_
        obtain ⟨⟨σ9, x8⟩, hcx8, hD⟩ := bd_s hD
        try dsimp only [nm2] at hD
        refine call_Vi cx wo (k_SF_isHole l E ad n L (fun a h => hL a ((by decide : ∀ a ∈ ([0, 1, 2, 3, 7, 11, 15] : List Nat), a ∈ ([0, 1, 2, 3, 4, 7, 11, 12, 13, 14, 15] : List Nat)) a h)) F σ5 σ9 x2 x8 hcx8) m0 (cel_0 E ad n σ5) rfl rfl mw_SF_isHole wm_SF_220 ⟨by decide, by decide⟩ ⟨by decide, by decide⟩ hl.1 rfl (Nat.le_of_ble_eq_true rfl) d_SF_scrub_95 (fun H locs wo => ?_)
        refine lv_if_eq (tgt := 111) hx hb d_SF_scrub_98 (by decide) (fun c10 => ?_) (fun c10 => ?_)
        · have hD := ite_p hD c10
          refine lv_iconst (v := 0) hx hb d_SF_scrub_111 (by decide) ?_
          cases hD
          exact tX_i cx wo rfl d_SF_scrub_112
        · have hD := ite_n hD c10
          refine lv_aload_n hx hb d_SF_scrub_101 rfl (lv_at hl 2 rfl) ?_
          refine lv_dup hx hb d_SF_scrub_102 rfl ?_
          refine g_get cx wo m0 (cel_0 E ad n σ9) rfl in_SF 7 (by decide) wf_SF_223 rfl d_SF_scrub_103 ?_
          refine lv_iconst (v := 1) hx hb d_SF_scrub_106 (by decide) ?_
          refine lv_iadd hx hb d_SF_scrub_107 ?_
          refine g_put cx wo m0 (cel_0 E ad n σ9) rfl in_SF t_SF tok_SF n_SF 7 (by decide) wf_SF_223 rfl rfl rfl (Nat.le_of_ble_eq_true rfl) rfl d_SF_scrub_108 (fun H locs wo => ?_)
          obtain ⟨σ11, eσ11⟩ : ∃ z, z = stF σ9 0 7 ((σ9.1 0 7) + (1 : Int32)) := ⟨_, rfl⟩
          rw [← eσ11] at wo
          have hD := nm_at hD eσ11
          try dsimp only at hD
          refine lv_iconst (v := 0) hx hb d_SF_scrub_111 (by decide) ?_
          cases hD
          exact tX_i cx wo rfl d_SF_scrub_112
      · have hD := ite_n hD c7
        refine lv_aload_n hx hb d_SF_scrub_60 rfl (lv_at hl 2 rfl) ?_
        refine g_get cx wo m0 (cel_0 E ad n σ5) rfl in_SF 9 (by decide) wf_SF_50 rfl d_SF_scrub_61 ?_
        refine lv_lconst (v := 0) hx hb d_SF_scrub_64 (by decide) ?_
        obtain ⟨σ13, hcx12, hD⟩ := bd_s hD
        try dsimp only [nm2] at hD
        refine call_Sv cx wo (k_AR_fillJ_7 l E ad n L (fun a h => hL a ((by decide : ∀ a ∈ ([7] : List Nat), a ∈ ([0, 1, 2, 3, 4, 7, 11, 12, 13, 14, 15] : List Nat)) a h)) F σ5 σ13 (0 : Int64) hcx12) mw_AR_fillJ wm_SF_103 ⟨by decide, by decide⟩ ⟨by decide, by decide⟩ hl.1 rfl (Nat.le_of_ble_eq_true rfl) d_SF_scrub_65 (fun H locs wo => ?_)
        refine lv_aload_n hx hb d_SF_scrub_68 rfl (lv_at hl 2 rfl) ?_
        refine lv_iload_n hx hb d_SF_scrub_69 rfl (lv_at hl 1 rfl) ?_
        refine lv_iload_n hx hb d_SF_scrub_70 rfl (lv_at hl 0 rfl) ?_
        obtain ⟨σ15, hcx14, hD⟩ := bd_s hD
        try dsimp only [nm2] at hD
        refine call_Vv cx wo (k_SF_addOthers l E ad n L (fun a h => hL a ((by decide : ∀ a ∈ ([0, 1, 2, 3, 7, 11, 15] : List Nat), a ∈ ([0, 1, 2, 3, 4, 7, 11, 12, 13, 14, 15] : List Nat)) a h)) F σ13 σ15 x2 x6 hcx14) m0 (cel_0 E ad n σ13) rfl rfl mw_SF_addOthers wm_SF_213 ⟨by decide, by decide⟩ ⟨by decide, by decide⟩ hl.1 rfl (Nat.le_of_ble_eq_true rfl) d_SF_scrub_71 (fun H locs wo => ?_)
        refine lv_aload_n hx hb d_SF_scrub_74 rfl (lv_at hl 2 rfl) ?_
        refine lv_iload_n hx hb d_SF_scrub_75 rfl (lv_at hl 1 rfl) ?_
        refine lv_iload_n hx hb d_SF_scrub_76 rfl (lv_at hl 0 rfl) ?_
        refine lv_aload_n hx hb d_SF_scrub_77 rfl (lv_at hl 2 rfl) ?_
        refine g_get cx wo m0 (cel_0 E ad n σ15) rfl in_SF 9 (by decide) wf_SF_50 rfl d_SF_scrub_78 ?_
        obtain ⟨⟨σ17, x16⟩, hcx16, hD⟩ := bd_s hD
        try dsimp only [nm2] at hD
        refine call_Vi cx wo (k_SF_putColumn_7 l E ad n L (fun a h => hL a ((by decide : ∀ a ∈ ([0, 1, 2, 3, 4, 7, 11, 12, 13, 14, 15] : List Nat), a ∈ ([0, 1, 2, 3, 4, 7, 11, 12, 13, 14, 15] : List Nat)) a h)) F σ15 σ17 x2 x6 x16 hcx16) m0 (cel_0 E ad n σ15) rfl rfl mw_SF_putColumn wm_SF_216 ⟨by decide, by decide⟩ ⟨by decide, by decide⟩ hl.1 rfl (Nat.le_of_ble_eq_true rfl) d_SF_scrub_81 (fun H locs wo => ?_)
        refine lv_if_eq (tgt := 91) hx hb d_SF_scrub_84 (by decide) (fun c18 => ?_) (fun c18 => ?_)
        · have hD := ite_p hD c18
          refine lv_iconst (v := -1) hx hb d_SF_scrub_91 (by decide) ?_
          cases hD
          exact tX_i cx wo rfl d_SF_scrub_92
        · have hD := ite_n hD c18
          refine lv_iconst (v := 1) hx hb d_SF_scrub_87 (by decide) ?_
          refine lv_goto (tgt := 92) hx hb d_SF_scrub_88 (by decide) ?_
          cases hD
          exact tX_i cx wo rfl d_SF_scrub_92
    refine lv_icmp_ge (tgt := 45) hx hb d_SF_scrub_36 (by decide) (fun c19 => ?_) (fun c19 => ?_)
    · have hD := ite_p hD c19
      refine lv_iconst (v := 0) hx hb d_SF_scrub_45 (by decide) ?_
      exact j3_ok (0 : Int32) _ _ _ hD wo (lv_sub hl [0, 1] rfl)
    · have hD := ite_n hD c19
      refine lv_iload_n hx hb d_SF_scrub_39 rfl (lv_at hl 0 rfl) ?_
      refine lv_iconst (v := 1) hx hb d_SF_scrub_40 (by decide) ?_
      refine lv_iadd hx hb d_SF_scrub_41 ?_
      refine lv_goto (tgt := 46) hx hb d_SF_scrub_42 (by decide) ?_
      exact j3_ok (x2 + (1 : Int32)) _ _ _ hD wo (lv_sub hl [0, 1] rfl)
  · have hD := ite_p hD c1
    cases hD
    exact t_throw (k := 2) cx hsz hne kt sx hfl wo own_2 (by decide) wk_SF_67 wp_IS wn_IS (tx := "it is off") (by decide) hl.1 ⟨by decide, by decide, by decide, by decide⟩ d_SF_scrub_10 d_SF_scrub_13 d_SF_scrub_14 d_SF_scrub_16 d_SF_scrub_19
def D_SF_look (F : Nat) (n : Nat → Nat) (σ : HS) (p1 : Int32) : Option (HS × (Int32 ⊕ Nat)) :=
(if p1 < (2 : Int32) then
    (if p1 = (0 : Int32) then
      (if (σ.1 4 0) = 0 then
        some (σ, Sum.inl (0 : Int32))
      else
        some (σ, Sum.inl (1 : Int32)))
    else (if p1 = (1 : Int32) then
      some (σ, Sum.inl (σ.1 4 2))
    else (if p1 = (2 : Int32) then
      (D_PL_countLost F n σ ).bind (fun (x6 : Int32) =>
      some (σ, Sum.inl x6))
    else (if p1 = (3 : Int32) then
      (D_PL_countSpoilt F n σ ).bind (fun (x8 : Int32) =>
      some (σ, Sum.inl x8))
    else (if p1 = (4 : Int32) then
      (D_PL_countFreeSpares F n σ ).bind (fun (x10 : Int32) =>
      some (σ, Sum.inl x10))
    else (if p1 = (5 : Int32) then
      some (σ, Sum.inl (σ.1 1 5))
    else (if p1 = (6 : Int32) then
      some (σ, Sum.inl (σ.1 0 7))
    else (if p1 = (7 : Int32) then
      some (σ, Sum.inl (σ.1 1 4))
    else (if p1 = (8 : Int32) then
      some (σ, Sum.inl (σ.1 0 6))
    else (if p1 = (9 : Int32) then
      some (σ, Sum.inl (σ.1 1 1))
    else (if p1 = (10 : Int32) then
      some (σ, Sum.inl (σ.1 1 0))
    else (if p1 = (11 : Int32) then
      (D_RK_countLive F n σ ).bind (fun (x18 : Int32) =>
      some (σ, Sum.inl x18))
    else (if p1 = (12 : Int32) then
      some (σ, Sum.inl (σ.1 0 5))
    else some (σ, Sum.inr 1))))))))))))))
  else
    (if (4 : Int32) < p1 then
      (if p1 = (0 : Int32) then
        (if (σ.1 4 0) = 0 then
          some (σ, Sum.inl (0 : Int32))
        else
          some (σ, Sum.inl (1 : Int32)))
      else (if p1 = (1 : Int32) then
        some (σ, Sum.inl (σ.1 4 2))
      else (if p1 = (2 : Int32) then
        (D_PL_countLost F n σ ).bind (fun (x25 : Int32) =>
        some (σ, Sum.inl x25))
      else (if p1 = (3 : Int32) then
        (D_PL_countSpoilt F n σ ).bind (fun (x27 : Int32) =>
        some (σ, Sum.inl x27))
      else (if p1 = (4 : Int32) then
        (D_PL_countFreeSpares F n σ ).bind (fun (x29 : Int32) =>
        some (σ, Sum.inl x29))
      else (if p1 = (5 : Int32) then
        some (σ, Sum.inl (σ.1 1 5))
      else (if p1 = (6 : Int32) then
        some (σ, Sum.inl (σ.1 0 7))
      else (if p1 = (7 : Int32) then
        some (σ, Sum.inl (σ.1 1 4))
      else (if p1 = (8 : Int32) then
        some (σ, Sum.inl (σ.1 0 6))
      else (if p1 = (9 : Int32) then
        some (σ, Sum.inl (σ.1 1 1))
      else (if p1 = (10 : Int32) then
        some (σ, Sum.inl (σ.1 1 0))
      else (if p1 = (11 : Int32) then
        (D_RK_countLive F n σ ).bind (fun (x37 : Int32) =>
        some (σ, Sum.inl x37))
      else (if p1 = (12 : Int32) then
        some (σ, Sum.inl (σ.1 0 5))
      else some (σ, Sum.inr 1))))))))))))))
    else
      (D_SF_findPlacesIfOff F n σ ).bind (fun (σ40 : HS) =>
      (if p1 = (0 : Int32) then
        (if (σ40.1 4 0) = 0 then
          some (σ40, Sum.inl (0 : Int32))
        else
          some (σ40, Sum.inl (1 : Int32)))
      else (if p1 = (1 : Int32) then
        some (σ40, Sum.inl (σ40.1 4 2))
      else (if p1 = (2 : Int32) then
        (D_PL_countLost F n σ40 ).bind (fun (x45 : Int32) =>
        some (σ40, Sum.inl x45))
      else (if p1 = (3 : Int32) then
        (D_PL_countSpoilt F n σ40 ).bind (fun (x47 : Int32) =>
        some (σ40, Sum.inl x47))
      else (if p1 = (4 : Int32) then
        (D_PL_countFreeSpares F n σ40 ).bind (fun (x49 : Int32) =>
        some (σ40, Sum.inl x49))
      else (if p1 = (5 : Int32) then
        some (σ40, Sum.inl (σ40.1 1 5))
      else (if p1 = (6 : Int32) then
        some (σ40, Sum.inl (σ40.1 0 7))
      else (if p1 = (7 : Int32) then
        some (σ40, Sum.inl (σ40.1 1 4))
      else (if p1 = (8 : Int32) then
        some (σ40, Sum.inl (σ40.1 0 6))
      else (if p1 = (9 : Int32) then
        some (σ40, Sum.inl (σ40.1 1 1))
      else (if p1 = (10 : Int32) then
        some (σ40, Sum.inl (σ40.1 1 0))
      else (if p1 = (11 : Int32) then
        (D_RK_countLive F n σ40 ).bind (fun (x57 : Int32) =>
        some (σ40, Sum.inl x57))
      else (if p1 = (12 : Int32) then
        some (σ40, Sum.inl (σ40.1 0 5))
      else none))))))))))))))))
set_option maxRecDepth 100000 in
set_option maxHeartbeats 4000000 in
theorem k_SF_look (l : Launch) (hfl : l.stackTraces = false) (E : EV) (ad n : Nat → Nat) (L : List Nat) (hL : ∀ a ∈ ([0, 1, 2, 3, 4, 9, 10, 11, 13, 14, 15, 16] : List Nat), a ∈ L) (F : Nat) (σ σo : HS) (p1 : Int32) (r : Int32 ⊕ Nat) (hD : D_SF_look F n σ p1 = some (σo, r)) : CtX l E y_SF_look c_SF_look 2 (some FieldType.int) ({ frames := 6, cells := 1, slots := 6, locals := 90 }) [.ref (ad 0), .int p1] (wl E ad n L σ) (outI r) (wl E ad n L σo) := by
  refine fun sz => entX (by decide) (Nat.le_of_ble_eq_true rfl) ?_
  intro p e s m below meth c hsz cx hne kt sx wo ls hl
  have hx := cx.1.1
  have hb := cx.1.2.1
  have hown := cx.1.2.2.2.1
  have hts := cx.1.2.2.2.2
  have hl : lv_has ls 2 [(0, .ref (ad 0)), (1, .int p1)] := hl
  have m0 : 0 ∈ L := hL 0 (by decide)
  have m1 : 1 ∈ L := hL 1 (by decide)
  have m2 : 2 ∈ L := hL 2 (by decide)
  have m3 : 3 ∈ L := hL 3 (by decide)
  have m4 : 4 ∈ L := hL 4 (by decide)
  have m9 : 9 ∈ L := hL 9 (by decide)
  have m10 : 10 ∈ L := hL 10 (by decide)
  have m11 : 11 ∈ L := hL 11 (by decide)
  have m13 : 13 ∈ L := hL 13 (by decide)
  have m14 : 14 ∈ L := hL 14 (by decide)
  have m15 : 15 ∈ L := hL 15 (by decide)
  have m16 : 16 ∈ L := hL 16 (by decide)
  rw [D_SF_look] at hD
  refine lv_iload_n hx hb d_SF_look_0 rfl (lv_at hl 1 rfl) ?_
  refine lv_iconst (v := 2) hx hb d_SF_look_1 (by decide) ?_
  refine lv_icmp_lt (tgt := 14) hx hb d_SF_look_2 (by decide) (fun c1 => ?_) (fun c1 => ?_)
  · have hD := ite_p hD c1
    refine lv_iload_n hx hb d_SF_look_14 rfl (lv_at hl 1 rfl) ?_
    by_cases c2 : p1 = (0 : Int32)
    · have hD := ite_p hD c2
      refine lv_tableIn (tgt := 80) hx hb d_SF_look_15 (by rw [c2]; decide) (by rw [c2]; decide) (off := 65) (by rw [c2]; decide) (by decide) ?_
      refine lv_aload_n hx hb d_SF_look_80 rfl (lv_at hl 0 rfl) ?_
      refine g_get cx wo m0 (cel_0 E ad n σ) rfl in_SF 3 (by decide) wf_SF_39 rfl d_SF_look_81 ?_
      refine g_get cx wo m4 (cel_4 E ad n σ) rfl in_PW 0 (by decide) wf_SF_81 rfl d_SF_look_84 ?_
      refine lv_if_eq (tgt := 94) hx hb d_SF_look_87 (by decide) (fun c3 => ?_) (fun c3 => ?_)
      · have hD := ite_p hD c3
        refine lv_iconst (v := 0) hx hb d_SF_look_94 (by decide) ?_
        cases hD
        exact tX_i cx wo rfl d_SF_look_95
      · have hD := ite_n hD c3
        refine lv_iconst (v := 1) hx hb d_SF_look_90 (by decide) ?_
        refine lv_goto (tgt := 95) hx hb d_SF_look_91 (by decide) ?_
        cases hD
        exact tX_i cx wo rfl d_SF_look_95
    have hD := ite_n hD c2
    by_cases c4 : p1 = (1 : Int32)
    · have hD := ite_p hD c4
      refine lv_tableIn (tgt := 96) hx hb d_SF_look_15 (by rw [c4]; decide) (by rw [c4]; decide) (off := 81) (by rw [c4]; decide) (by decide) ?_
      refine lv_aload_n hx hb d_SF_look_96 rfl (lv_at hl 0 rfl) ?_
      refine g_get cx wo m0 (cel_0 E ad n σ) rfl in_SF 3 (by decide) wf_SF_39 rfl d_SF_look_97 ?_
      refine g_get cx wo m4 (cel_4 E ad n σ) rfl in_PW 2 (by decide) wf_SF_226 rfl d_SF_look_100 ?_
      cases hD
      exact tX_i cx wo rfl d_SF_look_103
    have hD := ite_n hD c4
    by_cases c5 : p1 = (2 : Int32)
    · have hD := ite_p hD c5
      refine lv_tableIn (tgt := 104) hx hb d_SF_look_15 (by rw [c5]; decide) (by rw [c5]; decide) (off := 89) (by rw [c5]; decide) (by decide) ?_
      refine lv_aload_n hx hb d_SF_look_104 rfl (lv_at hl 0 rfl) ?_
      refine g_get cx wo m0 (cel_0 E ad n σ) rfl in_SF 2 (by decide) wf_SF_32 rfl d_SF_look_105 ?_
      obtain ⟨x6, hcx6, hD⟩ := bd_s hD
      try dsimp only [nm2] at hD
      refine call_Vi cx wo (k_PL_countLost l E ad n L (fun a h => hL a ((by decide : ∀ a ∈ ([1, 2, 3, 14, 16] : List Nat), a ∈ ([0, 1, 2, 3, 4, 9, 10, 11, 13, 14, 15, 16] : List Nat)) a h)) F σ   x6 hcx6) m3 (cel_3 E ad n σ) rfl rfl mw_PL_countLost wm_SF_229 ⟨by decide, by decide⟩ ⟨by decide, by decide⟩ hl.1 rfl (Nat.le_of_ble_eq_true rfl) d_SF_look_108 (fun H locs wo => ?_)
      cases hD
      exact tX_i cx wo rfl d_SF_look_111
    have hD := ite_n hD c5
    by_cases c7 : p1 = (3 : Int32)
    · have hD := ite_p hD c7
      refine lv_tableIn (tgt := 112) hx hb d_SF_look_15 (by rw [c7]; decide) (by rw [c7]; decide) (off := 97) (by rw [c7]; decide) (by decide) ?_
      refine lv_aload_n hx hb d_SF_look_112 rfl (lv_at hl 0 rfl) ?_
      refine g_get cx wo m0 (cel_0 E ad n σ) rfl in_SF 2 (by decide) wf_SF_32 rfl d_SF_look_113 ?_
      obtain ⟨x8, hcx8, hD⟩ := bd_s hD
      try dsimp only [nm2] at hD
      refine call_Vi cx wo (k_PL_countSpoilt l E ad n L (fun a h => hL a ((by decide : ∀ a ∈ ([1, 2, 3, 14, 16] : List Nat), a ∈ ([0, 1, 2, 3, 4, 9, 10, 11, 13, 14, 15, 16] : List Nat)) a h)) F σ   x8 hcx8) m3 (cel_3 E ad n σ) rfl rfl mw_PL_countSpoilt wm_SF_232 ⟨by decide, by decide⟩ ⟨by decide, by decide⟩ hl.1 rfl (Nat.le_of_ble_eq_true rfl) d_SF_look_116 (fun H locs wo => ?_)
      cases hD
      exact tX_i cx wo rfl d_SF_look_119
    have hD := ite_n hD c7
    by_cases c9 : p1 = (4 : Int32)
    · have hD := ite_p hD c9
      refine lv_tableIn (tgt := 120) hx hb d_SF_look_15 (by rw [c9]; decide) (by rw [c9]; decide) (off := 105) (by rw [c9]; decide) (by decide) ?_
      refine lv_aload_n hx hb d_SF_look_120 rfl (lv_at hl 0 rfl) ?_
      refine g_get cx wo m0 (cel_0 E ad n σ) rfl in_SF 2 (by decide) wf_SF_32 rfl d_SF_look_121 ?_
      obtain ⟨x10, hcx10, hD⟩ := bd_s hD
      try dsimp only [nm2] at hD
      refine call_Vi cx wo (k_PL_countFreeSpares l E ad n L (fun a h => hL a ((by decide : ∀ a ∈ ([1, 2, 3, 9, 10, 16] : List Nat), a ∈ ([0, 1, 2, 3, 4, 9, 10, 11, 13, 14, 15, 16] : List Nat)) a h)) F σ   x10 hcx10) m3 (cel_3 E ad n σ) rfl rfl mw_PL_countFreeSpares wm_SF_235 ⟨by decide, by decide⟩ ⟨by decide, by decide⟩ hl.1 rfl (Nat.le_of_ble_eq_true rfl) d_SF_look_124 (fun H locs wo => ?_)
      cases hD
      exact tX_i cx wo rfl d_SF_look_127
    have hD := ite_n hD c9
    by_cases c11 : p1 = (5 : Int32)
    · have hD := ite_p hD c11
      refine lv_tableIn (tgt := 128) hx hb d_SF_look_15 (by rw [c11]; decide) (by rw [c11]; decide) (off := 113) (by rw [c11]; decide) (by decide) ?_
      refine lv_aload_n hx hb d_SF_look_128 rfl (lv_at hl 0 rfl) ?_
      refine g_get cx wo m0 (cel_0 E ad n σ) rfl in_SF 0 (by decide) wf_SF_12 rfl d_SF_look_129 ?_
      refine g_get cx wo m1 (cel_1 E ad n σ) rfl in_LA 5 (by decide) wf_SF_76 rfl d_SF_look_132 ?_
      cases hD
      exact tX_i cx wo rfl d_SF_look_135
    have hD := ite_n hD c11
    by_cases c12 : p1 = (6 : Int32)
    · have hD := ite_p hD c12
      refine lv_tableIn (tgt := 136) hx hb d_SF_look_15 (by rw [c12]; decide) (by rw [c12]; decide) (off := 121) (by rw [c12]; decide) (by decide) ?_
      refine lv_aload_n hx hb d_SF_look_136 rfl (lv_at hl 0 rfl) ?_
      refine g_get cx wo m0 (cel_0 E ad n σ) rfl in_SF 7 (by decide) wf_SF_223 rfl d_SF_look_137 ?_
      cases hD
      exact tX_i cx wo rfl d_SF_look_140
    have hD := ite_n hD c12
    by_cases c13 : p1 = (7 : Int32)
    · have hD := ite_p hD c13
      refine lv_tableIn (tgt := 141) hx hb d_SF_look_15 (by rw [c13]; decide) (by rw [c13]; decide) (off := 126) (by rw [c13]; decide) (by decide) ?_
      refine lv_aload_n hx hb d_SF_look_141 rfl (lv_at hl 0 rfl) ?_
      refine g_get cx wo m0 (cel_0 E ad n σ) rfl in_SF 0 (by decide) wf_SF_12 rfl d_SF_look_142 ?_
      refine g_get cx wo m1 (cel_1 E ad n σ) rfl in_LA 4 (by decide) wf_SF_207 rfl d_SF_look_145 ?_
      cases hD
      exact tX_i cx wo rfl d_SF_look_148
    have hD := ite_n hD c13
    by_cases c14 : p1 = (8 : Int32)
    · have hD := ite_p hD c14
      refine lv_tableIn (tgt := 149) hx hb d_SF_look_15 (by rw [c14]; decide) (by rw [c14]; decide) (off := 134) (by rw [c14]; decide) (by decide) ?_
      refine lv_aload_n hx hb d_SF_look_149 rfl (lv_at hl 0 rfl) ?_
      refine g_get cx wo m0 (cel_0 E ad n σ) rfl in_SF 6 (by decide) wf_SF_123 rfl d_SF_look_150 ?_
      cases hD
      exact tX_i cx wo rfl d_SF_look_153
    have hD := ite_n hD c14
    by_cases c15 : p1 = (9 : Int32)
    · have hD := ite_p hD c15
      refine lv_tableIn (tgt := 154) hx hb d_SF_look_15 (by rw [c15]; decide) (by rw [c15]; decide) (off := 139) (by rw [c15]; decide) (by decide) ?_
      refine lv_aload_n hx hb d_SF_look_154 rfl (lv_at hl 0 rfl) ?_
      refine g_get cx wo m0 (cel_0 E ad n σ) rfl in_SF 0 (by decide) wf_SF_12 rfl d_SF_look_155 ?_
      refine g_get cx wo m1 (cel_1 E ad n σ) rfl in_LA 1 (by decide) wf_SF_238 rfl d_SF_look_158 ?_
      cases hD
      exact tX_i cx wo rfl d_SF_look_161
    have hD := ite_n hD c15
    by_cases c16 : p1 = (10 : Int32)
    · have hD := ite_p hD c16
      refine lv_tableIn (tgt := 162) hx hb d_SF_look_15 (by rw [c16]; decide) (by rw [c16]; decide) (off := 147) (by rw [c16]; decide) (by decide) ?_
      refine lv_aload_n hx hb d_SF_look_162 rfl (lv_at hl 0 rfl) ?_
      refine g_get cx wo m0 (cel_0 E ad n σ) rfl in_SF 0 (by decide) wf_SF_12 rfl d_SF_look_163 ?_
      refine g_get cx wo m1 (cel_1 E ad n σ) rfl in_LA 0 (by decide) wf_SF_136 rfl d_SF_look_166 ?_
      cases hD
      exact tX_i cx wo rfl d_SF_look_169
    have hD := ite_n hD c16
    by_cases c17 : p1 = (11 : Int32)
    · have hD := ite_p hD c17
      refine lv_tableIn (tgt := 170) hx hb d_SF_look_15 (by rw [c17]; decide) (by rw [c17]; decide) (off := 155) (by rw [c17]; decide) (by decide) ?_
      refine lv_aload_n hx hb d_SF_look_170 rfl (lv_at hl 0 rfl) ?_
      refine g_get cx wo m0 (cel_0 E ad n σ) rfl in_SF 1 (by decide) wf_SF_23 rfl d_SF_look_171 ?_
      obtain ⟨x18, hcx18, hD⟩ := bd_s hD
      try dsimp only [nm2] at hD
      refine call_Vi cx wo (k_RK_countLive l E ad n L (fun a h => hL a ((by decide : ∀ a ∈ ([1, 2, 10] : List Nat), a ∈ ([0, 1, 2, 3, 4, 9, 10, 11, 13, 14, 15, 16] : List Nat)) a h)) F σ   x18 hcx18) m2 (cel_2 E ad n σ) rfl rfl mw_RK_countLive wm_SF_241 ⟨by decide, by decide⟩ ⟨by decide, by decide⟩ hl.1 rfl (Nat.le_of_ble_eq_true rfl) d_SF_look_174 (fun H locs wo => ?_)
      cases hD
      exact tX_i cx wo rfl d_SF_look_177
    have hD := ite_n hD c17
    by_cases c19 : p1 = (12 : Int32)
    · have hD := ite_p hD c19
      refine lv_tableIn (tgt := 178) hx hb d_SF_look_15 (by rw [c19]; decide) (by rw [c19]; decide) (off := 163) (by rw [c19]; decide) (by decide) ?_
      refine lv_aload_n hx hb d_SF_look_178 rfl (lv_at hl 0 rfl) ?_
      refine g_get cx wo m0 (cel_0 E ad n σ) rfl in_SF 5 (by decide) wf_SF_63 rfl d_SF_look_179 ?_
      cases hD
      exact tX_i cx wo rfl d_SF_look_182
    have hD := ite_n hD c19
    have c2 := lv_neT (a := 0) c2 (by decide)
    have c4 := lv_neT (a := 1) c4 (by decide)
    have c5 := lv_neT (a := 2) c5 (by decide)
    have c7 := lv_neT (a := 3) c7 (by decide)
    have c9 := lv_neT (a := 4) c9 (by decide)
    have c11 := lv_neT (a := 5) c11 (by decide)
    have c12 := lv_neT (a := 6) c12 (by decide)
    have c13 := lv_neT (a := 7) c13 (by decide)
    have c14 := lv_neT (a := 8) c14 (by decide)
    have c15 := lv_neT (a := 9) c15 (by decide)
    have c16 := lv_neT (a := 10) c16 (by decide)
    have c17 := lv_neT (a := 11) c17 (by decide)
    have c19 := lv_neT (a := 12) c19 (by decide)
    refine lv_tableOut (tgt := 183) hx hb d_SF_look_15 (by omega) (by decide) ?_
    cases hD
    exact t_throw (k := 1) cx hsz hne kt sx hfl wo own_1 (by decide) wk_SF_56 wp_IA wn_IA (tx := "what is not 0 .. 12") (by decide) hl.1 ⟨by decide, by decide, by decide, by decide⟩ d_SF_look_183 d_SF_look_186 d_SF_look_187 d_SF_look_189 d_SF_look_192
  · have hD := ite_n hD c1
    refine lv_iload_n hx hb d_SF_look_5 rfl (lv_at hl 1 rfl) ?_
    refine lv_iconst (v := 4) hx hb d_SF_look_6 (by decide) ?_
    refine lv_icmp_gt (tgt := 14) hx hb d_SF_look_7 (by decide) (fun c20 => ?_) (fun c20 => ?_)
    · have hD := ite_p hD c20
      refine lv_iload_n hx hb d_SF_look_14 rfl (lv_at hl 1 rfl) ?_
      by_cases c21 : p1 = (0 : Int32)
      · have hD := ite_p hD c21
        refine lv_tableIn (tgt := 80) hx hb d_SF_look_15 (by rw [c21]; decide) (by rw [c21]; decide) (off := 65) (by rw [c21]; decide) (by decide) ?_
        refine lv_aload_n hx hb d_SF_look_80 rfl (lv_at hl 0 rfl) ?_
        refine g_get cx wo m0 (cel_0 E ad n σ) rfl in_SF 3 (by decide) wf_SF_39 rfl d_SF_look_81 ?_
        refine g_get cx wo m4 (cel_4 E ad n σ) rfl in_PW 0 (by decide) wf_SF_81 rfl d_SF_look_84 ?_
        refine lv_if_eq (tgt := 94) hx hb d_SF_look_87 (by decide) (fun c22 => ?_) (fun c22 => ?_)
        · have hD := ite_p hD c22
          refine lv_iconst (v := 0) hx hb d_SF_look_94 (by decide) ?_
          cases hD
          exact tX_i cx wo rfl d_SF_look_95
        · have hD := ite_n hD c22
          refine lv_iconst (v := 1) hx hb d_SF_look_90 (by decide) ?_
          refine lv_goto (tgt := 95) hx hb d_SF_look_91 (by decide) ?_
          cases hD
          exact tX_i cx wo rfl d_SF_look_95
      have hD := ite_n hD c21
      by_cases c23 : p1 = (1 : Int32)
      · have hD := ite_p hD c23
        refine lv_tableIn (tgt := 96) hx hb d_SF_look_15 (by rw [c23]; decide) (by rw [c23]; decide) (off := 81) (by rw [c23]; decide) (by decide) ?_
        refine lv_aload_n hx hb d_SF_look_96 rfl (lv_at hl 0 rfl) ?_
        refine g_get cx wo m0 (cel_0 E ad n σ) rfl in_SF 3 (by decide) wf_SF_39 rfl d_SF_look_97 ?_
        refine g_get cx wo m4 (cel_4 E ad n σ) rfl in_PW 2 (by decide) wf_SF_226 rfl d_SF_look_100 ?_
        cases hD
        exact tX_i cx wo rfl d_SF_look_103
      have hD := ite_n hD c23
      by_cases c24 : p1 = (2 : Int32)
      · have hD := ite_p hD c24
        refine lv_tableIn (tgt := 104) hx hb d_SF_look_15 (by rw [c24]; decide) (by rw [c24]; decide) (off := 89) (by rw [c24]; decide) (by decide) ?_
        refine lv_aload_n hx hb d_SF_look_104 rfl (lv_at hl 0 rfl) ?_
        refine g_get cx wo m0 (cel_0 E ad n σ) rfl in_SF 2 (by decide) wf_SF_32 rfl d_SF_look_105 ?_
        obtain ⟨x25, hcx25, hD⟩ := bd_s hD
        try dsimp only [nm2] at hD
        refine call_Vi cx wo (k_PL_countLost l E ad n L (fun a h => hL a ((by decide : ∀ a ∈ ([1, 2, 3, 14, 16] : List Nat), a ∈ ([0, 1, 2, 3, 4, 9, 10, 11, 13, 14, 15, 16] : List Nat)) a h)) F σ   x25 hcx25) m3 (cel_3 E ad n σ) rfl rfl mw_PL_countLost wm_SF_229 ⟨by decide, by decide⟩ ⟨by decide, by decide⟩ hl.1 rfl (Nat.le_of_ble_eq_true rfl) d_SF_look_108 (fun H locs wo => ?_)
        cases hD
        exact tX_i cx wo rfl d_SF_look_111
      have hD := ite_n hD c24
      by_cases c26 : p1 = (3 : Int32)
      · have hD := ite_p hD c26
        refine lv_tableIn (tgt := 112) hx hb d_SF_look_15 (by rw [c26]; decide) (by rw [c26]; decide) (off := 97) (by rw [c26]; decide) (by decide) ?_
        refine lv_aload_n hx hb d_SF_look_112 rfl (lv_at hl 0 rfl) ?_
        refine g_get cx wo m0 (cel_0 E ad n σ) rfl in_SF 2 (by decide) wf_SF_32 rfl d_SF_look_113 ?_
        obtain ⟨x27, hcx27, hD⟩ := bd_s hD
        try dsimp only [nm2] at hD
        refine call_Vi cx wo (k_PL_countSpoilt l E ad n L (fun a h => hL a ((by decide : ∀ a ∈ ([1, 2, 3, 14, 16] : List Nat), a ∈ ([0, 1, 2, 3, 4, 9, 10, 11, 13, 14, 15, 16] : List Nat)) a h)) F σ   x27 hcx27) m3 (cel_3 E ad n σ) rfl rfl mw_PL_countSpoilt wm_SF_232 ⟨by decide, by decide⟩ ⟨by decide, by decide⟩ hl.1 rfl (Nat.le_of_ble_eq_true rfl) d_SF_look_116 (fun H locs wo => ?_)
        cases hD
        exact tX_i cx wo rfl d_SF_look_119
      have hD := ite_n hD c26
      by_cases c28 : p1 = (4 : Int32)
      · have hD := ite_p hD c28
        refine lv_tableIn (tgt := 120) hx hb d_SF_look_15 (by rw [c28]; decide) (by rw [c28]; decide) (off := 105) (by rw [c28]; decide) (by decide) ?_
        refine lv_aload_n hx hb d_SF_look_120 rfl (lv_at hl 0 rfl) ?_
        refine g_get cx wo m0 (cel_0 E ad n σ) rfl in_SF 2 (by decide) wf_SF_32 rfl d_SF_look_121 ?_
        obtain ⟨x29, hcx29, hD⟩ := bd_s hD
        try dsimp only [nm2] at hD
        refine call_Vi cx wo (k_PL_countFreeSpares l E ad n L (fun a h => hL a ((by decide : ∀ a ∈ ([1, 2, 3, 9, 10, 16] : List Nat), a ∈ ([0, 1, 2, 3, 4, 9, 10, 11, 13, 14, 15, 16] : List Nat)) a h)) F σ   x29 hcx29) m3 (cel_3 E ad n σ) rfl rfl mw_PL_countFreeSpares wm_SF_235 ⟨by decide, by decide⟩ ⟨by decide, by decide⟩ hl.1 rfl (Nat.le_of_ble_eq_true rfl) d_SF_look_124 (fun H locs wo => ?_)
        cases hD
        exact tX_i cx wo rfl d_SF_look_127
      have hD := ite_n hD c28
      by_cases c30 : p1 = (5 : Int32)
      · have hD := ite_p hD c30
        refine lv_tableIn (tgt := 128) hx hb d_SF_look_15 (by rw [c30]; decide) (by rw [c30]; decide) (off := 113) (by rw [c30]; decide) (by decide) ?_
        refine lv_aload_n hx hb d_SF_look_128 rfl (lv_at hl 0 rfl) ?_
        refine g_get cx wo m0 (cel_0 E ad n σ) rfl in_SF 0 (by decide) wf_SF_12 rfl d_SF_look_129 ?_
        refine g_get cx wo m1 (cel_1 E ad n σ) rfl in_LA 5 (by decide) wf_SF_76 rfl d_SF_look_132 ?_
        cases hD
        exact tX_i cx wo rfl d_SF_look_135
      have hD := ite_n hD c30
      by_cases c31 : p1 = (6 : Int32)
      · have hD := ite_p hD c31
        refine lv_tableIn (tgt := 136) hx hb d_SF_look_15 (by rw [c31]; decide) (by rw [c31]; decide) (off := 121) (by rw [c31]; decide) (by decide) ?_
        refine lv_aload_n hx hb d_SF_look_136 rfl (lv_at hl 0 rfl) ?_
        refine g_get cx wo m0 (cel_0 E ad n σ) rfl in_SF 7 (by decide) wf_SF_223 rfl d_SF_look_137 ?_
        cases hD
        exact tX_i cx wo rfl d_SF_look_140
      have hD := ite_n hD c31
      by_cases c32 : p1 = (7 : Int32)
      · have hD := ite_p hD c32
        refine lv_tableIn (tgt := 141) hx hb d_SF_look_15 (by rw [c32]; decide) (by rw [c32]; decide) (off := 126) (by rw [c32]; decide) (by decide) ?_
        refine lv_aload_n hx hb d_SF_look_141 rfl (lv_at hl 0 rfl) ?_
        refine g_get cx wo m0 (cel_0 E ad n σ) rfl in_SF 0 (by decide) wf_SF_12 rfl d_SF_look_142 ?_
        refine g_get cx wo m1 (cel_1 E ad n σ) rfl in_LA 4 (by decide) wf_SF_207 rfl d_SF_look_145 ?_
        cases hD
        exact tX_i cx wo rfl d_SF_look_148
      have hD := ite_n hD c32
      by_cases c33 : p1 = (8 : Int32)
      · have hD := ite_p hD c33
        refine lv_tableIn (tgt := 149) hx hb d_SF_look_15 (by rw [c33]; decide) (by rw [c33]; decide) (off := 134) (by rw [c33]; decide) (by decide) ?_
        refine lv_aload_n hx hb d_SF_look_149 rfl (lv_at hl 0 rfl) ?_
        refine g_get cx wo m0 (cel_0 E ad n σ) rfl in_SF 6 (by decide) wf_SF_123 rfl d_SF_look_150 ?_
        cases hD
        exact tX_i cx wo rfl d_SF_look_153
      have hD := ite_n hD c33
      by_cases c34 : p1 = (9 : Int32)
      · have hD := ite_p hD c34
        refine lv_tableIn (tgt := 154) hx hb d_SF_look_15 (by rw [c34]; decide) (by rw [c34]; decide) (off := 139) (by rw [c34]; decide) (by decide) ?_
        refine lv_aload_n hx hb d_SF_look_154 rfl (lv_at hl 0 rfl) ?_
        refine g_get cx wo m0 (cel_0 E ad n σ) rfl in_SF 0 (by decide) wf_SF_12 rfl d_SF_look_155 ?_
        refine g_get cx wo m1 (cel_1 E ad n σ) rfl in_LA 1 (by decide) wf_SF_238 rfl d_SF_look_158 ?_
        cases hD
        exact tX_i cx wo rfl d_SF_look_161
      have hD := ite_n hD c34
      by_cases c35 : p1 = (10 : Int32)
      · have hD := ite_p hD c35
        refine lv_tableIn (tgt := 162) hx hb d_SF_look_15 (by rw [c35]; decide) (by rw [c35]; decide) (off := 147) (by rw [c35]; decide) (by decide) ?_
        refine lv_aload_n hx hb d_SF_look_162 rfl (lv_at hl 0 rfl) ?_
        refine g_get cx wo m0 (cel_0 E ad n σ) rfl in_SF 0 (by decide) wf_SF_12 rfl d_SF_look_163 ?_
        refine g_get cx wo m1 (cel_1 E ad n σ) rfl in_LA 0 (by decide) wf_SF_136 rfl d_SF_look_166 ?_
        cases hD
        exact tX_i cx wo rfl d_SF_look_169
      have hD := ite_n hD c35
      by_cases c36 : p1 = (11 : Int32)
      · have hD := ite_p hD c36
        refine lv_tableIn (tgt := 170) hx hb d_SF_look_15 (by rw [c36]; decide) (by rw [c36]; decide) (off := 155) (by rw [c36]; decide) (by decide) ?_
        refine lv_aload_n hx hb d_SF_look_170 rfl (lv_at hl 0 rfl) ?_
        refine g_get cx wo m0 (cel_0 E ad n σ) rfl in_SF 1 (by decide) wf_SF_23 rfl d_SF_look_171 ?_
        obtain ⟨x37, hcx37, hD⟩ := bd_s hD
        try dsimp only [nm2] at hD
        refine call_Vi cx wo (k_RK_countLive l E ad n L (fun a h => hL a ((by decide : ∀ a ∈ ([1, 2, 10] : List Nat), a ∈ ([0, 1, 2, 3, 4, 9, 10, 11, 13, 14, 15, 16] : List Nat)) a h)) F σ   x37 hcx37) m2 (cel_2 E ad n σ) rfl rfl mw_RK_countLive wm_SF_241 ⟨by decide, by decide⟩ ⟨by decide, by decide⟩ hl.1 rfl (Nat.le_of_ble_eq_true rfl) d_SF_look_174 (fun H locs wo => ?_)
        cases hD
        exact tX_i cx wo rfl d_SF_look_177
      have hD := ite_n hD c36
      by_cases c38 : p1 = (12 : Int32)
      · have hD := ite_p hD c38
        refine lv_tableIn (tgt := 178) hx hb d_SF_look_15 (by rw [c38]; decide) (by rw [c38]; decide) (off := 163) (by rw [c38]; decide) (by decide) ?_
        refine lv_aload_n hx hb d_SF_look_178 rfl (lv_at hl 0 rfl) ?_
        refine g_get cx wo m0 (cel_0 E ad n σ) rfl in_SF 5 (by decide) wf_SF_63 rfl d_SF_look_179 ?_
        cases hD
        exact tX_i cx wo rfl d_SF_look_182
      have hD := ite_n hD c38
      have c21 := lv_neT (a := 0) c21 (by decide)
      have c23 := lv_neT (a := 1) c23 (by decide)
      have c24 := lv_neT (a := 2) c24 (by decide)
      have c26 := lv_neT (a := 3) c26 (by decide)
      have c28 := lv_neT (a := 4) c28 (by decide)
      have c30 := lv_neT (a := 5) c30 (by decide)
      have c31 := lv_neT (a := 6) c31 (by decide)
      have c32 := lv_neT (a := 7) c32 (by decide)
      have c33 := lv_neT (a := 8) c33 (by decide)
      have c34 := lv_neT (a := 9) c34 (by decide)
      have c35 := lv_neT (a := 10) c35 (by decide)
      have c36 := lv_neT (a := 11) c36 (by decide)
      have c38 := lv_neT (a := 12) c38 (by decide)
      refine lv_tableOut (tgt := 183) hx hb d_SF_look_15 (by omega) (by decide) ?_
      cases hD
      exact t_throw (k := 1) cx hsz hne kt sx hfl wo own_1 (by decide) wk_SF_56 wp_IA wn_IA (tx := "what is not 0 .. 12") (by decide) hl.1 ⟨by decide, by decide, by decide, by decide⟩ d_SF_look_183 d_SF_look_186 d_SF_look_187 d_SF_look_189 d_SF_look_192
    · have hD := ite_n hD c20
      refine lv_aload_n hx hb d_SF_look_10 rfl (lv_at hl 0 rfl) ?_
      obtain ⟨σ40, hcx39, hD⟩ := bd_s hD
      try dsimp only [nm2] at hD
      refine call_Vv cx wo (k_SF_findPlacesIfOff l E ad n L (fun a h => hL a ((by decide : ∀ a ∈ ([0, 1, 2, 3, 4, 9, 11, 13, 14, 15, 16] : List Nat), a ∈ ([0, 1, 2, 3, 4, 9, 10, 11, 13, 14, 15, 16] : List Nat)) a h)) F σ σ40  hcx39) m0 (cel_0 E ad n σ) rfl rfl mw_SF_findPlacesIfOff wm_SF_145 ⟨by decide, by decide⟩ ⟨by decide, by decide⟩ hl.1 rfl (Nat.le_of_ble_eq_true rfl) d_SF_look_11 (fun H locs wo => ?_)
      refine lv_iload_n hx hb d_SF_look_14 rfl (lv_at hl 1 rfl) ?_
      by_cases c41 : p1 = (0 : Int32)
      · have hD := ite_p hD c41
        refine lv_tableIn (tgt := 80) hx hb d_SF_look_15 (by rw [c41]; decide) (by rw [c41]; decide) (off := 65) (by rw [c41]; decide) (by decide) ?_
        refine lv_aload_n hx hb d_SF_look_80 rfl (lv_at hl 0 rfl) ?_
        refine g_get cx wo m0 (cel_0 E ad n σ40) rfl in_SF 3 (by decide) wf_SF_39 rfl d_SF_look_81 ?_
        refine g_get cx wo m4 (cel_4 E ad n σ40) rfl in_PW 0 (by decide) wf_SF_81 rfl d_SF_look_84 ?_
        refine lv_if_eq (tgt := 94) hx hb d_SF_look_87 (by decide) (fun c42 => ?_) (fun c42 => ?_)
        · have hD := ite_p hD c42
          refine lv_iconst (v := 0) hx hb d_SF_look_94 (by decide) ?_
          cases hD
          exact tX_i cx wo rfl d_SF_look_95
        · have hD := ite_n hD c42
          refine lv_iconst (v := 1) hx hb d_SF_look_90 (by decide) ?_
          refine lv_goto (tgt := 95) hx hb d_SF_look_91 (by decide) ?_
          cases hD
          exact tX_i cx wo rfl d_SF_look_95
      have hD := ite_n hD c41
      by_cases c43 : p1 = (1 : Int32)
      · have hD := ite_p hD c43
        refine lv_tableIn (tgt := 96) hx hb d_SF_look_15 (by rw [c43]; decide) (by rw [c43]; decide) (off := 81) (by rw [c43]; decide) (by decide) ?_
        refine lv_aload_n hx hb d_SF_look_96 rfl (lv_at hl 0 rfl) ?_
        refine g_get cx wo m0 (cel_0 E ad n σ40) rfl in_SF 3 (by decide) wf_SF_39 rfl d_SF_look_97 ?_
        refine g_get cx wo m4 (cel_4 E ad n σ40) rfl in_PW 2 (by decide) wf_SF_226 rfl d_SF_look_100 ?_
        cases hD
        exact tX_i cx wo rfl d_SF_look_103
      have hD := ite_n hD c43
      by_cases c44 : p1 = (2 : Int32)
      · have hD := ite_p hD c44
        refine lv_tableIn (tgt := 104) hx hb d_SF_look_15 (by rw [c44]; decide) (by rw [c44]; decide) (off := 89) (by rw [c44]; decide) (by decide) ?_
        refine lv_aload_n hx hb d_SF_look_104 rfl (lv_at hl 0 rfl) ?_
        refine g_get cx wo m0 (cel_0 E ad n σ40) rfl in_SF 2 (by decide) wf_SF_32 rfl d_SF_look_105 ?_
        obtain ⟨x45, hcx45, hD⟩ := bd_s hD
        try dsimp only [nm2] at hD
        refine call_Vi cx wo (k_PL_countLost l E ad n L (fun a h => hL a ((by decide : ∀ a ∈ ([1, 2, 3, 14, 16] : List Nat), a ∈ ([0, 1, 2, 3, 4, 9, 10, 11, 13, 14, 15, 16] : List Nat)) a h)) F σ40   x45 hcx45) m3 (cel_3 E ad n σ40) rfl rfl mw_PL_countLost wm_SF_229 ⟨by decide, by decide⟩ ⟨by decide, by decide⟩ hl.1 rfl (Nat.le_of_ble_eq_true rfl) d_SF_look_108 (fun H locs wo => ?_)
        cases hD
        exact tX_i cx wo rfl d_SF_look_111
      have hD := ite_n hD c44
      by_cases c46 : p1 = (3 : Int32)
      · have hD := ite_p hD c46
        refine lv_tableIn (tgt := 112) hx hb d_SF_look_15 (by rw [c46]; decide) (by rw [c46]; decide) (off := 97) (by rw [c46]; decide) (by decide) ?_
        refine lv_aload_n hx hb d_SF_look_112 rfl (lv_at hl 0 rfl) ?_
        refine g_get cx wo m0 (cel_0 E ad n σ40) rfl in_SF 2 (by decide) wf_SF_32 rfl d_SF_look_113 ?_
        obtain ⟨x47, hcx47, hD⟩ := bd_s hD
        try dsimp only [nm2] at hD
        refine call_Vi cx wo (k_PL_countSpoilt l E ad n L (fun a h => hL a ((by decide : ∀ a ∈ ([1, 2, 3, 14, 16] : List Nat), a ∈ ([0, 1, 2, 3, 4, 9, 10, 11, 13, 14, 15, 16] : List Nat)) a h)) F σ40   x47 hcx47) m3 (cel_3 E ad n σ40) rfl rfl mw_PL_countSpoilt wm_SF_232 ⟨by decide, by decide⟩ ⟨by decide, by decide⟩ hl.1 rfl (Nat.le_of_ble_eq_true rfl) d_SF_look_116 (fun H locs wo => ?_)
        cases hD
        exact tX_i cx wo rfl d_SF_look_119
      have hD := ite_n hD c46
      by_cases c48 : p1 = (4 : Int32)
      · have hD := ite_p hD c48
        refine lv_tableIn (tgt := 120) hx hb d_SF_look_15 (by rw [c48]; decide) (by rw [c48]; decide) (off := 105) (by rw [c48]; decide) (by decide) ?_
        refine lv_aload_n hx hb d_SF_look_120 rfl (lv_at hl 0 rfl) ?_
        refine g_get cx wo m0 (cel_0 E ad n σ40) rfl in_SF 2 (by decide) wf_SF_32 rfl d_SF_look_121 ?_
        obtain ⟨x49, hcx49, hD⟩ := bd_s hD
        try dsimp only [nm2] at hD
        refine call_Vi cx wo (k_PL_countFreeSpares l E ad n L (fun a h => hL a ((by decide : ∀ a ∈ ([1, 2, 3, 9, 10, 16] : List Nat), a ∈ ([0, 1, 2, 3, 4, 9, 10, 11, 13, 14, 15, 16] : List Nat)) a h)) F σ40   x49 hcx49) m3 (cel_3 E ad n σ40) rfl rfl mw_PL_countFreeSpares wm_SF_235 ⟨by decide, by decide⟩ ⟨by decide, by decide⟩ hl.1 rfl (Nat.le_of_ble_eq_true rfl) d_SF_look_124 (fun H locs wo => ?_)
        cases hD
        exact tX_i cx wo rfl d_SF_look_127
      have hD := ite_n hD c48
      by_cases c50 : p1 = (5 : Int32)
      · have hD := ite_p hD c50
        refine lv_tableIn (tgt := 128) hx hb d_SF_look_15 (by rw [c50]; decide) (by rw [c50]; decide) (off := 113) (by rw [c50]; decide) (by decide) ?_
        refine lv_aload_n hx hb d_SF_look_128 rfl (lv_at hl 0 rfl) ?_
        refine g_get cx wo m0 (cel_0 E ad n σ40) rfl in_SF 0 (by decide) wf_SF_12 rfl d_SF_look_129 ?_
        refine g_get cx wo m1 (cel_1 E ad n σ40) rfl in_LA 5 (by decide) wf_SF_76 rfl d_SF_look_132 ?_
        cases hD
        exact tX_i cx wo rfl d_SF_look_135
      have hD := ite_n hD c50
      by_cases c51 : p1 = (6 : Int32)
      · have hD := ite_p hD c51
        refine lv_tableIn (tgt := 136) hx hb d_SF_look_15 (by rw [c51]; decide) (by rw [c51]; decide) (off := 121) (by rw [c51]; decide) (by decide) ?_
        refine lv_aload_n hx hb d_SF_look_136 rfl (lv_at hl 0 rfl) ?_
        refine g_get cx wo m0 (cel_0 E ad n σ40) rfl in_SF 7 (by decide) wf_SF_223 rfl d_SF_look_137 ?_
        cases hD
        exact tX_i cx wo rfl d_SF_look_140
      have hD := ite_n hD c51
      by_cases c52 : p1 = (7 : Int32)
      · have hD := ite_p hD c52
        refine lv_tableIn (tgt := 141) hx hb d_SF_look_15 (by rw [c52]; decide) (by rw [c52]; decide) (off := 126) (by rw [c52]; decide) (by decide) ?_
        refine lv_aload_n hx hb d_SF_look_141 rfl (lv_at hl 0 rfl) ?_
        refine g_get cx wo m0 (cel_0 E ad n σ40) rfl in_SF 0 (by decide) wf_SF_12 rfl d_SF_look_142 ?_
        refine g_get cx wo m1 (cel_1 E ad n σ40) rfl in_LA 4 (by decide) wf_SF_207 rfl d_SF_look_145 ?_
        cases hD
        exact tX_i cx wo rfl d_SF_look_148
      have hD := ite_n hD c52
      by_cases c53 : p1 = (8 : Int32)
      · have hD := ite_p hD c53
        refine lv_tableIn (tgt := 149) hx hb d_SF_look_15 (by rw [c53]; decide) (by rw [c53]; decide) (off := 134) (by rw [c53]; decide) (by decide) ?_
        refine lv_aload_n hx hb d_SF_look_149 rfl (lv_at hl 0 rfl) ?_
        refine g_get cx wo m0 (cel_0 E ad n σ40) rfl in_SF 6 (by decide) wf_SF_123 rfl d_SF_look_150 ?_
        cases hD
        exact tX_i cx wo rfl d_SF_look_153
      have hD := ite_n hD c53
      by_cases c54 : p1 = (9 : Int32)
      · have hD := ite_p hD c54
        refine lv_tableIn (tgt := 154) hx hb d_SF_look_15 (by rw [c54]; decide) (by rw [c54]; decide) (off := 139) (by rw [c54]; decide) (by decide) ?_
        refine lv_aload_n hx hb d_SF_look_154 rfl (lv_at hl 0 rfl) ?_
        refine g_get cx wo m0 (cel_0 E ad n σ40) rfl in_SF 0 (by decide) wf_SF_12 rfl d_SF_look_155 ?_
        refine g_get cx wo m1 (cel_1 E ad n σ40) rfl in_LA 1 (by decide) wf_SF_238 rfl d_SF_look_158 ?_
        cases hD
        exact tX_i cx wo rfl d_SF_look_161
      have hD := ite_n hD c54
      by_cases c55 : p1 = (10 : Int32)
      · have hD := ite_p hD c55
        refine lv_tableIn (tgt := 162) hx hb d_SF_look_15 (by rw [c55]; decide) (by rw [c55]; decide) (off := 147) (by rw [c55]; decide) (by decide) ?_
        refine lv_aload_n hx hb d_SF_look_162 rfl (lv_at hl 0 rfl) ?_
        refine g_get cx wo m0 (cel_0 E ad n σ40) rfl in_SF 0 (by decide) wf_SF_12 rfl d_SF_look_163 ?_
        refine g_get cx wo m1 (cel_1 E ad n σ40) rfl in_LA 0 (by decide) wf_SF_136 rfl d_SF_look_166 ?_
        cases hD
        exact tX_i cx wo rfl d_SF_look_169
      have hD := ite_n hD c55
      by_cases c56 : p1 = (11 : Int32)
      · have hD := ite_p hD c56
        refine lv_tableIn (tgt := 170) hx hb d_SF_look_15 (by rw [c56]; decide) (by rw [c56]; decide) (off := 155) (by rw [c56]; decide) (by decide) ?_
        refine lv_aload_n hx hb d_SF_look_170 rfl (lv_at hl 0 rfl) ?_
        refine g_get cx wo m0 (cel_0 E ad n σ40) rfl in_SF 1 (by decide) wf_SF_23 rfl d_SF_look_171 ?_
        obtain ⟨x57, hcx57, hD⟩ := bd_s hD
        try dsimp only [nm2] at hD
        refine call_Vi cx wo (k_RK_countLive l E ad n L (fun a h => hL a ((by decide : ∀ a ∈ ([1, 2, 10] : List Nat), a ∈ ([0, 1, 2, 3, 4, 9, 10, 11, 13, 14, 15, 16] : List Nat)) a h)) F σ40   x57 hcx57) m2 (cel_2 E ad n σ40) rfl rfl mw_RK_countLive wm_SF_241 ⟨by decide, by decide⟩ ⟨by decide, by decide⟩ hl.1 rfl (Nat.le_of_ble_eq_true rfl) d_SF_look_174 (fun H locs wo => ?_)
        cases hD
        exact tX_i cx wo rfl d_SF_look_177
      have hD := ite_n hD c56
      by_cases c58 : p1 = (12 : Int32)
      · have hD := ite_p hD c58
        refine lv_tableIn (tgt := 178) hx hb d_SF_look_15 (by rw [c58]; decide) (by rw [c58]; decide) (off := 163) (by rw [c58]; decide) (by decide) ?_
        refine lv_aload_n hx hb d_SF_look_178 rfl (lv_at hl 0 rfl) ?_
        refine g_get cx wo m0 (cel_0 E ad n σ40) rfl in_SF 5 (by decide) wf_SF_63 rfl d_SF_look_179 ?_
        cases hD
        exact tX_i cx wo rfl d_SF_look_182
      have hD := ite_n hD c58
      have c41 := lv_neT (a := 0) c41 (by decide)
      have c43 := lv_neT (a := 1) c43 (by decide)
      have c44 := lv_neT (a := 2) c44 (by decide)
      have c46 := lv_neT (a := 3) c46 (by decide)
      have c48 := lv_neT (a := 4) c48 (by decide)
      have c50 := lv_neT (a := 5) c50 (by decide)
      have c51 := lv_neT (a := 6) c51 (by decide)
      have c52 := lv_neT (a := 7) c52 (by decide)
      have c53 := lv_neT (a := 8) c53 (by decide)
      have c54 := lv_neT (a := 9) c54 (by decide)
      have c55 := lv_neT (a := 10) c55 (by decide)
      have c56 := lv_neT (a := 11) c56 (by decide)
      have c58 := lv_neT (a := 12) c58 (by decide)
      refine lv_tableOut (tgt := 183) hx hb d_SF_look_15 (by omega) (by decide) ?_
      cases hD
def D_SF_place (F : Nat) (n : Nat → Nat) (σ : HS) (p1 : Int32) (p2 : Int32) : Option (HS × (Int32 ⊕ Nat)) :=
(if p1 < 0 then
    some (σ, Sum.inr 1)
  else
    (if p1 < (σ.1 1 2) then
      (if p2 < 0 then
        some (σ, Sum.inr 1)
      else
        (if p2 < (σ.1 1 6) then
          (D_SF_findPlacesIfOff F n σ ).bind (fun (σ6 : HS) =>
          (D_LA_slot F n σ6 p1 p2).bind (fun (x7 : Int32) =>
          grd (inb x7 (n 15)) (
          nm (σ6.1 15 (x7).toNatClampNeg) (fun x9 =>
          (if x9 = (-1 : Int32) then
            some (σ6, Sum.inl (-1 : Int32))
          else
            (D_LA_diskOf F n σ6 x9).bind (fun (x11 : Int32) =>
            some (σ6, Sum.inl x11)))))))
        else
          some (σ, Sum.inr 1)))
    else
      some (σ, Sum.inr 1)))
set_option maxRecDepth 100000 in
set_option maxHeartbeats 4000000 in
theorem k_SF_place (l : Launch) (hfl : l.stackTraces = false) (E : EV) (ad n : Nat → Nat) (L : List Nat) (hL : ∀ a ∈ ([0, 1, 2, 3, 4, 9, 11, 13, 14, 15, 16] : List Nat), a ∈ L) (F : Nat) (σ σo : HS) (p1 : Int32) (p2 : Int32) (r : Int32 ⊕ Nat) (hD : D_SF_place F n σ p1 p2 = some (σo, r)) : CtX l E y_SF_place c_SF_place 4 (some FieldType.int) ({ frames := 6, cells := 1, slots := 6, locals := 90 }) [.ref (ad 0), .int p1, .int p2] (wl E ad n L σ) (outI r) (wl E ad n L σo) := by
  refine fun sz => entX (by decide) (Nat.le_of_ble_eq_true rfl) ?_
  intro p e s m below meth c hsz cx hne kt sx wo ls hl
  have hx := cx.1.1
  have hb := cx.1.2.1
  have hown := cx.1.2.2.2.1
  have hts := cx.1.2.2.2.2
  have hl : lv_has ls 4 [(0, .ref (ad 0)), (1, .int p1), (2, .int p2)] := hl
  have m0 : 0 ∈ L := hL 0 (by decide)
  have m1 : 1 ∈ L := hL 1 (by decide)
  have m2 : 2 ∈ L := hL 2 (by decide)
  have m3 : 3 ∈ L := hL 3 (by decide)
  have m4 : 4 ∈ L := hL 4 (by decide)
  have m9 : 9 ∈ L := hL 9 (by decide)
  have m11 : 11 ∈ L := hL 11 (by decide)
  have m13 : 13 ∈ L := hL 13 (by decide)
  have m14 : 14 ∈ L := hL 14 (by decide)
  have m15 : 15 ∈ L := hL 15 (by decide)
  have m16 : 16 ∈ L := hL 16 (by decide)
  rw [D_SF_place] at hD
  refine lv_iload_n hx hb d_SF_place_0 rfl (lv_at hl 1 rfl) ?_
  refine lv_if_lt (tgt := 15) hx hb d_SF_place_1 (by decide) (fun c1 => ?_) (fun c1 => ?_)
  · have hD := ite_p hD c1
    cases hD
    exact t_throw (k := 1) cx hsz hne kt sx hfl wo own_1 (by decide) wk_SF_56 wp_IA wn_IA (tx := "there is no such row") (by decide) hl.1 ⟨by decide, by decide, by decide, by decide⟩ d_SF_place_15 d_SF_place_18 d_SF_place_19 d_SF_place_21 d_SF_place_24
  · have hD := ite_n hD c1
    refine lv_iload_n hx hb d_SF_place_4 rfl (lv_at hl 1 rfl) ?_
    refine lv_aload_n hx hb d_SF_place_5 rfl (lv_at hl 0 rfl) ?_
    refine g_get cx wo m0 (cel_0 E ad n σ) rfl in_SF 0 (by decide) wf_SF_12 rfl d_SF_place_6 ?_
    refine g_get cx wo m1 (cel_1 E ad n σ) rfl in_LA 2 (by decide) wf_SF_159 rfl d_SF_place_9 ?_
    refine lv_icmp_lt (tgt := 25) hx hb d_SF_place_12 (by decide) (fun c2 => ?_) (fun c2 => ?_)
    · have hD := ite_p hD c2
      refine lv_iload_n hx hb d_SF_place_25 rfl (lv_at hl 2 rfl) ?_
      refine lv_if_lt (tgt := 40) hx hb d_SF_place_26 (by decide) (fun c3 => ?_) (fun c3 => ?_)
      · have hD := ite_p hD c3
        cases hD
        exact t_throw (k := 1) cx hsz hne kt sx hfl wo own_1 (by decide) wk_SF_56 wp_IA wn_IA (tx := "the position is none of a stripe") (by decide) hl.1 ⟨by decide, by decide, by decide, by decide⟩ d_SF_place_40 d_SF_place_43 d_SF_place_44 d_SF_place_46 d_SF_place_49
      · have hD := ite_n hD c3
        refine lv_iload_n hx hb d_SF_place_29 rfl (lv_at hl 2 rfl) ?_
        refine lv_aload_n hx hb d_SF_place_30 rfl (lv_at hl 0 rfl) ?_
        refine g_get cx wo m0 (cel_0 E ad n σ) rfl in_SF 0 (by decide) wf_SF_12 rfl d_SF_place_31 ?_
        refine g_get cx wo m1 (cel_1 E ad n σ) rfl in_LA 6 (by decide) wf_SF_248 rfl d_SF_place_34 ?_
        refine lv_icmp_lt (tgt := 50) hx hb d_SF_place_37 (by decide) (fun c4 => ?_) (fun c4 => ?_)
        · have hD := ite_p hD c4
          refine lv_aload_n hx hb d_SF_place_50 rfl (lv_at hl 0 rfl) ?_
          obtain ⟨σ6, hcx5, hD⟩ := bd_s hD
          try dsimp only [nm2] at hD
          refine call_Vv cx wo (k_SF_findPlacesIfOff l E ad n L (fun a h => hL a ((by decide : ∀ a ∈ ([0, 1, 2, 3, 4, 9, 11, 13, 14, 15, 16] : List Nat), a ∈ ([0, 1, 2, 3, 4, 9, 11, 13, 14, 15, 16] : List Nat)) a h)) F σ σ6  hcx5) m0 (cel_0 E ad n σ) rfl rfl mw_SF_findPlacesIfOff wm_SF_145 ⟨by decide, by decide⟩ ⟨by decide, by decide⟩ hl.1 rfl (Nat.le_of_ble_eq_true rfl) d_SF_place_51 (fun H locs wo => ?_)
          refine lv_aload_n hx hb d_SF_place_54 rfl (lv_at hl 0 rfl) ?_
          refine g_get cx wo m0 (cel_0 E ad n σ6) rfl in_SF 2 (by decide) wf_SF_32 rfl d_SF_place_55 ?_
          refine g_get cx wo m3 (cel_3 E ad n σ6) rfl in_PL 0 (by decide) wf_SF_197 rfl d_SF_place_58 ?_
          refine lv_aload_n hx hb d_SF_place_61 rfl (lv_at hl 0 rfl) ?_
          refine g_get cx wo m0 (cel_0 E ad n σ6) rfl in_SF 0 (by decide) wf_SF_12 rfl d_SF_place_62 ?_
          refine lv_iload_n hx hb d_SF_place_65 rfl (lv_at hl 1 rfl) ?_
          refine lv_iload_n hx hb d_SF_place_66 rfl (lv_at hl 2 rfl) ?_
          obtain ⟨x7, hcx7, hD⟩ := bd_s hD
          try dsimp only [nm2] at hD
          refine call_Vi cx wo (k_LA_slot l E ad n L (fun a h => hL a ((by decide : ∀ a ∈ ([1] : List Nat), a ∈ ([0, 1, 2, 3, 4, 9, 11, 13, 14, 15, 16] : List Nat)) a h)) F σ6  p1 p2 x7 hcx7) m1 (cel_1 E ad n σ6) rfl rfl mw_LA_slot wm_SF_253 ⟨by decide, by decide⟩ ⟨by decide, by decide⟩ hl.1 rfl (Nat.le_of_ble_eq_true rfl) d_SF_place_67 (fun H locs wo => ?_)
          obtain ⟨g8, hD⟩ := grd_s hD
          refine g_iald cx wo m15 (cel_15 E ad n σ6) g8 d_SF_place_70 ?_
          refine lv_topi (fun x9 ex9 => ?_)
          have hD := nm_at hD ex9
          try dsimp only at hD
          refine lv_istore_n (lv' := [(3, .int x9), (0, .ref (ad 0)), (1, .int p1), (2, .int p2)]) hx hb d_SF_place_71 rfl hl (by decide) rfl (fun ls hl => ?_)
          refine lv_iload_n hx hb d_SF_place_72 rfl (lv_at hl 0 rfl) ?_
          refine lv_iconst (v := -1) hx hb d_SF_place_73 (by decide) ?_
          refine lv_icmp_ne (tgt := 81) hx hb d_SF_place_74 (by decide) (fun c10 => ?_) (fun c10 => ?_)
          · have hD := ite_n hD c10
            refine lv_aload_n hx hb d_SF_place_81 rfl (lv_at hl 1 rfl) ?_
            refine g_get cx wo m0 (cel_0 E ad n σ6) rfl in_SF 0 (by decide) wf_SF_12 rfl d_SF_place_82 ?_
            refine lv_iload_n hx hb d_SF_place_85 rfl (lv_at hl 0 rfl) ?_
            obtain ⟨x11, hcx11, hD⟩ := bd_s hD
            try dsimp only [nm2] at hD
            refine call_Vi cx wo (k_LA_diskOf l E ad n L (fun a h => hL a ((by decide : ∀ a ∈ ([1] : List Nat), a ∈ ([0, 1, 2, 3, 4, 9, 11, 13, 14, 15, 16] : List Nat)) a h)) F σ6  x9 x11 hcx11) m1 (cel_1 E ad n σ6) rfl rfl mw_LA_diskOf wm_SF_256 ⟨by decide, by decide⟩ ⟨by decide, by decide⟩ hl.1 rfl (Nat.le_of_ble_eq_true rfl) d_SF_place_86 (fun H locs wo => ?_)
            cases hD
            exact tX_i cx wo rfl d_SF_place_89
          · have hD := ite_p hD c10
            refine lv_iconst (v := -1) hx hb d_SF_place_77 (by decide) ?_
            refine lv_goto (tgt := 89) hx hb d_SF_place_78 (by decide) ?_
            cases hD
            exact tX_i cx wo rfl d_SF_place_89
        · have hD := ite_n hD c4
          cases hD
          exact t_throw (k := 1) cx hsz hne kt sx hfl wo own_1 (by decide) wk_SF_56 wp_IA wn_IA (tx := "the position is none of a stripe") (by decide) hl.1 ⟨by decide, by decide, by decide, by decide⟩ d_SF_place_40 d_SF_place_43 d_SF_place_44 d_SF_place_46 d_SF_place_49
    · have hD := ite_n hD c2
      cases hD
      exact t_throw (k := 1) cx hsz hne kt sx hfl wo own_1 (by decide) wk_SF_56 wp_IA wn_IA (tx := "there is no such row") (by decide) hl.1 ⟨by decide, by decide, by decide, by decide⟩ d_SF_place_15 d_SF_place_18 d_SF_place_19 d_SF_place_21 d_SF_place_24
