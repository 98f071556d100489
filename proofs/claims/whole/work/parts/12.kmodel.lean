def D_MD_thrown (F : Nat) (n : Nat → Nat) (σ : HS)  : Option (Int32) :=
some (σ.1 20 0)
set_option maxRecDepth 100000 in
set_option maxHeartbeats 4000000 in
theorem k_MD_thrown (l : Launch) (E : EV) (ad n : Nat → Nat) (L : List Nat) (hL : ∀ a ∈ ([20] : List Nat), a ∈ L) (F : Nat) (σ  : HS)  (r : Int32) (hD : D_MD_thrown F n σ  = some r) : CtI l E y_MD_thrown c_MD_thrown 1 (some FieldType.int) ({ frames := 0, cells := 0, slots := 0, locals := 0 }) [.ref (ad 20)] (wl E ad n L σ) r (wl E ad n L σ) := by
  refine fun sz => ent (by decide) (Nat.le_of_ble_eq_true rfl) ?_
  intro p e s m below meth c hsz cx wo ls hl
  have hx := cx.1.1
  have hb := cx.1.2.1
  have hown := cx.1.2.2.2.1
  have hts := cx.1.2.2.2.2
  have hl : lv_has ls 1 [(0, .ref (ad 20))] := hl
  have m20 : 20 ∈ L := hL 20 (by decide)
  rw [D_MD_thrown] at hD
  refine lv_aload_n hx hb d_MD_thrown_0 rfl (lv_at hl 0 rfl) ?_
  refine g_get cx wo m20 (cel_20 E ad n σ) rfl in_MD 0 (by decide) wf_MD_74 rfl d_MD_thrown_1 ?_
  cases hD
  exact t_ireti cx wo rfl rfl d_MD_thrown_4
def D_MD_fails (F : Nat) (n : Nat → Nat) (σ : HS) (p1 : Int32) (p2 : Int32) : Option (HS × Int32) :=
(if p1 = 0 then
    nm (stF σ 20 0 (0 : Int32)) (fun σ2 =>
    grd (isB p1) (
    some (σ2, p1)))
  else
    nm (stF σ 20 0 p2) (fun σ4 =>
    grd (isB p1) (
    some (σ4, p1))))
set_option maxRecDepth 100000 in
set_option maxHeartbeats 4000000 in
theorem k_MD_fails (l : Launch) (E : EV) (ad n : Nat → Nat) (L : List Nat) (hL : ∀ a ∈ ([20] : List Nat), a ∈ L) (F : Nat) (σ σo : HS) (p1 : Int32) (p2 : Int32) (r : Int32) (hD : D_MD_fails F n σ p1 p2 = some (σo, r)) : CtI l E y_MD_fails c_MD_fails 3 (some FieldType.boolean) ({ frames := 0, cells := 0, slots := 0, locals := 0 }) [.ref (ad 20), .int p1, .int p2] (wl E ad n L σ) r (wl E ad n L σo) := by
  refine fun sz => ent (by decide) (Nat.le_of_ble_eq_true rfl) ?_
  intro p e s m below meth c hsz cx wo ls hl
  have hx := cx.1.1
  have hb := cx.1.2.1
  have hown := cx.1.2.2.2.1
  have hts := cx.1.2.2.2.2
  have hl : lv_has ls 3 [(0, .ref (ad 20)), (1, .int p1), (2, .int p2)] := hl
  have m20 : 20 ∈ L := hL 20 (by decide)
  rw [D_MD_fails] at hD
  refine lv_aload_n hx hb d_MD_fails_0 rfl (lv_at hl 0 rfl) ?_
  refine lv_iload_n hx hb d_MD_fails_1 rfl (lv_at hl 1 rfl) ?_
  refine lv_if_eq (tgt := 9) hx hb d_MD_fails_2 (by decide) (fun c1 => ?_) (fun c1 => ?_)
  · have hD := ite_p hD c1
    refine lv_iconst (v := 0) hx hb d_MD_fails_9 (by decide) ?_
    refine g_put cx wo m20 (cel_20 E ad n σ) rfl in_MD t_MD tok_MD n_MD 0 (by decide) wf_MD_74 rfl rfl rfl (Nat.le_of_ble_eq_true rfl) rfl d_MD_fails_10 (fun H locs wo => ?_)
    obtain ⟨σ2, eσ2⟩ : ∃ z, z = stF σ 20 0 (0 : Int32) := ⟨_, rfl⟩
    rw [← eσ2] at wo
    have hD := nm_at hD eσ2
    try dsimp only at hD
    refine lv_iload_n hx hb d_MD_fails_13 rfl (lv_at hl 1 rfl) ?_
    obtain ⟨g3, hD⟩ := grd_s hD
    cases hD
    exact t_ireti cx wo (isB_n g3) rfl d_MD_fails_14
  · have hD := ite_n hD c1
    refine lv_iload_n hx hb d_MD_fails_5 rfl (lv_at hl 2 rfl) ?_
    refine lv_goto (tgt := 10) hx hb d_MD_fails_6 (by decide) ?_
    refine g_put cx wo m20 (cel_20 E ad n σ) rfl in_MD t_MD tok_MD n_MD 0 (by decide) wf_MD_74 rfl rfl rfl (Nat.le_of_ble_eq_true rfl) rfl d_MD_fails_10 (fun H locs wo => ?_)
    obtain ⟨σ4, eσ4⟩ : ∃ z, z = stF σ 20 0 p2 := ⟨_, rfl⟩
    rw [← eσ4] at wo
    have hD := nm_at hD eσ4
    try dsimp only at hD
    refine lv_iload_n hx hb d_MD_fails_13 rfl (lv_at hl 1 rfl) ?_
    obtain ⟨g5, hD⟩ := grd_s hD
    cases hD
    exact t_ireti cx wo (isB_n g5) rfl d_MD_fails_14
def D_MD_feed_L53 (F : Nat) (n : Nat → Nat) (p1 : Int32) (p2 : Int64) : Nat → HS → Int32 → Option (HS)
  | 0, _, _ => none
  | k9 + 1, σ7, x10 =>
      (if p1 ≤ x10 then
            some σ7
          else
            grd (inb ((σ7.1 20 17) + x10) (n 27)) (
            nm (stI σ7 27 (((σ7.1 20 17) + x10)).toNatClampNeg (((p2 >>> ((((8 : Int32) * x10)).toInt64 &&& 63)) &&& (255 : Int64))).toInt32) (fun σ13 =>
            nm (x10 + (1 : Int32)) (fun x14 =>
            D_MD_feed_L53 F n p1 p2 k9 σ13 x14))))
def D_MD_feed (F : Nat) (n : Nat → Nat) (σ : HS) (p1 : Int32) (p2 : Int64) : Option (HS × Int32) :=
jn (fun (σ2 : HS) (x3 : Int32) =>
    (D_MD_fails F n σ2 x3 (2 : Int32)).bind (fun (qx4 : HS × Int32) => nm2 qx4 (fun (σ5 : HS) (x4 : Int32) =>
    (if x4 = 0 then
      (D_MD_feed_L53 F n p1 p2 F σ5 (0 : Int32)).bind (fun (σ15 : HS) =>
      nm (stF σ15 20 17 ((σ15.1 20 17) + p1)) (fun σ19 =>
        some (σ19, (σ19.1 20 17))))
    else
      some (σ5, (0 : Int32))))))
  (fun j1 =>
  jn (fun (x21 : Int32) =>
    (D_MD_fails F n σ x21 (1 : Int32)).bind (fun (qx22 : HS × Int32) => nm2 qx22 (fun (σ23 : HS) (x22 : Int32) =>
    (if x22 = 0 then
      (if ((σ23.1 20 17) + p1) ≤ (64 : Int32) then
        j1 σ23 (0 : Int32)
      else
        j1 σ23 (1 : Int32))
    else
      some (σ23, (0 : Int32))))))
  (fun j20 =>
  (if p1 < (1 : Int32) then
    j20 (1 : Int32)
  else
    (if p1 ≤ (8 : Int32) then
      j20 (0 : Int32)
    else
      j20 (1 : Int32)))))
set_option maxRecDepth 100000 in
set_option maxHeartbeats 4000000 in
theorem k_MD_feed (l : Launch) (E : EV) (ad n : Nat → Nat) (L : List Nat) (hL : ∀ a ∈ ([20, 27] : List Nat), a ∈ L) (F : Nat) (σ σo : HS) (p1 : Int32) (p2 : Int64) (r : Int32) (hD : D_MD_feed F n σ p1 p2 = some (σo, r)) : CtI l E y_MD_feed c_MD_feed 5 (some FieldType.int) ({ frames := 1, cells := 0, slots := 0, locals := 22 }) [.ref (ad 20), .int p1, .long p2] (wl E ad n L σ) r (wl E ad n L σo) := by
  refine fun sz => ent (by decide) (Nat.le_of_ble_eq_true rfl) ?_
  intro p e s m below meth c hsz cx wo ls hl
  have hx := cx.1.1
  have hb := cx.1.2.1
  have hown := cx.1.2.2.2.1
  have hts := cx.1.2.2.2.2
  have hl : lv_has ls 5 [(0, .ref (ad 20)), (1, .int p1), (2, .long p2)] := hl
  have m20 : 20 ∈ L := hL 20 (by decide)
  have m27 : 27 ∈ L := hL 27 (by decide)
  rw [D_MD_feed] at hD
  refine lv_aload_n hx hb d_MD_feed_0 rfl (lv_at hl 0 rfl) ?_
  refine lv_iload_n hx hb d_MD_feed_1 rfl (lv_at hl 1 rfl) ?_
  refine lv_iconst (v := 1) hx hb d_MD_feed_2 (by decide) ?_
  obtain ⟨j1, hj1, hD⟩ := jn_s hD
  try dsimp only at hD
  have j1_ok : ∀ (σ2 : HS) (x3 : Int32) (H : Heap) (locs : List Loc) (ls : Array Slot), j1 σ2 x3 = some (σo, r) → Wo E (va_A (wl E ad n L σ) sz) s.heap (wl E ad n L σ2) H locs → lv_has ls 5 [(0, .ref (ad 20)), (1, .int p1), (2, .long p2)] → W p l e ({ frames := 1, cells := 0, slots := 0, locals := 22 }) s m ([.ref (ad 20), .int p1, .long p2] : List Value).toArray below meth c H locs 0 0 (MQ below (va_Qi (fun (x : Int32) (_ : Unit) => x = r) (fun _ t => va_P E.1 cls6 (wl E ad n L σo) t.heap ∧ va_D (va_A (wl E ad n L σ) sz) (wl E ad n L σo)) (va_A (wl E ad n L σ) sz)) ([.ref (ad 20), .int p1, .long p2] : List Value).toArray s 0 0 (va_A (wl E ad n L σ) sz)) (F0 m 41 ls [.int x3, .ref (ad 20)]) := by
    intro σ2 x3 H locs ls hD wo hl
    rw [hj1] at hD
    try dsimp only at hD
    refine lv_iconst (v := 2) hx hb d_MD_feed_41 (by decide) ?_
    obtain ⟨⟨σ5, x4⟩, hcx4, hD⟩ := bd_s hD
    try dsimp only [nm2] at hD
    refine call_Vi cx wo (k_MD_fails l E ad n L (fun a h => hL a ((by decide : ∀ a ∈ ([20] : List Nat), a ∈ ([20, 27] : List Nat)) a h)) F σ2 σ5 x3 (2 : Int32) x4 hcx4) m20 (cel_20 E ad n σ2) rfl rfl mw_MD_fails wm_MD_100 ⟨by decide, by decide⟩ ⟨by decide, by decide⟩ hl.1 rfl (Nat.le_of_ble_eq_true rfl) d_MD_feed_42 (fun H locs wo => ?_)
    refine lv_if_eq (tgt := 50) hx hb d_MD_feed_45 (by decide) (fun c6 => ?_) (fun c6 => ?_)
    · have hD := ite_p hD c6
      refine lv_iconst (v := 0) hx hb d_MD_feed_50 (by decide) ?_
      refine lv_istore (lv' := [(4, .int (0 : Int32)), (0, .ref (ad 20)), (1, .int p1), (2, .long p2)]) hx hb d_MD_feed_51 hl (by decide) rfl (fun ls hl => ?_)
      have lp16 : ∀ (k9 : Nat) (σ7 : HS) (x10 : Int32) (H : Heap) (locs : List Loc) (ls : Array Slot) (res8 : HS), D_MD_feed_L53 F n p1 p2 k9 σ7 x10 = some res8 → (∀ (σ15 : HS) (H : Heap) (locs : List Loc) (ls : Array Slot), res8 = σ15 → Wo E (va_A (wl E ad n L σ) sz) s.heap (wl E ad n L σ15) H locs → lv_has ls 5 [(0, .ref (ad 20)), (1, .int p1)] → W p l e ({ frames := 1, cells := 0, slots := 0, locals := 22 }) s m ([.ref (ad 20), .int p1, .long p2] : List Value).toArray below meth c H locs 0 0 (MQ below (va_Qi (fun (x : Int32) (_ : Unit) => x = r) (fun _ t => va_P E.1 cls6 (wl E ad n L σo) t.heap ∧ va_D (va_A (wl E ad n L σ) sz) (wl E ad n L σo)) (va_A (wl E ad n L σ) sz)) ([.ref (ad 20), .int p1, .long p2] : List Value).toArray s 0 0 (va_A (wl E ad n L σ) sz)) (F0 m 89 ls [])) → Wo E (va_A (wl E ad n L σ) sz) s.heap (wl E ad n L σ7) H locs → lv_has ls 5 [(4, .int x10), (0, .ref (ad 20)), (1, .int p1), (2, .long p2)] → W p l e ({ frames := 1, cells := 0, slots := 0, locals := 22 }) s m ([.ref (ad 20), .int p1, .long p2] : List Value).toArray below meth c H locs 0 0 (MQ below (va_Qi (fun (x : Int32) (_ : Unit) => x = r) (fun _ t => va_P E.1 cls6 (wl E ad n L σo) t.heap ∧ va_D (va_A (wl E ad n L σ) sz) (wl E ad n L σo)) (va_A (wl E ad n L σ) sz)) ([.ref (ad 20), .int p1, .long p2] : List Value).toArray s 0 0 (va_A (wl E ad n L σ) sz)) (F0 m 53 ls []) := by
        intro k9
        induction k9 with
        | zero =>
          intro σ7 x10 H locs ls res8 hD
          rw [D_MD_feed_L53.eq_1] at hD
          cases hD
        | succ k9 ih =>
          intro σ7 x10 H locs ls res8 hD hex wo hl
          rw [D_MD_feed_L53.eq_2] at hD
          refine lv_iload hx hb d_MD_feed_53 (lv_at hl 0 rfl) ?_
          refine lv_iload_n hx hb d_MD_feed_55 rfl (lv_at hl 2 rfl) ?_
          refine lv_icmp_ge (tgt := 89) hx hb d_MD_feed_56 (by decide) (fun c11 => ?_) (fun c11 => ?_)
          · have hD := ite_p hD c11
            exact hex σ7 _ _ _ (Option.some.inj hD).symm wo (lv_sub hl [1, 2] rfl)
          · have hD := ite_n hD c11
            refine lv_aload_n hx hb d_MD_feed_59 rfl (lv_at hl 1 rfl) ?_
            refine g_get cx wo m20 (cel_20 E ad n σ7) rfl in_MD 16 (by decide) wf_MD_39 rfl d_MD_feed_60 ?_
            refine lv_aload_n hx hb d_MD_feed_63 rfl (lv_at hl 1 rfl) ?_
            refine g_get cx wo m20 (cel_20 E ad n σ7) rfl in_MD 17 (by decide) wf_MD_104 rfl d_MD_feed_64 ?_
            refine lv_iload hx hb d_MD_feed_67 (lv_at hl 0 rfl) ?_
            refine lv_iadd hx hb d_MD_feed_69 ?_
            refine lv_lload_n hx hb d_MD_feed_70 rfl (lv_at hl 3 rfl) ?_
            refine lv_bipush (v := 8) hx hb d_MD_feed_71 (by decide) ?_
            refine lv_iload hx hb d_MD_feed_73 (lv_at hl 0 rfl) ?_
            refine lv_imul hx hb d_MD_feed_75 ?_
            refine lv_lshr hx hb d_MD_feed_76 rfl ?_
            refine lv_ldc2 hx hb hown (hts _ wj_MD_107) d_MD_feed_77 ?_
            refine lv_land hx hb d_MD_feed_80 ?_
            refine lv_l2i hx hb d_MD_feed_81 rfl ?_
            obtain ⟨g12, hD⟩ := grd_s hD
            refine g_iast cx wo m27 (cel_27 E ad n) g12 d_MD_feed_82 (fun H locs wo => ?_)
            obtain ⟨σ13, eσ13⟩ : ∃ z, z = stI σ7 27 (((σ7.1 20 17) + x10)).toNatClampNeg (((p2 >>> ((((8 : Int32) * x10)).toInt64 &&& 63)) &&& (255 : Int64))).toInt32 := ⟨_, rfl⟩
            rw [← eσ13] at wo
            have hD := nm_at hD eσ13
            try dsimp only at hD
            obtain ⟨x14, ex14⟩ : ∃ y : Int32, y = x10 + (1 : Int32) := ⟨_, rfl⟩
            have hD := nm_at hD ex14
            try dsimp only at hD
            refine lv_iinc (v := x14) (lv' := [(4, .int x14), (0, .ref (ad 20)), (1, .int p1), (2, .long p2)]) hx hb d_MD_feed_83 hl (k := 0) rfl (by rw [ex14]; rfl) (by decide) rfl (fun ls hl => ?_)
            refine lv_goto (tgt := 53) hx hb d_MD_feed_86 (by decide) ?_
            exact ih σ13 x14 _ _ _ _ hD hex wo (lv_sub hl [0, 1, 2, 3] rfl)
      obtain ⟨res17, hr18, hD⟩ := bd_s hD
      refine lp16 F σ5 (0 : Int32) _ _ _ _ hr18 (fun σ15 H locs ls hz wo hl => ?_) wo (lv_sub hl [0, 1, 2, 3] rfl)
      have hz := hz.symm
      subst hz
      try dsimp only at hD
      refine lv_aload_n hx hb d_MD_feed_89 rfl (lv_at hl 0 rfl) ?_
      refine lv_dup hx hb d_MD_feed_90 rfl ?_
      refine g_get cx wo m20 (cel_20 E ad n σ15) rfl in_MD 17 (by decide) wf_MD_104 rfl d_MD_feed_91 ?_
      refine lv_iload_n hx hb d_MD_feed_94 rfl (lv_at hl 1 rfl) ?_
      refine lv_iadd hx hb d_MD_feed_95 ?_
      refine g_put cx wo m20 (cel_20 E ad n σ15) rfl in_MD t_MD tok_MD n_MD 17 (by decide) wf_MD_104 rfl rfl rfl (Nat.le_of_ble_eq_true rfl) rfl d_MD_feed_96 (fun H locs wo => ?_)
      obtain ⟨σ19, eσ19⟩ : ∃ z, z = stF σ15 20 17 ((σ15.1 20 17) + p1) := ⟨_, rfl⟩
      rw [← eσ19] at wo
      have hD := nm_at hD eσ19
      try dsimp only at hD
      refine lv_aload_n hx hb d_MD_feed_99 rfl (lv_at hl 0 rfl) ?_
      refine g_get cx wo m20 (cel_20 E ad n σ19) rfl in_MD 17 (by decide) wf_MD_104 rfl d_MD_feed_100 ?_
      cases hD
      exact t_ireti cx wo rfl rfl d_MD_feed_103
    · have hD := ite_n hD c6
      refine lv_iconst (v := 0) hx hb d_MD_feed_48 (by decide) ?_
      cases hD
      exact t_ireti cx wo rfl rfl d_MD_feed_49
  obtain ⟨j20, hj20, hD⟩ := jn_s hD
  try dsimp only at hD
  have j20_ok : ∀ (x21 : Int32) (H : Heap) (locs : List Loc) (ls : Array Slot), j20 x21 = some (σo, r) → Wo E (va_A (wl E ad n L σ) sz) s.heap (wl E ad n L σ) H locs → lv_has ls 5 [(0, .ref (ad 20)), (1, .int p1), (2, .long p2)] → W p l e ({ frames := 1, cells := 0, slots := 0, locals := 22 }) s m ([.ref (ad 20), .int p1, .long p2] : List Value).toArray below meth c H locs 0 0 (MQ below (va_Qi (fun (x : Int32) (_ : Unit) => x = r) (fun _ t => va_P E.1 cls6 (wl E ad n L σo) t.heap ∧ va_D (va_A (wl E ad n L σ) sz) (wl E ad n L σo)) (va_A (wl E ad n L σ) sz)) ([.ref (ad 20), .int p1, .long p2] : List Value).toArray s 0 0 (va_A (wl E ad n L σ) sz)) (F0 m 17 ls [.int x21, .ref (ad 20)]) := by
    intro x21 H locs ls hD wo hl
    rw [hj20] at hD
    try dsimp only at hD
    refine lv_iconst (v := 1) hx hb d_MD_feed_17 (by decide) ?_
    obtain ⟨⟨σ23, x22⟩, hcx22, hD⟩ := bd_s hD
    try dsimp only [nm2] at hD
    refine call_Vi cx wo (k_MD_fails l E ad n L (fun a h => hL a ((by decide : ∀ a ∈ ([20] : List Nat), a ∈ ([20, 27] : List Nat)) a h)) F σ σ23 x21 (1 : Int32) x22 hcx22) m20 (cel_20 E ad n σ) rfl rfl mw_MD_fails wm_MD_100 ⟨by decide, by decide⟩ ⟨by decide, by decide⟩ hl.1 rfl (Nat.le_of_ble_eq_true rfl) d_MD_feed_18 (fun H locs wo => ?_)
    refine lv_if_ne (tgt := 48) hx hb d_MD_feed_21 (by decide) (fun c24 => ?_) (fun c24 => ?_)
    · have hD := ite_n hD c24
      refine lv_iconst (v := 0) hx hb d_MD_feed_48 (by decide) ?_
      cases hD
      exact t_ireti cx wo rfl rfl d_MD_feed_49
    · have hD := ite_p hD c24
      refine lv_aload_n hx hb d_MD_feed_24 rfl (lv_at hl 0 rfl) ?_
      refine lv_aload_n hx hb d_MD_feed_25 rfl (lv_at hl 0 rfl) ?_
      refine g_get cx wo m20 (cel_20 E ad n σ23) rfl in_MD 17 (by decide) wf_MD_104 rfl d_MD_feed_26 ?_
      refine lv_iload_n hx hb d_MD_feed_29 rfl (lv_at hl 1 rfl) ?_
      refine lv_iadd hx hb d_MD_feed_30 ?_
      refine lv_bipush (v := 64) hx hb d_MD_feed_31 (by decide) ?_
      refine lv_icmp_le (tgt := 40) hx hb d_MD_feed_33 (by decide) (fun c25 => ?_) (fun c25 => ?_)
      · have hD := ite_p hD c25
        refine lv_iconst (v := 0) hx hb d_MD_feed_40 (by decide) ?_
        exact j1_ok σ23 (0 : Int32) _ _ _ hD wo (lv_sub hl [0, 1, 2] rfl)
      · have hD := ite_n hD c25
        refine lv_iconst (v := 1) hx hb d_MD_feed_36 (by decide) ?_
        refine lv_goto (tgt := 41) hx hb d_MD_feed_37 (by decide) ?_
        exact j1_ok σ23 (1 : Int32) _ _ _ hD wo (lv_sub hl [0, 1, 2] rfl)
  refine lv_icmp_lt (tgt := 12) hx hb d_MD_feed_3 (by decide) (fun c26 => ?_) (fun c26 => ?_)
  · have hD := ite_p hD c26
    refine lv_iconst (v := 1) hx hb d_MD_feed_12 (by decide) ?_
    refine lv_goto (tgt := 17) hx hb d_MD_feed_13 (by decide) ?_
    exact j20_ok (1 : Int32) _ _ _ hD wo (lv_sub hl [0, 1, 2] rfl)
  · have hD := ite_n hD c26
    refine lv_iload_n hx hb d_MD_feed_6 rfl (lv_at hl 1 rfl) ?_
    refine lv_bipush (v := 8) hx hb d_MD_feed_7 (by decide) ?_
    refine lv_icmp_le (tgt := 16) hx hb d_MD_feed_9 (by decide) (fun c27 => ?_) (fun c27 => ?_)
    · have hD := ite_p hD c27
      refine lv_iconst (v := 0) hx hb d_MD_feed_16 (by decide) ?_
      exact j20_ok (0 : Int32) _ _ _ hD wo (lv_sub hl [0, 1, 2] rfl)
    · have hD := ite_n hD c27
      refine lv_iconst (v := 1) hx hb d_MD_feed_12 (by decide) ?_
      refine lv_goto (tgt := 17) hx hb d_MD_feed_13 (by decide) ?_
      exact j20_ok (1 : Int32) _ _ _ hD wo (lv_sub hl [0, 1, 2] rfl)
def D_MD_blocks (F : Nat) (n : Nat → Nat) (σ : HS)  : Option (Int32) :=
some (((σ.1 20 3) * (σ.1 20 4)) * ((σ.1 20 2) - (1 : Int32)))
set_option maxRecDepth 100000 in
set_option maxHeartbeats 4000000 in
theorem k_MD_blocks (l : Launch) (E : EV) (ad n : Nat → Nat) (L : List Nat) (hL : ∀ a ∈ ([20] : List Nat), a ∈ L) (F : Nat) (σ  : HS)  (r : Int32) (hD : D_MD_blocks F n σ  = some r) : CtI l E y_MD_blocks c_MD_blocks 1 (some FieldType.int) ({ frames := 0, cells := 0, slots := 0, locals := 0 }) [.ref (ad 20)] (wl E ad n L σ) r (wl E ad n L σ) := by
  refine fun sz => ent (by decide) (Nat.le_of_ble_eq_true rfl) ?_
  intro p e s m below meth c hsz cx wo ls hl
  have hx := cx.1.1
  have hb := cx.1.2.1
  have hown := cx.1.2.2.2.1
  have hts := cx.1.2.2.2.2
  have hl : lv_has ls 1 [(0, .ref (ad 20))] := hl
  have m20 : 20 ∈ L := hL 20 (by decide)
  rw [D_MD_blocks] at hD
  refine lv_aload_n hx hb d_MD_blocks_0 rfl (lv_at hl 0 rfl) ?_
  refine g_get cx wo m20 (cel_20 E ad n σ) rfl in_MD 3 (by decide) wf_MD_58 rfl d_MD_blocks_1 ?_
  refine lv_aload_n hx hb d_MD_blocks_4 rfl (lv_at hl 0 rfl) ?_
  refine g_get cx wo m20 (cel_20 E ad n σ) rfl in_MD 4 (by decide) wf_MD_61 rfl d_MD_blocks_5 ?_
  refine lv_imul hx hb d_MD_blocks_8 ?_
  refine lv_aload_n hx hb d_MD_blocks_9 rfl (lv_at hl 0 rfl) ?_
  refine g_get cx wo m20 (cel_20 E ad n σ) rfl in_MD 2 (by decide) wf_MD_55 rfl d_MD_blocks_10 ?_
  refine lv_iconst (v := 1) hx hb d_MD_blocks_13 (by decide) ?_
  refine lv_isub hx hb d_MD_blocks_14 ?_
  refine lv_imul hx hb d_MD_blocks_15 ?_
  cases hD
  exact t_ireti cx wo rfl rfl d_MD_blocks_16
def D_MD_diskOf (F : Nat) (n : Nat → Nat) (σ : HS) (p1 : Int32) (p2 : Int32) : Option (Int32) :=
grd (decide (¬ (σ.1 20 6) = 0)) (
  grd (inb (p1 - p1 / (σ.1 20 6) * (σ.1 20 6)) (n 21)) (
  grd (decide (¬ (σ.1 20 1) = 0)) (
  some ((p1 + (p2 * (σ.1 21 ((p1 - p1 / (σ.1 20 6) * (σ.1 20 6))).toNatClampNeg))) - (p1 + (p2 * (σ.1 21 ((p1 - p1 / (σ.1 20 6) * (σ.1 20 6))).toNatClampNeg))) / (σ.1 20 1) * (σ.1 20 1)))))
set_option maxRecDepth 100000 in
set_option maxHeartbeats 4000000 in
theorem k_MD_diskOf (l : Launch) (E : EV) (ad n : Nat → Nat) (L : List Nat) (hL : ∀ a ∈ ([20, 21] : List Nat), a ∈ L) (F : Nat) (σ  : HS) (p1 : Int32) (p2 : Int32) (r : Int32) (hD : D_MD_diskOf F n σ p1 p2 = some r) : CtI l E y_MD_diskOf c_MD_diskOf 3 (some FieldType.int) ({ frames := 0, cells := 0, slots := 0, locals := 0 }) [.ref (ad 20), .int p1, .int p2] (wl E ad n L σ) r (wl E ad n L σ) := by
  refine fun sz => ent (by decide) (Nat.le_of_ble_eq_true rfl) ?_
  intro p e s m below meth c hsz cx wo ls hl
  have hx := cx.1.1
  have hb := cx.1.2.1
  have hown := cx.1.2.2.2.1
  have hts := cx.1.2.2.2.2
  have hl : lv_has ls 3 [(0, .ref (ad 20)), (1, .int p1), (2, .int p2)] := hl
  have m20 : 20 ∈ L := hL 20 (by decide)
  have m21 : 21 ∈ L := hL 21 (by decide)
  rw [D_MD_diskOf] at hD
  refine lv_iload_n hx hb d_MD_diskOf_0 rfl (lv_at hl 1 rfl) ?_
  refine lv_iload_n hx hb d_MD_diskOf_1 rfl (lv_at hl 2 rfl) ?_
  refine lv_aload_n hx hb d_MD_diskOf_2 rfl (lv_at hl 0 rfl) ?_
  refine g_get cx wo m20 (cel_20 E ad n σ) rfl in_MD 5 (by decide) wf_MD_7 rfl d_MD_diskOf_3 ?_
  refine lv_iload_n hx hb d_MD_diskOf_6 rfl (lv_at hl 1 rfl) ?_
  refine lv_aload_n hx hb d_MD_diskOf_7 rfl (lv_at hl 0 rfl) ?_
  refine g_get cx wo m20 (cel_20 E ad n σ) rfl in_MD 6 (by decide) wf_MD_64 rfl d_MD_diskOf_8 ?_
  obtain ⟨g1, hD⟩ := grd_s hD
  refine lv_irem hx hb d_MD_diskOf_11 (of_decide_eq_true g1) ?_
  obtain ⟨g2, hD⟩ := grd_s hD
  refine g_iald cx wo m21 (cel_21 E ad n σ) g2 d_MD_diskOf_12 ?_
  refine lv_imul hx hb d_MD_diskOf_13 ?_
  refine lv_iadd hx hb d_MD_diskOf_14 ?_
  refine lv_aload_n hx hb d_MD_diskOf_15 rfl (lv_at hl 0 rfl) ?_
  refine g_get cx wo m20 (cel_20 E ad n σ) rfl in_MD 1 (by decide) wf_MD_52 rfl d_MD_diskOf_16 ?_
  obtain ⟨g3, hD⟩ := grd_s hD
  refine lv_irem hx hb d_MD_diskOf_19 (of_decide_eq_true g3) ?_
  cases hD
  exact t_ireti cx wo rfl rfl d_MD_diskOf_20
def D_MD_at (F : Nat) (n : Nat → Nat) (σ : HS) (p0 : Int32) (p1 : Int32) : Option (Int32) :=
some (((65 : Int32) * p0) + p1)
set_option maxRecDepth 100000 in
set_option maxHeartbeats 4000000 in
theorem k_MD_at (l : Launch) (E : EV) (ad n : Nat → Nat) (L : List Nat) (hL : ∀ a ∈ ([] : List Nat), a ∈ L) (F : Nat) (σ  : HS) (p0 : Int32) (p1 : Int32) (r : Int32) (hD : D_MD_at F n σ p0 p1 = some r) : CtI l E y_MD_at c_MD_at 2 (some FieldType.int) ({ frames := 0, cells := 0, slots := 0, locals := 0 }) [.int p0, .int p1] (wl E ad n L σ) r (wl E ad n L σ) := by
  refine fun sz => ent (by decide) (Nat.le_of_ble_eq_true rfl) ?_
  intro p e s m below meth c hsz cx wo ls hl
  have hx := cx.1.1
  have hb := cx.1.2.1
  have hown := cx.1.2.2.2.1
  have hts := cx.1.2.2.2.2
  have hl : lv_has ls 2 [(0, .int p0), (1, .int p1)] := hl
  rw [D_MD_at] at hD
  refine lv_bipush (v := 65) hx hb d_MD_at_0 (by decide) ?_
  refine lv_iload_n hx hb d_MD_at_2 rfl (lv_at hl 0 rfl) ?_
  refine lv_imul hx hb d_MD_at_3 ?_
  refine lv_iload_n hx hb d_MD_at_4 rfl (lv_at hl 1 rfl) ?_
  refine lv_iadd hx hb d_MD_at_5 ?_
  cases hD
  exact t_ireti cx wo rfl rfl d_MD_at_6
def D_MD_isValid_L36 (F : Nat) (n : Nat → Nat) (σ : HS) (p1 : Int32) (p2 : Int32) : Nat → Int32 → Int32 → Option (Int32)
  | 0, _, _ => none
  | k9 + 1, x10, x11 =>
      (D_MD_at F n σ p1 p2).bind (fun (x12 : Int32) =>
          (if (((70 : Int32) * x12) + (70 : Int32)) ≤ x10 then
            some x11
          else
            (if x11 = 0 then
              nm (x10 + (1 : Int32)) (fun x15 =>
              D_MD_isValid_L36 F n σ p1 p2 k9 x15 (0 : Int32))
            else
              grd (inb x10 (n 25)) (
              (if (σ.1 25 (x10).toNatClampNeg) = 0 then
                nm (x10 + (1 : Int32)) (fun x19 =>
                D_MD_isValid_L36 F n σ p1 p2 k9 x19 (1 : Int32))
              else
                nm (x10 + (1 : Int32)) (fun x18 =>
                D_MD_isValid_L36 F n σ p1 p2 k9 x18 (0 : Int32)))))))
def D_MD_isValid (F : Nat) (n : Nat → Nat) (σ : HS) (p1 : Int32) (p2 : Int32) : Option (Int32) :=
grd (inb p1 (n 22)) (
  (if (σ.1 22 (p1).toNatClampNeg) = 0 then
    some (0 : Int32)
  else
    (D_MD_at F n σ p1 p2).bind (fun (x3 : Int32) =>
    grd (inb x3 (n 23)) (
    (if (σ.1 23 (x3).toNatClampNeg) = 0 then
      some (0 : Int32)
    else
      (D_MD_at F n σ p1 p2).bind (fun (x6 : Int32) =>
      nm ((70 : Int32) * x6) (fun x7 =>
      (D_MD_isValid_L36 F n σ p1 p2 F x7 (1 : Int32)).bind (fun (x20 : Int32) =>
      grd (isB x20) (
        some x20)))))))))
set_option maxRecDepth 100000 in
set_option maxHeartbeats 4000000 in
theorem k_MD_isValid (l : Launch) (E : EV) (ad n : Nat → Nat) (L : List Nat) (hL : ∀ a ∈ ([20, 22, 23, 25] : List Nat), a ∈ L) (F : Nat) (σ  : HS) (p1 : Int32) (p2 : Int32) (r : Int32) (hD : D_MD_isValid F n σ p1 p2 = some r) : CtI l E y_MD_isValid c_MD_isValid 5 (some FieldType.boolean) ({ frames := 1, cells := 0, slots := 0, locals := 21 }) [.ref (ad 20), .int p1, .int p2] (wl E ad n L σ) r (wl E ad n L σ) := by
  refine fun sz => ent (by decide) (Nat.le_of_ble_eq_true rfl) ?_
  intro p e s m below meth c hsz cx wo ls hl
  have hx := cx.1.1
  have hb := cx.1.2.1
  have hown := cx.1.2.2.2.1
  have hts := cx.1.2.2.2.2
  have hl : lv_has ls 5 [(0, .ref (ad 20)), (1, .int p1), (2, .int p2)] := hl
  have m20 : 20 ∈ L := hL 20 (by decide)
  have m22 : 22 ∈ L := hL 22 (by decide)
  have m23 : 23 ∈ L := hL 23 (by decide)
  have m25 : 25 ∈ L := hL 25 (by decide)
  rw [D_MD_isValid] at hD
  refine lv_aload_n hx hb d_MD_isValid_0 rfl (lv_at hl 0 rfl) ?_
  refine g_get cx wo m20 (cel_20 E ad n σ) rfl in_MD 7 (by decide) wf_MD_13 rfl d_MD_isValid_1 ?_
  refine lv_iload_n hx hb d_MD_isValid_4 rfl (lv_at hl 1 rfl) ?_
  obtain ⟨g1, hD⟩ := grd_s hD
  refine g_zald cx wo m22 (cel_22 E ad n σ) g1 d_MD_isValid_5 ?_
  refine lv_if_eq (tgt := 22) hx hb d_MD_isValid_6 (by decide) (fun c2 => ?_) (fun c2 => ?_)
  · have hD := ite_p hD c2
    refine lv_iconst (v := 0) hx hb d_MD_isValid_22 (by decide) ?_
    cases hD
    exact t_ireti cx wo rfl rfl d_MD_isValid_23
  · have hD := ite_n hD c2
    refine lv_aload_n hx hb d_MD_isValid_9 rfl (lv_at hl 0 rfl) ?_
    refine g_get cx wo m20 (cel_20 E ad n σ) rfl in_MD 8 (by decide) wf_MD_17 rfl d_MD_isValid_10 ?_
    refine lv_iload_n hx hb d_MD_isValid_13 rfl (lv_at hl 1 rfl) ?_
    refine lv_iload_n hx hb d_MD_isValid_14 rfl (lv_at hl 2 rfl) ?_
    obtain ⟨x3, hcx3, hD⟩ := bd_s hD
    try dsimp only [nm2] at hD
    refine call_Si cx wo (k_MD_at l E ad n L (fun a h => hL a ((by decide : ∀ a ∈ ([] : List Nat), a ∈ ([20, 22, 23, 25] : List Nat)) a h)) F σ  p1 p2 x3 hcx3) mw_MD_at wm_MD_67 ⟨by decide, by decide⟩ ⟨by decide, by decide⟩ hl.1 rfl (Nat.le_of_ble_eq_true rfl) d_MD_isValid_15 (fun H locs wo => ?_)
    obtain ⟨g4, hD⟩ := grd_s hD
    refine g_zald cx wo m23 (cel_23 E ad n σ) g4 d_MD_isValid_18 ?_
    refine lv_if_ne (tgt := 24) hx hb d_MD_isValid_19 (by decide) (fun c5 => ?_) (fun c5 => ?_)
    · have hD := ite_n hD c5
      refine lv_iconst (v := 1) hx hb d_MD_isValid_24 (by decide) ?_
      refine lv_istore_n (lv' := [(3, .int (1 : Int32)), (0, .ref (ad 20)), (1, .int p1), (2, .int p2)]) hx hb d_MD_isValid_25 rfl hl (by decide) rfl (fun ls hl => ?_)
      refine lv_bipush (v := 70) hx hb d_MD_isValid_26 (by decide) ?_
      refine lv_iload_n hx hb d_MD_isValid_28 rfl (lv_at hl 2 rfl) ?_
      refine lv_iload_n hx hb d_MD_isValid_29 rfl (lv_at hl 3 rfl) ?_
      obtain ⟨x6, hcx6, hD⟩ := bd_s hD
      try dsimp only [nm2] at hD
      refine call_Si cx wo (k_MD_at l E ad n L (fun a h => hL a ((by decide : ∀ a ∈ ([] : List Nat), a ∈ ([20, 22, 23, 25] : List Nat)) a h)) F σ  p1 p2 x6 hcx6) mw_MD_at wm_MD_67 ⟨by decide, by decide⟩ ⟨by decide, by decide⟩ hl.1 rfl (Nat.le_of_ble_eq_true rfl) d_MD_isValid_30 (fun H locs wo => ?_)
      refine lv_imul hx hb d_MD_isValid_33 ?_
      refine lv_topi (fun x7 ex7 => ?_)
      have hD := nm_at hD ex7
      try dsimp only at hD
      refine lv_istore (lv' := [(4, .int x7), (3, .int (1 : Int32)), (0, .ref (ad 20)), (1, .int p1), (2, .int p2)]) hx hb d_MD_isValid_34 hl (by decide) rfl (fun ls hl => ?_)
      have lp21 : ∀ (k9 : Nat) (x10 : Int32) (x11 : Int32) (H : Heap) (locs : List Loc) (ls : Array Slot) (res8 : Int32), D_MD_isValid_L36 F n σ p1 p2 k9 x10 x11 = some res8 → (∀ (x20 : Int32) (H : Heap) (locs : List Loc) (ls : Array Slot), res8 = x20 → Wo E (va_A (wl E ad n L σ) sz) s.heap (wl E ad n L σ) H locs → lv_has ls 5 [(3, .int x20)] → W p l e ({ frames := 1, cells := 0, slots := 0, locals := 21 }) s m ([.ref (ad 20), .int p1, .int p2] : List Value).toArray below meth c H locs 0 0 (MQ below (va_Qi (fun (x : Int32) (_ : Unit) => x = r) (fun _ t => va_P E.1 cls6 (wl E ad n L σ) t.heap ∧ va_D (va_A (wl E ad n L σ) sz) (wl E ad n L σ)) (va_A (wl E ad n L σ) sz)) ([.ref (ad 20), .int p1, .int p2] : List Value).toArray s 0 0 (va_A (wl E ad n L σ) sz)) (F0 m 78 ls [])) → Wo E (va_A (wl E ad n L σ) sz) s.heap (wl E ad n L σ) H locs → lv_has ls 5 [(4, .int x10), (3, .int x11), (0, .ref (ad 20)), (1, .int p1), (2, .int p2)] → W p l e ({ frames := 1, cells := 0, slots := 0, locals := 21 }) s m ([.ref (ad 20), .int p1, .int p2] : List Value).toArray below meth c H locs 0 0 (MQ below (va_Qi (fun (x : Int32) (_ : Unit) => x = r) (fun _ t => va_P E.1 cls6 (wl E ad n L σ) t.heap ∧ va_D (va_A (wl E ad n L σ) sz) (wl E ad n L σ)) (va_A (wl E ad n L σ) sz)) ([.ref (ad 20), .int p1, .int p2] : List Value).toArray s 0 0 (va_A (wl E ad n L σ) sz)) (F0 m 36 ls []) := by
        intro k9
        induction k9 with
        | zero =>
          intro x10 x11 H locs ls res8 hD
          rw [D_MD_isValid_L36.eq_1] at hD
          cases hD
        | succ k9 ih =>
          intro x10 x11 H locs ls res8 hD hex wo hl
          rw [D_MD_isValid_L36.eq_2] at hD
          refine lv_iload hx hb d_MD_isValid_36 (lv_at hl 0 rfl) ?_
          refine lv_bipush (v := 70) hx hb d_MD_isValid_38 (by decide) ?_
          refine lv_iload_n hx hb d_MD_isValid_40 rfl (lv_at hl 3 rfl) ?_
          refine lv_iload_n hx hb d_MD_isValid_41 rfl (lv_at hl 4 rfl) ?_
          obtain ⟨x12, hcx12, hD⟩ := bd_s hD
          try dsimp only [nm2] at hD
          refine call_Si cx wo (k_MD_at l E ad n L (fun a h => hL a ((by decide : ∀ a ∈ ([] : List Nat), a ∈ ([20, 22, 23, 25] : List Nat)) a h)) F σ  p1 p2 x12 hcx12) mw_MD_at wm_MD_67 ⟨by decide, by decide⟩ ⟨by decide, by decide⟩ hl.1 rfl (Nat.le_of_ble_eq_true rfl) d_MD_isValid_42 (fun H locs wo => ?_)
          refine lv_imul hx hb d_MD_isValid_45 ?_
          refine lv_bipush (v := 70) hx hb d_MD_isValid_46 (by decide) ?_
          refine lv_iadd hx hb d_MD_isValid_48 ?_
          refine lv_icmp_ge (tgt := 78) hx hb d_MD_isValid_49 (by decide) (fun c13 => ?_) (fun c13 => ?_)
          · have hD := ite_p hD c13
            exact hex x11 _ _ _ (Option.some.inj hD).symm wo (lv_sub hl [1] rfl)
          · have hD := ite_n hD c13
            refine lv_iload_n hx hb d_MD_isValid_52 rfl (lv_at hl 1 rfl) ?_
            refine lv_if_eq (tgt := 70) hx hb d_MD_isValid_53 (by decide) (fun c14 => ?_) (fun c14 => ?_)
            · have hD := ite_p hD c14
              refine lv_iconst (v := 0) hx hb d_MD_isValid_70 (by decide) ?_
              refine lv_istore_n (lv' := [(3, .int (0 : Int32)), (4, .int x10), (0, .ref (ad 20)), (1, .int p1), (2, .int p2)]) hx hb d_MD_isValid_71 rfl hl (by decide) rfl (fun ls hl => ?_)
              obtain ⟨x15, ex15⟩ : ∃ y : Int32, y = x10 + (1 : Int32) := ⟨_, rfl⟩
              have hD := nm_at hD ex15
              try dsimp only at hD
              refine lv_iinc (v := x15) (lv' := [(4, .int x15), (3, .int (0 : Int32)), (0, .ref (ad 20)), (1, .int p1), (2, .int p2)]) hx hb d_MD_isValid_72 hl (k := 1) rfl (by rw [ex15]; rfl) (by decide) rfl (fun ls hl => ?_)
              refine lv_goto (tgt := 36) hx hb d_MD_isValid_75 (by decide) ?_
              exact ih x15 (0 : Int32) _ _ _ _ hD hex wo (lv_sub hl [0, 1, 2, 3, 4] rfl)
            · have hD := ite_n hD c14
              refine lv_aload_n hx hb d_MD_isValid_56 rfl (lv_at hl 2 rfl) ?_
              refine g_get cx wo m20 (cel_20 E ad n σ) rfl in_MD 10 (by decide) wf_MD_24 rfl d_MD_isValid_57 ?_
              refine lv_iload hx hb d_MD_isValid_60 (lv_at hl 0 rfl) ?_
              obtain ⟨g16, hD⟩ := grd_s hD
              refine g_bald cx wo m25 (cel_25 E ad n σ) g16 d_MD_isValid_62 ?_
              refine lv_if_ne (tgt := 70) hx hb d_MD_isValid_63 (by decide) (fun c17 => ?_) (fun c17 => ?_)
              · have hD := ite_n hD c17
                refine lv_iconst (v := 0) hx hb d_MD_isValid_70 (by decide) ?_
                refine lv_istore_n (lv' := [(3, .int (0 : Int32)), (4, .int x10), (0, .ref (ad 20)), (1, .int p1), (2, .int p2)]) hx hb d_MD_isValid_71 rfl hl (by decide) rfl (fun ls hl => ?_)
                obtain ⟨x18, ex18⟩ : ∃ y : Int32, y = x10 + (1 : Int32) := ⟨_, rfl⟩
                have hD := nm_at hD ex18
                try dsimp only at hD
                refine lv_iinc (v := x18) (lv' := [(4, .int x18), (3, .int (0 : Int32)), (0, .ref (ad 20)), (1, .int p1), (2, .int p2)]) hx hb d_MD_isValid_72 hl (k := 1) rfl (by rw [ex18]; rfl) (by decide) rfl (fun ls hl => ?_)
                refine lv_goto (tgt := 36) hx hb d_MD_isValid_75 (by decide) ?_
                exact ih x18 (0 : Int32) _ _ _ _ hD hex wo (lv_sub hl [0, 1, 2, 3, 4] rfl)
              · have hD := ite_p hD c17
                refine lv_iconst (v := 1) hx hb d_MD_isValid_66 (by decide) ?_
                refine lv_goto (tgt := 71) hx hb d_MD_isValid_67 (by decide) ?_
                refine lv_istore_n (lv' := [(3, .int (1 : Int32)), (4, .int x10), (0, .ref (ad 20)), (1, .int p1), (2, .int p2)]) hx hb d_MD_isValid_71 rfl hl (by decide) rfl (fun ls hl => ?_)
                obtain ⟨x19, ex19⟩ : ∃ y : Int32, y = x10 + (1 : Int32) := ⟨_, rfl⟩
                have hD := nm_at hD ex19
                try dsimp only at hD
                refine lv_iinc (v := x19) (lv' := [(4, .int x19), (3, .int (1 : Int32)), (0, .ref (ad 20)), (1, .int p1), (2, .int p2)]) hx hb d_MD_isValid_72 hl (k := 1) rfl (by rw [ex19]; rfl) (by decide) rfl (fun ls hl => ?_)
                refine lv_goto (tgt := 36) hx hb d_MD_isValid_75 (by decide) ?_
                exact ih x19 (1 : Int32) _ _ _ _ hD hex wo (lv_sub hl [0, 1, 2, 3, 4] rfl)
      obtain ⟨res22, hr23, hD⟩ := bd_s hD
      refine lp21 F x7 (1 : Int32) _ _ _ _ hr23 (fun x20 H locs ls hz wo hl => ?_) wo (lv_sub hl [0, 1, 2, 3, 4] rfl)
      have hz := hz.symm
      subst hz
      try dsimp only at hD
      refine lv_iload_n hx hb d_MD_isValid_78 rfl (lv_at hl 0 rfl) ?_
      obtain ⟨g24, hD⟩ := grd_s hD
      cases hD
      exact t_ireti cx wo (isB_n g24) rfl d_MD_isValid_79
    · have hD := ite_p hD c5
      refine lv_iconst (v := 0) hx hb d_MD_isValid_22 (by decide) ?_
      cases hD
      exact t_ireti cx wo rfl rfl d_MD_isValid_23
def D_MD_found_L42 (F : Nat) (n : Nat → Nat) (σ : HS) (p1 : Int32) (p2 : Int32) : Nat → Int32 → Option ((Unit) ⊕ (Int32))
  | 0, _ => none
  | k6 + 1, x7 =>
      (if (σ.1 20 1) ≤ x7 then
          some (Sum.inl ())
        else
          (D_MD_diskOf F n σ p1 x7).bind (fun (x9 : Int32) =>
          (D_MD_isValid F n σ x9 p1).bind (fun (x10 : Int32) =>
          (if x10 = 0 then
            nm (x7 + (1 : Int32)) (fun x12 =>
            D_MD_found_L42 F n σ p1 p2 k6 x12)
          else
            (D_MD_at F n σ x9 p1).bind (fun (x13 : Int32) =>
            grd (inb x13 (n 24)) (
            (if (σ.1 24 (x13).toNatClampNeg) = (p2 + (1 : Int32)) then
              some (Sum.inr x9)
            else
              nm (x7 + (1 : Int32)) (fun x16 =>
              D_MD_found_L42 F n σ p1 p2 k6 x16))))))))
def D_MD_found (F : Nat) (n : Nat → Nat) (σ : HS) (p1 : Int32) (p2 : Int32) : Option (Int32) :=
(D_MD_diskOf F n σ p1 p2).bind (fun (x1 : Int32) =>
  grd (inb x1 (n 22)) (
  jn (fun (_ : Unit) =>
    nm ((σ.1 20 2) * (σ.1 20 4)) (fun x4 =>
    (D_MD_found_L42 F n σ p1 p2 F x4).bind (fun q20 => match q20 with
      | Sum.inl _ =>
        some (-1 : Int32)
      | Sum.inr z => some z)))
  (fun j3 =>
  (if (σ.1 22 (x1).toNatClampNeg) = 0 then
    j3 ()
  else
    (D_MD_at F n σ x1 p1).bind (fun (x22 : Int32) =>
    grd (inb x22 (n 23)) (
    (if (σ.1 23 (x22).toNatClampNeg) = 0 then
      j3 ()
    else
      some x1)))))))
set_option maxRecDepth 100000 in
set_option maxHeartbeats 4000000 in
theorem k_MD_found (l : Launch) (E : EV) (ad n : Nat → Nat) (L : List Nat) (hL : ∀ a ∈ ([20, 21, 22, 23, 24, 25] : List Nat), a ∈ L) (F : Nat) (σ  : HS) (p1 : Int32) (p2 : Int32) (r : Int32) (hD : D_MD_found F n σ p1 p2 = some r) : CtI l E y_MD_found c_MD_found 6 (some FieldType.int) ({ frames := 2, cells := 0, slots := 0, locals := 45 }) [.ref (ad 20), .int p1, .int p2] (wl E ad n L σ) r (wl E ad n L σ) := by
  refine fun sz => ent (by decide) (Nat.le_of_ble_eq_true rfl) ?_
  intro p e s m below meth c hsz cx wo ls hl
  have hx := cx.1.1
  have hb := cx.1.2.1
  have hown := cx.1.2.2.2.1
  have hts := cx.1.2.2.2.2
  have hl : lv_has ls 6 [(0, .ref (ad 20)), (1, .int p1), (2, .int p2)] := hl
  have m20 : 20 ∈ L := hL 20 (by decide)
  have m21 : 21 ∈ L := hL 21 (by decide)
  have m22 : 22 ∈ L := hL 22 (by decide)
  have m23 : 23 ∈ L := hL 23 (by decide)
  have m24 : 24 ∈ L := hL 24 (by decide)
  have m25 : 25 ∈ L := hL 25 (by decide)
  rw [D_MD_found] at hD
  refine lv_aload_n hx hb d_MD_found_0 rfl (lv_at hl 0 rfl) ?_
  refine lv_iload_n hx hb d_MD_found_1 rfl (lv_at hl 1 rfl) ?_
  refine lv_iload_n hx hb d_MD_found_2 rfl (lv_at hl 2 rfl) ?_
  obtain ⟨x1, hcx1, hD⟩ := bd_s hD
  try dsimp only [nm2] at hD
  refine call_Vi cx wo (k_MD_diskOf l E ad n L (fun a h => hL a ((by decide : ∀ a ∈ ([20, 21] : List Nat), a ∈ ([20, 21, 22, 23, 24, 25] : List Nat)) a h)) F σ  p1 p2 x1 hcx1) m20 (cel_20 E ad n σ) rfl rfl mw_MD_diskOf wm_MD_71 ⟨by decide, by decide⟩ ⟨by decide, by decide⟩ hl.1 rfl (Nat.le_of_ble_eq_true rfl) d_MD_found_3 (fun H locs wo => ?_)
  refine lv_istore_n (lv' := [(3, .int x1), (0, .ref (ad 20)), (1, .int p1), (2, .int p2)]) hx hb d_MD_found_6 rfl hl (by decide) rfl (fun ls hl => ?_)
  refine lv_aload_n hx hb d_MD_found_7 rfl (lv_at hl 1 rfl) ?_
  refine g_get cx wo m20 (cel_20 E ad n σ) rfl in_MD 7 (by decide) wf_MD_13 rfl d_MD_found_8 ?_
  refine lv_iload_n hx hb d_MD_found_11 rfl (lv_at hl 0 rfl) ?_
  obtain ⟨g2, hD⟩ := grd_s hD
  refine g_zald cx wo m22 (cel_22 E ad n σ) g2 d_MD_found_12 ?_
  obtain ⟨j3, hj3, hD⟩ := jn_s hD
  try dsimp only at hD
  have j3_ok : ∀  (H : Heap) (locs : List Loc) (ls : Array Slot), j3 () = some r → Wo E (va_A (wl E ad n L σ) sz) s.heap (wl E ad n L σ) H locs → lv_has ls 6 [(0, .ref (ad 20)), (1, .int p1), (2, .int p2)] → W p l e ({ frames := 2, cells := 0, slots := 0, locals := 45 }) s m ([.ref (ad 20), .int p1, .int p2] : List Value).toArray below meth c H locs 0 0 (MQ below (va_Qi (fun (x : Int32) (_ : Unit) => x = r) (fun _ t => va_P E.1 cls6 (wl E ad n L σ) t.heap ∧ va_D (va_A (wl E ad n L σ) sz) (wl E ad n L σ)) (va_A (wl E ad n L σ) sz)) ([.ref (ad 20), .int p1, .int p2] : List Value).toArray s 0 0 (va_A (wl E ad n L σ) sz)) (F0 m 31 ls []) := by
    intro  H locs ls hD wo hl
    rw [hj3] at hD
    try dsimp only at hD
    refine lv_aload_n hx hb d_MD_found_31 rfl (lv_at hl 0 rfl) ?_
    refine g_get cx wo m20 (cel_20 E ad n σ) rfl in_MD 2 (by decide) wf_MD_55 rfl d_MD_found_32 ?_
    refine lv_aload_n hx hb d_MD_found_35 rfl (lv_at hl 0 rfl) ?_
    refine g_get cx wo m20 (cel_20 E ad n σ) rfl in_MD 4 (by decide) wf_MD_61 rfl d_MD_found_36 ?_
    refine lv_imul hx hb d_MD_found_39 ?_
    refine lv_topi (fun x4 ex4 => ?_)
    have hD := nm_at hD ex4
    try dsimp only at hD
    refine lv_istore (lv' := [(4, .int x4), (0, .ref (ad 20)), (1, .int p1), (2, .int p2)]) hx hb d_MD_found_40 hl (by decide) rfl (fun ls hl => ?_)
    have lp17 : ∀ (k6 : Nat) (x7 : Int32) (H : Heap) (locs : List Loc) (ls : Array Slot) (res5 : (Unit) ⊕ (Int32)), D_MD_found_L42 F n σ p1 p2 k6 x7 = some res5 → (∀ z, res5 = Sum.inr z → r = z) → (∀  (H : Heap) (locs : List Loc) (ls : Array Slot), res5 = Sum.inl () → Wo E (va_A (wl E ad n L σ) sz) s.heap (wl E ad n L σ) H locs → lv_has ls 6 [] → W p l e ({ frames := 2, cells := 0, slots := 0, locals := 45 }) s m ([.ref (ad 20), .int p1, .int p2] : List Value).toArray below meth c H locs 0 0 (MQ below (va_Qi (fun (x : Int32) (_ : Unit) => x = r) (fun _ t => va_P E.1 cls6 (wl E ad n L σ) t.heap ∧ va_D (va_A (wl E ad n L σ) sz) (wl E ad n L σ)) (va_A (wl E ad n L σ) sz)) ([.ref (ad 20), .int p1, .int p2] : List Value).toArray s 0 0 (va_A (wl E ad n L σ) sz)) (F0 m 96 ls [])) → Wo E (va_A (wl E ad n L σ) sz) s.heap (wl E ad n L σ) H locs → lv_has ls 6 [(4, .int x7), (0, .ref (ad 20)), (1, .int p1), (2, .int p2)] → W p l e ({ frames := 2, cells := 0, slots := 0, locals := 45 }) s m ([.ref (ad 20), .int p1, .int p2] : List Value).toArray below meth c H locs 0 0 (MQ below (va_Qi (fun (x : Int32) (_ : Unit) => x = r) (fun _ t => va_P E.1 cls6 (wl E ad n L σ) t.heap ∧ va_D (va_A (wl E ad n L σ) sz) (wl E ad n L σ)) (va_A (wl E ad n L σ) sz)) ([.ref (ad 20), .int p1, .int p2] : List Value).toArray s 0 0 (va_A (wl E ad n L σ) sz)) (F0 m 42 ls []) := by
      intro k6
      induction k6 with
      | zero =>
        intro x7 H locs ls res5 hD
        rw [D_MD_found_L42.eq_1] at hD
        cases hD
      | succ k6 ih =>
        intro x7 H locs ls res5 hD hret hex wo hl
        rw [D_MD_found_L42.eq_2] at hD
        refine lv_iload hx hb d_MD_found_42 (lv_at hl 0 rfl) ?_
        refine lv_aload_n hx hb d_MD_found_44 rfl (lv_at hl 1 rfl) ?_
        refine g_get cx wo m20 (cel_20 E ad n σ) rfl in_MD 1 (by decide) wf_MD_52 rfl d_MD_found_45 ?_
        refine lv_icmp_ge (tgt := 96) hx hb d_MD_found_48 (by decide) (fun c8 => ?_) (fun c8 => ?_)
        · have hD := ite_p hD c8
          exact hex  _ _ _ (Option.some.inj hD).symm wo (lv_sub hl [] rfl)
        · have hD := ite_n hD c8
          refine lv_aload_n hx hb d_MD_found_51 rfl (lv_at hl 1 rfl) ?_
          refine lv_iload_n hx hb d_MD_found_52 rfl (lv_at hl 2 rfl) ?_
          refine lv_iload hx hb d_MD_found_53 (lv_at hl 0 rfl) ?_
          obtain ⟨x9, hcx9, hD⟩ := bd_s hD
          try dsimp only [nm2] at hD
          refine call_Vi cx wo (k_MD_diskOf l E ad n L (fun a h => hL a ((by decide : ∀ a ∈ ([20, 21] : List Nat), a ∈ ([20, 21, 22, 23, 24, 25] : List Nat)) a h)) F σ  p1 x7 x9 hcx9) m20 (cel_20 E ad n σ) rfl rfl mw_MD_diskOf wm_MD_71 ⟨by decide, by decide⟩ ⟨by decide, by decide⟩ hl.1 rfl (Nat.le_of_ble_eq_true rfl) d_MD_found_55 (fun H locs wo => ?_)
          refine lv_istore (lv' := [(5, .int x9), (4, .int x7), (0, .ref (ad 20)), (1, .int p1), (2, .int p2)]) hx hb d_MD_found_58 hl (by decide) rfl (fun ls hl => ?_)
          refine lv_aload_n hx hb d_MD_found_60 rfl (lv_at hl 2 rfl) ?_
          refine lv_iload hx hb d_MD_found_61 (lv_at hl 0 rfl) ?_
          refine lv_iload_n hx hb d_MD_found_63 rfl (lv_at hl 3 rfl) ?_
          obtain ⟨x10, hcx10, hD⟩ := bd_s hD
          try dsimp only [nm2] at hD
          refine call_Vi cx wo (k_MD_isValid l E ad n L (fun a h => hL a ((by decide : ∀ a ∈ ([20, 22, 23, 25] : List Nat), a ∈ ([20, 21, 22, 23, 24, 25] : List Nat)) a h)) F σ  x9 p1 x10 hcx10) m20 (cel_20 E ad n σ) rfl rfl mw_MD_isValid wm_MD_77 ⟨by decide, by decide⟩ ⟨by decide, by decide⟩ hl.1 rfl (Nat.le_of_ble_eq_true rfl) d_MD_found_64 (fun H locs wo => ?_)
          refine lv_if_eq (tgt := 90) hx hb d_MD_found_67 (by decide) (fun c11 => ?_) (fun c11 => ?_)
          · have hD := ite_p hD c11
            obtain ⟨x12, ex12⟩ : ∃ y : Int32, y = x7 + (1 : Int32) := ⟨_, rfl⟩
            have hD := nm_at hD ex12
            try dsimp only at hD
            refine lv_iinc (v := x12) (lv' := [(4, .int x12), (5, .int x9), (0, .ref (ad 20)), (1, .int p1), (2, .int p2)]) hx hb d_MD_found_90 hl (k := 1) rfl (by rw [ex12]; rfl) (by decide) rfl (fun ls hl => ?_)
            refine lv_goto (tgt := 42) hx hb d_MD_found_93 (by decide) ?_
            exact ih x12 _ _ _ _ hD hret hex wo (lv_sub hl [0, 2, 3, 4] rfl)
          · have hD := ite_n hD c11
            refine lv_aload_n hx hb d_MD_found_70 rfl (lv_at hl 2 rfl) ?_
            refine g_get cx wo m20 (cel_20 E ad n σ) rfl in_MD 9 (by decide) wf_MD_20 rfl d_MD_found_71 ?_
            refine lv_iload hx hb d_MD_found_74 (lv_at hl 0 rfl) ?_
            refine lv_iload_n hx hb d_MD_found_76 rfl (lv_at hl 3 rfl) ?_
            obtain ⟨x13, hcx13, hD⟩ := bd_s hD
            try dsimp only [nm2] at hD
            refine call_Si cx wo (k_MD_at l E ad n L (fun a h => hL a ((by decide : ∀ a ∈ ([] : List Nat), a ∈ ([20, 21, 22, 23, 24, 25] : List Nat)) a h)) F σ  x9 p1 x13 hcx13) mw_MD_at wm_MD_67 ⟨by decide, by decide⟩ ⟨by decide, by decide⟩ hl.1 rfl (Nat.le_of_ble_eq_true rfl) d_MD_found_77 (fun H locs wo => ?_)
            obtain ⟨g14, hD⟩ := grd_s hD
            refine g_iald cx wo m24 (cel_24 E ad n σ) g14 d_MD_found_80 ?_
            refine lv_iload_n hx hb d_MD_found_81 rfl (lv_at hl 4 rfl) ?_
            refine lv_iconst (v := 1) hx hb d_MD_found_82 (by decide) ?_
            refine lv_iadd hx hb d_MD_found_83 ?_
            refine lv_icmp_ne (tgt := 90) hx hb d_MD_found_84 (by decide) (fun c15 => ?_) (fun c15 => ?_)
            · have hD := ite_n hD c15
              obtain ⟨x16, ex16⟩ : ∃ y : Int32, y = x7 + (1 : Int32) := ⟨_, rfl⟩
              have hD := nm_at hD ex16
              try dsimp only at hD
              refine lv_iinc (v := x16) (lv' := [(4, .int x16), (5, .int x9), (0, .ref (ad 20)), (1, .int p1), (2, .int p2)]) hx hb d_MD_found_90 hl (k := 1) rfl (by rw [ex16]; rfl) (by decide) rfl (fun ls hl => ?_)
              refine lv_goto (tgt := 42) hx hb d_MD_found_93 (by decide) ?_
              exact ih x16 _ _ _ _ hD hret hex wo (lv_sub hl [0, 2, 3, 4] rfl)
            · have hD := ite_p hD c15
              refine lv_iload hx hb d_MD_found_87 (lv_at hl 0 rfl) ?_
              have hz := hret _ (Option.some.inj hD).symm
              cases hz
              exact t_ireti cx wo rfl rfl d_MD_found_89
    obtain ⟨res18, hr19, hD⟩ := bd_s hD
    refine lp17 F x4 _ _ _ _ hr19 (fun z hz => by subst hz; exact (Option.some.inj hD).symm) (fun  H locs ls hz wo hl => ?_) wo (lv_sub hl [0, 1, 2, 3] rfl)
    subst hz
    try dsimp only at hD
    refine lv_iconst (v := -1) hx hb d_MD_found_96 (by decide) ?_
    cases hD
    exact t_ireti cx wo rfl rfl d_MD_found_97
  refine lv_if_eq (tgt := 31) hx hb d_MD_found_13 (by decide) (fun c21 => ?_) (fun c21 => ?_)
  · have hD := ite_p hD c21
    exact j3_ok  _ _ _ hD wo (lv_sub hl [1, 2, 3] rfl)
  · have hD := ite_n hD c21
    refine lv_aload_n hx hb d_MD_found_16 rfl (lv_at hl 1 rfl) ?_
    refine g_get cx wo m20 (cel_20 E ad n σ) rfl in_MD 8 (by decide) wf_MD_17 rfl d_MD_found_17 ?_
    refine lv_iload_n hx hb d_MD_found_20 rfl (lv_at hl 0 rfl) ?_
    refine lv_iload_n hx hb d_MD_found_21 rfl (lv_at hl 2 rfl) ?_
    obtain ⟨x22, hcx22, hD⟩ := bd_s hD
    try dsimp only [nm2] at hD
    refine call_Si cx wo (k_MD_at l E ad n L (fun a h => hL a ((by decide : ∀ a ∈ ([] : List Nat), a ∈ ([20, 21, 22, 23, 24, 25] : List Nat)) a h)) F σ  x1 p1 x22 hcx22) mw_MD_at wm_MD_67 ⟨by decide, by decide⟩ ⟨by decide, by decide⟩ hl.1 rfl (Nat.le_of_ble_eq_true rfl) d_MD_found_22 (fun H locs wo => ?_)
    obtain ⟨g23, hD⟩ := grd_s hD
    refine g_zald cx wo m23 (cel_23 E ad n σ) g23 d_MD_found_25 ?_
    refine lv_if_eq (tgt := 31) hx hb d_MD_found_26 (by decide) (fun c24 => ?_) (fun c24 => ?_)
    · have hD := ite_p hD c24
      exact j3_ok  _ _ _ hD wo (lv_sub hl [1, 2, 3] rfl)
    · have hD := ite_n hD c24
      refine lv_iload_n hx hb d_MD_found_29 rfl (lv_at hl 0 rfl) ?_
      cases hD
      exact t_ireti cx wo rfl rfl d_MD_found_30
def D_MD_placeOf (F : Nat) (n : Nat → Nat) (σ : HS) (p1 : Int32) (p2 : Int32) : Option (Int32) :=
(if (σ.1 20 12) = 0 then
    (D_MD_found F n σ p1 p2).bind (fun (x2 : Int32) =>
    some x2)
  else
    grd (inb (((16 : Int32) * p1) + p2) (n 26)) (
    some (σ.1 26 ((((16 : Int32) * p1) + p2)).toNatClampNeg)))
set_option maxRecDepth 100000 in
set_option maxHeartbeats 4000000 in
theorem k_MD_placeOf (l : Launch) (E : EV) (ad n : Nat → Nat) (L : List Nat) (hL : ∀ a ∈ ([20, 21, 22, 23, 24, 25, 26] : List Nat), a ∈ L) (F : Nat) (σ  : HS) (p1 : Int32) (p2 : Int32) (r : Int32) (hD : D_MD_placeOf F n σ p1 p2 = some r) : CtI l E y_MD_placeOf c_MD_placeOf 3 (some FieldType.int) ({ frames := 3, cells := 0, slots := 0, locals := 70 }) [.ref (ad 20), .int p1, .int p2] (wl E ad n L σ) r (wl E ad n L σ) := by
  refine fun sz => ent (by decide) (Nat.le_of_ble_eq_true rfl) ?_
  intro p e s m below meth c hsz cx wo ls hl
  have hx := cx.1.1
  have hb := cx.1.2.1
  have hown := cx.1.2.2.2.1
  have hts := cx.1.2.2.2.2
  have hl : lv_has ls 3 [(0, .ref (ad 20)), (1, .int p1), (2, .int p2)] := hl
  have m20 : 20 ∈ L := hL 20 (by decide)
  have m21 : 21 ∈ L := hL 21 (by decide)
  have m22 : 22 ∈ L := hL 22 (by decide)
  have m23 : 23 ∈ L := hL 23 (by decide)
  have m24 : 24 ∈ L := hL 24 (by decide)
  have m25 : 25 ∈ L := hL 25 (by decide)
  have m26 : 26 ∈ L := hL 26 (by decide)
  rw [D_MD_placeOf] at hD
  refine lv_aload_n hx hb d_MD_placeOf_0 rfl (lv_at hl 0 rfl) ?_
  refine g_get cx wo m20 (cel_20 E ad n σ) rfl in_MD 12 (by decide) wf_MD_31 rfl d_MD_placeOf_1 ?_
  refine lv_if_eq (tgt := 21) hx hb d_MD_placeOf_4 (by decide) (fun c1 => ?_) (fun c1 => ?_)
  · have hD := ite_p hD c1
    refine lv_aload_n hx hb d_MD_placeOf_21 rfl (lv_at hl 0 rfl) ?_
    refine lv_iload_n hx hb d_MD_placeOf_22 rfl (lv_at hl 1 rfl) ?_
    refine lv_iload_n hx hb d_MD_placeOf_23 rfl (lv_at hl 2 rfl) ?_
    obtain ⟨x2, hcx2, hD⟩ := bd_s hD
    try dsimp only [nm2] at hD
    refine call_Vi cx wo (k_MD_found l E ad n L (fun a h => hL a ((by decide : ∀ a ∈ ([20, 21, 22, 23, 24, 25] : List Nat), a ∈ ([20, 21, 22, 23, 24, 25, 26] : List Nat)) a h)) F σ  p1 p2 x2 hcx2) m20 (cel_20 E ad n σ) rfl rfl mw_MD_found wm_MD_81 ⟨by decide, by decide⟩ ⟨by decide, by decide⟩ hl.1 rfl (Nat.le_of_ble_eq_true rfl) d_MD_placeOf_24 (fun H locs wo => ?_)
    cases hD
    exact t_ireti cx wo rfl rfl d_MD_placeOf_27
  · have hD := ite_n hD c1
    refine lv_aload_n hx hb d_MD_placeOf_7 rfl (lv_at hl 0 rfl) ?_
    refine g_get cx wo m20 (cel_20 E ad n σ) rfl in_MD 11 (by decide) wf_MD_28 rfl d_MD_placeOf_8 ?_
    refine lv_bipush (v := 16) hx hb d_MD_placeOf_11 (by decide) ?_
    refine lv_iload_n hx hb d_MD_placeOf_13 rfl (lv_at hl 1 rfl) ?_
    refine lv_imul hx hb d_MD_placeOf_14 ?_
    refine lv_iload_n hx hb d_MD_placeOf_15 rfl (lv_at hl 2 rfl) ?_
    refine lv_iadd hx hb d_MD_placeOf_16 ?_
    obtain ⟨g3, hD⟩ := grd_s hD
    refine g_iald cx wo m26 (cel_26 E ad n σ) g3 d_MD_placeOf_17 ?_
    refine lv_goto (tgt := 27) hx hb d_MD_placeOf_18 (by decide) ?_
    cases hD
    exact t_ireti cx wo rfl rfl d_MD_placeOf_27
def D_MD_puts_L78 (F : Nat) (n : Nat → Nat) (p1 : Int32) (p2 : Int32) : Nat → HS → Int32 → Option (HS)
  | 0, _, _ => none
  | k15 + 1, σ13, x16 =>
      (D_MD_at F n σ13 p1 p2).bind (fun (x17 : Int32) =>
          (if (((70 : Int32) * x17) + (70 : Int32)) ≤ x16 then
            some σ13
          else
            grd (inb x16 (n 25)) (
            nm (stI σ13 25 (x16).toNatClampNeg (vp_nar .byte (0 : Int32))) (fun σ20 =>
            nm (x16 + (1 : Int32)) (fun x21 =>
            D_MD_puts_L78 F n p1 p2 k15 σ20 x21)))))
def D_MD_puts (F : Nat) (n : Nat → Nat) (σ : HS) (p1 : Int32) (p2 : Int32) (p3 : Int32) : Option (HS × Int32) :=
(if (σ.1 20 13) = 0 then
    nm (stF σ 20 12 (0 : Int32)) (fun σ28 =>
    nm (stF σ28 20 13 (-1 : Int32)) (fun σ29 =>
    some (σ29, (0 : Int32))))
  else
    jn (fun (σ3 : HS) =>
      nm (stF σ3 20 14 ((σ3.1 20 14) + (1 : Int32))) (fun σ4 =>
      (D_MD_at F n σ4 p1 p2).bind (fun (x5 : Int32) =>
      grd (inb x5 (n 23)) (
      nm (stI σ4 23 (x5).toNatClampNeg (vp_nar .boolean (1 : Int32))) (fun σ7 =>
      (D_MD_at F n σ7 p1 p2).bind (fun (x8 : Int32) =>
      grd (inb x8 (n 24)) (
      nm (stI σ7 24 (x8).toNatClampNeg p3) (fun σ10 =>
      (D_MD_at F n σ10 p1 p2).bind (fun (x11 : Int32) =>
      nm ((70 : Int32) * x11) (fun x12 =>
      (D_MD_puts_L78 F n p1 p2 F σ10 x12).bind (fun (σ22 : HS) =>
      some (σ22, (1 : Int32)))))))))))))
    (fun j2 =>
    (if (σ.1 20 13) ≤ 0 then
      j2 σ
    else
      nm (stF σ 20 13 ((σ.1 20 13) - (1 : Int32))) (fun σ27 =>
      j2 σ27))))
set_option maxRecDepth 100000 in
set_option maxHeartbeats 4000000 in
theorem k_MD_puts (l : Launch) (E : EV) (ad n : Nat → Nat) (L : List Nat) (hL : ∀ a ∈ ([20, 23, 24, 25] : List Nat), a ∈ L) (F : Nat) (σ σo : HS) (p1 : Int32) (p2 : Int32) (p3 : Int32) (r : Int32) (hD : D_MD_puts F n σ p1 p2 p3 = some (σo, r)) : CtI l E y_MD_puts c_MD_puts 5 (some FieldType.boolean) ({ frames := 1, cells := 0, slots := 0, locals := 21 }) [.ref (ad 20), .int p1, .int p2, .int p3] (wl E ad n L σ) r (wl E ad n L σo) := by
  refine fun sz => ent (by decide) (Nat.le_of_ble_eq_true rfl) ?_
  intro p e s m below meth c hsz cx wo ls hl
  have hx := cx.1.1
  have hb := cx.1.2.1
  have hown := cx.1.2.2.2.1
  have hts := cx.1.2.2.2.2
  have hl : lv_has ls 5 [(0, .ref (ad 20)), (1, .int p1), (2, .int p2), (3, .int p3)] := hl
  have m20 : 20 ∈ L := hL 20 (by decide)
  have m23 : 23 ∈ L := hL 23 (by decide)
  have m24 : 24 ∈ L := hL 24 (by decide)
  have m25 : 25 ∈ L := hL 25 (by decide)
  rw [D_MD_puts] at hD
  refine lv_aload_n hx hb d_MD_puts_0 rfl (lv_at hl 0 rfl) ?_
  refine g_get cx wo m20 (cel_20 E ad n σ) rfl in_MD 13 (by decide) wf_MD_35 rfl d_MD_puts_1 ?_
  refine lv_if_ne (tgt := 19) hx hb d_MD_puts_4 (by decide) (fun c1 => ?_) (fun c1 => ?_)
  · have hD := ite_n hD c1
    refine lv_aload_n hx hb d_MD_puts_19 rfl (lv_at hl 0 rfl) ?_
    refine g_get cx wo m20 (cel_20 E ad n σ) rfl in_MD 13 (by decide) wf_MD_35 rfl d_MD_puts_20 ?_
    obtain ⟨j2, hj2, hD⟩ := jn_s hD
    try dsimp only at hD
    have j2_ok : ∀ (σ3 : HS) (H : Heap) (locs : List Loc) (ls : Array Slot), j2 σ3 = some (σo, r) → Wo E (va_A (wl E ad n L σ) sz) s.heap (wl E ad n L σ3) H locs → lv_has ls 5 [(0, .ref (ad 20)), (1, .int p1), (2, .int p2), (3, .int p3)] → W p l e ({ frames := 1, cells := 0, slots := 0, locals := 21 }) s m ([.ref (ad 20), .int p1, .int p2, .int p3] : List Value).toArray below meth c H locs 0 0 (MQ below (va_Qi (fun (x : Int32) (_ : Unit) => x = r) (fun _ t => va_P E.1 cls6 (wl E ad n L σo) t.heap ∧ va_D (va_A (wl E ad n L σ) sz) (wl E ad n L σo)) (va_A (wl E ad n L σ) sz)) ([.ref (ad 20), .int p1, .int p2, .int p3] : List Value).toArray s 0 0 (va_A (wl E ad n L σ) sz)) (F0 m 36 ls []) := by
      intro σ3 H locs ls hD wo hl
      rw [hj2] at hD
      try dsimp only at hD
      refine lv_aload_n hx hb d_MD_puts_36 rfl (lv_at hl 0 rfl) ?_
      refine lv_dup hx hb d_MD_puts_37 rfl ?_
      refine g_get cx wo m20 (cel_20 E ad n σ3) rfl in_MD 14 (by decide) wf_MD_97 rfl d_MD_puts_38 ?_
      refine lv_iconst (v := 1) hx hb d_MD_puts_41 (by decide) ?_
      refine lv_iadd hx hb d_MD_puts_42 ?_
      refine g_put cx wo m20 (cel_20 E ad n σ3) rfl in_MD t_MD tok_MD n_MD 14 (by decide) wf_MD_97 rfl rfl rfl (Nat.le_of_ble_eq_true rfl) rfl d_MD_puts_43 (fun H locs wo => ?_)
      obtain ⟨σ4, eσ4⟩ : ∃ z, z = stF σ3 20 14 ((σ3.1 20 14) + (1 : Int32)) := ⟨_, rfl⟩
      rw [← eσ4] at wo
      have hD := nm_at hD eσ4
      try dsimp only at hD
      refine lv_aload_n hx hb d_MD_puts_46 rfl (lv_at hl 0 rfl) ?_
      refine g_get cx wo m20 (cel_20 E ad n σ4) rfl in_MD 8 (by decide) wf_MD_17 rfl d_MD_puts_47 ?_
      refine lv_iload_n hx hb d_MD_puts_50 rfl (lv_at hl 1 rfl) ?_
      refine lv_iload_n hx hb d_MD_puts_51 rfl (lv_at hl 2 rfl) ?_
      obtain ⟨x5, hcx5, hD⟩ := bd_s hD
      try dsimp only [nm2] at hD
      refine call_Si cx wo (k_MD_at l E ad n L (fun a h => hL a ((by decide : ∀ a ∈ ([] : List Nat), a ∈ ([20, 23, 24, 25] : List Nat)) a h)) F σ4  p1 p2 x5 hcx5) mw_MD_at wm_MD_67 ⟨by decide, by decide⟩ ⟨by decide, by decide⟩ hl.1 rfl (Nat.le_of_ble_eq_true rfl) d_MD_puts_52 (fun H locs wo => ?_)
      refine lv_iconst (v := 1) hx hb d_MD_puts_55 (by decide) ?_
      obtain ⟨g6, hD⟩ := grd_s hD
      refine g_zast cx wo m23 (cel_23 E ad n) g6 d_MD_puts_56 (fun H locs wo => ?_)
      obtain ⟨σ7, eσ7⟩ : ∃ z, z = stI σ4 23 (x5).toNatClampNeg (vp_nar .boolean (1 : Int32)) := ⟨_, rfl⟩
      rw [← eσ7] at wo
      have hD := nm_at hD eσ7
      try dsimp only at hD
      refine lv_aload_n hx hb d_MD_puts_57 rfl (lv_at hl 0 rfl) ?_
      refine g_get cx wo m20 (cel_20 E ad n σ7) rfl in_MD 9 (by decide) wf_MD_20 rfl d_MD_puts_58 ?_
      refine lv_iload_n hx hb d_MD_puts_61 rfl (lv_at hl 1 rfl) ?_
      refine lv_iload_n hx hb d_MD_puts_62 rfl (lv_at hl 2 rfl) ?_
      obtain ⟨x8, hcx8, hD⟩ := bd_s hD
      try dsimp only [nm2] at hD
      refine call_Si cx wo (k_MD_at l E ad n L (fun a h => hL a ((by decide : ∀ a ∈ ([] : List Nat), a ∈ ([20, 23, 24, 25] : List Nat)) a h)) F σ7  p1 p2 x8 hcx8) mw_MD_at wm_MD_67 ⟨by decide, by decide⟩ ⟨by decide, by decide⟩ hl.1 rfl (Nat.le_of_ble_eq_true rfl) d_MD_puts_63 (fun H locs wo => ?_)
      refine lv_iload_n hx hb d_MD_puts_66 rfl (lv_at hl 3 rfl) ?_
      obtain ⟨g9, hD⟩ := grd_s hD
      refine g_iast cx wo m24 (cel_24 E ad n) g9 d_MD_puts_67 (fun H locs wo => ?_)
      obtain ⟨σ10, eσ10⟩ : ∃ z, z = stI σ7 24 (x8).toNatClampNeg p3 := ⟨_, rfl⟩
      rw [← eσ10] at wo
      have hD := nm_at hD eσ10
      try dsimp only at hD
      refine lv_bipush (v := 70) hx hb d_MD_puts_68 (by decide) ?_
      refine lv_iload_n hx hb d_MD_puts_70 rfl (lv_at hl 1 rfl) ?_
      refine lv_iload_n hx hb d_MD_puts_71 rfl (lv_at hl 2 rfl) ?_
      obtain ⟨x11, hcx11, hD⟩ := bd_s hD
      try dsimp only [nm2] at hD
      refine call_Si cx wo (k_MD_at l E ad n L (fun a h => hL a ((by decide : ∀ a ∈ ([] : List Nat), a ∈ ([20, 23, 24, 25] : List Nat)) a h)) F σ10  p1 p2 x11 hcx11) mw_MD_at wm_MD_67 ⟨by decide, by decide⟩ ⟨by decide, by decide⟩ hl.1 rfl (Nat.le_of_ble_eq_true rfl) d_MD_puts_72 (fun H locs wo => ?_)
      refine lv_imul hx hb d_MD_puts_75 ?_
      refine lv_topi (fun x12 ex12 => ?_)
      have hD := nm_at hD ex12
      try dsimp only at hD
      refine lv_istore (lv' := [(4, .int x12), (0, .ref (ad 20)), (1, .int p1), (2, .int p2), (3, .int p3)]) hx hb d_MD_puts_76 hl (by decide) rfl (fun ls hl => ?_)
      have lp23 : ∀ (k15 : Nat) (σ13 : HS) (x16 : Int32) (H : Heap) (locs : List Loc) (ls : Array Slot) (res14 : HS), D_MD_puts_L78 F n p1 p2 k15 σ13 x16 = some res14 → (∀ (σ22 : HS) (H : Heap) (locs : List Loc) (ls : Array Slot), res14 = σ22 → Wo E (va_A (wl E ad n L σ) sz) s.heap (wl E ad n L σ22) H locs → lv_has ls 5 [] → W p l e ({ frames := 1, cells := 0, slots := 0, locals := 21 }) s m ([.ref (ad 20), .int p1, .int p2, .int p3] : List Value).toArray below meth c H locs 0 0 (MQ below (va_Qi (fun (x : Int32) (_ : Unit) => x = r) (fun _ t => va_P E.1 cls6 (wl E ad n L σo) t.heap ∧ va_D (va_A (wl E ad n L σ) sz) (wl E ad n L σo)) (va_A (wl E ad n L σ) sz)) ([.ref (ad 20), .int p1, .int p2, .int p3] : List Value).toArray s 0 0 (va_A (wl E ad n L σ) sz)) (F0 m 108 ls [])) → Wo E (va_A (wl E ad n L σ) sz) s.heap (wl E ad n L σ13) H locs → lv_has ls 5 [(4, .int x16), (0, .ref (ad 20)), (1, .int p1), (2, .int p2)] → W p l e ({ frames := 1, cells := 0, slots := 0, locals := 21 }) s m ([.ref (ad 20), .int p1, .int p2, .int p3] : List Value).toArray below meth c H locs 0 0 (MQ below (va_Qi (fun (x : Int32) (_ : Unit) => x = r) (fun _ t => va_P E.1 cls6 (wl E ad n L σo) t.heap ∧ va_D (va_A (wl E ad n L σ) sz) (wl E ad n L σo)) (va_A (wl E ad n L σ) sz)) ([.ref (ad 20), .int p1, .int p2, .int p3] : List Value).toArray s 0 0 (va_A (wl E ad n L σ) sz)) (F0 m 78 ls []) := by
        intro k15
        induction k15 with
        | zero =>
          intro σ13 x16 H locs ls res14 hD
          rw [D_MD_puts_L78.eq_1] at hD
          cases hD
        | succ k15 ih =>
          intro σ13 x16 H locs ls res14 hD hex wo hl
          rw [D_MD_puts_L78.eq_2] at hD
          refine lv_iload hx hb d_MD_puts_78 (lv_at hl 0 rfl) ?_
          refine lv_bipush (v := 70) hx hb d_MD_puts_80 (by decide) ?_
          refine lv_iload_n hx hb d_MD_puts_82 rfl (lv_at hl 2 rfl) ?_
          refine lv_iload_n hx hb d_MD_puts_83 rfl (lv_at hl 3 rfl) ?_
          obtain ⟨x17, hcx17, hD⟩ := bd_s hD
          try dsimp only [nm2] at hD
          refine call_Si cx wo (k_MD_at l E ad n L (fun a h => hL a ((by decide : ∀ a ∈ ([] : List Nat), a ∈ ([20, 23, 24, 25] : List Nat)) a h)) F σ13  p1 p2 x17 hcx17) mw_MD_at wm_MD_67 ⟨by decide, by decide⟩ ⟨by decide, by decide⟩ hl.1 rfl (Nat.le_of_ble_eq_true rfl) d_MD_puts_84 (fun H locs wo => ?_)
          refine lv_imul hx hb d_MD_puts_87 ?_
          refine lv_bipush (v := 70) hx hb d_MD_puts_88 (by decide) ?_
          refine lv_iadd hx hb d_MD_puts_90 ?_
          refine lv_icmp_ge (tgt := 108) hx hb d_MD_puts_91 (by decide) (fun c18 => ?_) (fun c18 => ?_)
          · have hD := ite_p hD c18
            exact hex σ13 _ _ _ (Option.some.inj hD).symm wo (lv_sub hl [] rfl)
          · have hD := ite_n hD c18
            refine lv_aload_n hx hb d_MD_puts_94 rfl (lv_at hl 1 rfl) ?_
            refine g_get cx wo m20 (cel_20 E ad n σ13) rfl in_MD 10 (by decide) wf_MD_24 rfl d_MD_puts_95 ?_
            refine lv_iload hx hb d_MD_puts_98 (lv_at hl 0 rfl) ?_
            refine lv_iconst (v := 0) hx hb d_MD_puts_100 (by decide) ?_
            obtain ⟨g19, hD⟩ := grd_s hD
            refine g_bast cx wo m25 (cel_25 E ad n) g19 d_MD_puts_101 (fun H locs wo => ?_)
            obtain ⟨σ20, eσ20⟩ : ∃ z, z = stI σ13 25 (x16).toNatClampNeg (vp_nar .byte (0 : Int32)) := ⟨_, rfl⟩
            rw [← eσ20] at wo
            have hD := nm_at hD eσ20
            try dsimp only at hD
            obtain ⟨x21, ex21⟩ : ∃ y : Int32, y = x16 + (1 : Int32) := ⟨_, rfl⟩
            have hD := nm_at hD ex21
            try dsimp only at hD
            refine lv_iinc (v := x21) (lv' := [(4, .int x21), (0, .ref (ad 20)), (1, .int p1), (2, .int p2)]) hx hb d_MD_puts_102 hl (k := 0) rfl (by rw [ex21]; rfl) (by decide) rfl (fun ls hl => ?_)
            refine lv_goto (tgt := 78) hx hb d_MD_puts_105 (by decide) ?_
            exact ih σ20 x21 _ _ _ _ hD hex wo (lv_sub hl [0, 1, 2, 3] rfl)
      obtain ⟨res24, hr25, hD⟩ := bd_s hD
      refine lp23 F σ10 x12 _ _ _ _ hr25 (fun σ22 H locs ls hz wo hl => ?_) wo (lv_sub hl [0, 1, 2, 3] rfl)
      have hz := hz.symm
      subst hz
      try dsimp only at hD
      refine lv_iconst (v := 1) hx hb d_MD_puts_108 (by decide) ?_
      cases hD
      exact t_ireti cx wo rfl rfl d_MD_puts_109
    refine lv_if_le (tgt := 36) hx hb d_MD_puts_23 (by decide) (fun c26 => ?_) (fun c26 => ?_)
    · have hD := ite_p hD c26
      exact j2_ok σ _ _ _ hD wo (lv_sub hl [0, 1, 2, 3] rfl)
    · have hD := ite_n hD c26
      refine lv_aload_n hx hb d_MD_puts_26 rfl (lv_at hl 0 rfl) ?_
      refine lv_dup hx hb d_MD_puts_27 rfl ?_
      refine g_get cx wo m20 (cel_20 E ad n σ) rfl in_MD 13 (by decide) wf_MD_35 rfl d_MD_puts_28 ?_
      refine lv_iconst (v := 1) hx hb d_MD_puts_31 (by decide) ?_
      refine lv_isub hx hb d_MD_puts_32 ?_
      refine g_put cx wo m20 (cel_20 E ad n σ) rfl in_MD t_MD tok_MD n_MD 13 (by decide) wf_MD_35 rfl rfl rfl (Nat.le_of_ble_eq_true rfl) rfl d_MD_puts_33 (fun H locs wo => ?_)
      obtain ⟨σ27, eσ27⟩ : ∃ z, z = stF σ 20 13 ((σ.1 20 13) - (1 : Int32)) := ⟨_, rfl⟩
      rw [← eσ27] at wo
      have hD := nm_at hD eσ27
      try dsimp only at hD
      exact j2_ok σ27 _ _ _ hD wo (lv_sub hl [0, 1, 2, 3] rfl)
  · have hD := ite_p hD c1
    refine lv_aload_n hx hb d_MD_puts_7 rfl (lv_at hl 0 rfl) ?_
    refine lv_iconst (v := 0) hx hb d_MD_puts_8 (by decide) ?_
    refine g_put cx wo m20 (cel_20 E ad n σ) rfl in_MD t_MD tok_MD n_MD 12 (by decide) wf_MD_31 rfl rfl rfl (Nat.le_of_ble_eq_true rfl) rfl d_MD_puts_9 (fun H locs wo => ?_)
    obtain ⟨σ28, eσ28⟩ : ∃ z, z = stF σ 20 12 (0 : Int32) := ⟨_, rfl⟩
    rw [← eσ28] at wo
    have hD := nm_at hD eσ28
    try dsimp only at hD
    refine lv_aload_n hx hb d_MD_puts_12 rfl (lv_at hl 0 rfl) ?_
    refine lv_iconst (v := -1) hx hb d_MD_puts_13 (by decide) ?_
    refine g_put cx wo m20 (cel_20 E ad n σ28) rfl in_MD t_MD tok_MD n_MD 13 (by decide) wf_MD_35 rfl rfl rfl (Nat.le_of_ble_eq_true rfl) rfl d_MD_puts_14 (fun H locs wo => ?_)
    obtain ⟨σ29, eσ29⟩ : ∃ z, z = stF σ28 20 13 (-1 : Int32) := ⟨_, rfl⟩
    rw [← eσ29] at wo
    have hD := nm_at hD eσ29
    try dsimp only at hD
    refine lv_iconst (v := 0) hx hb d_MD_puts_17 (by decide) ?_
    cases hD
    exact t_ireti cx wo rfl rfl d_MD_puts_18
def D_MD_becomes_L2 (F : Nat) (n : Nat → Nat) (p1 : Int32) : Nat → HS → Int32 → Option (HS)
  | 0, _, _ => none
  | k3 + 1, σ1, x4 =>
      (if (64 : Int32) ≤ x4 then
        some σ1
      else
        grd (inb (((64 : Int32) * p1) + x4) (n 28)) (
        grd (inb x4 (n 29)) (
        nm (stI σ1 29 (x4).toNatClampNeg (σ1.1 28 ((((64 : Int32) * p1) + x4)).toNatClampNeg)) (fun σ8 =>
        (if (σ8.1 20 17) ≤ x4 then
          grd (inb (((64 : Int32) * p1) + x4) (n 28)) (
          nm (stI σ8 28 ((((64 : Int32) * p1) + x4)).toNatClampNeg (0 : Int32)) (fun σ11 =>
          nm (x4 + (1 : Int32)) (fun x12 =>
          D_MD_becomes_L2 F n p1 k3 σ11 x12)))
        else
          grd (inb x4 (n 27)) (
          grd (inb (((64 : Int32) * p1) + x4) (n 28)) (
          nm (stI σ8 28 ((((64 : Int32) * p1) + x4)).toNatClampNeg (σ8.1 27 (x4).toNatClampNeg)) (fun σ15 =>
          nm (x4 + (1 : Int32)) (fun x16 =>
          D_MD_becomes_L2 F n p1 k3 σ15 x16)))))))))
def D_MD_becomes (F : Nat) (n : Nat → Nat) (σ : HS) (p1 : Int32) : Option (HS) :=
(D_MD_becomes_L2 F n p1 F σ (0 : Int32)).bind (fun (σ17 : HS) =>
  some σ17)
set_option maxRecDepth 100000 in
set_option maxHeartbeats 4000000 in
theorem k_MD_becomes (l : Launch) (E : EV) (ad n : Nat → Nat) (L : List Nat) (hL : ∀ a ∈ ([20, 27, 28, 29] : List Nat), a ∈ L) (F : Nat) (σ σo : HS) (p1 : Int32)  (hD : D_MD_becomes F n σ p1 = some σo) : CtV l E y_MD_becomes c_MD_becomes 3 none ({ frames := 0, cells := 0, slots := 0, locals := 0 }) [.ref (ad 20), .int p1] (wl E ad n L σ) (wl E ad n L σo) := by
  refine fun sz => ent (by decide) (Nat.le_of_ble_eq_true rfl) ?_
  intro p e s m below meth c hsz cx wo ls hl
  have hx := cx.1.1
  have hb := cx.1.2.1
  have hown := cx.1.2.2.2.1
  have hts := cx.1.2.2.2.2
  have hl : lv_has ls 3 [(0, .ref (ad 20)), (1, .int p1)] := hl
  have m20 : 20 ∈ L := hL 20 (by decide)
  have m27 : 27 ∈ L := hL 27 (by decide)
  have m28 : 28 ∈ L := hL 28 (by decide)
  have m29 : 29 ∈ L := hL 29 (by decide)
  rw [D_MD_becomes] at hD
  refine lv_iconst (v := 0) hx hb d_MD_becomes_0 (by decide) ?_
  refine lv_istore_n (lv' := [(2, .int (0 : Int32)), (0, .ref (ad 20)), (1, .int p1)]) hx hb d_MD_becomes_1 rfl hl (by decide) rfl (fun ls hl => ?_)
  have lp18 : ∀ (k3 : Nat) (σ1 : HS) (x4 : Int32) (H : Heap) (locs : List Loc) (ls : Array Slot) (res2 : HS), D_MD_becomes_L2 F n p1 k3 σ1 x4 = some res2 → (∀ (σ17 : HS) (H : Heap) (locs : List Loc) (ls : Array Slot), res2 = σ17 → Wo E (va_A (wl E ad n L σ) sz) s.heap (wl E ad n L σ17) H locs → lv_has ls 3 [] → W p l e ({ frames := 0, cells := 0, slots := 0, locals := 0 }) s m ([.ref (ad 20), .int p1] : List Value).toArray below meth c H locs 0 0 (MQ below (va_Qv (fun (_ : Unit) => True) (fun _ t => va_P E.1 cls6 (wl E ad n L σo) t.heap ∧ va_D (va_A (wl E ad n L σ) sz) (wl E ad n L σo)) (va_A (wl E ad n L σ) sz)) ([.ref (ad 20), .int p1] : List Value).toArray s 0 0 (va_A (wl E ad n L σ) sz)) (F0 m 60 ls [])) → Wo E (va_A (wl E ad n L σ) sz) s.heap (wl E ad n L σ1) H locs → lv_has ls 3 [(2, .int x4), (0, .ref (ad 20)), (1, .int p1)] → W p l e ({ frames := 0, cells := 0, slots := 0, locals := 0 }) s m ([.ref (ad 20), .int p1] : List Value).toArray below meth c H locs 0 0 (MQ below (va_Qv (fun (_ : Unit) => True) (fun _ t => va_P E.1 cls6 (wl E ad n L σo) t.heap ∧ va_D (va_A (wl E ad n L σ) sz) (wl E ad n L σo)) (va_A (wl E ad n L σ) sz)) ([.ref (ad 20), .int p1] : List Value).toArray s 0 0 (va_A (wl E ad n L σ) sz)) (F0 m 2 ls []) := by
    intro k3
    induction k3 with
    | zero =>
      intro σ1 x4 H locs ls res2 hD
      rw [D_MD_becomes_L2.eq_1] at hD
      cases hD
    | succ k3 ih =>
      intro σ1 x4 H locs ls res2 hD hex wo hl
      rw [D_MD_becomes_L2.eq_2] at hD
      refine lv_iload_n hx hb d_MD_becomes_2 rfl (lv_at hl 0 rfl) ?_
      refine lv_bipush (v := 64) hx hb d_MD_becomes_3 (by decide) ?_
      refine lv_icmp_ge (tgt := 60) hx hb d_MD_becomes_5 (by decide) (fun c5 => ?_) (fun c5 => ?_)
      · have hD := ite_p hD c5
        exact hex σ1 _ _ _ (Option.some.inj hD).symm wo (lv_sub hl [] rfl)
      · have hD := ite_n hD c5
        refine lv_aload_n hx hb d_MD_becomes_8 rfl (lv_at hl 1 rfl) ?_
        refine g_get cx wo m20 (cel_20 E ad n σ1) rfl in_MD 21 (by decide) wf_MD_49 rfl d_MD_becomes_9 ?_
        refine lv_iload_n hx hb d_MD_becomes_12 rfl (lv_at hl 0 rfl) ?_
        refine lv_aload_n hx hb d_MD_becomes_13 rfl (lv_at hl 1 rfl) ?_
        refine g_get cx wo m20 (cel_20 E ad n σ1) rfl in_MD 18 (by decide) wf_MD_43 rfl d_MD_becomes_14 ?_
        refine lv_bipush (v := 64) hx hb d_MD_becomes_17 (by decide) ?_
        refine lv_iload_n hx hb d_MD_becomes_19 rfl (lv_at hl 2 rfl) ?_
        refine lv_imul hx hb d_MD_becomes_20 ?_
        refine lv_iload_n hx hb d_MD_becomes_21 rfl (lv_at hl 0 rfl) ?_
        refine lv_iadd hx hb d_MD_becomes_22 ?_
        obtain ⟨g6, hD⟩ := grd_s hD
        refine g_iald cx wo m28 (cel_28 E ad n σ1) g6 d_MD_becomes_23 ?_
        obtain ⟨g7, hD⟩ := grd_s hD
        refine g_iast cx wo m29 (cel_29 E ad n) g7 d_MD_becomes_24 (fun H locs wo => ?_)
        obtain ⟨σ8, eσ8⟩ : ∃ z, z = stI σ1 29 (x4).toNatClampNeg (σ1.1 28 ((((64 : Int32) * p1) + x4)).toNatClampNeg) := ⟨_, rfl⟩
        rw [← eσ8] at wo
        have hD := nm_at hD eσ8
        try dsimp only at hD
        refine lv_aload_n hx hb d_MD_becomes_25 rfl (lv_at hl 1 rfl) ?_
        refine g_get cx wo m20 (cel_20 E ad n σ8) rfl in_MD 18 (by decide) wf_MD_43 rfl d_MD_becomes_26 ?_
        refine lv_bipush (v := 64) hx hb d_MD_becomes_29 (by decide) ?_
        refine lv_iload_n hx hb d_MD_becomes_31 rfl (lv_at hl 2 rfl) ?_
        refine lv_imul hx hb d_MD_becomes_32 ?_
        refine lv_iload_n hx hb d_MD_becomes_33 rfl (lv_at hl 0 rfl) ?_
        refine lv_iadd hx hb d_MD_becomes_34 ?_
        refine lv_iload_n hx hb d_MD_becomes_35 rfl (lv_at hl 0 rfl) ?_
        refine lv_aload_n hx hb d_MD_becomes_36 rfl (lv_at hl 1 rfl) ?_
        refine g_get cx wo m20 (cel_20 E ad n σ8) rfl in_MD 17 (by decide) wf_MD_104 rfl d_MD_becomes_37 ?_
        refine lv_icmp_ge (tgt := 52) hx hb d_MD_becomes_40 (by decide) (fun c9 => ?_) (fun c9 => ?_)
        · have hD := ite_p hD c9
          refine lv_iconst (v := 0) hx hb d_MD_becomes_52 (by decide) ?_
          obtain ⟨g10, hD⟩ := grd_s hD
          refine g_iast cx wo m28 (cel_28 E ad n) g10 d_MD_becomes_53 (fun H locs wo => ?_)
          obtain ⟨σ11, eσ11⟩ : ∃ z, z = stI σ8 28 ((((64 : Int32) * p1) + x4)).toNatClampNeg (0 : Int32) := ⟨_, rfl⟩
          rw [← eσ11] at wo
          have hD := nm_at hD eσ11
          try dsimp only at hD
          obtain ⟨x12, ex12⟩ : ∃ y : Int32, y = x4 + (1 : Int32) := ⟨_, rfl⟩
          have hD := nm_at hD ex12
          try dsimp only at hD
          refine lv_iinc (v := x12) (lv' := [(2, .int x12), (0, .ref (ad 20)), (1, .int p1)]) hx hb d_MD_becomes_54 hl (k := 0) rfl (by rw [ex12]; rfl) (by decide) rfl (fun ls hl => ?_)
          refine lv_goto (tgt := 2) hx hb d_MD_becomes_57 (by decide) ?_
          exact ih σ11 x12 _ _ _ _ hD hex wo (lv_sub hl [0, 1, 2] rfl)
        · have hD := ite_n hD c9
          refine lv_aload_n hx hb d_MD_becomes_43 rfl (lv_at hl 1 rfl) ?_
          refine g_get cx wo m20 (cel_20 E ad n σ8) rfl in_MD 16 (by decide) wf_MD_39 rfl d_MD_becomes_44 ?_
          refine lv_iload_n hx hb d_MD_becomes_47 rfl (lv_at hl 0 rfl) ?_
          obtain ⟨g13, hD⟩ := grd_s hD
          refine g_iald cx wo m27 (cel_27 E ad n σ8) g13 d_MD_becomes_48 ?_
          refine lv_goto (tgt := 53) hx hb d_MD_becomes_49 (by decide) ?_
          obtain ⟨g14, hD⟩ := grd_s hD
          refine g_iast cx wo m28 (cel_28 E ad n) g14 d_MD_becomes_53 (fun H locs wo => ?_)
          obtain ⟨σ15, eσ15⟩ : ∃ z, z = stI σ8 28 ((((64 : Int32) * p1) + x4)).toNatClampNeg (σ8.1 27 (x4).toNatClampNeg) := ⟨_, rfl⟩
          rw [← eσ15] at wo
          have hD := nm_at hD eσ15
          try dsimp only at hD
          obtain ⟨x16, ex16⟩ : ∃ y : Int32, y = x4 + (1 : Int32) := ⟨_, rfl⟩
          have hD := nm_at hD ex16
          try dsimp only at hD
          refine lv_iinc (v := x16) (lv' := [(2, .int x16), (0, .ref (ad 20)), (1, .int p1)]) hx hb d_MD_becomes_54 hl (k := 0) rfl (by rw [ex16]; rfl) (by decide) rfl (fun ls hl => ?_)
          refine lv_goto (tgt := 2) hx hb d_MD_becomes_57 (by decide) ?_
          exact ih σ15 x16 _ _ _ _ hD hex wo (lv_sub hl [0, 1, 2] rfl)
  obtain ⟨res19, hr20, hD⟩ := bd_s hD
  refine lp18 F σ (0 : Int32) _ _ _ _ hr20 (fun σ17 H locs ls hz wo hl => ?_) wo (lv_sub hl [0, 1, 2] rfl)
  have hz := hz.symm
  subst hz
  try dsimp only at hD
  cases hD
  exact t_vret cx wo d_MD_becomes_60
def D_MD_writes (F : Nat) (n : Nat → Nat) (σ : HS) (p1 : Int32) : Option (HS × Int32) :=
grd (decide (¬ ((σ.1 20 2) - (1 : Int32)) = 0)) (
  nm (p1 / ((σ.1 20 2) - (1 : Int32))) (fun x2 =>
  grd (decide (¬ ((σ.1 20 2) - (1 : Int32)) = 0)) (
  nm (p1 - p1 / ((σ.1 20 2) - (1 : Int32)) * ((σ.1 20 2) - (1 : Int32))) (fun x4 =>
  grd (decide (¬ (σ.1 20 4) = 0)) (
  nm (x2 / (σ.1 20 4)) (fun x6 =>
  grd (decide (¬ (σ.1 20 4) = 0)) (
  nm (((σ.1 20 2) * (x2 - x2 / (σ.1 20 4) * (σ.1 20 4))) + x4) (fun x8 =>
  grd (decide (¬ (σ.1 20 4) = 0)) (
  nm ((((σ.1 20 2) * (x2 - x2 / (σ.1 20 4) * (σ.1 20 4))) + (σ.1 20 2)) - (1 : Int32)) (fun x10 =>
  (D_MD_placeOf F n σ x6 x8).bind (fun (x11 : Int32) =>
  (D_MD_placeOf F n σ x6 x10).bind (fun (x12 : Int32) =>
  jn (fun (x14 : Int32) (x15 : Int32) (x16 : Int32) =>
    (D_MD_puts F n σ x16 x15 x14).bind (fun (qx17 : HS × Int32) => nm2 qx17 (fun (σ18 : HS) (x17 : Int32) =>
    (if x17 = 0 then
      some (σ18, (0 : Int32))
    else
      (D_MD_becomes F n σ18 p1).bind (fun (σ21 : HS) =>
      some (σ21, (1 : Int32)))))))
  (fun j13 =>
  jn (fun (x23 : Int32) =>
    (if 0 ≤ x11 then
      j13 (x8 + (1 : Int32)) x6 x23
    else
      j13 (x10 + (1 : Int32)) x6 x23))
  (fun j22 =>
  (if x11 < 0 then
    (if 0 ≤ x11 then
      j22 x11
    else
      j22 x12)
  else
    (if 0 ≤ x12 then
      (D_MD_puts F n σ x12 (σ.1 20 3) (((1 : Int32) + ((8 : Int32) * x2)) + x4)).bind (fun (qx28 : HS × Int32) => nm2 qx28 (fun (σ29 : HS) (x28 : Int32) =>
      (if x28 = 0 then
        some (σ29, (0 : Int32))
      else
        (D_MD_puts F n σ29 x11 x6 (x8 + (1 : Int32))).bind (fun (qx31 : HS × Int32) => nm2 qx31 (fun (σ32 : HS) (x31 : Int32) =>
        (if x31 = 0 then
          some (σ32, (0 : Int32))
        else
          (D_MD_becomes F n σ32 p1).bind (fun (σ35 : HS) =>
          nm (stF σ35 20 19 p1) (fun σ36 =>
          nm (stF σ36 20 20 (1 : Int32)) (fun σ37 =>
          (D_MD_puts F n σ37 x12 x6 (x10 + (1 : Int32))).bind (fun (qx38 : HS × Int32) => nm2 qx38 (fun (σ39 : HS) (x38 : Int32) =>
          (if x38 = 0 then
            some (σ39, (0 : Int32))
          else
            nm (stF σ39 20 20 (0 : Int32)) (fun σ41 =>
            (D_MD_puts F n σ41 x12 (σ41.1 20 3) (0 : Int32)).bind (fun (qx42 : HS × Int32) => nm2 qx42 (fun (σ43 : HS) (x42 : Int32) =>
            grd (isB x42) (
            some (σ43, x42)))))))))))))))))
    else
      (if 0 ≤ x11 then
        j22 x11
      else
        j22 x12)))))))))))))))))
set_option maxRecDepth 100000 in
set_option maxHeartbeats 4000000 in
theorem k_MD_writes (l : Launch) (E : EV) (ad n : Nat → Nat) (L : List Nat) (hL : ∀ a ∈ ([20, 21, 22, 23, 24, 25, 26, 27, 28, 29] : List Nat), a ∈ L) (F : Nat) (σ σo : HS) (p1 : Int32) (r : Int32) (hD : D_MD_writes F n σ p1 = some (σo, r)) : CtI l E y_MD_writes c_MD_writes 9 (some FieldType.boolean) ({ frames := 4, cells := 0, slots := 0, locals := 92 }) [.ref (ad 20), .int p1] (wl E ad n L σ) r (wl E ad n L σo) := by
  refine fun sz => ent (by decide) (Nat.le_of_ble_eq_true rfl) ?_
  intro p e s m below meth c hsz cx wo ls hl
  have hx := cx.1.1
  have hb := cx.1.2.1
  have hown := cx.1.2.2.2.1
  have hts := cx.1.2.2.2.2
  have hl : lv_has ls 9 [(0, .ref (ad 20)), (1, .int p1)] := hl
  have m20 : 20 ∈ L := hL 20 (by decide)
  have m21 : 21 ∈ L := hL 21 (by decide)
  have m22 : 22 ∈ L := hL 22 (by decide)
  have m23 : 23 ∈ L := hL 23 (by decide)
  have m24 : 24 ∈ L := hL 24 (by decide)
  have m25 : 25 ∈ L := hL 25 (by decide)
  have m26 : 26 ∈ L := hL 26 (by decide)
  have m27 : 27 ∈ L := hL 27 (by decide)
  have m28 : 28 ∈ L := hL 28 (by decide)
  have m29 : 29 ∈ L := hL 29 (by decide)
  rw [D_MD_writes] at hD
  refine lv_iload_n hx hb d_MD_writes_0 rfl (lv_at hl 1 rfl) ?_
  refine lv_aload_n hx hb d_MD_writes_1 rfl (lv_at hl 0 rfl) ?_
  refine g_get cx wo m20 (cel_20 E ad n σ) rfl in_MD 2 (by decide) wf_MD_55 rfl d_MD_writes_2 ?_
  refine lv_iconst (v := 1) hx hb d_MD_writes_5 (by decide) ?_
  refine lv_isub hx hb d_MD_writes_6 ?_
  obtain ⟨g1, hD⟩ := grd_s hD
  refine lv_idiv hx hb d_MD_writes_7 (of_decide_eq_true g1) ?_
  refine lv_topi (fun x2 ex2 => ?_)
  have hD := nm_at hD ex2
  try dsimp only at hD
  refine lv_istore_n (lv' := [(2, .int x2), (0, .ref (ad 20)), (1, .int p1)]) hx hb d_MD_writes_8 rfl hl (by decide) rfl (fun ls hl => ?_)
  refine lv_iload_n hx hb d_MD_writes_9 rfl (lv_at hl 2 rfl) ?_
  refine lv_aload_n hx hb d_MD_writes_10 rfl (lv_at hl 1 rfl) ?_
  refine g_get cx wo m20 (cel_20 E ad n σ) rfl in_MD 2 (by decide) wf_MD_55 rfl d_MD_writes_11 ?_
  refine lv_iconst (v := 1) hx hb d_MD_writes_14 (by decide) ?_
  refine lv_isub hx hb d_MD_writes_15 ?_
  obtain ⟨g3, hD⟩ := grd_s hD
  refine lv_irem hx hb d_MD_writes_16 (of_decide_eq_true g3) ?_
  refine lv_topi (fun x4 ex4 => ?_)
  have hD := nm_at hD ex4
  try dsimp only at hD
  refine lv_istore_n (lv' := [(3, .int x4), (2, .int x2), (0, .ref (ad 20)), (1, .int p1)]) hx hb d_MD_writes_17 rfl hl (by decide) rfl (fun ls hl => ?_)
  refine lv_iload_n hx hb d_MD_writes_18 rfl (lv_at hl 1 rfl) ?_
  refine lv_aload_n hx hb d_MD_writes_19 rfl (lv_at hl 2 rfl) ?_
  refine g_get cx wo m20 (cel_20 E ad n σ) rfl in_MD 4 (by decide) wf_MD_61 rfl d_MD_writes_20 ?_
  obtain ⟨g5, hD⟩ := grd_s hD
  refine lv_idiv hx hb d_MD_writes_23 (of_decide_eq_true g5) ?_
  refine lv_topi (fun x6 ex6 => ?_)
  have hD := nm_at hD ex6
  try dsimp only at hD
  refine lv_istore (lv' := [(4, .int x6), (3, .int x4), (2, .int x2), (0, .ref (ad 20)), (1, .int p1)]) hx hb d_MD_writes_24 hl (by decide) rfl (fun ls hl => ?_)
  refine lv_aload_n hx hb d_MD_writes_26 rfl (lv_at hl 3 rfl) ?_
  refine g_get cx wo m20 (cel_20 E ad n σ) rfl in_MD 2 (by decide) wf_MD_55 rfl d_MD_writes_27 ?_
  refine lv_iload_n hx hb d_MD_writes_30 rfl (lv_at hl 2 rfl) ?_
  refine lv_aload_n hx hb d_MD_writes_31 rfl (lv_at hl 3 rfl) ?_
  refine g_get cx wo m20 (cel_20 E ad n σ) rfl in_MD 4 (by decide) wf_MD_61 rfl d_MD_writes_32 ?_
  obtain ⟨g7, hD⟩ := grd_s hD
  refine lv_irem hx hb d_MD_writes_35 (of_decide_eq_true g7) ?_
  refine lv_imul hx hb d_MD_writes_36 ?_
  refine lv_iload_n hx hb d_MD_writes_37 rfl (lv_at hl 1 rfl) ?_
  refine lv_iadd hx hb d_MD_writes_38 ?_
  refine lv_topi (fun x8 ex8 => ?_)
  have hD := nm_at hD ex8
  try dsimp only at hD
  refine lv_istore (lv' := [(5, .int x8), (4, .int x6), (3, .int x4), (2, .int x2), (0, .ref (ad 20)), (1, .int p1)]) hx hb d_MD_writes_39 hl (by decide) rfl (fun ls hl => ?_)
  refine lv_aload_n hx hb d_MD_writes_41 rfl (lv_at hl 4 rfl) ?_
  refine g_get cx wo m20 (cel_20 E ad n σ) rfl in_MD 2 (by decide) wf_MD_55 rfl d_MD_writes_42 ?_
  refine lv_iload_n hx hb d_MD_writes_45 rfl (lv_at hl 3 rfl) ?_
  refine lv_aload_n hx hb d_MD_writes_46 rfl (lv_at hl 4 rfl) ?_
  refine g_get cx wo m20 (cel_20 E ad n σ) rfl in_MD 4 (by decide) wf_MD_61 rfl d_MD_writes_47 ?_
  obtain ⟨g9, hD⟩ := grd_s hD
  refine lv_irem hx hb d_MD_writes_50 (of_decide_eq_true g9) ?_
  refine lv_imul hx hb d_MD_writes_51 ?_
  refine lv_aload_n hx hb d_MD_writes_52 rfl (lv_at hl 4 rfl) ?_
  refine g_get cx wo m20 (cel_20 E ad n σ) rfl in_MD 2 (by decide) wf_MD_55 rfl d_MD_writes_53 ?_
  refine lv_iadd hx hb d_MD_writes_56 ?_
  refine lv_iconst (v := 1) hx hb d_MD_writes_57 (by decide) ?_
  refine lv_isub hx hb d_MD_writes_58 ?_
  refine lv_topi (fun x10 ex10 => ?_)
  have hD := nm_at hD ex10
  try dsimp only at hD
  refine lv_istore (lv' := [(6, .int x10), (5, .int x8), (4, .int x6), (3, .int x4), (2, .int x2), (0, .ref (ad 20)), (1, .int p1)]) hx hb d_MD_writes_59 hl (by decide) rfl (fun ls hl => ?_)
  refine lv_aload_n hx hb d_MD_writes_61 rfl (lv_at hl 5 rfl) ?_
  refine lv_iload hx hb d_MD_writes_62 (lv_at hl 2 rfl) ?_
  refine lv_iload hx hb d_MD_writes_64 (lv_at hl 1 rfl) ?_
  obtain ⟨x11, hcx11, hD⟩ := bd_s hD
  try dsimp only [nm2] at hD
  refine call_Vi cx wo (k_MD_placeOf l E ad n L (fun a h => hL a ((by decide : ∀ a ∈ ([20, 21, 22, 23, 24, 25, 26] : List Nat), a ∈ ([20, 21, 22, 23, 24, 25, 26, 27, 28, 29] : List Nat)) a h)) F σ  x6 x8 x11 hcx11) m20 (cel_20 E ad n σ) rfl rfl mw_MD_placeOf wm_MD_84 ⟨by decide, by decide⟩ ⟨by decide, by decide⟩ hl.1 rfl (Nat.le_of_ble_eq_true rfl) d_MD_writes_66 (fun H locs wo => ?_)
  refine lv_istore (lv' := [(7, .int x11), (6, .int x10), (5, .int x8), (4, .int x6), (3, .int x4), (2, .int x2), (0, .ref (ad 20)), (1, .int p1)]) hx hb d_MD_writes_69 hl (by decide) rfl (fun ls hl => ?_)
  refine lv_aload_n hx hb d_MD_writes_71 rfl (lv_at hl 6 rfl) ?_
  refine lv_iload hx hb d_MD_writes_72 (lv_at hl 3 rfl) ?_
  refine lv_iload hx hb d_MD_writes_74 (lv_at hl 1 rfl) ?_
  obtain ⟨x12, hcx12, hD⟩ := bd_s hD
  try dsimp only [nm2] at hD
  refine call_Vi cx wo (k_MD_placeOf l E ad n L (fun a h => hL a ((by decide : ∀ a ∈ ([20, 21, 22, 23, 24, 25, 26] : List Nat), a ∈ ([20, 21, 22, 23, 24, 25, 26, 27, 28, 29] : List Nat)) a h)) F σ  x6 x10 x12 hcx12) m20 (cel_20 E ad n σ) rfl rfl mw_MD_placeOf wm_MD_84 ⟨by decide, by decide⟩ ⟨by decide, by decide⟩ hl.1 rfl (Nat.le_of_ble_eq_true rfl) d_MD_writes_76 (fun H locs wo => ?_)
  refine lv_istore (lv' := [(8, .int x12), (7, .int x11), (6, .int x10), (5, .int x8), (4, .int x6), (3, .int x4), (2, .int x2), (0, .ref (ad 20)), (1, .int p1)]) hx hb d_MD_writes_79 hl (by decide) rfl (fun ls hl => ?_)
  refine lv_iload hx hb d_MD_writes_81 (lv_at hl 1 rfl) ?_
  obtain ⟨j13, hj13, hD⟩ := jn_s hD
  try dsimp only at hD
  have j13_ok : ∀ (x14 : Int32) (x15 : Int32) (x16 : Int32) (H : Heap) (locs : List Loc) (ls : Array Slot), j13 x14 x15 x16 = some (σo, r) → Wo E (va_A (wl E ad n L σ) sz) s.heap (wl E ad n L σ) H locs → lv_has ls 9 [(0, .ref (ad 20)), (1, .int p1)] → W p l e ({ frames := 4, cells := 0, slots := 0, locals := 92 }) s m ([.ref (ad 20), .int p1] : List Value).toArray below meth c H locs 0 0 (MQ below (va_Qi (fun (x : Int32) (_ : Unit) => x = r) (fun _ t => va_P E.1 cls6 (wl E ad n L σo) t.heap ∧ va_D (va_A (wl E ad n L σ) sz) (wl E ad n L σo)) (va_A (wl E ad n L σ) sz)) ([.ref (ad 20), .int p1] : List Value).toArray s 0 0 (va_A (wl E ad n L σ) sz)) (F0 m 122 ls [.int x14, .int x15, .int x16, .ref (ad 20)]) := by
    intro x14 x15 x16 H locs ls hD wo hl
    rw [hj13] at hD
    try dsimp only at hD
    obtain ⟨⟨σ18, x17⟩, hcx17, hD⟩ := bd_s hD
    try dsimp only [nm2] at hD
    refine call_Vi cx wo (k_MD_puts l E ad n L (fun a h => hL a ((by decide : ∀ a ∈ ([20, 23, 24, 25] : List Nat), a ∈ ([20, 21, 22, 23, 24, 25, 26, 27, 28, 29] : List Nat)) a h)) F σ σ18 x16 x15 x14 x17 hcx17) m20 (cel_20 E ad n σ) rfl rfl mw_MD_puts wm_MD_116 ⟨by decide, by decide⟩ ⟨by decide, by decide⟩ hl.1 rfl (Nat.le_of_ble_eq_true rfl) d_MD_writes_122 (fun H locs wo => ?_)
    refine lv_if_ne (tgt := 130) hx hb d_MD_writes_125 (by decide) (fun c19 => ?_) (fun c19 => ?_)
    · have hD := ite_n hD c19
      refine lv_aload_n hx hb d_MD_writes_130 rfl (lv_at hl 0 rfl) ?_
      refine lv_iload_n hx hb d_MD_writes_131 rfl (lv_at hl 1 rfl) ?_
      obtain ⟨σ21, hcx20, hD⟩ := bd_s hD
      try dsimp only [nm2] at hD
      refine call_Vv cx wo (k_MD_becomes l E ad n L (fun a h => hL a ((by decide : ∀ a ∈ ([20, 27, 28, 29] : List Nat), a ∈ ([20, 21, 22, 23, 24, 25, 26, 27, 28, 29] : List Nat)) a h)) F σ18 σ21 p1 hcx20) m20 (cel_20 E ad n σ18) rfl rfl mw_MD_becomes wm_MD_120 ⟨by decide, by decide⟩ ⟨by decide, by decide⟩ hl.1 rfl (Nat.le_of_ble_eq_true rfl) d_MD_writes_132 (fun H locs wo => ?_)
      refine lv_iconst (v := 1) hx hb d_MD_writes_135 (by decide) ?_
      cases hD
      exact t_ireti cx wo rfl rfl d_MD_writes_136
    · have hD := ite_p hD c19
      refine lv_iconst (v := 0) hx hb d_MD_writes_128 (by decide) ?_
      cases hD
      exact t_ireti cx wo rfl rfl d_MD_writes_129
  obtain ⟨j22, hj22, hD⟩ := jn_s hD
  try dsimp only at hD
  have j22_ok : ∀ (x23 : Int32) (H : Heap) (locs : List Loc) (ls : Array Slot), j22 x23 = some (σo, r) → Wo E (va_A (wl E ad n L σ) sz) s.heap (wl E ad n L σ) H locs → lv_has ls 9 [(7, .int x11), (6, .int x10), (5, .int x8), (4, .int x6), (0, .ref (ad 20)), (1, .int p1)] → W p l e ({ frames := 4, cells := 0, slots := 0, locals := 92 }) s m ([.ref (ad 20), .int p1] : List Value).toArray below meth c H locs 0 0 (MQ below (va_Qi (fun (x : Int32) (_ : Unit) => x = r) (fun _ t => va_P E.1 cls6 (wl E ad n L σo) t.heap ∧ va_D (va_A (wl E ad n L σ) sz) (wl E ad n L σo)) (va_A (wl E ad n L σ) sz)) ([.ref (ad 20), .int p1] : List Value).toArray s 0 0 (va_A (wl E ad n L σ) sz)) (F0 m 104 ls [.int x23, .ref (ad 20)]) := by
    intro x23 H locs ls hD wo hl
    rw [hj22] at hD
    try dsimp only at hD
    refine lv_iload hx hb d_MD_writes_104 (lv_at hl 3 rfl) ?_
    refine lv_iload hx hb d_MD_writes_106 (lv_at hl 0 rfl) ?_
    refine lv_if_ge (tgt := 118) hx hb d_MD_writes_108 (by decide) (fun c24 => ?_) (fun c24 => ?_)
    · have hD := ite_p hD c24
      refine lv_iload hx hb d_MD_writes_118 (lv_at hl 2 rfl) ?_
      refine lv_iconst (v := 1) hx hb d_MD_writes_120 (by decide) ?_
      refine lv_iadd hx hb d_MD_writes_121 ?_
      exact j13_ok (x8 + (1 : Int32)) x6 x23 _ _ _ hD wo (lv_sub hl [4, 5] rfl)
    · have hD := ite_n hD c24
      refine lv_iload hx hb d_MD_writes_111 (lv_at hl 1 rfl) ?_
      refine lv_iconst (v := 1) hx hb d_MD_writes_113 (by decide) ?_
      refine lv_iadd hx hb d_MD_writes_114 ?_
      refine lv_goto (tgt := 122) hx hb d_MD_writes_115 (by decide) ?_
      exact j13_ok (x10 + (1 : Int32)) x6 x23 _ _ _ hD wo (lv_sub hl [4, 5] rfl)
  refine lv_if_lt (tgt := 91) hx hb d_MD_writes_83 (by decide) (fun c25 => ?_) (fun c25 => ?_)
  · have hD := ite_p hD c25
    refine lv_aload_n hx hb d_MD_writes_91 rfl (lv_at hl 7 rfl) ?_
    refine lv_iload hx hb d_MD_writes_92 (lv_at hl 1 rfl) ?_
    refine lv_if_ge (tgt := 102) hx hb d_MD_writes_94 (by decide) (fun c26 => ?_) (fun c26 => ?_)
    · have hD := ite_p hD c26
      refine lv_iload hx hb d_MD_writes_102 (lv_at hl 1 rfl) ?_
      exact j22_ok x11 _ _ _ hD wo (lv_sub hl [1, 2, 3, 4, 7, 8] rfl)
    · have hD := ite_n hD c26
      refine lv_iload hx hb d_MD_writes_97 (lv_at hl 0 rfl) ?_
      refine lv_goto (tgt := 104) hx hb d_MD_writes_99 (by decide) ?_
      exact j22_ok x12 _ _ _ hD wo (lv_sub hl [1, 2, 3, 4, 7, 8] rfl)
  · have hD := ite_n hD c25
    refine lv_iload hx hb d_MD_writes_86 (lv_at hl 0 rfl) ?_
    refine lv_if_ge (tgt := 137) hx hb d_MD_writes_88 (by decide) (fun c27 => ?_) (fun c27 => ?_)
    · have hD := ite_p hD c27
      refine lv_aload_n hx hb d_MD_writes_137 rfl (lv_at hl 7 rfl) ?_
      refine lv_iload hx hb d_MD_writes_138 (lv_at hl 0 rfl) ?_
      refine lv_aload_n hx hb d_MD_writes_140 rfl (lv_at hl 7 rfl) ?_
      refine g_get cx wo m20 (cel_20 E ad n σ) rfl in_MD 3 (by decide) wf_MD_58 rfl d_MD_writes_141 ?_
      refine lv_iconst (v := 1) hx hb d_MD_writes_144 (by decide) ?_
      refine lv_bipush (v := 8) hx hb d_MD_writes_145 (by decide) ?_
      refine lv_iload_n hx hb d_MD_writes_147 rfl (lv_at hl 6 rfl) ?_
      refine lv_imul hx hb d_MD_writes_148 ?_
      refine lv_iadd hx hb d_MD_writes_149 ?_
      refine lv_iload_n hx hb d_MD_writes_150 rfl (lv_at hl 5 rfl) ?_
      refine lv_iadd hx hb d_MD_writes_151 ?_
      obtain ⟨⟨σ29, x28⟩, hcx28, hD⟩ := bd_s hD
      try dsimp only [nm2] at hD
      refine call_Vi cx wo (k_MD_puts l E ad n L (fun a h => hL a ((by decide : ∀ a ∈ ([20, 23, 24, 25] : List Nat), a ∈ ([20, 21, 22, 23, 24, 25, 26, 27, 28, 29] : List Nat)) a h)) F σ σ29 x12 (σ.1 20 3) (((1 : Int32) + ((8 : Int32) * x2)) + x4) x28 hcx28) m20 (cel_20 E ad n σ) rfl rfl mw_MD_puts wm_MD_116 ⟨by decide, by decide⟩ ⟨by decide, by decide⟩ hl.1 rfl (Nat.le_of_ble_eq_true rfl) d_MD_writes_152 (fun H locs wo => ?_)
      refine lv_if_eq (tgt := 173) hx hb d_MD_writes_155 (by decide) (fun c30 => ?_) (fun c30 => ?_)
      · have hD := ite_p hD c30
        refine lv_iconst (v := 0) hx hb d_MD_writes_173 (by decide) ?_
        cases hD
        exact t_ireti cx wo rfl rfl d_MD_writes_174
      · have hD := ite_n hD c30
        refine lv_aload_n hx hb d_MD_writes_158 rfl (lv_at hl 7 rfl) ?_
        refine lv_iload hx hb d_MD_writes_159 (lv_at hl 1 rfl) ?_
        refine lv_iload hx hb d_MD_writes_161 (lv_at hl 4 rfl) ?_
        refine lv_iload hx hb d_MD_writes_163 (lv_at hl 3 rfl) ?_
        refine lv_iconst (v := 1) hx hb d_MD_writes_165 (by decide) ?_
        refine lv_iadd hx hb d_MD_writes_166 ?_
        obtain ⟨⟨σ32, x31⟩, hcx31, hD⟩ := bd_s hD
        try dsimp only [nm2] at hD
        refine call_Vi cx wo (k_MD_puts l E ad n L (fun a h => hL a ((by decide : ∀ a ∈ ([20, 23, 24, 25] : List Nat), a ∈ ([20, 21, 22, 23, 24, 25, 26, 27, 28, 29] : List Nat)) a h)) F σ29 σ32 x11 x6 (x8 + (1 : Int32)) x31 hcx31) m20 (cel_20 E ad n σ29) rfl rfl mw_MD_puts wm_MD_116 ⟨by decide, by decide⟩ ⟨by decide, by decide⟩ hl.1 rfl (Nat.le_of_ble_eq_true rfl) d_MD_writes_167 (fun H locs wo => ?_)
        refine lv_if_ne (tgt := 175) hx hb d_MD_writes_170 (by decide) (fun c33 => ?_) (fun c33 => ?_)
        · have hD := ite_n hD c33
          refine lv_aload_n hx hb d_MD_writes_175 rfl (lv_at hl 7 rfl) ?_
          refine lv_iload_n hx hb d_MD_writes_176 rfl (lv_at hl 8 rfl) ?_
          obtain ⟨σ35, hcx34, hD⟩ := bd_s hD
          try dsimp only [nm2] at hD
          refine call_Vv cx wo (k_MD_becomes l E ad n L (fun a h => hL a ((by decide : ∀ a ∈ ([20, 27, 28, 29] : List Nat), a ∈ ([20, 21, 22, 23, 24, 25, 26, 27, 28, 29] : List Nat)) a h)) F σ32 σ35 p1 hcx34) m20 (cel_20 E ad n σ32) rfl rfl mw_MD_becomes wm_MD_120 ⟨by decide, by decide⟩ ⟨by decide, by decide⟩ hl.1 rfl (Nat.le_of_ble_eq_true rfl) d_MD_writes_177 (fun H locs wo => ?_)
          refine lv_aload_n hx hb d_MD_writes_180 rfl (lv_at hl 7 rfl) ?_
          refine lv_iload_n hx hb d_MD_writes_181 rfl (lv_at hl 8 rfl) ?_
          refine g_put cx wo m20 (cel_20 E ad n σ35) rfl in_MD t_MD tok_MD n_MD 19 (by decide) wf_MD_46 rfl rfl rfl (Nat.le_of_ble_eq_true rfl) rfl d_MD_writes_182 (fun H locs wo => ?_)
          obtain ⟨σ36, eσ36⟩ : ∃ z, z = stF σ35 20 19 p1 := ⟨_, rfl⟩
          rw [← eσ36] at wo
          have hD := nm_at hD eσ36
          try dsimp only at hD
          refine lv_aload_n hx hb d_MD_writes_185 rfl (lv_at hl 7 rfl) ?_
          refine lv_iconst (v := 1) hx hb d_MD_writes_186 (by decide) ?_
          refine g_put cx wo m20 (cel_20 E ad n σ36) rfl in_MD t_MD tok_MD n_MD 20 (by decide) wf_MD_124 rfl rfl rfl (Nat.le_of_ble_eq_true rfl) rfl d_MD_writes_187 (fun H locs wo => ?_)
          obtain ⟨σ37, eσ37⟩ : ∃ z, z = stF σ36 20 20 (1 : Int32) := ⟨_, rfl⟩
          rw [← eσ37] at wo
          have hD := nm_at hD eσ37
          try dsimp only at hD
          refine lv_aload_n hx hb d_MD_writes_190 rfl (lv_at hl 7 rfl) ?_
          refine lv_iload hx hb d_MD_writes_191 (lv_at hl 0 rfl) ?_
          refine lv_iload hx hb d_MD_writes_193 (lv_at hl 4 rfl) ?_
          refine lv_iload hx hb d_MD_writes_195 (lv_at hl 2 rfl) ?_
          refine lv_iconst (v := 1) hx hb d_MD_writes_197 (by decide) ?_
          refine lv_iadd hx hb d_MD_writes_198 ?_
          obtain ⟨⟨σ39, x38⟩, hcx38, hD⟩ := bd_s hD
          try dsimp only [nm2] at hD
          refine call_Vi cx wo (k_MD_puts l E ad n L (fun a h => hL a ((by decide : ∀ a ∈ ([20, 23, 24, 25] : List Nat), a ∈ ([20, 21, 22, 23, 24, 25, 26, 27, 28, 29] : List Nat)) a h)) F σ37 σ39 x12 x6 (x10 + (1 : Int32)) x38 hcx38) m20 (cel_20 E ad n σ37) rfl rfl mw_MD_puts wm_MD_116 ⟨by decide, by decide⟩ ⟨by decide, by decide⟩ hl.1 rfl (Nat.le_of_ble_eq_true rfl) d_MD_writes_199 (fun H locs wo => ?_)
          refine lv_if_ne (tgt := 207) hx hb d_MD_writes_202 (by decide) (fun c40 => ?_) (fun c40 => ?_)
          · have hD := ite_n hD c40
            refine lv_aload_n hx hb d_MD_writes_207 rfl (lv_at hl 7 rfl) ?_
            refine lv_iconst (v := 0) hx hb d_MD_writes_208 (by decide) ?_
            refine g_put cx wo m20 (cel_20 E ad n σ39) rfl in_MD t_MD tok_MD n_MD 20 (by decide) wf_MD_124 rfl rfl rfl (Nat.le_of_ble_eq_true rfl) rfl d_MD_writes_209 (fun H locs wo => ?_)
            obtain ⟨σ41, eσ41⟩ : ∃ z, z = stF σ39 20 20 (0 : Int32) := ⟨_, rfl⟩
            rw [← eσ41] at wo
            have hD := nm_at hD eσ41
            try dsimp only at hD
            refine lv_aload_n hx hb d_MD_writes_212 rfl (lv_at hl 7 rfl) ?_
            refine lv_iload hx hb d_MD_writes_213 (lv_at hl 0 rfl) ?_
            refine lv_aload_n hx hb d_MD_writes_215 rfl (lv_at hl 7 rfl) ?_
            refine g_get cx wo m20 (cel_20 E ad n σ41) rfl in_MD 3 (by decide) wf_MD_58 rfl d_MD_writes_216 ?_
            refine lv_iconst (v := 0) hx hb d_MD_writes_219 (by decide) ?_
            obtain ⟨⟨σ43, x42⟩, hcx42, hD⟩ := bd_s hD
            try dsimp only [nm2] at hD
            refine call_Vi cx wo (k_MD_puts l E ad n L (fun a h => hL a ((by decide : ∀ a ∈ ([20, 23, 24, 25] : List Nat), a ∈ ([20, 21, 22, 23, 24, 25, 26, 27, 28, 29] : List Nat)) a h)) F σ41 σ43 x12 (σ41.1 20 3) (0 : Int32) x42 hcx42) m20 (cel_20 E ad n σ41) rfl rfl mw_MD_puts wm_MD_116 ⟨by decide, by decide⟩ ⟨by decide, by decide⟩ hl.1 rfl (Nat.le_of_ble_eq_true rfl) d_MD_writes_220 (fun H locs wo => ?_)
            obtain ⟨g44, hD⟩ := grd_s hD
            cases hD
            exact t_ireti cx wo (isB_n g44) rfl d_MD_writes_223
          · have hD := ite_p hD c40
            refine lv_iconst (v := 0) hx hb d_MD_writes_205 (by decide) ?_
            cases hD
            exact t_ireti cx wo rfl rfl d_MD_writes_206
        · have hD := ite_p hD c33
          refine lv_iconst (v := 0) hx hb d_MD_writes_173 (by decide) ?_
          cases hD
          exact t_ireti cx wo rfl rfl d_MD_writes_174
    · have hD := ite_n hD c27
      refine lv_aload_n hx hb d_MD_writes_91 rfl (lv_at hl 7 rfl) ?_
      refine lv_iload hx hb d_MD_writes_92 (lv_at hl 1 rfl) ?_
      refine lv_if_ge (tgt := 102) hx hb d_MD_writes_94 (by decide) (fun c45 => ?_) (fun c45 => ?_)
      · have hD := ite_p hD c45
        refine lv_iload hx hb d_MD_writes_102 (lv_at hl 1 rfl) ?_
        exact j22_ok x11 _ _ _ hD wo (lv_sub hl [1, 2, 3, 4, 7, 8] rfl)
      · have hD := ite_n hD c45
        refine lv_iload hx hb d_MD_writes_97 (lv_at hl 0 rfl) ?_
        refine lv_goto (tgt := 104) hx hb d_MD_writes_99 (by decide) ?_
        exact j22_ok x12 _ _ _ hD wo (lv_sub hl [1, 2, 3, 4, 7, 8] rfl)
def D_MD_write (F : Nat) (n : Nat → Nat) (σ : HS) (p1 : Int32) : Option (HS × Int32) :=
jn (fun (σ2 : HS) (x3 : Int32) =>
    (D_MD_fails F n σ2 x3 (2 : Int32)).bind (fun (qx4 : HS × Int32) => nm2 qx4 (fun (σ5 : HS) (x4 : Int32) =>
    (if x4 = 0 then
      (D_MD_writes F n σ5 p1).bind (fun (qx7 : HS × Int32) => nm2 qx7 (fun (σ8 : HS) (x7 : Int32) =>
      nm (stF σ8 20 17 (0 : Int32)) (fun σ9 =>
      grd (isB x7) (
      some (σ9, x7)))))
    else
      some (σ5, (0 : Int32))))))
  (fun j1 =>
  jn (fun (x12 : Int32) =>
    (D_MD_fails F n σ x12 (1 : Int32)).bind (fun (qx13 : HS × Int32) => nm2 qx13 (fun (σ14 : HS) (x13 : Int32) =>
    (if x13 = 0 then
      (if (σ14.1 20 12) = 0 then
        j1 σ14 (1 : Int32)
      else
        j1 σ14 (0 : Int32))
    else
      some (σ14, (0 : Int32))))))
  (fun j11 =>
  (if p1 < 0 then
    j11 (1 : Int32)
  else
    (D_MD_blocks F n σ ).bind (fun (x18 : Int32) =>
    (if p1 < x18 then
      j11 (0 : Int32)
    else
      j11 (1 : Int32))))))
set_option maxRecDepth 100000 in
set_option maxHeartbeats 4000000 in
theorem k_MD_write (l : Launch) (E : EV) (ad n : Nat → Nat) (L : List Nat) (hL : ∀ a ∈ ([20, 21, 22, 23, 24, 25, 26, 27, 28, 29] : List Nat), a ∈ L) (F : Nat) (σ σo : HS) (p1 : Int32) (r : Int32) (hD : D_MD_write F n σ p1 = some (σo, r)) : CtI l E y_MD_write c_MD_write 3 (some FieldType.boolean) ({ frames := 5, cells := 0, slots := 0, locals := 120 }) [.ref (ad 20), .int p1] (wl E ad n L σ) r (wl E ad n L σo) := by
  refine fun sz => ent (by decide) (Nat.le_of_ble_eq_true rfl) ?_
  intro p e s m below meth c hsz cx wo ls hl
  have hx := cx.1.1
  have hb := cx.1.2.1
  have hown := cx.1.2.2.2.1
  have hts := cx.1.2.2.2.2
  have hl : lv_has ls 3 [(0, .ref (ad 20)), (1, .int p1)] := hl
  have m20 : 20 ∈ L := hL 20 (by decide)
  have m21 : 21 ∈ L := hL 21 (by decide)
  have m22 : 22 ∈ L := hL 22 (by decide)
  have m23 : 23 ∈ L := hL 23 (by decide)
  have m24 : 24 ∈ L := hL 24 (by decide)
  have m25 : 25 ∈ L := hL 25 (by decide)
  have m26 : 26 ∈ L := hL 26 (by decide)
  have m27 : 27 ∈ L := hL 27 (by decide)
  have m28 : 28 ∈ L := hL 28 (by decide)
  have m29 : 29 ∈ L := hL 29 (by decide)
  rw [D_MD_write] at hD
  refine lv_aload_n hx hb d_MD_write_0 rfl (lv_at hl 0 rfl) ?_
  refine lv_iload_n hx hb d_MD_write_1 rfl (lv_at hl 1 rfl) ?_
  obtain ⟨j1, hj1, hD⟩ := jn_s hD
  try dsimp only at hD
  have j1_ok : ∀ (σ2 : HS) (x3 : Int32) (H : Heap) (locs : List Loc) (ls : Array Slot), j1 σ2 x3 = some (σo, r) → Wo E (va_A (wl E ad n L σ) sz) s.heap (wl E ad n L σ2) H locs → lv_has ls 3 [(0, .ref (ad 20)), (1, .int p1)] → W p l e ({ frames := 5, cells := 0, slots := 0, locals := 120 }) s m ([.ref (ad 20), .int p1] : List Value).toArray below meth c H locs 0 0 (MQ below (va_Qi (fun (x : Int32) (_ : Unit) => x = r) (fun _ t => va_P E.1 cls6 (wl E ad n L σo) t.heap ∧ va_D (va_A (wl E ad n L σ) sz) (wl E ad n L σo)) (va_A (wl E ad n L σ) sz)) ([.ref (ad 20), .int p1] : List Value).toArray s 0 0 (va_A (wl E ad n L σ) sz)) (F0 m 38 ls [.int x3, .ref (ad 20)]) := by
    intro σ2 x3 H locs ls hD wo hl
    rw [hj1] at hD
    try dsimp only at hD
    refine lv_iconst (v := 2) hx hb d_MD_write_38 (by decide) ?_
    obtain ⟨⟨σ5, x4⟩, hcx4, hD⟩ := bd_s hD
    try dsimp only [nm2] at hD
    refine call_Vi cx wo (k_MD_fails l E ad n L (fun a h => hL a ((by decide : ∀ a ∈ ([20] : List Nat), a ∈ ([20, 21, 22, 23, 24, 25, 26, 27, 28, 29] : List Nat)) a h)) F σ2 σ5 x3 (2 : Int32) x4 hcx4) m20 (cel_20 E ad n σ2) rfl rfl mw_MD_fails wm_MD_100 ⟨by decide, by decide⟩ ⟨by decide, by decide⟩ hl.1 rfl (Nat.le_of_ble_eq_true rfl) d_MD_write_39 (fun H locs wo => ?_)
    refine lv_if_eq (tgt := 47) hx hb d_MD_write_42 (by decide) (fun c6 => ?_) (fun c6 => ?_)
    · have hD := ite_p hD c6
      refine lv_aload_n hx hb d_MD_write_47 rfl (lv_at hl 0 rfl) ?_
      refine lv_iload_n hx hb d_MD_write_48 rfl (lv_at hl 1 rfl) ?_
      obtain ⟨⟨σ8, x7⟩, hcx7, hD⟩ := bd_s hD
      try dsimp only [nm2] at hD
      refine call_Vi cx wo (k_MD_writes l E ad n L (fun a h => hL a ((by decide : ∀ a ∈ ([20, 21, 22, 23, 24, 25, 26, 27, 28, 29] : List Nat), a ∈ ([20, 21, 22, 23, 24, 25, 26, 27, 28, 29] : List Nat)) a h)) F σ5 σ8 p1 x7 hcx7) m20 (cel_20 E ad n σ5) rfl rfl mw_MD_writes wm_MD_113 ⟨by decide, by decide⟩ ⟨by decide, by decide⟩ hl.1 rfl (Nat.le_of_ble_eq_true rfl) d_MD_write_49 (fun H locs wo => ?_)
      refine lv_istore_n (lv' := [(2, .int x7), (0, .ref (ad 20)), (1, .int p1)]) hx hb d_MD_write_52 rfl hl (by decide) rfl (fun ls hl => ?_)
      refine lv_aload_n hx hb d_MD_write_53 rfl (lv_at hl 1 rfl) ?_
      refine lv_iconst (v := 0) hx hb d_MD_write_54 (by decide) ?_
      refine g_put cx wo m20 (cel_20 E ad n σ8) rfl in_MD t_MD tok_MD n_MD 17 (by decide) wf_MD_104 rfl rfl rfl (Nat.le_of_ble_eq_true rfl) rfl d_MD_write_55 (fun H locs wo => ?_)
      obtain ⟨σ9, eσ9⟩ : ∃ z, z = stF σ8 20 17 (0 : Int32) := ⟨_, rfl⟩
      rw [← eσ9] at wo
      have hD := nm_at hD eσ9
      try dsimp only at hD
      refine lv_iload_n hx hb d_MD_write_58 rfl (lv_at hl 0 rfl) ?_
      obtain ⟨g10, hD⟩ := grd_s hD
      cases hD
      exact t_ireti cx wo (isB_n g10) rfl d_MD_write_59
    · have hD := ite_n hD c6
      refine lv_iconst (v := 0) hx hb d_MD_write_45 (by decide) ?_
      cases hD
      exact t_ireti cx wo rfl rfl d_MD_write_46
  obtain ⟨j11, hj11, hD⟩ := jn_s hD
  try dsimp only at hD
  have j11_ok : ∀ (x12 : Int32) (H : Heap) (locs : List Loc) (ls : Array Slot), j11 x12 = some (σo, r) → Wo E (va_A (wl E ad n L σ) sz) s.heap (wl E ad n L σ) H locs → lv_has ls 3 [(0, .ref (ad 20)), (1, .int p1)] → W p l e ({ frames := 5, cells := 0, slots := 0, locals := 120 }) s m ([.ref (ad 20), .int p1] : List Value).toArray below meth c H locs 0 0 (MQ below (va_Qi (fun (x : Int32) (_ : Unit) => x = r) (fun _ t => va_P E.1 cls6 (wl E ad n L σo) t.heap ∧ va_D (va_A (wl E ad n L σ) sz) (wl E ad n L σo)) (va_A (wl E ad n L σ) sz)) ([.ref (ad 20), .int p1] : List Value).toArray s 0 0 (va_A (wl E ad n L σ) sz)) (F0 m 18 ls [.int x12, .ref (ad 20)]) := by
    intro x12 H locs ls hD wo hl
    rw [hj11] at hD
    try dsimp only at hD
    refine lv_iconst (v := 1) hx hb d_MD_write_18 (by decide) ?_
    obtain ⟨⟨σ14, x13⟩, hcx13, hD⟩ := bd_s hD
    try dsimp only [nm2] at hD
    refine call_Vi cx wo (k_MD_fails l E ad n L (fun a h => hL a ((by decide : ∀ a ∈ ([20] : List Nat), a ∈ ([20, 21, 22, 23, 24, 25, 26, 27, 28, 29] : List Nat)) a h)) F σ σ14 x12 (1 : Int32) x13 hcx13) m20 (cel_20 E ad n σ) rfl rfl mw_MD_fails wm_MD_100 ⟨by decide, by decide⟩ ⟨by decide, by decide⟩ hl.1 rfl (Nat.le_of_ble_eq_true rfl) d_MD_write_19 (fun H locs wo => ?_)
    refine lv_if_ne (tgt := 45) hx hb d_MD_write_22 (by decide) (fun c15 => ?_) (fun c15 => ?_)
    · have hD := ite_n hD c15
      refine lv_iconst (v := 0) hx hb d_MD_write_45 (by decide) ?_
      cases hD
      exact t_ireti cx wo rfl rfl d_MD_write_46
    · have hD := ite_p hD c15
      refine lv_aload_n hx hb d_MD_write_25 rfl (lv_at hl 0 rfl) ?_
      refine lv_aload_n hx hb d_MD_write_26 rfl (lv_at hl 0 rfl) ?_
      refine g_get cx wo m20 (cel_20 E ad n σ14) rfl in_MD 12 (by decide) wf_MD_31 rfl d_MD_write_27 ?_
      refine lv_if_ne (tgt := 37) hx hb d_MD_write_30 (by decide) (fun c16 => ?_) (fun c16 => ?_)
      · have hD := ite_n hD c16
        refine lv_iconst (v := 0) hx hb d_MD_write_37 (by decide) ?_
        exact j1_ok σ14 (0 : Int32) _ _ _ hD wo (lv_sub hl [0, 1] rfl)
      · have hD := ite_p hD c16
        refine lv_iconst (v := 1) hx hb d_MD_write_33 (by decide) ?_
        refine lv_goto (tgt := 38) hx hb d_MD_write_34 (by decide) ?_
        exact j1_ok σ14 (1 : Int32) _ _ _ hD wo (lv_sub hl [0, 1] rfl)
  refine lv_if_lt (tgt := 13) hx hb d_MD_write_2 (by decide) (fun c17 => ?_) (fun c17 => ?_)
  · have hD := ite_p hD c17
    refine lv_iconst (v := 1) hx hb d_MD_write_13 (by decide) ?_
    refine lv_goto (tgt := 18) hx hb d_MD_write_14 (by decide) ?_
    exact j11_ok (1 : Int32) _ _ _ hD wo (lv_sub hl [0, 1] rfl)
  · have hD := ite_n hD c17
    refine lv_iload_n hx hb d_MD_write_5 rfl (lv_at hl 1 rfl) ?_
    refine lv_aload_n hx hb d_MD_write_6 rfl (lv_at hl 0 rfl) ?_
    obtain ⟨x18, hcx18, hD⟩ := bd_s hD
    try dsimp only [nm2] at hD
    refine call_Vi cx wo (k_MD_blocks l E ad n L (fun a h => hL a ((by decide : ∀ a ∈ ([20] : List Nat), a ∈ ([20, 21, 22, 23, 24, 25, 26, 27, 28, 29] : List Nat)) a h)) F σ   x18 hcx18) m20 (cel_20 E ad n σ) rfl rfl mw_MD_blocks wm_MD_109 ⟨by decide, by decide⟩ ⟨by decide, by decide⟩ hl.1 rfl (Nat.le_of_ble_eq_true rfl) d_MD_write_7 (fun H locs wo => ?_)
    refine lv_icmp_lt (tgt := 17) hx hb d_MD_write_10 (by decide) (fun c19 => ?_) (fun c19 => ?_)
    · have hD := ite_p hD c19
      refine lv_iconst (v := 0) hx hb d_MD_write_17 (by decide) ?_
      exact j11_ok (0 : Int32) _ _ _ hD wo (lv_sub hl [0, 1] rfl)
    · have hD := ite_n hD c19
      refine lv_iconst (v := 1) hx hb d_MD_write_13 (by decide) ?_
      refine lv_goto (tgt := 18) hx hb d_MD_write_14 (by decide) ?_
      exact j11_ok (1 : Int32) _ _ _ hD wo (lv_sub hl [0, 1] rfl)
def D_MD_read_L63 (F : Nat) (n : Nat → Nat) (σ5 : HS) (p1 : Int32) (p2 : Int32) : Nat → Int32 → Int64 → Option (Int64)
  | 0, _, _ => none
  | k8 + 1, x9, x10 =>
      (if x9 < 0 then
            some x10
          else
            grd (inb ((((64 : Int32) * p1) + ((8 : Int32) * p2)) + x9) (n 28)) (
            nm ((x10 <<< (((8 : Int32)).toInt64 &&& 63)) ||| ((σ5.1 28 (((((64 : Int32) * p1) + ((8 : Int32) * p2)) + x9)).toNatClampNeg)).toInt64) (fun x13 =>
            nm (x9 + (-1 : Int32)) (fun x14 =>
            D_MD_read_L63 F n σ5 p1 p2 k8 x14 x13))))
def D_MD_read (F : Nat) (n : Nat → Nat) (σ : HS) (p1 : Int32) (p2 : Int32) : Option (HS × Int64) :=
jn (fun (σ2 : HS) (x3 : Int32) =>
    (D_MD_fails F n σ2 x3 (2 : Int32)).bind (fun (qx4 : HS × Int32) => nm2 qx4 (fun (σ5 : HS) (x4 : Int32) =>
    (if x4 = 0 then
      (D_MD_read_L63 F n σ5 p1 p2 F (7 : Int32) (0 : Int64)).bind (fun (x15 : Int64) =>
      some (σ5, x15))
    else
      some (σ5, (0 : Int64))))))
  (fun j1 =>
  jn (fun (x20 : Int32) =>
    (D_MD_fails F n σ x20 (1 : Int32)).bind (fun (qx21 : HS × Int32) => nm2 qx21 (fun (σ22 : HS) (x21 : Int32) =>
    (if x21 = 0 then
      (if (σ22.1 20 12) = 0 then
        j1 σ22 (1 : Int32)
      else
        j1 σ22 (0 : Int32))
    else
      some (σ22, (0 : Int64))))))
  (fun j19 =>
  (if p1 < 0 then
    j19 (1 : Int32)
  else
    (D_MD_blocks F n σ ).bind (fun (x26 : Int32) =>
    (if x26 ≤ p1 then
      j19 (1 : Int32)
    else
      (if p2 < 0 then
        j19 (1 : Int32)
      else
        (if p2 ≤ (7 : Int32) then
          j19 (0 : Int32)
        else
          j19 (1 : Int32))))))))
set_option maxRecDepth 100000 in
set_option maxHeartbeats 4000000 in
theorem k_MD_read (l : Launch) (E : EV) (ad n : Nat → Nat) (L : List Nat) (hL : ∀ a ∈ ([20, 28] : List Nat), a ∈ L) (F : Nat) (σ σo : HS) (p1 : Int32) (p2 : Int32) (r : Int64) (hD : D_MD_read F n σ p1 p2 = some (σo, r)) : CtL l E y_MD_read c_MD_read 6 (some FieldType.long) ({ frames := 1, cells := 0, slots := 0, locals := 22 }) [.ref (ad 20), .int p1, .int p2] (wl E ad n L σ) r (wl E ad n L σo) := by
  refine fun sz => ent (by decide) (Nat.le_of_ble_eq_true rfl) ?_
  intro p e s m below meth c hsz cx wo ls hl
  have hx := cx.1.1
  have hb := cx.1.2.1
  have hown := cx.1.2.2.2.1
  have hts := cx.1.2.2.2.2
  have hl : lv_has ls 6 [(0, .ref (ad 20)), (1, .int p1), (2, .int p2)] := hl
  have m20 : 20 ∈ L := hL 20 (by decide)
  have m28 : 28 ∈ L := hL 28 (by decide)
  rw [D_MD_read] at hD
  refine lv_aload_n hx hb d_MD_read_0 rfl (lv_at hl 0 rfl) ?_
  refine lv_iload_n hx hb d_MD_read_1 rfl (lv_at hl 1 rfl) ?_
  obtain ⟨j1, hj1, hD⟩ := jn_s hD
  try dsimp only at hD
  have j1_ok : ∀ (σ2 : HS) (x3 : Int32) (H : Heap) (locs : List Loc) (ls : Array Slot), j1 σ2 x3 = some (σo, r) → Wo E (va_A (wl E ad n L σ) sz) s.heap (wl E ad n L σ2) H locs → lv_has ls 6 [(0, .ref (ad 20)), (1, .int p1), (2, .int p2)] → W p l e ({ frames := 1, cells := 0, slots := 0, locals := 22 }) s m ([.ref (ad 20), .int p1, .int p2] : List Value).toArray below meth c H locs 0 0 (MQ below (va_Ql (fun (x : Int64) (_ : Unit) => x = r) (fun _ t => va_P E.1 cls6 (wl E ad n L σo) t.heap ∧ va_D (va_A (wl E ad n L σ) sz) (wl E ad n L σo)) (va_A (wl E ad n L σ) sz)) ([.ref (ad 20), .int p1, .int p2] : List Value).toArray s 0 0 (va_A (wl E ad n L σ) sz)) (F0 m 48 ls [.int x3, .ref (ad 20)]) := by
    intro σ2 x3 H locs ls hD wo hl
    rw [hj1] at hD
    try dsimp only at hD
    refine lv_iconst (v := 2) hx hb d_MD_read_48 (by decide) ?_
    obtain ⟨⟨σ5, x4⟩, hcx4, hD⟩ := bd_s hD
    try dsimp only [nm2] at hD
    refine call_Vi cx wo (k_MD_fails l E ad n L (fun a h => hL a ((by decide : ∀ a ∈ ([20] : List Nat), a ∈ ([20, 28] : List Nat)) a h)) F σ2 σ5 x3 (2 : Int32) x4 hcx4) m20 (cel_20 E ad n σ2) rfl rfl mw_MD_fails wm_MD_100 ⟨by decide, by decide⟩ ⟨by decide, by decide⟩ hl.1 rfl (Nat.le_of_ble_eq_true rfl) d_MD_read_49 (fun H locs wo => ?_)
    refine lv_if_eq (tgt := 57) hx hb d_MD_read_52 (by decide) (fun c6 => ?_) (fun c6 => ?_)
    · have hD := ite_p hD c6
      refine lv_lconst (v := 0) hx hb d_MD_read_57 (by decide) ?_
      refine lv_lstore_n (lv' := [(3, .long (0 : Int64)), (0, .ref (ad 20)), (1, .int p1), (2, .int p2)]) hx hb d_MD_read_58 rfl hl (by decide) rfl (fun ls hl => ?_)
      refine lv_bipush (v := 7) hx hb d_MD_read_59 (by decide) ?_
      refine lv_istore (lv' := [(5, .int (7 : Int32)), (3, .long (0 : Int64)), (0, .ref (ad 20)), (1, .int p1), (2, .int p2)]) hx hb d_MD_read_61 hl (by decide) rfl (fun ls hl => ?_)
      have lp16 : ∀ (k8 : Nat) (x9 : Int32) (x10 : Int64) (H : Heap) (locs : List Loc) (ls : Array Slot) (res7 : Int64), D_MD_read_L63 F n σ5 p1 p2 k8 x9 x10 = some res7 → (∀ (x15 : Int64) (H : Heap) (locs : List Loc) (ls : Array Slot), res7 = x15 → Wo E (va_A (wl E ad n L σ) sz) s.heap (wl E ad n L σ5) H locs → lv_has ls 6 [(3, .long x15)] → W p l e ({ frames := 1, cells := 0, slots := 0, locals := 22 }) s m ([.ref (ad 20), .int p1, .int p2] : List Value).toArray below meth c H locs 0 0 (MQ below (va_Ql (fun (x : Int64) (_ : Unit) => x = r) (fun _ t => va_P E.1 cls6 (wl E ad n L σo) t.heap ∧ va_D (va_A (wl E ad n L σ) sz) (wl E ad n L σo)) (va_A (wl E ad n L σ) sz)) ([.ref (ad 20), .int p1, .int p2] : List Value).toArray s 0 0 (va_A (wl E ad n L σ) sz)) (F0 m 98 ls [])) → Wo E (va_A (wl E ad n L σ) sz) s.heap (wl E ad n L σ5) H locs → lv_has ls 6 [(5, .int x9), (3, .long x10), (0, .ref (ad 20)), (1, .int p1), (2, .int p2)] → W p l e ({ frames := 1, cells := 0, slots := 0, locals := 22 }) s m ([.ref (ad 20), .int p1, .int p2] : List Value).toArray below meth c H locs 0 0 (MQ below (va_Ql (fun (x : Int64) (_ : Unit) => x = r) (fun _ t => va_P E.1 cls6 (wl E ad n L σo) t.heap ∧ va_D (va_A (wl E ad n L σ) sz) (wl E ad n L σo)) (va_A (wl E ad n L σ) sz)) ([.ref (ad 20), .int p1, .int p2] : List Value).toArray s 0 0 (va_A (wl E ad n L σ) sz)) (F0 m 63 ls []) := by
        intro k8
        induction k8 with
        | zero =>
          intro x9 x10 H locs ls res7 hD
          rw [D_MD_read_L63.eq_1] at hD
          cases hD
        | succ k8 ih =>
          intro x9 x10 H locs ls res7 hD hex wo hl
          rw [D_MD_read_L63.eq_2] at hD
          refine lv_iload hx hb d_MD_read_63 (lv_at hl 0 rfl) ?_
          refine lv_if_lt (tgt := 98) hx hb d_MD_read_65 (by decide) (fun c11 => ?_) (fun c11 => ?_)
          · have hD := ite_p hD c11
            exact hex x10 _ _ _ (Option.some.inj hD).symm wo (lv_sub hl [1] rfl)
          · have hD := ite_n hD c11
            refine lv_lload_n hx hb d_MD_read_68 rfl (lv_at hl 1 rfl) ?_
            refine lv_bipush (v := 8) hx hb d_MD_read_69 (by decide) ?_
            refine lv_lshl hx hb d_MD_read_71 rfl ?_
            refine lv_aload_n hx hb d_MD_read_72 rfl (lv_at hl 2 rfl) ?_
            refine g_get cx wo m20 (cel_20 E ad n σ5) rfl in_MD 18 (by decide) wf_MD_43 rfl d_MD_read_73 ?_
            refine lv_bipush (v := 64) hx hb d_MD_read_76 (by decide) ?_
            refine lv_iload_n hx hb d_MD_read_78 rfl (lv_at hl 3 rfl) ?_
            refine lv_imul hx hb d_MD_read_79 ?_
            refine lv_bipush (v := 8) hx hb d_MD_read_80 (by decide) ?_
            refine lv_iload_n hx hb d_MD_read_82 rfl (lv_at hl 4 rfl) ?_
            refine lv_imul hx hb d_MD_read_83 ?_
            refine lv_iadd hx hb d_MD_read_84 ?_
            refine lv_iload hx hb d_MD_read_85 (lv_at hl 0 rfl) ?_
            refine lv_iadd hx hb d_MD_read_87 ?_
            obtain ⟨g12, hD⟩ := grd_s hD
            refine g_iald cx wo m28 (cel_28 E ad n σ5) g12 d_MD_read_88 ?_
            refine lv_i2l hx hb d_MD_read_89 rfl ?_
            refine lv_lor hx hb d_MD_read_90 ?_
            refine lv_topl (fun x13 ex13 => ?_)
            have hD := nm_at hD ex13
            try dsimp only at hD
            refine lv_lstore_n (lv' := [(3, .long x13), (5, .int x9), (0, .ref (ad 20)), (1, .int p1), (2, .int p2)]) hx hb d_MD_read_91 rfl hl (by decide) rfl (fun ls hl => ?_)
            obtain ⟨x14, ex14⟩ : ∃ y : Int32, y = x9 + (-1 : Int32) := ⟨_, rfl⟩
            have hD := nm_at hD ex14
            try dsimp only at hD
            refine lv_iinc (v := x14) (lv' := [(5, .int x14), (3, .long x13), (0, .ref (ad 20)), (1, .int p1), (2, .int p2)]) hx hb d_MD_read_92 hl (k := 1) rfl (by rw [ex14]; rfl) (by decide) rfl (fun ls hl => ?_)
            refine lv_goto (tgt := 63) hx hb d_MD_read_95 (by decide) ?_
            exact ih x14 x13 _ _ _ _ hD hex wo (lv_sub hl [0, 1, 2, 3, 4] rfl)
      obtain ⟨res17, hr18, hD⟩ := bd_s hD
      refine lp16 F (7 : Int32) (0 : Int64) _ _ _ _ hr18 (fun x15 H locs ls hz wo hl => ?_) wo (lv_sub hl [0, 1, 2, 3, 4] rfl)
      have hz := hz.symm
      subst hz
      try dsimp only at hD
      refine lv_lload_n hx hb d_MD_read_98 rfl (lv_at hl 0 rfl) ?_
      cases hD
      exact t_lreti cx wo rfl d_MD_read_99
    · have hD := ite_n hD c6
      refine lv_lconst (v := 0) hx hb d_MD_read_55 (by decide) ?_
      cases hD
      exact t_lreti cx wo rfl d_MD_read_56
  obtain ⟨j19, hj19, hD⟩ := jn_s hD
  try dsimp only at hD
  have j19_ok : ∀ (x20 : Int32) (H : Heap) (locs : List Loc) (ls : Array Slot), j19 x20 = some (σo, r) → Wo E (va_A (wl E ad n L σ) sz) s.heap (wl E ad n L σ) H locs → lv_has ls 6 [(0, .ref (ad 20)), (1, .int p1), (2, .int p2)] → W p l e ({ frames := 1, cells := 0, slots := 0, locals := 22 }) s m ([.ref (ad 20), .int p1, .int p2] : List Value).toArray below meth c H locs 0 0 (MQ below (va_Ql (fun (x : Int64) (_ : Unit) => x = r) (fun _ t => va_P E.1 cls6 (wl E ad n L σo) t.heap ∧ va_D (va_A (wl E ad n L σ) sz) (wl E ad n L σo)) (va_A (wl E ad n L σ) sz)) ([.ref (ad 20), .int p1, .int p2] : List Value).toArray s 0 0 (va_A (wl E ad n L σ) sz)) (F0 m 28 ls [.int x20, .ref (ad 20)]) := by
    intro x20 H locs ls hD wo hl
    rw [hj19] at hD
    try dsimp only at hD
    refine lv_iconst (v := 1) hx hb d_MD_read_28 (by decide) ?_
    obtain ⟨⟨σ22, x21⟩, hcx21, hD⟩ := bd_s hD
    try dsimp only [nm2] at hD
    refine call_Vi cx wo (k_MD_fails l E ad n L (fun a h => hL a ((by decide : ∀ a ∈ ([20] : List Nat), a ∈ ([20, 28] : List Nat)) a h)) F σ σ22 x20 (1 : Int32) x21 hcx21) m20 (cel_20 E ad n σ) rfl rfl mw_MD_fails wm_MD_100 ⟨by decide, by decide⟩ ⟨by decide, by decide⟩ hl.1 rfl (Nat.le_of_ble_eq_true rfl) d_MD_read_29 (fun H locs wo => ?_)
    refine lv_if_ne (tgt := 55) hx hb d_MD_read_32 (by decide) (fun c23 => ?_) (fun c23 => ?_)
    · have hD := ite_n hD c23
      refine lv_lconst (v := 0) hx hb d_MD_read_55 (by decide) ?_
      cases hD
      exact t_lreti cx wo rfl d_MD_read_56
    · have hD := ite_p hD c23
      refine lv_aload_n hx hb d_MD_read_35 rfl (lv_at hl 0 rfl) ?_
      refine lv_aload_n hx hb d_MD_read_36 rfl (lv_at hl 0 rfl) ?_
      refine g_get cx wo m20 (cel_20 E ad n σ22) rfl in_MD 12 (by decide) wf_MD_31 rfl d_MD_read_37 ?_
      refine lv_if_ne (tgt := 47) hx hb d_MD_read_40 (by decide) (fun c24 => ?_) (fun c24 => ?_)
      · have hD := ite_n hD c24
        refine lv_iconst (v := 0) hx hb d_MD_read_47 (by decide) ?_
        exact j1_ok σ22 (0 : Int32) _ _ _ hD wo (lv_sub hl [0, 1, 2] rfl)
      · have hD := ite_p hD c24
        refine lv_iconst (v := 1) hx hb d_MD_read_43 (by decide) ?_
        refine lv_goto (tgt := 48) hx hb d_MD_read_44 (by decide) ?_
        exact j1_ok σ22 (1 : Int32) _ _ _ hD wo (lv_sub hl [0, 1, 2] rfl)
  refine lv_if_lt (tgt := 23) hx hb d_MD_read_2 (by decide) (fun c25 => ?_) (fun c25 => ?_)
  · have hD := ite_p hD c25
    refine lv_iconst (v := 1) hx hb d_MD_read_23 (by decide) ?_
    refine lv_goto (tgt := 28) hx hb d_MD_read_24 (by decide) ?_
    exact j19_ok (1 : Int32) _ _ _ hD wo (lv_sub hl [0, 1, 2] rfl)
  · have hD := ite_n hD c25
    refine lv_iload_n hx hb d_MD_read_5 rfl (lv_at hl 1 rfl) ?_
    refine lv_aload_n hx hb d_MD_read_6 rfl (lv_at hl 0 rfl) ?_
    obtain ⟨x26, hcx26, hD⟩ := bd_s hD
    try dsimp only [nm2] at hD
    refine call_Vi cx wo (k_MD_blocks l E ad n L (fun a h => hL a ((by decide : ∀ a ∈ ([20] : List Nat), a ∈ ([20, 28] : List Nat)) a h)) F σ   x26 hcx26) m20 (cel_20 E ad n σ) rfl rfl mw_MD_blocks wm_MD_109 ⟨by decide, by decide⟩ ⟨by decide, by decide⟩ hl.1 rfl (Nat.le_of_ble_eq_true rfl) d_MD_read_7 (fun H locs wo => ?_)
    refine lv_icmp_ge (tgt := 23) hx hb d_MD_read_10 (by decide) (fun c27 => ?_) (fun c27 => ?_)
    · have hD := ite_p hD c27
      refine lv_iconst (v := 1) hx hb d_MD_read_23 (by decide) ?_
      refine lv_goto (tgt := 28) hx hb d_MD_read_24 (by decide) ?_
      exact j19_ok (1 : Int32) _ _ _ hD wo (lv_sub hl [0, 1, 2] rfl)
    · have hD := ite_n hD c27
      refine lv_iload_n hx hb d_MD_read_13 rfl (lv_at hl 2 rfl) ?_
      refine lv_if_lt (tgt := 23) hx hb d_MD_read_14 (by decide) (fun c28 => ?_) (fun c28 => ?_)
      · have hD := ite_p hD c28
        refine lv_iconst (v := 1) hx hb d_MD_read_23 (by decide) ?_
        refine lv_goto (tgt := 28) hx hb d_MD_read_24 (by decide) ?_
        exact j19_ok (1 : Int32) _ _ _ hD wo (lv_sub hl [0, 1, 2] rfl)
      · have hD := ite_n hD c28
        refine lv_iload_n hx hb d_MD_read_17 rfl (lv_at hl 2 rfl) ?_
        refine lv_bipush (v := 7) hx hb d_MD_read_18 (by decide) ?_
        refine lv_icmp_le (tgt := 27) hx hb d_MD_read_20 (by decide) (fun c29 => ?_) (fun c29 => ?_)
        · have hD := ite_p hD c29
          refine lv_iconst (v := 0) hx hb d_MD_read_27 (by decide) ?_
          exact j19_ok (0 : Int32) _ _ _ hD wo (lv_sub hl [0, 1, 2] rfl)
        · have hD := ite_n hD c29
          refine lv_iconst (v := 1) hx hb d_MD_read_23 (by decide) ?_
          refine lv_goto (tgt := 28) hx hb d_MD_read_24 (by decide) ?_
          exact j19_ok (1 : Int32) _ _ _ hD wo (lv_sub hl [0, 1, 2] rfl)
def D_MD_lose (F : Nat) (n : Nat → Nat) (σ : HS) (p1 : Int32) : Option (HS) :=
jn (fun (x2 : Int32) =>
    (D_MD_fails F n σ x2 (1 : Int32)).bind (fun (qx3 : HS × Int32) => nm2 qx3 (fun (σ4 : HS) (x3 : Int32) =>
    (if x3 = 0 then
      nm (stF σ4 20 13 (p1 - (1 : Int32))) (fun σ6 =>
      some σ6)
    else
      some σ4))))
  (fun j1 =>
  (if 0 ≤ p1 then
    j1 (0 : Int32)
  else
    j1 (1 : Int32)))
set_option maxRecDepth 100000 in
set_option maxHeartbeats 4000000 in
theorem k_MD_lose (l : Launch) (E : EV) (ad n : Nat → Nat) (L : List Nat) (hL : ∀ a ∈ ([20] : List Nat), a ∈ L) (F : Nat) (σ σo : HS) (p1 : Int32)  (hD : D_MD_lose F n σ p1 = some σo) : CtV l E y_MD_lose c_MD_lose 2 none ({ frames := 1, cells := 0, slots := 0, locals := 22 }) [.ref (ad 20), .int p1] (wl E ad n L σ) (wl E ad n L σo) := by
  refine fun sz => ent (by decide) (Nat.le_of_ble_eq_true rfl) ?_
  intro p e s m below meth c hsz cx wo ls hl
  have hx := cx.1.1
  have hb := cx.1.2.1
  have hown := cx.1.2.2.2.1
  have hts := cx.1.2.2.2.2
  have hl : lv_has ls 2 [(0, .ref (ad 20)), (1, .int p1)] := hl
  have m20 : 20 ∈ L := hL 20 (by decide)
  rw [D_MD_lose] at hD
  refine lv_aload_n hx hb d_MD_lose_0 rfl (lv_at hl 0 rfl) ?_
  refine lv_iload_n hx hb d_MD_lose_1 rfl (lv_at hl 1 rfl) ?_
  obtain ⟨j1, hj1, hD⟩ := jn_s hD
  try dsimp only at hD
  have j1_ok : ∀ (x2 : Int32) (H : Heap) (locs : List Loc) (ls : Array Slot), j1 x2 = some σo → Wo E (va_A (wl E ad n L σ) sz) s.heap (wl E ad n L σ) H locs → lv_has ls 2 [(0, .ref (ad 20)), (1, .int p1)] → W p l e ({ frames := 1, cells := 0, slots := 0, locals := 22 }) s m ([.ref (ad 20), .int p1] : List Value).toArray below meth c H locs 0 0 (MQ below (va_Qv (fun (_ : Unit) => True) (fun _ t => va_P E.1 cls6 (wl E ad n L σo) t.heap ∧ va_D (va_A (wl E ad n L σ) sz) (wl E ad n L σo)) (va_A (wl E ad n L σ) sz)) ([.ref (ad 20), .int p1] : List Value).toArray s 0 0 (va_A (wl E ad n L σ) sz)) (F0 m 10 ls [.int x2, .ref (ad 20)]) := by
    intro x2 H locs ls hD wo hl
    rw [hj1] at hD
    try dsimp only at hD
    refine lv_iconst (v := 1) hx hb d_MD_lose_10 (by decide) ?_
    obtain ⟨⟨σ4, x3⟩, hcx3, hD⟩ := bd_s hD
    try dsimp only [nm2] at hD
    refine call_Vi cx wo (k_MD_fails l E ad n L (fun a h => hL a ((by decide : ∀ a ∈ ([20] : List Nat), a ∈ ([20] : List Nat)) a h)) F σ σ4 x2 (1 : Int32) x3 hcx3) m20 (cel_20 E ad n σ) rfl rfl mw_MD_fails wm_MD_100 ⟨by decide, by decide⟩ ⟨by decide, by decide⟩ hl.1 rfl (Nat.le_of_ble_eq_true rfl) d_MD_lose_11 (fun H locs wo => ?_)
    refine lv_if_eq (tgt := 18) hx hb d_MD_lose_14 (by decide) (fun c5 => ?_) (fun c5 => ?_)
    · have hD := ite_p hD c5
      refine lv_aload_n hx hb d_MD_lose_18 rfl (lv_at hl 0 rfl) ?_
      refine lv_iload_n hx hb d_MD_lose_19 rfl (lv_at hl 1 rfl) ?_
      refine lv_iconst (v := 1) hx hb d_MD_lose_20 (by decide) ?_
      refine lv_isub hx hb d_MD_lose_21 ?_
      refine g_put cx wo m20 (cel_20 E ad n σ4) rfl in_MD t_MD tok_MD n_MD 13 (by decide) wf_MD_35 rfl rfl rfl (Nat.le_of_ble_eq_true rfl) rfl d_MD_lose_22 (fun H locs wo => ?_)
      obtain ⟨σ6, eσ6⟩ : ∃ z, z = stF σ4 20 13 (p1 - (1 : Int32)) := ⟨_, rfl⟩
      rw [← eσ6] at wo
      have hD := nm_at hD eσ6
      try dsimp only at hD
      cases hD
      exact t_vret cx wo d_MD_lose_25
    · have hD := ite_n hD c5
      cases hD
      exact t_vret cx wo d_MD_lose_17
  refine lv_if_ge (tgt := 9) hx hb d_MD_lose_2 (by decide) (fun c7 => ?_) (fun c7 => ?_)
  · have hD := ite_p hD c7
    refine lv_iconst (v := 0) hx hb d_MD_lose_9 (by decide) ?_
    exact j1_ok (0 : Int32) _ _ _ hD wo (lv_sub hl [0, 1] rfl)
  · have hD := ite_n hD c7
    refine lv_iconst (v := 1) hx hb d_MD_lose_5 (by decide) ?_
    refine lv_goto (tgt := 10) hx hb d_MD_lose_6 (by decide) ?_
    exact j1_ok (1 : Int32) _ _ _ hD wo (lv_sub hl [0, 1] rfl)
def D_MD_off (F : Nat) (n : Nat → Nat) (σ : HS)  : Option (HS) :=
jn (fun (x2 : Int32) =>
    (D_MD_fails F n σ x2 (1 : Int32)).bind (fun (qx3 : HS × Int32) => nm2 qx3 (fun (σ4 : HS) (x3 : Int32) =>
    (if x3 = 0 then
      nm (stF σ4 20 12 (0 : Int32)) (fun σ6 =>
      nm (stF σ6 20 13 (-1 : Int32)) (fun σ7 =>
      some σ7))
    else
      some σ4))))
  (fun j1 =>
  (if (σ.1 20 12) = 0 then
    j1 (1 : Int32)
  else
    j1 (0 : Int32)))
set_option maxRecDepth 100000 in
set_option maxHeartbeats 4000000 in
theorem k_MD_off (l : Launch) (E : EV) (ad n : Nat → Nat) (L : List Nat) (hL : ∀ a ∈ ([20] : List Nat), a ∈ L) (F : Nat) (σ σo : HS)   (hD : D_MD_off F n σ  = some σo) : CtV l E y_MD_off c_MD_off 1 none ({ frames := 1, cells := 0, slots := 0, locals := 22 }) [.ref (ad 20)] (wl E ad n L σ) (wl E ad n L σo) := by
  refine fun sz => ent (by decide) (Nat.le_of_ble_eq_true rfl) ?_
  intro p e s m below meth c hsz cx wo ls hl
  have hx := cx.1.1
  have hb := cx.1.2.1
  have hown := cx.1.2.2.2.1
  have hts := cx.1.2.2.2.2
  have hl : lv_has ls 1 [(0, .ref (ad 20))] := hl
  have m20 : 20 ∈ L := hL 20 (by decide)
  rw [D_MD_off] at hD
  refine lv_aload_n hx hb d_MD_off_0 rfl (lv_at hl 0 rfl) ?_
  refine lv_aload_n hx hb d_MD_off_1 rfl (lv_at hl 0 rfl) ?_
  refine g_get cx wo m20 (cel_20 E ad n σ) rfl in_MD 12 (by decide) wf_MD_31 rfl d_MD_off_2 ?_
  obtain ⟨j1, hj1, hD⟩ := jn_s hD
  try dsimp only at hD
  have j1_ok : ∀ (x2 : Int32) (H : Heap) (locs : List Loc) (ls : Array Slot), j1 x2 = some σo → Wo E (va_A (wl E ad n L σ) sz) s.heap (wl E ad n L σ) H locs → lv_has ls 1 [(0, .ref (ad 20))] → W p l e ({ frames := 1, cells := 0, slots := 0, locals := 22 }) s m ([.ref (ad 20)] : List Value).toArray below meth c H locs 0 0 (MQ below (va_Qv (fun (_ : Unit) => True) (fun _ t => va_P E.1 cls6 (wl E ad n L σo) t.heap ∧ va_D (va_A (wl E ad n L σ) sz) (wl E ad n L σo)) (va_A (wl E ad n L σ) sz)) ([.ref (ad 20)] : List Value).toArray s 0 0 (va_A (wl E ad n L σ) sz)) (F0 m 13 ls [.int x2, .ref (ad 20)]) := by
    intro x2 H locs ls hD wo hl
    rw [hj1] at hD
    try dsimp only at hD
    refine lv_iconst (v := 1) hx hb d_MD_off_13 (by decide) ?_
    obtain ⟨⟨σ4, x3⟩, hcx3, hD⟩ := bd_s hD
    try dsimp only [nm2] at hD
    refine call_Vi cx wo (k_MD_fails l E ad n L (fun a h => hL a ((by decide : ∀ a ∈ ([20] : List Nat), a ∈ ([20] : List Nat)) a h)) F σ σ4 x2 (1 : Int32) x3 hcx3) m20 (cel_20 E ad n σ) rfl rfl mw_MD_fails wm_MD_100 ⟨by decide, by decide⟩ ⟨by decide, by decide⟩ hl.1 rfl (Nat.le_of_ble_eq_true rfl) d_MD_off_14 (fun H locs wo => ?_)
    refine lv_if_eq (tgt := 21) hx hb d_MD_off_17 (by decide) (fun c5 => ?_) (fun c5 => ?_)
    · have hD := ite_p hD c5
      refine lv_aload_n hx hb d_MD_off_21 rfl (lv_at hl 0 rfl) ?_
      refine lv_iconst (v := 0) hx hb d_MD_off_22 (by decide) ?_
      refine g_put cx wo m20 (cel_20 E ad n σ4) rfl in_MD t_MD tok_MD n_MD 12 (by decide) wf_MD_31 rfl rfl rfl (Nat.le_of_ble_eq_true rfl) rfl d_MD_off_23 (fun H locs wo => ?_)
      obtain ⟨σ6, eσ6⟩ : ∃ z, z = stF σ4 20 12 (0 : Int32) := ⟨_, rfl⟩
      rw [← eσ6] at wo
      have hD := nm_at hD eσ6
      try dsimp only at hD
      refine lv_aload_n hx hb d_MD_off_26 rfl (lv_at hl 0 rfl) ?_
      refine lv_iconst (v := -1) hx hb d_MD_off_27 (by decide) ?_
      refine g_put cx wo m20 (cel_20 E ad n σ6) rfl in_MD t_MD tok_MD n_MD 13 (by decide) wf_MD_35 rfl rfl rfl (Nat.le_of_ble_eq_true rfl) rfl d_MD_off_28 (fun H locs wo => ?_)
      obtain ⟨σ7, eσ7⟩ : ∃ z, z = stF σ6 20 13 (-1 : Int32) := ⟨_, rfl⟩
      rw [← eσ7] at wo
      have hD := nm_at hD eσ7
      try dsimp only at hD
      cases hD
      exact t_vret cx wo d_MD_off_31
    · have hD := ite_n hD c5
      cases hD
      exact t_vret cx wo d_MD_off_20
  refine lv_if_ne (tgt := 12) hx hb d_MD_off_5 (by decide) (fun c8 => ?_) (fun c8 => ?_)
  · have hD := ite_n hD c8
    refine lv_iconst (v := 0) hx hb d_MD_off_12 (by decide) ?_
    exact j1_ok (0 : Int32) _ _ _ hD wo (lv_sub hl [0] rfl)
  · have hD := ite_p hD c8
    refine lv_iconst (v := 1) hx hb d_MD_off_8 (by decide) ?_
    refine lv_goto (tgt := 13) hx hb d_MD_off_9 (by decide) ?_
    exact j1_ok (1 : Int32) _ _ _ hD wo (lv_sub hl [0] rfl)
def D_MD_unlogs (F : Nat) (n : Nat → Nat) (σ : HS) (p1 : Int32) : Option (HS × Int32) :=
(D_MD_at F n σ p1 (σ.1 20 3)).bind (fun (x1 : Int32) =>
  grd (inb x1 (n 24)) (
  nm ((σ.1 24 (x1).toNatClampNeg) - (1 : Int32)) (fun x3 =>
  nm (x3 / (8 : Int32)) (fun x4 =>
  grd (decide (¬ (σ.1 20 4) = 0)) (
  nm (x4 / (σ.1 20 4)) (fun x6 =>
  grd (decide (¬ (σ.1 20 4) = 0)) (
  nm (((σ.1 20 2) * (x4 - x4 / (σ.1 20 4) * (σ.1 20 4))) + (x3 - x3 / (8 : Int32) * (8 : Int32))) (fun x8 =>
  grd (decide (¬ (σ.1 20 4) = 0)) (
  nm ((((σ.1 20 2) * (x4 - x4 / (σ.1 20 4) * (σ.1 20 4))) + (σ.1 20 2)) - (1 : Int32)) (fun x10 =>
  (D_MD_placeOf F n σ x6 x8).bind (fun (x11 : Int32) =>
  (D_MD_placeOf F n σ x6 x10).bind (fun (x12 : Int32) =>
  jn (fun (σ14 : HS) (x15 : Int32) =>
    (if x15 = 0 then
      (D_MD_puts F n σ14 p1 (σ14.1 20 3) (0 : Int32)).bind (fun (qx17 : HS × Int32) => nm2 qx17 (fun (σ18 : HS) (x17 : Int32) =>
      grd (isB x17) (
      some (σ18, x17))))
    else
      nm (stF σ14 20 20 (0 : Int32)) (fun σ20 =>
      (D_MD_puts F n σ20 p1 (σ20.1 20 3) (0 : Int32)).bind (fun (qx21 : HS × Int32) => nm2 qx21 (fun (σ22 : HS) (x21 : Int32) =>
      grd (isB x21) (
      some (σ22, x21)))))))
  (fun j13 =>
  jn (fun (x25 : Int32) =>
    (if x25 = 0 then
      j13 σ x25
    else
      (D_MD_puts F n σ p1 x6 (x10 + (1 : Int32))).bind (fun (qx27 : HS × Int32) => nm2 qx27 (fun (σ28 : HS) (x27 : Int32) =>
      (if x27 = 0 then
        some (σ28, (0 : Int32))
      else
        j13 σ28 x25)))))
  (fun j24 =>
  (if x12 = p1 then
    (if x11 < 0 then
      j24 (0 : Int32)
    else
      (D_MD_isValid F n σ x11 x6).bind (fun (x32 : Int32) =>
      (if x32 = 0 then
        j24 (0 : Int32)
      else
        j24 (1 : Int32))))
  else
    j24 (0 : Int32))))))))))))))))
set_option maxRecDepth 100000 in
set_option maxHeartbeats 4000000 in
theorem k_MD_unlogs (l : Launch) (E : EV) (ad n : Nat → Nat) (L : List Nat) (hL : ∀ a ∈ ([20, 21, 22, 23, 24, 25, 26] : List Nat), a ∈ L) (F : Nat) (σ σo : HS) (p1 : Int32) (r : Int32) (hD : D_MD_unlogs F n σ p1 = some (σo, r)) : CtI l E y_MD_unlogs c_MD_unlogs 9 (some FieldType.boolean) ({ frames := 4, cells := 0, slots := 0, locals := 92 }) [.ref (ad 20), .int p1] (wl E ad n L σ) r (wl E ad n L σo) := by
  refine fun sz => ent (by decide) (Nat.le_of_ble_eq_true rfl) ?_
  intro p e s m below meth c hsz cx wo ls hl
  have hx := cx.1.1
  have hb := cx.1.2.1
  have hown := cx.1.2.2.2.1
  have hts := cx.1.2.2.2.2
  have hl : lv_has ls 9 [(0, .ref (ad 20)), (1, .int p1)] := hl
  have m20 : 20 ∈ L := hL 20 (by decide)
  have m21 : 21 ∈ L := hL 21 (by decide)
  have m22 : 22 ∈ L := hL 22 (by decide)
  have m23 : 23 ∈ L := hL 23 (by decide)
  have m24 : 24 ∈ L := hL 24 (by decide)
  have m25 : 25 ∈ L := hL 25 (by decide)
  have m26 : 26 ∈ L := hL 26 (by decide)
  rw [D_MD_unlogs] at hD
  refine lv_aload_n hx hb d_MD_unlogs_0 rfl (lv_at hl 0 rfl) ?_
  refine g_get cx wo m20 (cel_20 E ad n σ) rfl in_MD 9 (by decide) wf_MD_20 rfl d_MD_unlogs_1 ?_
  refine lv_iload_n hx hb d_MD_unlogs_4 rfl (lv_at hl 1 rfl) ?_
  refine lv_aload_n hx hb d_MD_unlogs_5 rfl (lv_at hl 0 rfl) ?_
  refine g_get cx wo m20 (cel_20 E ad n σ) rfl in_MD 3 (by decide) wf_MD_58 rfl d_MD_unlogs_6 ?_
  obtain ⟨x1, hcx1, hD⟩ := bd_s hD
  try dsimp only [nm2] at hD
  refine call_Si cx wo (k_MD_at l E ad n L (fun a h => hL a ((by decide : ∀ a ∈ ([] : List Nat), a ∈ ([20, 21, 22, 23, 24, 25, 26] : List Nat)) a h)) F σ  p1 (σ.1 20 3) x1 hcx1) mw_MD_at wm_MD_67 ⟨by decide, by decide⟩ ⟨by decide, by decide⟩ hl.1 rfl (Nat.le_of_ble_eq_true rfl) d_MD_unlogs_9 (fun H locs wo => ?_)
  obtain ⟨g2, hD⟩ := grd_s hD
  refine g_iald cx wo m24 (cel_24 E ad n σ) g2 d_MD_unlogs_12 ?_
  refine lv_iconst (v := 1) hx hb d_MD_unlogs_13 (by decide) ?_
  refine lv_isub hx hb d_MD_unlogs_14 ?_
  refine lv_topi (fun x3 ex3 => ?_)
  have hD := nm_at hD ex3
  try dsimp only at hD
  refine lv_istore_n (lv' := [(2, .int x3), (0, .ref (ad 20)), (1, .int p1)]) hx hb d_MD_unlogs_15 rfl hl (by decide) rfl (fun ls hl => ?_)
  refine lv_iload_n hx hb d_MD_unlogs_16 rfl (lv_at hl 0 rfl) ?_
  refine lv_bipush (v := 8) hx hb d_MD_unlogs_17 (by decide) ?_
  refine lv_idiv hx hb d_MD_unlogs_19 (by decide) ?_
  refine lv_topi (fun x4 ex4 => ?_)
  have hD := nm_at hD ex4
  try dsimp only at hD
  refine lv_istore_n (lv' := [(3, .int x4), (2, .int x3), (0, .ref (ad 20)), (1, .int p1)]) hx hb d_MD_unlogs_20 rfl hl (by decide) rfl (fun ls hl => ?_)
  refine lv_iload_n hx hb d_MD_unlogs_21 rfl (lv_at hl 0 rfl) ?_
  refine lv_aload_n hx hb d_MD_unlogs_22 rfl (lv_at hl 2 rfl) ?_
  refine g_get cx wo m20 (cel_20 E ad n σ) rfl in_MD 4 (by decide) wf_MD_61 rfl d_MD_unlogs_23 ?_
  obtain ⟨g5, hD⟩ := grd_s hD
  refine lv_idiv hx hb d_MD_unlogs_26 (of_decide_eq_true g5) ?_
  refine lv_topi (fun x6 ex6 => ?_)
  have hD := nm_at hD ex6
  try dsimp only at hD
  refine lv_istore (lv' := [(4, .int x6), (3, .int x4), (2, .int x3), (0, .ref (ad 20)), (1, .int p1)]) hx hb d_MD_unlogs_27 hl (by decide) rfl (fun ls hl => ?_)
  refine lv_aload_n hx hb d_MD_unlogs_29 rfl (lv_at hl 3 rfl) ?_
  refine g_get cx wo m20 (cel_20 E ad n σ) rfl in_MD 2 (by decide) wf_MD_55 rfl d_MD_unlogs_30 ?_
  refine lv_iload_n hx hb d_MD_unlogs_33 rfl (lv_at hl 1 rfl) ?_
  refine lv_aload_n hx hb d_MD_unlogs_34 rfl (lv_at hl 3 rfl) ?_
  refine g_get cx wo m20 (cel_20 E ad n σ) rfl in_MD 4 (by decide) wf_MD_61 rfl d_MD_unlogs_35 ?_
  obtain ⟨g7, hD⟩ := grd_s hD
  refine lv_irem hx hb d_MD_unlogs_38 (of_decide_eq_true g7) ?_
  refine lv_imul hx hb d_MD_unlogs_39 ?_
  refine lv_iload_n hx hb d_MD_unlogs_40 rfl (lv_at hl 2 rfl) ?_
  refine lv_bipush (v := 8) hx hb d_MD_unlogs_41 (by decide) ?_
  refine lv_irem hx hb d_MD_unlogs_43 (by decide) ?_
  refine lv_iadd hx hb d_MD_unlogs_44 ?_
  refine lv_topi (fun x8 ex8 => ?_)
  have hD := nm_at hD ex8
  try dsimp only at hD
  refine lv_istore (lv' := [(5, .int x8), (4, .int x6), (3, .int x4), (2, .int x3), (0, .ref (ad 20)), (1, .int p1)]) hx hb d_MD_unlogs_45 hl (by decide) rfl (fun ls hl => ?_)
  refine lv_aload_n hx hb d_MD_unlogs_47 rfl (lv_at hl 4 rfl) ?_
  refine g_get cx wo m20 (cel_20 E ad n σ) rfl in_MD 2 (by decide) wf_MD_55 rfl d_MD_unlogs_48 ?_
  refine lv_iload_n hx hb d_MD_unlogs_51 rfl (lv_at hl 2 rfl) ?_
  refine lv_aload_n hx hb d_MD_unlogs_52 rfl (lv_at hl 4 rfl) ?_
  refine g_get cx wo m20 (cel_20 E ad n σ) rfl in_MD 4 (by decide) wf_MD_61 rfl d_MD_unlogs_53 ?_
  obtain ⟨g9, hD⟩ := grd_s hD
  refine lv_irem hx hb d_MD_unlogs_56 (of_decide_eq_true g9) ?_
  refine lv_imul hx hb d_MD_unlogs_57 ?_
  refine lv_aload_n hx hb d_MD_unlogs_58 rfl (lv_at hl 4 rfl) ?_
  refine g_get cx wo m20 (cel_20 E ad n σ) rfl in_MD 2 (by decide) wf_MD_55 rfl d_MD_unlogs_59 ?_
  refine lv_iadd hx hb d_MD_unlogs_62 ?_
  refine lv_iconst (v := 1) hx hb d_MD_unlogs_63 (by decide) ?_
  refine lv_isub hx hb d_MD_unlogs_64 ?_
  refine lv_topi (fun x10 ex10 => ?_)
  have hD := nm_at hD ex10
  try dsimp only at hD
  refine lv_istore (lv' := [(6, .int x10), (5, .int x8), (4, .int x6), (3, .int x4), (2, .int x3), (0, .ref (ad 20)), (1, .int p1)]) hx hb d_MD_unlogs_65 hl (by decide) rfl (fun ls hl => ?_)
  refine lv_aload_n hx hb d_MD_unlogs_67 rfl (lv_at hl 5 rfl) ?_
  refine lv_iload hx hb d_MD_unlogs_68 (lv_at hl 2 rfl) ?_
  refine lv_iload hx hb d_MD_unlogs_70 (lv_at hl 1 rfl) ?_
  obtain ⟨x11, hcx11, hD⟩ := bd_s hD
  try dsimp only [nm2] at hD
  refine call_Vi cx wo (k_MD_placeOf l E ad n L (fun a h => hL a ((by decide : ∀ a ∈ ([20, 21, 22, 23, 24, 25, 26] : List Nat), a ∈ ([20, 21, 22, 23, 24, 25, 26] : List Nat)) a h)) F σ  x6 x8 x11 hcx11) m20 (cel_20 E ad n σ) rfl rfl mw_MD_placeOf wm_MD_84 ⟨by decide, by decide⟩ ⟨by decide, by decide⟩ hl.1 rfl (Nat.le_of_ble_eq_true rfl) d_MD_unlogs_72 (fun H locs wo => ?_)
  refine lv_istore (lv' := [(7, .int x11), (6, .int x10), (5, .int x8), (4, .int x6), (3, .int x4), (2, .int x3), (0, .ref (ad 20)), (1, .int p1)]) hx hb d_MD_unlogs_75 hl (by decide) rfl (fun ls hl => ?_)
  refine lv_aload_n hx hb d_MD_unlogs_77 rfl (lv_at hl 6 rfl) ?_
  refine lv_iload hx hb d_MD_unlogs_78 (lv_at hl 3 rfl) ?_
  refine lv_iload hx hb d_MD_unlogs_80 (lv_at hl 1 rfl) ?_
  obtain ⟨x12, hcx12, hD⟩ := bd_s hD
  try dsimp only [nm2] at hD
  refine call_Vi cx wo (k_MD_placeOf l E ad n L (fun a h => hL a ((by decide : ∀ a ∈ ([20, 21, 22, 23, 24, 25, 26] : List Nat), a ∈ ([20, 21, 22, 23, 24, 25, 26] : List Nat)) a h)) F σ  x6 x10 x12 hcx12) m20 (cel_20 E ad n σ) rfl rfl mw_MD_placeOf wm_MD_84 ⟨by decide, by decide⟩ ⟨by decide, by decide⟩ hl.1 rfl (Nat.le_of_ble_eq_true rfl) d_MD_unlogs_82 (fun H locs wo => ?_)
  refine lv_iload_n hx hb d_MD_unlogs_85 rfl (lv_at hl 7 rfl) ?_
  obtain ⟨j13, hj13, hD⟩ := jn_s hD
  try dsimp only at hD
  have j13_ok : ∀ (σ14 : HS) (x15 : Int32) (H : Heap) (locs : List Loc) (ls : Array Slot), j13 σ14 x15 = some (σo, r) → Wo E (va_A (wl E ad n L σ) sz) s.heap (wl E ad n L σ14) H locs → lv_has ls 9 [(8, .int x15), (0, .ref (ad 20)), (1, .int p1)] → W p l e ({ frames := 4, cells := 0, slots := 0, locals := 92 }) s m ([.ref (ad 20), .int p1] : List Value).toArray below meth c H locs 0 0 (MQ below (va_Qi (fun (x : Int32) (_ : Unit) => x = r) (fun _ t => va_P E.1 cls6 (wl E ad n L σo) t.heap ∧ va_D (va_A (wl E ad n L σ) sz) (wl E ad n L σo)) (va_A (wl E ad n L σ) sz)) ([.ref (ad 20), .int p1] : List Value).toArray s 0 0 (va_A (wl E ad n L σ) sz)) (F0 m 133 ls []) := by
    intro σ14 x15 H locs ls hD wo hl
    rw [hj13] at hD
    try dsimp only at hD
    refine lv_iload hx hb d_MD_unlogs_133 (lv_at hl 0 rfl) ?_
    refine lv_if_eq (tgt := 143) hx hb d_MD_unlogs_135 (by decide) (fun c16 => ?_) (fun c16 => ?_)
    · have hD := ite_p hD c16
      refine lv_aload_n hx hb d_MD_unlogs_143 rfl (lv_at hl 1 rfl) ?_
      refine lv_iload_n hx hb d_MD_unlogs_144 rfl (lv_at hl 2 rfl) ?_
      refine lv_aload_n hx hb d_MD_unlogs_145 rfl (lv_at hl 1 rfl) ?_
      refine g_get cx wo m20 (cel_20 E ad n σ14) rfl in_MD 3 (by decide) wf_MD_58 rfl d_MD_unlogs_146 ?_
      refine lv_iconst (v := 0) hx hb d_MD_unlogs_149 (by decide) ?_
      obtain ⟨⟨σ18, x17⟩, hcx17, hD⟩ := bd_s hD
      try dsimp only [nm2] at hD
      refine call_Vi cx wo (k_MD_puts l E ad n L (fun a h => hL a ((by decide : ∀ a ∈ ([20, 23, 24, 25] : List Nat), a ∈ ([20, 21, 22, 23, 24, 25, 26] : List Nat)) a h)) F σ14 σ18 p1 (σ14.1 20 3) (0 : Int32) x17 hcx17) m20 (cel_20 E ad n σ14) rfl rfl mw_MD_puts wm_MD_116 ⟨by decide, by decide⟩ ⟨by decide, by decide⟩ hl.1 rfl (Nat.le_of_ble_eq_true rfl) d_MD_unlogs_150 (fun H locs wo => ?_)
      obtain ⟨g19, hD⟩ := grd_s hD
      cases hD
      exact t_ireti cx wo (isB_n g19) rfl d_MD_unlogs_153
    · have hD := ite_n hD c16
      refine lv_aload_n hx hb d_MD_unlogs_138 rfl (lv_at hl 1 rfl) ?_
      refine lv_iconst (v := 0) hx hb d_MD_unlogs_139 (by decide) ?_
      refine g_put cx wo m20 (cel_20 E ad n σ14) rfl in_MD t_MD tok_MD n_MD 20 (by decide) wf_MD_124 rfl rfl rfl (Nat.le_of_ble_eq_true rfl) rfl d_MD_unlogs_140 (fun H locs wo => ?_)
      obtain ⟨σ20, eσ20⟩ : ∃ z, z = stF σ14 20 20 (0 : Int32) := ⟨_, rfl⟩
      rw [← eσ20] at wo
      have hD := nm_at hD eσ20
      try dsimp only at hD
      refine lv_aload_n hx hb d_MD_unlogs_143 rfl (lv_at hl 1 rfl) ?_
      refine lv_iload_n hx hb d_MD_unlogs_144 rfl (lv_at hl 2 rfl) ?_
      refine lv_aload_n hx hb d_MD_unlogs_145 rfl (lv_at hl 1 rfl) ?_
      refine g_get cx wo m20 (cel_20 E ad n σ20) rfl in_MD 3 (by decide) wf_MD_58 rfl d_MD_unlogs_146 ?_
      refine lv_iconst (v := 0) hx hb d_MD_unlogs_149 (by decide) ?_
      obtain ⟨⟨σ22, x21⟩, hcx21, hD⟩ := bd_s hD
      try dsimp only [nm2] at hD
      refine call_Vi cx wo (k_MD_puts l E ad n L (fun a h => hL a ((by decide : ∀ a ∈ ([20, 23, 24, 25] : List Nat), a ∈ ([20, 21, 22, 23, 24, 25, 26] : List Nat)) a h)) F σ20 σ22 p1 (σ20.1 20 3) (0 : Int32) x21 hcx21) m20 (cel_20 E ad n σ20) rfl rfl mw_MD_puts wm_MD_116 ⟨by decide, by decide⟩ ⟨by decide, by decide⟩ hl.1 rfl (Nat.le_of_ble_eq_true rfl) d_MD_unlogs_150 (fun H locs wo => ?_)
      obtain ⟨g23, hD⟩ := grd_s hD
      cases hD
      exact t_ireti cx wo (isB_n g23) rfl d_MD_unlogs_153
  obtain ⟨j24, hj24, hD⟩ := jn_s hD
  try dsimp only at hD
  have j24_ok : ∀ (x25 : Int32) (H : Heap) (locs : List Loc) (ls : Array Slot), j24 x25 = some (σo, r) → Wo E (va_A (wl E ad n L σ) sz) s.heap (wl E ad n L σ) H locs → lv_has ls 9 [(6, .int x10), (4, .int x6), (0, .ref (ad 20)), (1, .int p1)] → W p l e ({ frames := 4, cells := 0, slots := 0, locals := 92 }) s m ([.ref (ad 20), .int p1] : List Value).toArray below meth c H locs 0 0 (MQ below (va_Qi (fun (x : Int32) (_ : Unit) => x = r) (fun _ t => va_P E.1 cls6 (wl E ad n L σo) t.heap ∧ va_D (va_A (wl E ad n L σ) sz) (wl E ad n L σo)) (va_A (wl E ad n L σ) sz)) ([.ref (ad 20), .int p1] : List Value).toArray s 0 0 (va_A (wl E ad n L σ) sz)) (F0 m 110 ls [.int x25]) := by
    intro x25 H locs ls hD wo hl
    rw [hj24] at hD
    try dsimp only at hD
    refine lv_istore (lv' := [(8, .int x25), (6, .int x10), (4, .int x6), (0, .ref (ad 20)), (1, .int p1)]) hx hb d_MD_unlogs_110 hl (by decide) rfl (fun ls hl => ?_)
    refine lv_iload hx hb d_MD_unlogs_112 (lv_at hl 0 rfl) ?_
    refine lv_if_eq (tgt := 133) hx hb d_MD_unlogs_114 (by decide) (fun c26 => ?_) (fun c26 => ?_)
    · have hD := ite_p hD c26
      exact j13_ok σ x25 _ _ _ hD wo (lv_sub hl [0, 3, 4] rfl)
    · have hD := ite_n hD c26
      refine lv_aload_n hx hb d_MD_unlogs_117 rfl (lv_at hl 3 rfl) ?_
      refine lv_iload_n hx hb d_MD_unlogs_118 rfl (lv_at hl 4 rfl) ?_
      refine lv_iload hx hb d_MD_unlogs_119 (lv_at hl 2 rfl) ?_
      refine lv_iload hx hb d_MD_unlogs_121 (lv_at hl 1 rfl) ?_
      refine lv_iconst (v := 1) hx hb d_MD_unlogs_123 (by decide) ?_
      refine lv_iadd hx hb d_MD_unlogs_124 ?_
      obtain ⟨⟨σ28, x27⟩, hcx27, hD⟩ := bd_s hD
      try dsimp only [nm2] at hD
      refine call_Vi cx wo (k_MD_puts l E ad n L (fun a h => hL a ((by decide : ∀ a ∈ ([20, 23, 24, 25] : List Nat), a ∈ ([20, 21, 22, 23, 24, 25, 26] : List Nat)) a h)) F σ σ28 p1 x6 (x10 + (1 : Int32)) x27 hcx27) m20 (cel_20 E ad n σ) rfl rfl mw_MD_puts wm_MD_116 ⟨by decide, by decide⟩ ⟨by decide, by decide⟩ hl.1 rfl (Nat.le_of_ble_eq_true rfl) d_MD_unlogs_125 (fun H locs wo => ?_)
      refine lv_if_ne (tgt := 133) hx hb d_MD_unlogs_128 (by decide) (fun c29 => ?_) (fun c29 => ?_)
      · have hD := ite_n hD c29
        exact j13_ok σ28 x25 _ _ _ hD wo (lv_sub hl [0, 3, 4] rfl)
      · have hD := ite_p hD c29
        refine lv_iconst (v := 0) hx hb d_MD_unlogs_131 (by decide) ?_
        cases hD
        exact t_ireti cx wo rfl rfl d_MD_unlogs_132
  refine lv_icmp_ne (tgt := 109) hx hb d_MD_unlogs_86 (by decide) (fun c30 => ?_) (fun c30 => ?_)
  · have hD := ite_n hD c30
    refine lv_iconst (v := 0) hx hb d_MD_unlogs_109 (by decide) ?_
    exact j24_ok (0 : Int32) _ _ _ hD wo (lv_sub hl [1, 3, 6, 7] rfl)
  · have hD := ite_p hD c30
    refine lv_iload hx hb d_MD_unlogs_89 (lv_at hl 0 rfl) ?_
    refine lv_if_lt (tgt := 109) hx hb d_MD_unlogs_91 (by decide) (fun c31 => ?_) (fun c31 => ?_)
    · have hD := ite_p hD c31
      refine lv_iconst (v := 0) hx hb d_MD_unlogs_109 (by decide) ?_
      exact j24_ok (0 : Int32) _ _ _ hD wo (lv_sub hl [1, 3, 6, 7] rfl)
    · have hD := ite_n hD c31
      refine lv_aload_n hx hb d_MD_unlogs_94 rfl (lv_at hl 6 rfl) ?_
      refine lv_iload hx hb d_MD_unlogs_95 (lv_at hl 0 rfl) ?_
      refine lv_iload hx hb d_MD_unlogs_97 (lv_at hl 3 rfl) ?_
      obtain ⟨x32, hcx32, hD⟩ := bd_s hD
      try dsimp only [nm2] at hD
      refine call_Vi cx wo (k_MD_isValid l E ad n L (fun a h => hL a ((by decide : ∀ a ∈ ([20, 22, 23, 25] : List Nat), a ∈ ([20, 21, 22, 23, 24, 25, 26] : List Nat)) a h)) F σ  x11 x6 x32 hcx32) m20 (cel_20 E ad n σ) rfl rfl mw_MD_isValid wm_MD_77 ⟨by decide, by decide⟩ ⟨by decide, by decide⟩ hl.1 rfl (Nat.le_of_ble_eq_true rfl) d_MD_unlogs_99 (fun H locs wo => ?_)
      refine lv_if_eq (tgt := 109) hx hb d_MD_unlogs_102 (by decide) (fun c33 => ?_) (fun c33 => ?_)
      · have hD := ite_p hD c33
        refine lv_iconst (v := 0) hx hb d_MD_unlogs_109 (by decide) ?_
        exact j24_ok (0 : Int32) _ _ _ hD wo (lv_sub hl [1, 3, 6, 7] rfl)
      · have hD := ite_n hD c33
        refine lv_iconst (v := 1) hx hb d_MD_unlogs_105 (by decide) ?_
        refine lv_goto (tgt := 110) hx hb d_MD_unlogs_106 (by decide) ?_
        exact j24_ok (1 : Int32) _ _ _ hD wo (lv_sub hl [1, 3, 6, 7] rfl)
def D_MD_holder_L2 (F : Nat) (n : Nat → Nat) (σ : HS) (p1 : Int32) (p2 : Int32) : Nat → Int32 → Option ((Unit) ⊕ (Int32))
  | 0, _ => none
  | k2 + 1, x3 =>
      (if ((σ.1 20 2) * (σ.1 20 4)) ≤ x3 then
        some (Sum.inl ())
      else
        (D_MD_placeOf F n σ p1 x3).bind (fun (x5 : Int32) =>
        (if x5 = p2 then
          some (Sum.inr x3)
        else
          nm (x3 + (1 : Int32)) (fun x7 =>
          D_MD_holder_L2 F n σ p1 p2 k2 x7))))
def D_MD_holder (F : Nat) (n : Nat → Nat) (σ : HS) (p1 : Int32) (p2 : Int32) : Option (Int32) :=
(D_MD_holder_L2 F n σ p1 p2 F (0 : Int32)).bind (fun q11 => match q11 with
    | Sum.inl _ =>
      some (-1 : Int32)
    | Sum.inr z => some z)
set_option maxRecDepth 100000 in
set_option maxHeartbeats 4000000 in
theorem k_MD_holder (l : Launch) (E : EV) (ad n : Nat → Nat) (L : List Nat) (hL : ∀ a ∈ ([20, 21, 22, 23, 24, 25, 26] : List Nat), a ∈ L) (F : Nat) (σ  : HS) (p1 : Int32) (p2 : Int32) (r : Int32) (hD : D_MD_holder F n σ p1 p2 = some r) : CtI l E y_MD_holder c_MD_holder 4 (some FieldType.int) ({ frames := 4, cells := 0, slots := 0, locals := 92 }) [.ref (ad 20), .int p1, .int p2] (wl E ad n L σ) r (wl E ad n L σ) := by
  refine fun sz => ent (by decide) (Nat.le_of_ble_eq_true rfl) ?_
  intro p e s m below meth c hsz cx wo ls hl
  have hx := cx.1.1
  have hb := cx.1.2.1
  have hown := cx.1.2.2.2.1
  have hts := cx.1.2.2.2.2
  have hl : lv_has ls 4 [(0, .ref (ad 20)), (1, .int p1), (2, .int p2)] := hl
  have m20 : 20 ∈ L := hL 20 (by decide)
  have m21 : 21 ∈ L := hL 21 (by decide)
  have m22 : 22 ∈ L := hL 22 (by decide)
  have m23 : 23 ∈ L := hL 23 (by decide)
  have m24 : 24 ∈ L := hL 24 (by decide)
  have m25 : 25 ∈ L := hL 25 (by decide)
  have m26 : 26 ∈ L := hL 26 (by decide)
  rw [D_MD_holder] at hD
  refine lv_iconst (v := 0) hx hb d_MD_holder_0 (by decide) ?_
  refine lv_istore_n (lv' := [(3, .int (0 : Int32)), (0, .ref (ad 20)), (1, .int p1), (2, .int p2)]) hx hb d_MD_holder_1 rfl hl (by decide) rfl (fun ls hl => ?_)
  have lp8 : ∀ (k2 : Nat) (x3 : Int32) (H : Heap) (locs : List Loc) (ls : Array Slot) (res1 : (Unit) ⊕ (Int32)), D_MD_holder_L2 F n σ p1 p2 k2 x3 = some res1 → (∀ z, res1 = Sum.inr z → r = z) → (∀  (H : Heap) (locs : List Loc) (ls : Array Slot), res1 = Sum.inl () → Wo E (va_A (wl E ad n L σ) sz) s.heap (wl E ad n L σ) H locs → lv_has ls 4 [] → W p l e ({ frames := 4, cells := 0, slots := 0, locals := 92 }) s m ([.ref (ad 20), .int p1, .int p2] : List Value).toArray below meth c H locs 0 0 (MQ below (va_Qi (fun (x : Int32) (_ : Unit) => x = r) (fun _ t => va_P E.1 cls6 (wl E ad n L σ) t.heap ∧ va_D (va_A (wl E ad n L σ) sz) (wl E ad n L σ)) (va_A (wl E ad n L σ) sz)) ([.ref (ad 20), .int p1, .int p2] : List Value).toArray s 0 0 (va_A (wl E ad n L σ) sz)) (F0 m 33 ls [])) → Wo E (va_A (wl E ad n L σ) sz) s.heap (wl E ad n L σ) H locs → lv_has ls 4 [(3, .int x3), (0, .ref (ad 20)), (1, .int p1), (2, .int p2)] → W p l e ({ frames := 4, cells := 0, slots := 0, locals := 92 }) s m ([.ref (ad 20), .int p1, .int p2] : List Value).toArray below meth c H locs 0 0 (MQ below (va_Qi (fun (x : Int32) (_ : Unit) => x = r) (fun _ t => va_P E.1 cls6 (wl E ad n L σ) t.heap ∧ va_D (va_A (wl E ad n L σ) sz) (wl E ad n L σ)) (va_A (wl E ad n L σ) sz)) ([.ref (ad 20), .int p1, .int p2] : List Value).toArray s 0 0 (va_A (wl E ad n L σ) sz)) (F0 m 2 ls []) := by
    intro k2
    induction k2 with
    | zero =>
      intro x3 H locs ls res1 hD
      rw [D_MD_holder_L2.eq_1] at hD
      cases hD
    | succ k2 ih =>
      intro x3 H locs ls res1 hD hret hex wo hl
      rw [D_MD_holder_L2.eq_2] at hD
      refine lv_iload_n hx hb d_MD_holder_2 rfl (lv_at hl 0 rfl) ?_
      refine lv_aload_n hx hb d_MD_holder_3 rfl (lv_at hl 1 rfl) ?_
      refine g_get cx wo m20 (cel_20 E ad n σ) rfl in_MD 2 (by decide) wf_MD_55 rfl d_MD_holder_4 ?_
      refine lv_aload_n hx hb d_MD_holder_7 rfl (lv_at hl 1 rfl) ?_
      refine g_get cx wo m20 (cel_20 E ad n σ) rfl in_MD 4 (by decide) wf_MD_61 rfl d_MD_holder_8 ?_
      refine lv_imul hx hb d_MD_holder_11 ?_
      refine lv_icmp_ge (tgt := 33) hx hb d_MD_holder_12 (by decide) (fun c4 => ?_) (fun c4 => ?_)
      · have hD := ite_p hD c4
        exact hex  _ _ _ (Option.some.inj hD).symm wo (lv_sub hl [] rfl)
      · have hD := ite_n hD c4
        refine lv_aload_n hx hb d_MD_holder_15 rfl (lv_at hl 1 rfl) ?_
        refine lv_iload_n hx hb d_MD_holder_16 rfl (lv_at hl 2 rfl) ?_
        refine lv_iload_n hx hb d_MD_holder_17 rfl (lv_at hl 0 rfl) ?_
        obtain ⟨x5, hcx5, hD⟩ := bd_s hD
        try dsimp only [nm2] at hD
        refine call_Vi cx wo (k_MD_placeOf l E ad n L (fun a h => hL a ((by decide : ∀ a ∈ ([20, 21, 22, 23, 24, 25, 26] : List Nat), a ∈ ([20, 21, 22, 23, 24, 25, 26] : List Nat)) a h)) F σ  p1 x3 x5 hcx5) m20 (cel_20 E ad n σ) rfl rfl mw_MD_placeOf wm_MD_84 ⟨by decide, by decide⟩ ⟨by decide, by decide⟩ hl.1 rfl (Nat.le_of_ble_eq_true rfl) d_MD_holder_18 (fun H locs wo => ?_)
        refine lv_iload_n hx hb d_MD_holder_21 rfl (lv_at hl 3 rfl) ?_
        refine lv_icmp_ne (tgt := 27) hx hb d_MD_holder_22 (by decide) (fun c6 => ?_) (fun c6 => ?_)
        · have hD := ite_n hD c6
          obtain ⟨x7, ex7⟩ : ∃ y : Int32, y = x3 + (1 : Int32) := ⟨_, rfl⟩
          have hD := nm_at hD ex7
          try dsimp only at hD
          refine lv_iinc (v := x7) (lv' := [(3, .int x7), (0, .ref (ad 20)), (1, .int p1), (2, .int p2)]) hx hb d_MD_holder_27 hl (k := 0) rfl (by rw [ex7]; rfl) (by decide) rfl (fun ls hl => ?_)
          refine lv_goto (tgt := 2) hx hb d_MD_holder_30 (by decide) ?_
          exact ih x7 _ _ _ _ hD hret hex wo (lv_sub hl [0, 1, 2, 3] rfl)
        · have hD := ite_p hD c6
          refine lv_iload_n hx hb d_MD_holder_25 rfl (lv_at hl 0 rfl) ?_
          have hz := hret _ (Option.some.inj hD).symm
          cases hz
          exact t_ireti cx wo rfl rfl d_MD_holder_26
  obtain ⟨res9, hr10, hD⟩ := bd_s hD
  refine lp8 F (0 : Int32) _ _ _ _ hr10 (fun z hz => by subst hz; exact (Option.some.inj hD).symm) (fun  H locs ls hz wo hl => ?_) wo (lv_sub hl [0, 1, 2, 3] rfl)
  subst hz
  try dsimp only at hD
  refine lv_iconst (v := -1) hx hb d_MD_holder_33 (by decide) ?_
  cases hD
  exact t_ireti cx wo rfl rfl d_MD_holder_34
def D_MD_opens_L2 (F : Nat) (n : Nat → Nat)  : Nat → HS → Int32 → Option ((HS) ⊕ (HS × Int32))
  | 0, _, _ => none
  | k3 + 1, σ1, x4 =>
      (if (σ1.1 20 1) ≤ x4 then
        some (Sum.inl σ1)
      else
        (D_MD_isValid F n σ1 x4 (σ1.1 20 3)).bind (fun (x6 : Int32) =>
        (if x6 = 0 then
          nm (x4 + (1 : Int32)) (fun x8 =>
          D_MD_opens_L2 F n  k3 σ1 x8)
        else
          (D_MD_at F n σ1 x4 (σ1.1 20 3)).bind (fun (x9 : Int32) =>
          grd (inb x9 (n 24)) (
          (if (σ1.1 24 (x9).toNatClampNeg) ≤ 0 then
            nm (x4 + (1 : Int32)) (fun x12 =>
            D_MD_opens_L2 F n  k3 σ1 x12)
          else
            (D_MD_unlogs F n σ1 x4).bind (fun (qx13 : HS × Int32) => nm2 qx13 (fun (σ14 : HS) (x13 : Int32) =>
            (if x13 = 0 then
              some (Sum.inr (σ14, (0 : Int32)))
            else
              nm (x4 + (1 : Int32)) (fun x16 =>
              D_MD_opens_L2 F n  k3 σ14 x16))))))))))
def D_MD_opens_L74 (F : Nat) (n : Nat → Nat) (x24 : Int32) : Nat → HS → Int32 → Option ((HS) ⊕ (HS × Int32))
  | 0, _, _ => none
  | k29 + 1, σ27, x30 =>
      (if (σ27.1 20 1) ≤ x30 then
                some (Sum.inl σ27)
              else
                (D_MD_diskOf F n σ27 x24 x30).bind (fun (x32 : Int32) =>
                (D_MD_holder F n σ27 x24 x32).bind (fun (x33 : Int32) =>
                (if 0 ≤ x33 then
                  nm (x30 + (1 : Int32)) (fun x35 =>
                  D_MD_opens_L74 F n x24 k29 σ27 x35)
                else
                  (D_MD_isValid F n σ27 x32 x24).bind (fun (x36 : Int32) =>
                  (if x36 = 0 then
                    nm (x30 + (1 : Int32)) (fun x38 =>
                    D_MD_opens_L74 F n x24 k29 σ27 x38)
                  else
                    (D_MD_at F n σ27 x32 x24).bind (fun (x39 : Int32) =>
                    grd (inb x39 (n 24)) (
                    (if (σ27.1 24 (x39).toNatClampNeg) ≤ 0 then
                      nm (x30 + (1 : Int32)) (fun x42 =>
                      D_MD_opens_L74 F n x24 k29 σ27 x42)
                    else
                      (D_MD_puts F n σ27 x32 x24 (0 : Int32)).bind (fun (qx43 : HS × Int32) => nm2 qx43 (fun (σ44 : HS) (x43 : Int32) =>
                      (if x43 = 0 then
                        some (Sum.inr (σ44, (0 : Int32)))
                      else
                        nm (x30 + (1 : Int32)) (fun x46 =>
                        D_MD_opens_L74 F n x24 k29 σ44 x46)))))))))))))
def D_MD_opens_L56 (F : Nat) (n : Nat → Nat)  : Nat → HS → Int32 → Option ((HS) ⊕ (HS × Int32))
  | 0, _, _ => none
  | k23 + 1, σ21, x24 =>
      (if (σ21.1 20 3) ≤ x24 then
          some (Sum.inl σ21)
        else
          nm ((σ21.1 20 2) * (σ21.1 20 4)) (fun x26 =>
          (D_MD_opens_L74 F n x24 F σ21 x26).bind (fun q52 => match q52 with
            | Sum.inl σ47 =>
              nm (x24 + (1 : Int32)) (fun x51 =>
            D_MD_opens_L56 F n  k23 σ47 x51)
            | Sum.inr z => some (Sum.inr z))))
def D_MD_opens (F : Nat) (n : Nat → Nat) (σ : HS)  : Option (HS × Int32) :=
(D_MD_opens_L2 F n  F σ (0 : Int32)).bind (fun q58 => match q58 with
    | Sum.inl σ17 =>
      (D_MD_opens_L56 F n  F σ17 (0 : Int32)).bind (fun q57 => match q57 with
      | Sum.inl σ53 =>
        some (σ53, (1 : Int32))
      | Sum.inr z => some z)
    | Sum.inr z => some z)
set_option maxRecDepth 100000 in
set_option maxHeartbeats 4000000 in
theorem k_MD_opens (l : Launch) (E : EV) (ad n : Nat → Nat) (L : List Nat) (hL : ∀ a ∈ ([20, 21, 22, 23, 24, 25, 26] : List Nat), a ∈ L) (F : Nat) (σ σo : HS)  (r : Int32) (hD : D_MD_opens F n σ  = some (σo, r)) : CtI l E y_MD_opens c_MD_opens 4 (some FieldType.boolean) ({ frames := 5, cells := 0, slots := 0, locals := 120 }) [.ref (ad 20)] (wl E ad n L σ) r (wl E ad n L σo) := by
  refine fun sz => ent (by decide) (Nat.le_of_ble_eq_true rfl) ?_
  intro p e s m below meth c hsz cx wo ls hl
  have hx := cx.1.1
  have hb := cx.1.2.1
  have hown := cx.1.2.2.2.1
  have hts := cx.1.2.2.2.2
  have hl : lv_has ls 4 [(0, .ref (ad 20))] := hl
  have m20 : 20 ∈ L := hL 20 (by decide)
  have m21 : 21 ∈ L := hL 21 (by decide)
  have m22 : 22 ∈ L := hL 22 (by decide)
  have m23 : 23 ∈ L := hL 23 (by decide)
  have m24 : 24 ∈ L := hL 24 (by decide)
  have m25 : 25 ∈ L := hL 25 (by decide)
  have m26 : 26 ∈ L := hL 26 (by decide)
  rw [D_MD_opens] at hD
  refine lv_iconst (v := 0) hx hb d_MD_opens_0 (by decide) ?_
  refine lv_istore_n (lv' := [(1, .int (0 : Int32)), (0, .ref (ad 20))]) hx hb d_MD_opens_1 rfl hl (by decide) rfl (fun ls hl => ?_)
  have lp18 : ∀ (k3 : Nat) (σ1 : HS) (x4 : Int32) (H : Heap) (locs : List Loc) (ls : Array Slot) (res2 : (HS) ⊕ (HS × Int32)), D_MD_opens_L2 F n  k3 σ1 x4 = some res2 → (∀ z, res2 = Sum.inr z → (σo, r) = z) → (∀ (σ17 : HS) (H : Heap) (locs : List Loc) (ls : Array Slot), res2 = Sum.inl σ17 → Wo E (va_A (wl E ad n L σ) sz) s.heap (wl E ad n L σ17) H locs → lv_has ls 4 [(0, .ref (ad 20))] → W p l e ({ frames := 5, cells := 0, slots := 0, locals := 120 }) s m ([.ref (ad 20)] : List Value).toArray below meth c H locs 0 0 (MQ below (va_Qi (fun (x : Int32) (_ : Unit) => x = r) (fun _ t => va_P E.1 cls6 (wl E ad n L σo) t.heap ∧ va_D (va_A (wl E ad n L σ) sz) (wl E ad n L σo)) (va_A (wl E ad n L σ) sz)) ([.ref (ad 20)] : List Value).toArray s 0 0 (va_A (wl E ad n L σ) sz)) (F0 m 54 ls [])) → Wo E (va_A (wl E ad n L σ) sz) s.heap (wl E ad n L σ1) H locs → lv_has ls 4 [(1, .int x4), (0, .ref (ad 20))] → W p l e ({ frames := 5, cells := 0, slots := 0, locals := 120 }) s m ([.ref (ad 20)] : List Value).toArray below meth c H locs 0 0 (MQ below (va_Qi (fun (x : Int32) (_ : Unit) => x = r) (fun _ t => va_P E.1 cls6 (wl E ad n L σo) t.heap ∧ va_D (va_A (wl E ad n L σ) sz) (wl E ad n L σo)) (va_A (wl E ad n L σ) sz)) ([.ref (ad 20)] : List Value).toArray s 0 0 (va_A (wl E ad n L σ) sz)) (F0 m 2 ls []) := by
    intro k3
    induction k3 with
    | zero =>
      intro σ1 x4 H locs ls res2 hD
      rw [D_MD_opens_L2.eq_1] at hD
      cases hD
    | succ k3 ih =>
      intro σ1 x4 H locs ls res2 hD hret hex wo hl
      rw [D_MD_opens_L2.eq_2] at hD
      refine lv_iload_n hx hb d_MD_opens_2 rfl (lv_at hl 0 rfl) ?_
      refine lv_aload_n hx hb d_MD_opens_3 rfl (lv_at hl 1 rfl) ?_
      refine g_get cx wo m20 (cel_20 E ad n σ1) rfl in_MD 1 (by decide) wf_MD_52 rfl d_MD_opens_4 ?_
      refine lv_icmp_ge (tgt := 54) hx hb d_MD_opens_7 (by decide) (fun c5 => ?_) (fun c5 => ?_)
      · have hD := ite_p hD c5
        exact hex σ1 _ _ _ (Option.some.inj hD).symm wo (lv_sub hl [1] rfl)
      · have hD := ite_n hD c5
        refine lv_aload_n hx hb d_MD_opens_10 rfl (lv_at hl 1 rfl) ?_
        refine lv_iload_n hx hb d_MD_opens_11 rfl (lv_at hl 0 rfl) ?_
        refine lv_aload_n hx hb d_MD_opens_12 rfl (lv_at hl 1 rfl) ?_
        refine g_get cx wo m20 (cel_20 E ad n σ1) rfl in_MD 3 (by decide) wf_MD_58 rfl d_MD_opens_13 ?_
        obtain ⟨x6, hcx6, hD⟩ := bd_s hD
        try dsimp only [nm2] at hD
        refine call_Vi cx wo (k_MD_isValid l E ad n L (fun a h => hL a ((by decide : ∀ a ∈ ([20, 22, 23, 25] : List Nat), a ∈ ([20, 21, 22, 23, 24, 25, 26] : List Nat)) a h)) F σ1  x4 (σ1.1 20 3) x6 hcx6) m20 (cel_20 E ad n σ1) rfl rfl mw_MD_isValid wm_MD_77 ⟨by decide, by decide⟩ ⟨by decide, by decide⟩ hl.1 rfl (Nat.le_of_ble_eq_true rfl) d_MD_opens_16 (fun H locs wo => ?_)
        refine lv_if_eq (tgt := 48) hx hb d_MD_opens_19 (by decide) (fun c7 => ?_) (fun c7 => ?_)
        · have hD := ite_p hD c7
          obtain ⟨x8, ex8⟩ : ∃ y : Int32, y = x4 + (1 : Int32) := ⟨_, rfl⟩
          have hD := nm_at hD ex8
          try dsimp only at hD
          refine lv_iinc (v := x8) (lv' := [(1, .int x8), (0, .ref (ad 20))]) hx hb d_MD_opens_48 hl (k := 0) rfl (by rw [ex8]; rfl) (by decide) rfl (fun ls hl => ?_)
          refine lv_goto (tgt := 2) hx hb d_MD_opens_51 (by decide) ?_
          exact ih σ1 x8 _ _ _ _ hD hret hex wo (lv_sub hl [0, 1] rfl)
        · have hD := ite_n hD c7
          refine lv_aload_n hx hb d_MD_opens_22 rfl (lv_at hl 1 rfl) ?_
          refine g_get cx wo m20 (cel_20 E ad n σ1) rfl in_MD 9 (by decide) wf_MD_20 rfl d_MD_opens_23 ?_
          refine lv_iload_n hx hb d_MD_opens_26 rfl (lv_at hl 0 rfl) ?_
          refine lv_aload_n hx hb d_MD_opens_27 rfl (lv_at hl 1 rfl) ?_
          refine g_get cx wo m20 (cel_20 E ad n σ1) rfl in_MD 3 (by decide) wf_MD_58 rfl d_MD_opens_28 ?_
          obtain ⟨x9, hcx9, hD⟩ := bd_s hD
          try dsimp only [nm2] at hD
          refine call_Si cx wo (k_MD_at l E ad n L (fun a h => hL a ((by decide : ∀ a ∈ ([] : List Nat), a ∈ ([20, 21, 22, 23, 24, 25, 26] : List Nat)) a h)) F σ1  x4 (σ1.1 20 3) x9 hcx9) mw_MD_at wm_MD_67 ⟨by decide, by decide⟩ ⟨by decide, by decide⟩ hl.1 rfl (Nat.le_of_ble_eq_true rfl) d_MD_opens_31 (fun H locs wo => ?_)
          obtain ⟨g10, hD⟩ := grd_s hD
          refine g_iald cx wo m24 (cel_24 E ad n σ1) g10 d_MD_opens_34 ?_
          refine lv_if_le (tgt := 48) hx hb d_MD_opens_35 (by decide) (fun c11 => ?_) (fun c11 => ?_)
          · have hD := ite_p hD c11
            obtain ⟨x12, ex12⟩ : ∃ y : Int32, y = x4 + (1 : Int32) := ⟨_, rfl⟩
            have hD := nm_at hD ex12
            try dsimp only at hD
            refine lv_iinc (v := x12) (lv' := [(1, .int x12), (0, .ref (ad 20))]) hx hb d_MD_opens_48 hl (k := 0) rfl (by rw [ex12]; rfl) (by decide) rfl (fun ls hl => ?_)
            refine lv_goto (tgt := 2) hx hb d_MD_opens_51 (by decide) ?_
            exact ih σ1 x12 _ _ _ _ hD hret hex wo (lv_sub hl [0, 1] rfl)
          · have hD := ite_n hD c11
            refine lv_aload_n hx hb d_MD_opens_38 rfl (lv_at hl 1 rfl) ?_
            refine lv_iload_n hx hb d_MD_opens_39 rfl (lv_at hl 0 rfl) ?_
            obtain ⟨⟨σ14, x13⟩, hcx13, hD⟩ := bd_s hD
            try dsimp only [nm2] at hD
            refine call_Vi cx wo (k_MD_unlogs l E ad n L (fun a h => hL a ((by decide : ∀ a ∈ ([20, 21, 22, 23, 24, 25, 26] : List Nat), a ∈ ([20, 21, 22, 23, 24, 25, 26] : List Nat)) a h)) F σ1 σ14 x4 x13 hcx13) m20 (cel_20 E ad n σ1) rfl rfl mw_MD_unlogs wm_MD_127 ⟨by decide, by decide⟩ ⟨by decide, by decide⟩ hl.1 rfl (Nat.le_of_ble_eq_true rfl) d_MD_opens_40 (fun H locs wo => ?_)
            refine lv_if_ne (tgt := 48) hx hb d_MD_opens_43 (by decide) (fun c15 => ?_) (fun c15 => ?_)
            · have hD := ite_n hD c15
              obtain ⟨x16, ex16⟩ : ∃ y : Int32, y = x4 + (1 : Int32) := ⟨_, rfl⟩
              have hD := nm_at hD ex16
              try dsimp only at hD
              refine lv_iinc (v := x16) (lv' := [(1, .int x16), (0, .ref (ad 20))]) hx hb d_MD_opens_48 hl (k := 0) rfl (by rw [ex16]; rfl) (by decide) rfl (fun ls hl => ?_)
              refine lv_goto (tgt := 2) hx hb d_MD_opens_51 (by decide) ?_
              exact ih σ14 x16 _ _ _ _ hD hret hex wo (lv_sub hl [0, 1] rfl)
            · have hD := ite_p hD c15
              refine lv_iconst (v := 0) hx hb d_MD_opens_46 (by decide) ?_
              have hz := hret _ (Option.some.inj hD).symm
              cases hz
              exact t_ireti cx wo rfl rfl d_MD_opens_47
  obtain ⟨res19, hr20, hD⟩ := bd_s hD
  refine lp18 F σ (0 : Int32) _ _ _ _ hr20 (fun z hz => by subst hz; exact (Option.some.inj hD).symm) (fun σ17 H locs ls hz wo hl => ?_) wo (lv_sub hl [0, 1] rfl)
  subst hz
  try dsimp only at hD
  refine lv_iconst (v := 0) hx hb d_MD_opens_54 (by decide) ?_
  refine lv_istore_n (lv' := [(1, .int (0 : Int32)), (0, .ref (ad 20))]) hx hb d_MD_opens_55 rfl hl (by decide) rfl (fun ls hl => ?_)
  have lp54 : ∀ (k23 : Nat) (σ21 : HS) (x24 : Int32) (H : Heap) (locs : List Loc) (ls : Array Slot) (res22 : (HS) ⊕ (HS × Int32)), D_MD_opens_L56 F n  k23 σ21 x24 = some res22 → (∀ z, res22 = Sum.inr z → (σo, r) = z) → (∀ (σ53 : HS) (H : Heap) (locs : List Loc) (ls : Array Slot), res22 = Sum.inl σ53 → Wo E (va_A (wl E ad n L σ) sz) s.heap (wl E ad n L σ53) H locs → lv_has ls 4 [] → W p l e ({ frames := 5, cells := 0, slots := 0, locals := 120 }) s m ([.ref (ad 20)] : List Value).toArray below meth c H locs 0 0 (MQ below (va_Qi (fun (x : Int32) (_ : Unit) => x = r) (fun _ t => va_P E.1 cls6 (wl E ad n L σo) t.heap ∧ va_D (va_A (wl E ad n L σ) sz) (wl E ad n L σo)) (va_A (wl E ad n L σ) sz)) ([.ref (ad 20)] : List Value).toArray s 0 0 (va_A (wl E ad n L σ) sz)) (F0 m 144 ls [])) → Wo E (va_A (wl E ad n L σ) sz) s.heap (wl E ad n L σ21) H locs → lv_has ls 4 [(1, .int x24), (0, .ref (ad 20))] → W p l e ({ frames := 5, cells := 0, slots := 0, locals := 120 }) s m ([.ref (ad 20)] : List Value).toArray below meth c H locs 0 0 (MQ below (va_Qi (fun (x : Int32) (_ : Unit) => x = r) (fun _ t => va_P E.1 cls6 (wl E ad n L σo) t.heap ∧ va_D (va_A (wl E ad n L σ) sz) (wl E ad n L σo)) (va_A (wl E ad n L σ) sz)) ([.ref (ad 20)] : List Value).toArray s 0 0 (va_A (wl E ad n L σ) sz)) (F0 m 56 ls []) := by
    intro k23
    induction k23 with
    | zero =>
      intro σ21 x24 H locs ls res22 hD
      rw [D_MD_opens_L56.eq_1] at hD
      cases hD
    | succ k23 ih =>
      intro σ21 x24 H locs ls res22 hD hret hex wo hl
      rw [D_MD_opens_L56.eq_2] at hD
      refine lv_iload_n hx hb d_MD_opens_56 rfl (lv_at hl 0 rfl) ?_
      refine lv_aload_n hx hb d_MD_opens_57 rfl (lv_at hl 1 rfl) ?_
      refine g_get cx wo m20 (cel_20 E ad n σ21) rfl in_MD 3 (by decide) wf_MD_58 rfl d_MD_opens_58 ?_
      refine lv_icmp_ge (tgt := 144) hx hb d_MD_opens_61 (by decide) (fun c25 => ?_) (fun c25 => ?_)
      · have hD := ite_p hD c25
        exact hex σ21 _ _ _ (Option.some.inj hD).symm wo (lv_sub hl [] rfl)
      · have hD := ite_n hD c25
        refine lv_aload_n hx hb d_MD_opens_64 rfl (lv_at hl 1 rfl) ?_
        refine g_get cx wo m20 (cel_20 E ad n σ21) rfl in_MD 2 (by decide) wf_MD_55 rfl d_MD_opens_65 ?_
        refine lv_aload_n hx hb d_MD_opens_68 rfl (lv_at hl 1 rfl) ?_
        refine g_get cx wo m20 (cel_20 E ad n σ21) rfl in_MD 4 (by decide) wf_MD_61 rfl d_MD_opens_69 ?_
        refine lv_imul hx hb d_MD_opens_72 ?_
        refine lv_topi (fun x26 ex26 => ?_)
        have hD := nm_at hD ex26
        try dsimp only at hD
        refine lv_istore_n (lv' := [(2, .int x26), (1, .int x24), (0, .ref (ad 20))]) hx hb d_MD_opens_73 rfl hl (by decide) rfl (fun ls hl => ?_)
        have lp48 : ∀ (k29 : Nat) (σ27 : HS) (x30 : Int32) (H : Heap) (locs : List Loc) (ls : Array Slot) (res28 : (HS) ⊕ (HS × Int32)), D_MD_opens_L74 F n x24 k29 σ27 x30 = some res28 → (∀ z, res28 = Sum.inr z → (σo, r) = z) → (∀ (σ47 : HS) (H : Heap) (locs : List Loc) (ls : Array Slot), res28 = Sum.inl σ47 → Wo E (va_A (wl E ad n L σ) sz) s.heap (wl E ad n L σ47) H locs → lv_has ls 4 [(1, .int x24), (0, .ref (ad 20))] → W p l e ({ frames := 5, cells := 0, slots := 0, locals := 120 }) s m ([.ref (ad 20)] : List Value).toArray below meth c H locs 0 0 (MQ below (va_Qi (fun (x : Int32) (_ : Unit) => x = r) (fun _ t => va_P E.1 cls6 (wl E ad n L σo) t.heap ∧ va_D (va_A (wl E ad n L σ) sz) (wl E ad n L σo)) (va_A (wl E ad n L σ) sz)) ([.ref (ad 20)] : List Value).toArray s 0 0 (va_A (wl E ad n L σ) sz)) (F0 m 138 ls [])) → Wo E (va_A (wl E ad n L σ) sz) s.heap (wl E ad n L σ27) H locs → lv_has ls 4 [(2, .int x30), (1, .int x24), (0, .ref (ad 20))] → W p l e ({ frames := 5, cells := 0, slots := 0, locals := 120 }) s m ([.ref (ad 20)] : List Value).toArray below meth c H locs 0 0 (MQ below (va_Qi (fun (x : Int32) (_ : Unit) => x = r) (fun _ t => va_P E.1 cls6 (wl E ad n L σo) t.heap ∧ va_D (va_A (wl E ad n L σ) sz) (wl E ad n L σo)) (va_A (wl E ad n L σ) sz)) ([.ref (ad 20)] : List Value).toArray s 0 0 (va_A (wl E ad n L σ) sz)) (F0 m 74 ls []) := by
          intro k29
          induction k29 with
          | zero =>
            intro σ27 x30 H locs ls res28 hD
            rw [D_MD_opens_L74.eq_1] at hD
            cases hD
          | succ k29 ih =>
            intro σ27 x30 H locs ls res28 hD hret hex wo hl
            rw [D_MD_opens_L74.eq_2] at hD
            refine lv_iload_n hx hb d_MD_opens_74 rfl (lv_at hl 0 rfl) ?_
            refine lv_aload_n hx hb d_MD_opens_75 rfl (lv_at hl 2 rfl) ?_
            refine g_get cx wo m20 (cel_20 E ad n σ27) rfl in_MD 1 (by decide) wf_MD_52 rfl d_MD_opens_76 ?_
            refine lv_icmp_ge (tgt := 138) hx hb d_MD_opens_79 (by decide) (fun c31 => ?_) (fun c31 => ?_)
            · have hD := ite_p hD c31
              exact hex σ27 _ _ _ (Option.some.inj hD).symm wo (lv_sub hl [1, 2] rfl)
            · have hD := ite_n hD c31
              refine lv_aload_n hx hb d_MD_opens_82 rfl (lv_at hl 2 rfl) ?_
              refine lv_iload_n hx hb d_MD_opens_83 rfl (lv_at hl 1 rfl) ?_
              refine lv_iload_n hx hb d_MD_opens_84 rfl (lv_at hl 0 rfl) ?_
              obtain ⟨x32, hcx32, hD⟩ := bd_s hD
              try dsimp only [nm2] at hD
              refine call_Vi cx wo (k_MD_diskOf l E ad n L (fun a h => hL a ((by decide : ∀ a ∈ ([20, 21] : List Nat), a ∈ ([20, 21, 22, 23, 24, 25, 26] : List Nat)) a h)) F σ27  x24 x30 x32 hcx32) m20 (cel_20 E ad n σ27) rfl rfl mw_MD_diskOf wm_MD_71 ⟨by decide, by decide⟩ ⟨by decide, by decide⟩ hl.1 rfl (Nat.le_of_ble_eq_true rfl) d_MD_opens_85 (fun H locs wo => ?_)
              refine lv_istore_n (lv' := [(3, .int x32), (2, .int x30), (1, .int x24), (0, .ref (ad 20))]) hx hb d_MD_opens_88 rfl hl (by decide) rfl (fun ls hl => ?_)
              refine lv_aload_n hx hb d_MD_opens_89 rfl (lv_at hl 3 rfl) ?_
              refine lv_iload_n hx hb d_MD_opens_90 rfl (lv_at hl 2 rfl) ?_
              refine lv_iload_n hx hb d_MD_opens_91 rfl (lv_at hl 0 rfl) ?_
              obtain ⟨x33, hcx33, hD⟩ := bd_s hD
              try dsimp only [nm2] at hD
              refine call_Vi cx wo (k_MD_holder l E ad n L (fun a h => hL a ((by decide : ∀ a ∈ ([20, 21, 22, 23, 24, 25, 26] : List Nat), a ∈ ([20, 21, 22, 23, 24, 25, 26] : List Nat)) a h)) F σ27  x24 x32 x33 hcx33) m20 (cel_20 E ad n σ27) rfl rfl mw_MD_holder wm_MD_94 ⟨by decide, by decide⟩ ⟨by decide, by decide⟩ hl.1 rfl (Nat.le_of_ble_eq_true rfl) d_MD_opens_92 (fun H locs wo => ?_)
              refine lv_if_ge (tgt := 132) hx hb d_MD_opens_95 (by decide) (fun c34 => ?_) (fun c34 => ?_)
              · have hD := ite_p hD c34
                obtain ⟨x35, ex35⟩ : ∃ y : Int32, y = x30 + (1 : Int32) := ⟨_, rfl⟩
                have hD := nm_at hD ex35
                try dsimp only at hD
                refine lv_iinc (v := x35) (lv' := [(2, .int x35), (3, .int x32), (1, .int x24), (0, .ref (ad 20))]) hx hb d_MD_opens_132 hl (k := 1) rfl (by rw [ex35]; rfl) (by decide) rfl (fun ls hl => ?_)
                refine lv_goto (tgt := 74) hx hb d_MD_opens_135 (by decide) ?_
                exact ih σ27 x35 _ _ _ _ hD hret hex wo (lv_sub hl [0, 2, 3] rfl)
              · have hD := ite_n hD c34
                refine lv_aload_n hx hb d_MD_opens_98 rfl (lv_at hl 3 rfl) ?_
                refine lv_iload_n hx hb d_MD_opens_99 rfl (lv_at hl 0 rfl) ?_
                refine lv_iload_n hx hb d_MD_opens_100 rfl (lv_at hl 2 rfl) ?_
                obtain ⟨x36, hcx36, hD⟩ := bd_s hD
                try dsimp only [nm2] at hD
                refine call_Vi cx wo (k_MD_isValid l E ad n L (fun a h => hL a ((by decide : ∀ a ∈ ([20, 22, 23, 25] : List Nat), a ∈ ([20, 21, 22, 23, 24, 25, 26] : List Nat)) a h)) F σ27  x32 x24 x36 hcx36) m20 (cel_20 E ad n σ27) rfl rfl mw_MD_isValid wm_MD_77 ⟨by decide, by decide⟩ ⟨by decide, by decide⟩ hl.1 rfl (Nat.le_of_ble_eq_true rfl) d_MD_opens_101 (fun H locs wo => ?_)
                refine lv_if_eq (tgt := 132) hx hb d_MD_opens_104 (by decide) (fun c37 => ?_) (fun c37 => ?_)
                · have hD := ite_p hD c37
                  obtain ⟨x38, ex38⟩ : ∃ y : Int32, y = x30 + (1 : Int32) := ⟨_, rfl⟩
                  have hD := nm_at hD ex38
                  try dsimp only at hD
                  refine lv_iinc (v := x38) (lv' := [(2, .int x38), (3, .int x32), (1, .int x24), (0, .ref (ad 20))]) hx hb d_MD_opens_132 hl (k := 1) rfl (by rw [ex38]; rfl) (by decide) rfl (fun ls hl => ?_)
                  refine lv_goto (tgt := 74) hx hb d_MD_opens_135 (by decide) ?_
                  exact ih σ27 x38 _ _ _ _ hD hret hex wo (lv_sub hl [0, 2, 3] rfl)
                · have hD := ite_n hD c37
                  refine lv_aload_n hx hb d_MD_opens_107 rfl (lv_at hl 3 rfl) ?_
                  refine g_get cx wo m20 (cel_20 E ad n σ27) rfl in_MD 9 (by decide) wf_MD_20 rfl d_MD_opens_108 ?_
                  refine lv_iload_n hx hb d_MD_opens_111 rfl (lv_at hl 0 rfl) ?_
                  refine lv_iload_n hx hb d_MD_opens_112 rfl (lv_at hl 2 rfl) ?_
                  obtain ⟨x39, hcx39, hD⟩ := bd_s hD
                  try dsimp only [nm2] at hD
                  refine call_Si cx wo (k_MD_at l E ad n L (fun a h => hL a ((by decide : ∀ a ∈ ([] : List Nat), a ∈ ([20, 21, 22, 23, 24, 25, 26] : List Nat)) a h)) F σ27  x32 x24 x39 hcx39) mw_MD_at wm_MD_67 ⟨by decide, by decide⟩ ⟨by decide, by decide⟩ hl.1 rfl (Nat.le_of_ble_eq_true rfl) d_MD_opens_113 (fun H locs wo => ?_)
                  obtain ⟨g40, hD⟩ := grd_s hD
                  refine g_iald cx wo m24 (cel_24 E ad n σ27) g40 d_MD_opens_116 ?_
                  refine lv_if_le (tgt := 132) hx hb d_MD_opens_117 (by decide) (fun c41 => ?_) (fun c41 => ?_)
                  · have hD := ite_p hD c41
                    obtain ⟨x42, ex42⟩ : ∃ y : Int32, y = x30 + (1 : Int32) := ⟨_, rfl⟩
                    have hD := nm_at hD ex42
                    try dsimp only at hD
                    refine lv_iinc (v := x42) (lv' := [(2, .int x42), (3, .int x32), (1, .int x24), (0, .ref (ad 20))]) hx hb d_MD_opens_132 hl (k := 1) rfl (by rw [ex42]; rfl) (by decide) rfl (fun ls hl => ?_)
                    refine lv_goto (tgt := 74) hx hb d_MD_opens_135 (by decide) ?_
                    exact ih σ27 x42 _ _ _ _ hD hret hex wo (lv_sub hl [0, 2, 3] rfl)
                  · have hD := ite_n hD c41
                    refine lv_aload_n hx hb d_MD_opens_120 rfl (lv_at hl 3 rfl) ?_
                    refine lv_iload_n hx hb d_MD_opens_121 rfl (lv_at hl 0 rfl) ?_
                    refine lv_iload_n hx hb d_MD_opens_122 rfl (lv_at hl 2 rfl) ?_
                    refine lv_iconst (v := 0) hx hb d_MD_opens_123 (by decide) ?_
                    obtain ⟨⟨σ44, x43⟩, hcx43, hD⟩ := bd_s hD
                    try dsimp only [nm2] at hD
                    refine call_Vi cx wo (k_MD_puts l E ad n L (fun a h => hL a ((by decide : ∀ a ∈ ([20, 23, 24, 25] : List Nat), a ∈ ([20, 21, 22, 23, 24, 25, 26] : List Nat)) a h)) F σ27 σ44 x32 x24 (0 : Int32) x43 hcx43) m20 (cel_20 E ad n σ27) rfl rfl mw_MD_puts wm_MD_116 ⟨by decide, by decide⟩ ⟨by decide, by decide⟩ hl.1 rfl (Nat.le_of_ble_eq_true rfl) d_MD_opens_124 (fun H locs wo => ?_)
                    refine lv_if_ne (tgt := 132) hx hb d_MD_opens_127 (by decide) (fun c45 => ?_) (fun c45 => ?_)
                    · have hD := ite_n hD c45
                      obtain ⟨x46, ex46⟩ : ∃ y : Int32, y = x30 + (1 : Int32) := ⟨_, rfl⟩
                      have hD := nm_at hD ex46
                      try dsimp only at hD
                      refine lv_iinc (v := x46) (lv' := [(2, .int x46), (3, .int x32), (1, .int x24), (0, .ref (ad 20))]) hx hb d_MD_opens_132 hl (k := 1) rfl (by rw [ex46]; rfl) (by decide) rfl (fun ls hl => ?_)
                      refine lv_goto (tgt := 74) hx hb d_MD_opens_135 (by decide) ?_
                      exact ih σ44 x46 _ _ _ _ hD hret hex wo (lv_sub hl [0, 2, 3] rfl)
                    · have hD := ite_p hD c45
                      refine lv_iconst (v := 0) hx hb d_MD_opens_130 (by decide) ?_
                      have hz := hret _ (Option.some.inj hD).symm
                      cases hz
                      exact t_ireti cx wo rfl rfl d_MD_opens_131
        obtain ⟨res49, hr50, hD⟩ := bd_s hD
        refine lp48 F σ21 x26 _ _ _ _ hr50 (fun z hz => by subst hz; exact hret _ (Option.some.inj hD).symm) (fun σ47 H locs ls hz wo hl => ?_) wo (lv_sub hl [0, 1, 2] rfl)
        subst hz
        try dsimp only at hD
        obtain ⟨x51, ex51⟩ : ∃ y : Int32, y = x24 + (1 : Int32) := ⟨_, rfl⟩
        have hD := nm_at hD ex51
        try dsimp only at hD
        refine lv_iinc (v := x51) (lv' := [(1, .int x51), (0, .ref (ad 20))]) hx hb d_MD_opens_138 hl (k := 0) rfl (by rw [ex51]; rfl) (by decide) rfl (fun ls hl => ?_)
        refine lv_goto (tgt := 56) hx hb d_MD_opens_141 (by decide) ?_
        exact ih σ47 x51 _ _ _ _ hD hret hex wo (lv_sub hl [0, 1] rfl)
  obtain ⟨res55, hr56, hD⟩ := bd_s hD
  refine lp54 F σ17 (0 : Int32) _ _ _ _ hr56 (fun z hz => by subst hz; exact (Option.some.inj hD).symm) (fun σ53 H locs ls hz wo hl => ?_) wo (lv_sub hl [0, 1] rfl)
  subst hz
  try dsimp only at hD
  refine lv_iconst (v := 1) hx hb d_MD_opens_144 (by decide) ?_
  cases hD
  exact t_ireti cx wo rfl rfl d_MD_opens_145
def D_MD_open_L26 (F : Nat) (n : Nat → Nat) (x7 : Int32) : Nat → HS → Int32 → Option (HS)
  | 0, _, _ => none
  | k11 + 1, σ9, x12 =>
      (if ((σ9.1 20 2) * (σ9.1 20 4)) ≤ x12 then
                some σ9
              else
                (D_MD_found F n σ9 x7 x12).bind (fun (x14 : Int32) =>
                grd (inb (((16 : Int32) * x7) + x12) (n 26)) (
                nm (stI σ9 26 ((((16 : Int32) * x7) + x12)).toNatClampNeg x14) (fun σ16 =>
                nm (x12 + (1 : Int32)) (fun x17 =>
                D_MD_open_L26 F n x7 k11 σ16 x17)))))
def D_MD_open_L16 (F : Nat) (n : Nat → Nat)  : Nat → HS → Int32 → Option (HS)
  | 0, _, _ => none
  | k6 + 1, σ4, x7 =>
      (if (σ4.1 20 3) ≤ x7 then
          some σ4
        else
          (D_MD_open_L26 F n x7 F σ4 (0 : Int32)).bind (fun (σ18 : HS) =>
          nm (x7 + (1 : Int32)) (fun x22 =>
            D_MD_open_L16 F n  k6 σ18 x22)))
def D_MD_open (F : Nat) (n : Nat → Nat) (σ : HS)  : Option (HS × Int32) :=
(D_MD_fails F n σ (σ.1 20 12) (1 : Int32)).bind (fun (qx1 : HS × Int32) => nm2 qx1 (fun (σ2 : HS) (x1 : Int32) =>
  (if x1 = 0 then
    (D_MD_open_L16 F n  F σ2 (0 : Int32)).bind (fun (σ23 : HS) =>
    nm (stF σ23 20 12 (1 : Int32)) (fun σ27 =>
      nm (stF σ27 20 15 (0 : Int32)) (fun σ28 =>
      (D_MD_opens F n σ28 ).bind (fun (qx29 : HS × Int32) => nm2 qx29 (fun (σ30 : HS) (x29 : Int32) =>
      (if x29 = 0 then
        some (σ30, (0 : Int32))
      else
        nm (stF σ30 20 20 (0 : Int32)) (fun σ32 =>
        some (σ32, (1 : Int32)))))))))
  else
    some (σ2, (0 : Int32)))))
set_option maxRecDepth 100000 in
set_option maxHeartbeats 4000000 in
theorem k_MD_open (l : Launch) (E : EV) (ad n : Nat → Nat) (L : List Nat) (hL : ∀ a ∈ ([20, 21, 22, 23, 24, 25, 26] : List Nat), a ∈ L) (F : Nat) (σ σo : HS)  (r : Int32) (hD : D_MD_open F n σ  = some (σo, r)) : CtI l E y_MD_open c_MD_open 3 (some FieldType.boolean) ({ frames := 6, cells := 0, slots := 0, locals := 143 }) [.ref (ad 20)] (wl E ad n L σ) r (wl E ad n L σo) := by
  refine fun sz => ent (by decide) (Nat.le_of_ble_eq_true rfl) ?_
  intro p e s m below meth c hsz cx wo ls hl
  have hx := cx.1.1
  have hb := cx.1.2.1
  have hown := cx.1.2.2.2.1
  have hts := cx.1.2.2.2.2
  have hl : lv_has ls 3 [(0, .ref (ad 20))] := hl
  have m20 : 20 ∈ L := hL 20 (by decide)
  have m21 : 21 ∈ L := hL 21 (by decide)
  have m22 : 22 ∈ L := hL 22 (by decide)
  have m23 : 23 ∈ L := hL 23 (by decide)
  have m24 : 24 ∈ L := hL 24 (by decide)
  have m25 : 25 ∈ L := hL 25 (by decide)
  have m26 : 26 ∈ L := hL 26 (by decide)
  rw [D_MD_open] at hD
  refine lv_aload_n hx hb d_MD_open_0 rfl (lv_at hl 0 rfl) ?_
  refine lv_aload_n hx hb d_MD_open_1 rfl (lv_at hl 0 rfl) ?_
  refine g_get cx wo m20 (cel_20 E ad n σ) rfl in_MD 12 (by decide) wf_MD_31 rfl d_MD_open_2 ?_
  refine lv_iconst (v := 1) hx hb d_MD_open_5 (by decide) ?_
  obtain ⟨⟨σ2, x1⟩, hcx1, hD⟩ := bd_s hD
  try dsimp only [nm2] at hD
  refine call_Vi cx wo (k_MD_fails l E ad n L (fun a h => hL a ((by decide : ∀ a ∈ ([20] : List Nat), a ∈ ([20, 21, 22, 23, 24, 25, 26] : List Nat)) a h)) F σ σ2 (σ.1 20 12) (1 : Int32) x1 hcx1) m20 (cel_20 E ad n σ) rfl rfl mw_MD_fails wm_MD_100 ⟨by decide, by decide⟩ ⟨by decide, by decide⟩ hl.1 rfl (Nat.le_of_ble_eq_true rfl) d_MD_open_6 (fun H locs wo => ?_)
  refine lv_if_eq (tgt := 14) hx hb d_MD_open_9 (by decide) (fun c3 => ?_) (fun c3 => ?_)
  · have hD := ite_p hD c3
    refine lv_iconst (v := 0) hx hb d_MD_open_14 (by decide) ?_
    refine lv_istore_n (lv' := [(1, .int (0 : Int32)), (0, .ref (ad 20))]) hx hb d_MD_open_15 rfl hl (by decide) rfl (fun ls hl => ?_)
    have lp24 : ∀ (k6 : Nat) (σ4 : HS) (x7 : Int32) (H : Heap) (locs : List Loc) (ls : Array Slot) (res5 : HS), D_MD_open_L16 F n  k6 σ4 x7 = some res5 → (∀ (σ23 : HS) (H : Heap) (locs : List Loc) (ls : Array Slot), res5 = σ23 → Wo E (va_A (wl E ad n L σ) sz) s.heap (wl E ad n L σ23) H locs → lv_has ls 3 [(0, .ref (ad 20))] → W p l e ({ frames := 6, cells := 0, slots := 0, locals := 143 }) s m ([.ref (ad 20)] : List Value).toArray below meth c H locs 0 0 (MQ below (va_Qi (fun (x : Int32) (_ : Unit) => x = r) (fun _ t => va_P E.1 cls6 (wl E ad n L σo) t.heap ∧ va_D (va_A (wl E ad n L σ) sz) (wl E ad n L σo)) (va_A (wl E ad n L σ) sz)) ([.ref (ad 20)] : List Value).toArray s 0 0 (va_A (wl E ad n L σ) sz)) (F0 m 68 ls [])) → Wo E (va_A (wl E ad n L σ) sz) s.heap (wl E ad n L σ4) H locs → lv_has ls 3 [(1, .int x7), (0, .ref (ad 20))] → W p l e ({ frames := 6, cells := 0, slots := 0, locals := 143 }) s m ([.ref (ad 20)] : List Value).toArray below meth c H locs 0 0 (MQ below (va_Qi (fun (x : Int32) (_ : Unit) => x = r) (fun _ t => va_P E.1 cls6 (wl E ad n L σo) t.heap ∧ va_D (va_A (wl E ad n L σ) sz) (wl E ad n L σo)) (va_A (wl E ad n L σ) sz)) ([.ref (ad 20)] : List Value).toArray s 0 0 (va_A (wl E ad n L σ) sz)) (F0 m 16 ls []) := by
      intro k6
      induction k6 with
      | zero =>
        intro σ4 x7 H locs ls res5 hD
        rw [D_MD_open_L16.eq_1] at hD
        cases hD
      | succ k6 ih =>
        intro σ4 x7 H locs ls res5 hD hex wo hl
        rw [D_MD_open_L16.eq_2] at hD
        refine lv_iload_n hx hb d_MD_open_16 rfl (lv_at hl 0 rfl) ?_
        refine lv_aload_n hx hb d_MD_open_17 rfl (lv_at hl 1 rfl) ?_
        refine g_get cx wo m20 (cel_20 E ad n σ4) rfl in_MD 3 (by decide) wf_MD_58 rfl d_MD_open_18 ?_
        refine lv_icmp_ge (tgt := 68) hx hb d_MD_open_21 (by decide) (fun c8 => ?_) (fun c8 => ?_)
        · have hD := ite_p hD c8
          exact hex σ4 _ _ _ (Option.some.inj hD).symm wo (lv_sub hl [1] rfl)
        · have hD := ite_n hD c8
          refine lv_iconst (v := 0) hx hb d_MD_open_24 (by decide) ?_
          refine lv_istore_n (lv' := [(2, .int (0 : Int32)), (1, .int x7), (0, .ref (ad 20))]) hx hb d_MD_open_25 rfl hl (by decide) rfl (fun ls hl => ?_)
          have lp19 : ∀ (k11 : Nat) (σ9 : HS) (x12 : Int32) (H : Heap) (locs : List Loc) (ls : Array Slot) (res10 : HS), D_MD_open_L26 F n x7 k11 σ9 x12 = some res10 → (∀ (σ18 : HS) (H : Heap) (locs : List Loc) (ls : Array Slot), res10 = σ18 → Wo E (va_A (wl E ad n L σ) sz) s.heap (wl E ad n L σ18) H locs → lv_has ls 3 [(1, .int x7), (0, .ref (ad 20))] → W p l e ({ frames := 6, cells := 0, slots := 0, locals := 143 }) s m ([.ref (ad 20)] : List Value).toArray below meth c H locs 0 0 (MQ below (va_Qi (fun (x : Int32) (_ : Unit) => x = r) (fun _ t => va_P E.1 cls6 (wl E ad n L σo) t.heap ∧ va_D (va_A (wl E ad n L σ) sz) (wl E ad n L σo)) (va_A (wl E ad n L σ) sz)) ([.ref (ad 20)] : List Value).toArray s 0 0 (va_A (wl E ad n L σ) sz)) (F0 m 62 ls [])) → Wo E (va_A (wl E ad n L σ) sz) s.heap (wl E ad n L σ9) H locs → lv_has ls 3 [(2, .int x12), (1, .int x7), (0, .ref (ad 20))] → W p l e ({ frames := 6, cells := 0, slots := 0, locals := 143 }) s m ([.ref (ad 20)] : List Value).toArray below meth c H locs 0 0 (MQ below (va_Qi (fun (x : Int32) (_ : Unit) => x = r) (fun _ t => va_P E.1 cls6 (wl E ad n L σo) t.heap ∧ va_D (va_A (wl E ad n L σ) sz) (wl E ad n L σo)) (va_A (wl E ad n L σ) sz)) ([.ref (ad 20)] : List Value).toArray s 0 0 (va_A (wl E ad n L σ) sz)) (F0 m 26 ls []) := by
            intro k11
            induction k11 with
            | zero =>
              intro σ9 x12 H locs ls res10 hD
              rw [D_MD_open_L26.eq_1] at hD
              cases hD
            | succ k11 ih =>
              intro σ9 x12 H locs ls res10 hD hex wo hl
              rw [D_MD_open_L26.eq_2] at hD
              refine lv_iload_n hx hb d_MD_open_26 rfl (lv_at hl 0 rfl) ?_
              refine lv_aload_n hx hb d_MD_open_27 rfl (lv_at hl 2 rfl) ?_
              refine g_get cx wo m20 (cel_20 E ad n σ9) rfl in_MD 2 (by decide) wf_MD_55 rfl d_MD_open_28 ?_
              refine lv_aload_n hx hb d_MD_open_31 rfl (lv_at hl 2 rfl) ?_
              refine g_get cx wo m20 (cel_20 E ad n σ9) rfl in_MD 4 (by decide) wf_MD_61 rfl d_MD_open_32 ?_
              refine lv_imul hx hb d_MD_open_35 ?_
              refine lv_icmp_ge (tgt := 62) hx hb d_MD_open_36 (by decide) (fun c13 => ?_) (fun c13 => ?_)
              · have hD := ite_p hD c13
                exact hex σ9 _ _ _ (Option.some.inj hD).symm wo (lv_sub hl [1, 2] rfl)
              · have hD := ite_n hD c13
                refine lv_aload_n hx hb d_MD_open_39 rfl (lv_at hl 2 rfl) ?_
                refine g_get cx wo m20 (cel_20 E ad n σ9) rfl in_MD 11 (by decide) wf_MD_28 rfl d_MD_open_40 ?_
                refine lv_bipush (v := 16) hx hb d_MD_open_43 (by decide) ?_
                refine lv_iload_n hx hb d_MD_open_45 rfl (lv_at hl 1 rfl) ?_
                refine lv_imul hx hb d_MD_open_46 ?_
                refine lv_iload_n hx hb d_MD_open_47 rfl (lv_at hl 0 rfl) ?_
                refine lv_iadd hx hb d_MD_open_48 ?_
                refine lv_aload_n hx hb d_MD_open_49 rfl (lv_at hl 2 rfl) ?_
                refine lv_iload_n hx hb d_MD_open_50 rfl (lv_at hl 1 rfl) ?_
                refine lv_iload_n hx hb d_MD_open_51 rfl (lv_at hl 0 rfl) ?_
                obtain ⟨x14, hcx14, hD⟩ := bd_s hD
                try dsimp only [nm2] at hD
                refine call_Vi cx wo (k_MD_found l E ad n L (fun a h => hL a ((by decide : ∀ a ∈ ([20, 21, 22, 23, 24, 25] : List Nat), a ∈ ([20, 21, 22, 23, 24, 25, 26] : List Nat)) a h)) F σ9  x7 x12 x14 hcx14) m20 (cel_20 E ad n σ9) rfl rfl mw_MD_found wm_MD_81 ⟨by decide, by decide⟩ ⟨by decide, by decide⟩ hl.1 rfl (Nat.le_of_ble_eq_true rfl) d_MD_open_52 (fun H locs wo => ?_)
                obtain ⟨g15, hD⟩ := grd_s hD
                refine g_iast cx wo m26 (cel_26 E ad n) g15 d_MD_open_55 (fun H locs wo => ?_)
                obtain ⟨σ16, eσ16⟩ : ∃ z, z = stI σ9 26 ((((16 : Int32) * x7) + x12)).toNatClampNeg x14 := ⟨_, rfl⟩
                rw [← eσ16] at wo
                have hD := nm_at hD eσ16
                try dsimp only at hD
                obtain ⟨x17, ex17⟩ : ∃ y : Int32, y = x12 + (1 : Int32) := ⟨_, rfl⟩
                have hD := nm_at hD ex17
                try dsimp only at hD
                refine lv_iinc (v := x17) (lv' := [(2, .int x17), (1, .int x7), (0, .ref (ad 20))]) hx hb d_MD_open_56 hl (k := 0) rfl (by rw [ex17]; rfl) (by decide) rfl (fun ls hl => ?_)
                refine lv_goto (tgt := 26) hx hb d_MD_open_59 (by decide) ?_
                exact ih σ16 x17 _ _ _ _ hD hex wo (lv_sub hl [0, 1, 2] rfl)
          obtain ⟨res20, hr21, hD⟩ := bd_s hD
          refine lp19 F σ4 (0 : Int32) _ _ _ _ hr21 (fun σ18 H locs ls hz wo hl => ?_) wo (lv_sub hl [0, 1, 2] rfl)
          have hz := hz.symm
          subst hz
          try dsimp only at hD
          obtain ⟨x22, ex22⟩ : ∃ y : Int32, y = x7 + (1 : Int32) := ⟨_, rfl⟩
          have hD := nm_at hD ex22
          try dsimp only at hD
          refine lv_iinc (v := x22) (lv' := [(1, .int x22), (0, .ref (ad 20))]) hx hb d_MD_open_62 hl (k := 0) rfl (by rw [ex22]; rfl) (by decide) rfl (fun ls hl => ?_)
          refine lv_goto (tgt := 16) hx hb d_MD_open_65 (by decide) ?_
          exact ih σ18 x22 _ _ _ _ hD hex wo (lv_sub hl [0, 1] rfl)
    obtain ⟨res25, hr26, hD⟩ := bd_s hD
    refine lp24 F σ2 (0 : Int32) _ _ _ _ hr26 (fun σ23 H locs ls hz wo hl => ?_) wo (lv_sub hl [0, 1] rfl)
    have hz := hz.symm
    subst hz
    try dsimp only at hD
    refine lv_aload_n hx hb d_MD_open_68 rfl (lv_at hl 0 rfl) ?_
    refine lv_iconst (v := 1) hx hb d_MD_open_69 (by decide) ?_
    refine g_put cx wo m20 (cel_20 E ad n σ23) rfl in_MD t_MD tok_MD n_MD 12 (by decide) wf_MD_31 rfl rfl rfl (Nat.le_of_ble_eq_true rfl) rfl d_MD_open_70 (fun H locs wo => ?_)
    obtain ⟨σ27, eσ27⟩ : ∃ z, z = stF σ23 20 12 (1 : Int32) := ⟨_, rfl⟩
    rw [← eσ27] at wo
    have hD := nm_at hD eσ27
    try dsimp only at hD
    refine lv_aload_n hx hb d_MD_open_73 rfl (lv_at hl 0 rfl) ?_
    refine lv_iconst (v := 0) hx hb d_MD_open_74 (by decide) ?_
    refine g_put cx wo m20 (cel_20 E ad n σ27) rfl in_MD t_MD tok_MD n_MD 15 (by decide) wf_MD_130 rfl rfl rfl (Nat.le_of_ble_eq_true rfl) rfl d_MD_open_75 (fun H locs wo => ?_)
    obtain ⟨σ28, eσ28⟩ : ∃ z, z = stF σ27 20 15 (0 : Int32) := ⟨_, rfl⟩
    rw [← eσ28] at wo
    have hD := nm_at hD eσ28
    try dsimp only at hD
    refine lv_aload_n hx hb d_MD_open_78 rfl (lv_at hl 0 rfl) ?_
    obtain ⟨⟨σ30, x29⟩, hcx29, hD⟩ := bd_s hD
    try dsimp only [nm2] at hD
    refine call_Vi cx wo (k_MD_opens l E ad n L (fun a h => hL a ((by decide : ∀ a ∈ ([20, 21, 22, 23, 24, 25, 26] : List Nat), a ∈ ([20, 21, 22, 23, 24, 25, 26] : List Nat)) a h)) F σ28 σ30  x29 hcx29) m20 (cel_20 E ad n σ28) rfl rfl mw_MD_opens wm_MD_133 ⟨by decide, by decide⟩ ⟨by decide, by decide⟩ hl.1 rfl (Nat.le_of_ble_eq_true rfl) d_MD_open_79 (fun H locs wo => ?_)
    refine lv_if_ne (tgt := 87) hx hb d_MD_open_82 (by decide) (fun c31 => ?_) (fun c31 => ?_)
    · have hD := ite_n hD c31
      refine lv_aload_n hx hb d_MD_open_87 rfl (lv_at hl 0 rfl) ?_
      refine lv_iconst (v := 0) hx hb d_MD_open_88 (by decide) ?_
      refine g_put cx wo m20 (cel_20 E ad n σ30) rfl in_MD t_MD tok_MD n_MD 20 (by decide) wf_MD_124 rfl rfl rfl (Nat.le_of_ble_eq_true rfl) rfl d_MD_open_89 (fun H locs wo => ?_)
      obtain ⟨σ32, eσ32⟩ : ∃ z, z = stF σ30 20 20 (0 : Int32) := ⟨_, rfl⟩
      rw [← eσ32] at wo
      have hD := nm_at hD eσ32
      try dsimp only at hD
      refine lv_iconst (v := 1) hx hb d_MD_open_92 (by decide) ?_
      cases hD
      exact t_ireti cx wo rfl rfl d_MD_open_93
    · have hD := ite_p hD c31
      refine lv_iconst (v := 0) hx hb d_MD_open_85 (by decide) ?_
      cases hD
      exact t_ireti cx wo rfl rfl d_MD_open_86
  · have hD := ite_n hD c3
    refine lv_iconst (v := 0) hx hb d_MD_open_12 (by decide) ?_
    cases hD
    exact t_ireti cx wo rfl rfl d_MD_open_13
def D_MD_isSpoilt (F : Nat) (n : Nat → Nat) (σ : HS) (p1 : Int32) (p2 : Int32) : Option (Int32) :=
(D_MD_placeOf F n σ p1 p2).bind (fun (x1 : Int32) =>
  (if x1 < 0 then
    some (0 : Int32)
  else
    (D_MD_isValid F n σ x1 p1).bind (fun (x3 : Int32) =>
    (if x3 = 0 then
      some (1 : Int32)
    else
      some (0 : Int32)))))
set_option maxRecDepth 100000 in
set_option maxHeartbeats 4000000 in
theorem k_MD_isSpoilt (l : Launch) (E : EV) (ad n : Nat → Nat) (L : List Nat) (hL : ∀ a ∈ ([20, 21, 22, 23, 24, 25, 26] : List Nat), a ∈ L) (F : Nat) (σ  : HS) (p1 : Int32) (p2 : Int32) (r : Int32) (hD : D_MD_isSpoilt F n σ p1 p2 = some r) : CtI l E y_MD_isSpoilt c_MD_isSpoilt 4 (some FieldType.boolean) ({ frames := 4, cells := 0, slots := 0, locals := 92 }) [.ref (ad 20), .int p1, .int p2] (wl E ad n L σ) r (wl E ad n L σ) := by
  refine fun sz => ent (by decide) (Nat.le_of_ble_eq_true rfl) ?_
  intro p e s m below meth c hsz cx wo ls hl
  have hx := cx.1.1
  have hb := cx.1.2.1
  have hown := cx.1.2.2.2.1
  have hts := cx.1.2.2.2.2
  have hl : lv_has ls 4 [(0, .ref (ad 20)), (1, .int p1), (2, .int p2)] := hl
  have m20 : 20 ∈ L := hL 20 (by decide)
  have m21 : 21 ∈ L := hL 21 (by decide)
  have m22 : 22 ∈ L := hL 22 (by decide)
  have m23 : 23 ∈ L := hL 23 (by decide)
  have m24 : 24 ∈ L := hL 24 (by decide)
  have m25 : 25 ∈ L := hL 25 (by decide)
  have m26 : 26 ∈ L := hL 26 (by decide)
  rw [D_MD_isSpoilt] at hD
  refine lv_aload_n hx hb d_MD_isSpoilt_0 rfl (lv_at hl 0 rfl) ?_
  refine lv_iload_n hx hb d_MD_isSpoilt_1 rfl (lv_at hl 1 rfl) ?_
  refine lv_iload_n hx hb d_MD_isSpoilt_2 rfl (lv_at hl 2 rfl) ?_
  obtain ⟨x1, hcx1, hD⟩ := bd_s hD
  try dsimp only [nm2] at hD
  refine call_Vi cx wo (k_MD_placeOf l E ad n L (fun a h => hL a ((by decide : ∀ a ∈ ([20, 21, 22, 23, 24, 25, 26] : List Nat), a ∈ ([20, 21, 22, 23, 24, 25, 26] : List Nat)) a h)) F σ  p1 p2 x1 hcx1) m20 (cel_20 E ad n σ) rfl rfl mw_MD_placeOf wm_MD_84 ⟨by decide, by decide⟩ ⟨by decide, by decide⟩ hl.1 rfl (Nat.le_of_ble_eq_true rfl) d_MD_isSpoilt_3 (fun H locs wo => ?_)
  refine lv_istore_n (lv' := [(3, .int x1), (0, .ref (ad 20)), (1, .int p1), (2, .int p2)]) hx hb d_MD_isSpoilt_6 rfl hl (by decide) rfl (fun ls hl => ?_)
  refine lv_iload_n hx hb d_MD_isSpoilt_7 rfl (lv_at hl 0 rfl) ?_
  refine lv_if_lt (tgt := 24) hx hb d_MD_isSpoilt_8 (by decide) (fun c2 => ?_) (fun c2 => ?_)
  · have hD := ite_p hD c2
    refine lv_iconst (v := 0) hx hb d_MD_isSpoilt_24 (by decide) ?_
    cases hD
    exact t_ireti cx wo rfl rfl d_MD_isSpoilt_25
  · have hD := ite_n hD c2
    refine lv_aload_n hx hb d_MD_isSpoilt_11 rfl (lv_at hl 1 rfl) ?_
    refine lv_iload_n hx hb d_MD_isSpoilt_12 rfl (lv_at hl 0 rfl) ?_
    refine lv_iload_n hx hb d_MD_isSpoilt_13 rfl (lv_at hl 2 rfl) ?_
    obtain ⟨x3, hcx3, hD⟩ := bd_s hD
    try dsimp only [nm2] at hD
    refine call_Vi cx wo (k_MD_isValid l E ad n L (fun a h => hL a ((by decide : ∀ a ∈ ([20, 22, 23, 25] : List Nat), a ∈ ([20, 21, 22, 23, 24, 25, 26] : List Nat)) a h)) F σ  x1 p1 x3 hcx3) m20 (cel_20 E ad n σ) rfl rfl mw_MD_isValid wm_MD_77 ⟨by decide, by decide⟩ ⟨by decide, by decide⟩ hl.1 rfl (Nat.le_of_ble_eq_true rfl) d_MD_isSpoilt_14 (fun H locs wo => ?_)
    refine lv_if_ne (tgt := 24) hx hb d_MD_isSpoilt_17 (by decide) (fun c4 => ?_) (fun c4 => ?_)
    · have hD := ite_n hD c4
      refine lv_iconst (v := 0) hx hb d_MD_isSpoilt_24 (by decide) ?_
      cases hD
      exact t_ireti cx wo rfl rfl d_MD_isSpoilt_25
    · have hD := ite_p hD c4
      refine lv_iconst (v := 1) hx hb d_MD_isSpoilt_20 (by decide) ?_
      refine lv_goto (tgt := 25) hx hb d_MD_isSpoilt_21 (by decide) ?_
      cases hD
      exact t_ireti cx wo rfl rfl d_MD_isSpoilt_25
def D_MD_bad_L20 (F : Nat) (n : Nat → Nat) (σ : HS) (x2 : Int32) (p1 : Int32) (p3 : Int32) : Nat → Int32 → Int32 → Option (Int32)
  | 0, _, _ => none
  | k4 + 1, x5, x6 =>
      (if (x2 + (σ.1 20 2)) ≤ x5 then
        some x6
      else
        (D_MD_placeOf F n σ p1 x5).bind (fun (x8 : Int32) =>
        (if x8 < 0 then
          nm (x6 + (1 : Int32)) (fun x10 =>
          nm (x5 + (1 : Int32)) (fun x11 =>
          D_MD_bad_L20 F n σ x2 p1 p3 k4 x11 x10))
        else
          (if x8 = p3 then
            nm (x6 + (1 : Int32)) (fun x13 =>
            nm (x5 + (1 : Int32)) (fun x14 =>
            D_MD_bad_L20 F n σ x2 p1 p3 k4 x14 x13))
          else
            (D_MD_isSpoilt F n σ p1 x5).bind (fun (x15 : Int32) =>
            (if x15 = 0 then
              nm (x6 + (0 : Int32)) (fun x17 =>
              nm (x5 + (1 : Int32)) (fun x18 =>
              D_MD_bad_L20 F n σ x2 p1 p3 k4 x18 x17))
            else
              nm (x6 + (1 : Int32)) (fun x19 =>
              nm (x5 + (1 : Int32)) (fun x20 =>
              D_MD_bad_L20 F n σ x2 p1 p3 k4 x20 x19))))))))
def D_MD_bad (F : Nat) (n : Nat → Nat) (σ : HS) (p1 : Int32) (p2 : Int32) (p3 : Int32) : Option (Int32) :=
grd (decide (¬ (σ.1 20 2) = 0)) (
  nm ((p2 / (σ.1 20 2)) * (σ.1 20 2)) (fun x2 =>
  (D_MD_bad_L20 F n σ x2 p1 p3 F x2 (0 : Int32)).bind (fun (x21 : Int32) =>
  some x21)))
set_option maxRecDepth 100000 in
set_option maxHeartbeats 4000000 in
theorem k_MD_bad (l : Launch) (E : EV) (ad n : Nat → Nat) (L : List Nat) (hL : ∀ a ∈ ([20, 21, 22, 23, 24, 25, 26] : List Nat), a ∈ L) (F : Nat) (σ  : HS) (p1 : Int32) (p2 : Int32) (p3 : Int32) (r : Int32) (hD : D_MD_bad F n σ p1 p2 p3 = some r) : CtI l E y_MD_bad c_MD_bad 8 (some FieldType.int) ({ frames := 5, cells := 0, slots := 0, locals := 115 }) [.ref (ad 20), .int p1, .int p2, .int p3] (wl E ad n L σ) r (wl E ad n L σ) := by
  refine fun sz => ent (by decide) (Nat.le_of_ble_eq_true rfl) ?_
  intro p e s m below meth c hsz cx wo ls hl
  have hx := cx.1.1
  have hb := cx.1.2.1
  have hown := cx.1.2.2.2.1
  have hts := cx.1.2.2.2.2
  have hl : lv_has ls 8 [(0, .ref (ad 20)), (1, .int p1), (2, .int p2), (3, .int p3)] := hl
  have m20 : 20 ∈ L := hL 20 (by decide)
  have m21 : 21 ∈ L := hL 21 (by decide)
  have m22 : 22 ∈ L := hL 22 (by decide)
  have m23 : 23 ∈ L := hL 23 (by decide)
  have m24 : 24 ∈ L := hL 24 (by decide)
  have m25 : 25 ∈ L := hL 25 (by decide)
  have m26 : 26 ∈ L := hL 26 (by decide)
  rw [D_MD_bad] at hD
  refine lv_iload_n hx hb d_MD_bad_0 rfl (lv_at hl 2 rfl) ?_
  refine lv_aload_n hx hb d_MD_bad_1 rfl (lv_at hl 0 rfl) ?_
  refine g_get cx wo m20 (cel_20 E ad n σ) rfl in_MD 2 (by decide) wf_MD_55 rfl d_MD_bad_2 ?_
  obtain ⟨g1, hD⟩ := grd_s hD
  refine lv_idiv hx hb d_MD_bad_5 (of_decide_eq_true g1) ?_
  refine lv_aload_n hx hb d_MD_bad_6 rfl (lv_at hl 0 rfl) ?_
  refine g_get cx wo m20 (cel_20 E ad n σ) rfl in_MD 2 (by decide) wf_MD_55 rfl d_MD_bad_7 ?_
  refine lv_imul hx hb d_MD_bad_10 ?_
  refine lv_topi (fun x2 ex2 => ?_)
  have hD := nm_at hD ex2
  try dsimp only at hD
  refine lv_istore (lv' := [(4, .int x2), (0, .ref (ad 20)), (1, .int p1), (2, .int p2), (3, .int p3)]) hx hb d_MD_bad_11 hl (by decide) rfl (fun ls hl => ?_)
  refine lv_iconst (v := 0) hx hb d_MD_bad_13 (by decide) ?_
  refine lv_istore (lv' := [(5, .int (0 : Int32)), (4, .int x2), (0, .ref (ad 20)), (1, .int p1), (2, .int p2), (3, .int p3)]) hx hb d_MD_bad_14 hl (by decide) rfl (fun ls hl => ?_)
  refine lv_iload hx hb d_MD_bad_16 (lv_at hl 1 rfl) ?_
  refine lv_istore (lv' := [(6, .int x2), (5, .int (0 : Int32)), (4, .int x2), (0, .ref (ad 20)), (1, .int p1), (2, .int p2), (3, .int p3)]) hx hb d_MD_bad_18 hl (by decide) rfl (fun ls hl => ?_)
  have lp22 : ∀ (k4 : Nat) (x5 : Int32) (x6 : Int32) (H : Heap) (locs : List Loc) (ls : Array Slot) (res3 : Int32), D_MD_bad_L20 F n σ x2 p1 p3 k4 x5 x6 = some res3 → (∀ (x21 : Int32) (H : Heap) (locs : List Loc) (ls : Array Slot), res3 = x21 → Wo E (va_A (wl E ad n L σ) sz) s.heap (wl E ad n L σ) H locs → lv_has ls 8 [(5, .int x21)] → W p l e ({ frames := 5, cells := 0, slots := 0, locals := 115 }) s m ([.ref (ad 20), .int p1, .int p2, .int p3] : List Value).toArray below meth c H locs 0 0 (MQ below (va_Qi (fun (x : Int32) (_ : Unit) => x = r) (fun _ t => va_P E.1 cls6 (wl E ad n L σ) t.heap ∧ va_D (va_A (wl E ad n L σ) sz) (wl E ad n L σ)) (va_A (wl E ad n L σ) sz)) ([.ref (ad 20), .int p1, .int p2, .int p3] : List Value).toArray s 0 0 (va_A (wl E ad n L σ) sz)) (F0 m 78 ls [])) → Wo E (va_A (wl E ad n L σ) sz) s.heap (wl E ad n L σ) H locs → lv_has ls 8 [(6, .int x5), (5, .int x6), (4, .int x2), (0, .ref (ad 20)), (1, .int p1), (3, .int p3)] → W p l e ({ frames := 5, cells := 0, slots := 0, locals := 115 }) s m ([.ref (ad 20), .int p1, .int p2, .int p3] : List Value).toArray below meth c H locs 0 0 (MQ below (va_Qi (fun (x : Int32) (_ : Unit) => x = r) (fun _ t => va_P E.1 cls6 (wl E ad n L σ) t.heap ∧ va_D (va_A (wl E ad n L σ) sz) (wl E ad n L σ)) (va_A (wl E ad n L σ) sz)) ([.ref (ad 20), .int p1, .int p2, .int p3] : List Value).toArray s 0 0 (va_A (wl E ad n L σ) sz)) (F0 m 20 ls []) := by
    intro k4
    induction k4 with
    | zero =>
      intro x5 x6 H locs ls res3 hD
      rw [D_MD_bad_L20.eq_1] at hD
      cases hD
    | succ k4 ih =>
      intro x5 x6 H locs ls res3 hD hex wo hl
      rw [D_MD_bad_L20.eq_2] at hD
      refine lv_iload hx hb d_MD_bad_20 (lv_at hl 0 rfl) ?_
      refine lv_iload hx hb d_MD_bad_22 (lv_at hl 2 rfl) ?_
      refine lv_aload_n hx hb d_MD_bad_24 rfl (lv_at hl 3 rfl) ?_
      refine g_get cx wo m20 (cel_20 E ad n σ) rfl in_MD 2 (by decide) wf_MD_55 rfl d_MD_bad_25 ?_
      refine lv_iadd hx hb d_MD_bad_28 ?_
      refine lv_icmp_ge (tgt := 78) hx hb d_MD_bad_29 (by decide) (fun c7 => ?_) (fun c7 => ?_)
      · have hD := ite_p hD c7
        exact hex x6 _ _ _ (Option.some.inj hD).symm wo (lv_sub hl [1] rfl)
      · have hD := ite_n hD c7
        refine lv_aload_n hx hb d_MD_bad_32 rfl (lv_at hl 3 rfl) ?_
        refine lv_iload_n hx hb d_MD_bad_33 rfl (lv_at hl 4 rfl) ?_
        refine lv_iload hx hb d_MD_bad_34 (lv_at hl 0 rfl) ?_
        obtain ⟨x8, hcx8, hD⟩ := bd_s hD
        try dsimp only [nm2] at hD
        refine call_Vi cx wo (k_MD_placeOf l E ad n L (fun a h => hL a ((by decide : ∀ a ∈ ([20, 21, 22, 23, 24, 25, 26] : List Nat), a ∈ ([20, 21, 22, 23, 24, 25, 26] : List Nat)) a h)) F σ  p1 x5 x8 hcx8) m20 (cel_20 E ad n σ) rfl rfl mw_MD_placeOf wm_MD_84 ⟨by decide, by decide⟩ ⟨by decide, by decide⟩ hl.1 rfl (Nat.le_of_ble_eq_true rfl) d_MD_bad_36 (fun H locs wo => ?_)
        refine lv_istore (lv' := [(7, .int x8), (6, .int x5), (5, .int x6), (4, .int x2), (0, .ref (ad 20)), (1, .int p1), (3, .int p3)]) hx hb d_MD_bad_39 hl (by decide) rfl (fun ls hl => ?_)
        refine lv_iload hx hb d_MD_bad_41 (lv_at hl 2 rfl) ?_
        refine lv_iload hx hb d_MD_bad_43 (lv_at hl 0 rfl) ?_
        refine lv_if_lt (tgt := 64) hx hb d_MD_bad_45 (by decide) (fun c9 => ?_) (fun c9 => ?_)
        · have hD := ite_p hD c9
          refine lv_iconst (v := 1) hx hb d_MD_bad_64 (by decide) ?_
          refine lv_goto (tgt := 69) hx hb d_MD_bad_65 (by decide) ?_
          refine lv_iadd hx hb d_MD_bad_69 ?_
          refine lv_topi (fun x10 ex10 => ?_)
          have hD := nm_at hD ex10
          try dsimp only at hD
          refine lv_istore (lv' := [(5, .int x10), (7, .int x8), (6, .int x5), (4, .int x2), (0, .ref (ad 20)), (1, .int p1), (3, .int p3)]) hx hb d_MD_bad_70 hl (by decide) rfl (fun ls hl => ?_)
          obtain ⟨x11, ex11⟩ : ∃ y : Int32, y = x5 + (1 : Int32) := ⟨_, rfl⟩
          have hD := nm_at hD ex11
          try dsimp only at hD
          refine lv_iinc (v := x11) (lv' := [(6, .int x11), (5, .int x10), (7, .int x8), (4, .int x2), (0, .ref (ad 20)), (1, .int p1), (3, .int p3)]) hx hb d_MD_bad_72 hl (k := 2) rfl (by rw [ex11]; rfl) (by decide) rfl (fun ls hl => ?_)
          refine lv_goto (tgt := 20) hx hb d_MD_bad_75 (by decide) ?_
          exact ih x11 x10 _ _ _ _ hD hex wo (lv_sub hl [0, 1, 3, 4, 5, 6] rfl)
        · have hD := ite_n hD c9
          refine lv_iload hx hb d_MD_bad_48 (lv_at hl 0 rfl) ?_
          refine lv_iload_n hx hb d_MD_bad_50 rfl (lv_at hl 6 rfl) ?_
          refine lv_icmp_eq (tgt := 64) hx hb d_MD_bad_51 (by decide) (fun c12 => ?_) (fun c12 => ?_)
          · have hD := ite_p hD c12
            refine lv_iconst (v := 1) hx hb d_MD_bad_64 (by decide) ?_
            refine lv_goto (tgt := 69) hx hb d_MD_bad_65 (by decide) ?_
            refine lv_iadd hx hb d_MD_bad_69 ?_
            refine lv_topi (fun x13 ex13 => ?_)
            have hD := nm_at hD ex13
            try dsimp only at hD
            refine lv_istore (lv' := [(5, .int x13), (7, .int x8), (6, .int x5), (4, .int x2), (0, .ref (ad 20)), (1, .int p1), (3, .int p3)]) hx hb d_MD_bad_70 hl (by decide) rfl (fun ls hl => ?_)
            obtain ⟨x14, ex14⟩ : ∃ y : Int32, y = x5 + (1 : Int32) := ⟨_, rfl⟩
            have hD := nm_at hD ex14
            try dsimp only at hD
            refine lv_iinc (v := x14) (lv' := [(6, .int x14), (5, .int x13), (7, .int x8), (4, .int x2), (0, .ref (ad 20)), (1, .int p1), (3, .int p3)]) hx hb d_MD_bad_72 hl (k := 2) rfl (by rw [ex14]; rfl) (by decide) rfl (fun ls hl => ?_)
            refine lv_goto (tgt := 20) hx hb d_MD_bad_75 (by decide) ?_
            exact ih x14 x13 _ _ _ _ hD hex wo (lv_sub hl [0, 1, 3, 4, 5, 6] rfl)
          · have hD := ite_n hD c12
            refine lv_aload_n hx hb d_MD_bad_54 rfl (lv_at hl 4 rfl) ?_
            refine lv_iload_n hx hb d_MD_bad_55 rfl (lv_at hl 5 rfl) ?_
            refine lv_iload hx hb d_MD_bad_56 (lv_at hl 1 rfl) ?_
            obtain ⟨x15, hcx15, hD⟩ := bd_s hD
            try dsimp only [nm2] at hD
            refine call_Vi cx wo (k_MD_isSpoilt l E ad n L (fun a h => hL a ((by decide : ∀ a ∈ ([20, 21, 22, 23, 24, 25, 26] : List Nat), a ∈ ([20, 21, 22, 23, 24, 25, 26] : List Nat)) a h)) F σ  p1 x5 x15 hcx15) m20 (cel_20 E ad n σ) rfl rfl mw_MD_isSpoilt wm_MD_87 ⟨by decide, by decide⟩ ⟨by decide, by decide⟩ hl.1 rfl (Nat.le_of_ble_eq_true rfl) d_MD_bad_58 (fun H locs wo => ?_)
            refine lv_if_eq (tgt := 68) hx hb d_MD_bad_61 (by decide) (fun c16 => ?_) (fun c16 => ?_)
            · have hD := ite_p hD c16
              refine lv_iconst (v := 0) hx hb d_MD_bad_68 (by decide) ?_
              refine lv_iadd hx hb d_MD_bad_69 ?_
              refine lv_topi (fun x17 ex17 => ?_)
              have hD := nm_at hD ex17
              try dsimp only at hD
              refine lv_istore (lv' := [(5, .int x17), (7, .int x8), (6, .int x5), (4, .int x2), (0, .ref (ad 20)), (1, .int p1), (3, .int p3)]) hx hb d_MD_bad_70 hl (by decide) rfl (fun ls hl => ?_)
              obtain ⟨x18, ex18⟩ : ∃ y : Int32, y = x5 + (1 : Int32) := ⟨_, rfl⟩
              have hD := nm_at hD ex18
              try dsimp only at hD
              refine lv_iinc (v := x18) (lv' := [(6, .int x18), (5, .int x17), (7, .int x8), (4, .int x2), (0, .ref (ad 20)), (1, .int p1), (3, .int p3)]) hx hb d_MD_bad_72 hl (k := 2) rfl (by rw [ex18]; rfl) (by decide) rfl (fun ls hl => ?_)
              refine lv_goto (tgt := 20) hx hb d_MD_bad_75 (by decide) ?_
              exact ih x18 x17 _ _ _ _ hD hex wo (lv_sub hl [0, 1, 3, 4, 5, 6] rfl)
            · have hD := ite_n hD c16
              refine lv_iconst (v := 1) hx hb d_MD_bad_64 (by decide) ?_
              refine lv_goto (tgt := 69) hx hb d_MD_bad_65 (by decide) ?_
              refine lv_iadd hx hb d_MD_bad_69 ?_
              refine lv_topi (fun x19 ex19 => ?_)
              have hD := nm_at hD ex19
              try dsimp only at hD
              refine lv_istore (lv' := [(5, .int x19), (7, .int x8), (6, .int x5), (4, .int x2), (0, .ref (ad 20)), (1, .int p1), (3, .int p3)]) hx hb d_MD_bad_70 hl (by decide) rfl (fun ls hl => ?_)
              obtain ⟨x20, ex20⟩ : ∃ y : Int32, y = x5 + (1 : Int32) := ⟨_, rfl⟩
              have hD := nm_at hD ex20
              try dsimp only at hD
              refine lv_iinc (v := x20) (lv' := [(6, .int x20), (5, .int x19), (7, .int x8), (4, .int x2), (0, .ref (ad 20)), (1, .int p1), (3, .int p3)]) hx hb d_MD_bad_72 hl (k := 2) rfl (by rw [ex20]; rfl) (by decide) rfl (fun ls hl => ?_)
              refine lv_goto (tgt := 20) hx hb d_MD_bad_75 (by decide) ?_
              exact ih x20 x19 _ _ _ _ hD hex wo (lv_sub hl [0, 1, 3, 4, 5, 6] rfl)
  obtain ⟨res23, hr24, hD⟩ := bd_s hD
  refine lp22 F x2 (0 : Int32) _ _ _ _ hr24 (fun x21 H locs ls hz wo hl => ?_) wo (lv_sub hl [0, 1, 2, 3, 4, 6] rfl)
  have hz := hz.symm
  subst hz
  try dsimp only at hD
  refine lv_iload hx hb d_MD_bad_78 (lv_at hl 0 rfl) ?_
  cases hD
  exact t_ireti cx wo rfl rfl d_MD_bad_80
def D_MD_isNeeded_L12 (F : Nat) (n : Nat → Nat) (σ : HS) (x3 : Int32) (p1 : Int32) : Nat → Int32 → Option ((Unit) ⊕ (Int32))
  | 0, _ => none
  | k6 + 1, x7 =>
      (if ((σ.1 20 2) * (σ.1 20 4)) ≤ x7 then
              some (Sum.inl ())
            else
              (D_MD_bad F n σ x3 x7 p1).bind (fun (x9 : Int32) =>
              (if x9 ≤ (1 : Int32) then
                nm (x7 + (σ.1 20 2)) (fun x11 =>
                D_MD_isNeeded_L12 F n σ x3 p1 k6 x11)
              else
                some (Sum.inr (1 : Int32)))))
def D_MD_isNeeded_L2 (F : Nat) (n : Nat → Nat) (σ : HS) (p1 : Int32) : Nat → Int32 → Option ((Unit) ⊕ (Int32))
  | 0, _ => none
  | k2 + 1, x3 =>
      (if (σ.1 20 3) ≤ x3 then
        some (Sum.inl ())
      else
        (D_MD_isNeeded_L12 F n σ x3 p1 F (0 : Int32)).bind (fun q16 => match q16 with
          | Sum.inl _ =>
            nm (x3 + (1 : Int32)) (fun x15 =>
          D_MD_isNeeded_L2 F n σ p1 k2 x15)
          | Sum.inr z => some (Sum.inr z)))
def D_MD_isNeeded (F : Nat) (n : Nat → Nat) (σ : HS) (p1 : Int32) : Option (Int32) :=
(D_MD_isNeeded_L2 F n σ p1 F (0 : Int32)).bind (fun q20 => match q20 with
    | Sum.inl _ =>
      some (0 : Int32)
    | Sum.inr z => some z)
set_option maxRecDepth 100000 in
set_option maxHeartbeats 4000000 in
theorem k_MD_isNeeded (l : Launch) (E : EV) (ad n : Nat → Nat) (L : List Nat) (hL : ∀ a ∈ ([20, 21, 22, 23, 24, 25, 26] : List Nat), a ∈ L) (F : Nat) (σ  : HS) (p1 : Int32) (r : Int32) (hD : D_MD_isNeeded F n σ p1 = some r) : CtI l E y_MD_isNeeded c_MD_isNeeded 4 (some FieldType.boolean) ({ frames := 6, cells := 0, slots := 0, locals := 142 }) [.ref (ad 20), .int p1] (wl E ad n L σ) r (wl E ad n L σ) := by
  refine fun sz => ent (by decide) (Nat.le_of_ble_eq_true rfl) ?_
  intro p e s m below meth c hsz cx wo ls hl
  have hx := cx.1.1
  have hb := cx.1.2.1
  have hown := cx.1.2.2.2.1
  have hts := cx.1.2.2.2.2
  have hl : lv_has ls 4 [(0, .ref (ad 20)), (1, .int p1)] := hl
  have m20 : 20 ∈ L := hL 20 (by decide)
  have m21 : 21 ∈ L := hL 21 (by decide)
  have m22 : 22 ∈ L := hL 22 (by decide)
  have m23 : 23 ∈ L := hL 23 (by decide)
  have m24 : 24 ∈ L := hL 24 (by decide)
  have m25 : 25 ∈ L := hL 25 (by decide)
  have m26 : 26 ∈ L := hL 26 (by decide)
  rw [D_MD_isNeeded] at hD
  refine lv_iconst (v := 0) hx hb d_MD_isNeeded_0 (by decide) ?_
  refine lv_istore_n (lv' := [(2, .int (0 : Int32)), (0, .ref (ad 20)), (1, .int p1)]) hx hb d_MD_isNeeded_1 rfl hl (by decide) rfl (fun ls hl => ?_)
  have lp17 : ∀ (k2 : Nat) (x3 : Int32) (H : Heap) (locs : List Loc) (ls : Array Slot) (res1 : (Unit) ⊕ (Int32)), D_MD_isNeeded_L2 F n σ p1 k2 x3 = some res1 → (∀ z, res1 = Sum.inr z → r = z) → (∀  (H : Heap) (locs : List Loc) (ls : Array Slot), res1 = Sum.inl () → Wo E (va_A (wl E ad n L σ) sz) s.heap (wl E ad n L σ) H locs → lv_has ls 4 [] → W p l e ({ frames := 6, cells := 0, slots := 0, locals := 142 }) s m ([.ref (ad 20), .int p1] : List Value).toArray below meth c H locs 0 0 (MQ below (va_Qi (fun (x : Int32) (_ : Unit) => x = r) (fun _ t => va_P E.1 cls6 (wl E ad n L σ) t.heap ∧ va_D (va_A (wl E ad n L σ) sz) (wl E ad n L σ)) (va_A (wl E ad n L σ) sz)) ([.ref (ad 20), .int p1] : List Value).toArray s 0 0 (va_A (wl E ad n L σ) sz)) (F0 m 54 ls [])) → Wo E (va_A (wl E ad n L σ) sz) s.heap (wl E ad n L σ) H locs → lv_has ls 4 [(2, .int x3), (0, .ref (ad 20)), (1, .int p1)] → W p l e ({ frames := 6, cells := 0, slots := 0, locals := 142 }) s m ([.ref (ad 20), .int p1] : List Value).toArray below meth c H locs 0 0 (MQ below (va_Qi (fun (x : Int32) (_ : Unit) => x = r) (fun _ t => va_P E.1 cls6 (wl E ad n L σ) t.heap ∧ va_D (va_A (wl E ad n L σ) sz) (wl E ad n L σ)) (va_A (wl E ad n L σ) sz)) ([.ref (ad 20), .int p1] : List Value).toArray s 0 0 (va_A (wl E ad n L σ) sz)) (F0 m 2 ls []) := by
    intro k2
    induction k2 with
    | zero =>
      intro x3 H locs ls res1 hD
      rw [D_MD_isNeeded_L2.eq_1] at hD
      cases hD
    | succ k2 ih =>
      intro x3 H locs ls res1 hD hret hex wo hl
      rw [D_MD_isNeeded_L2.eq_2] at hD
      refine lv_iload_n hx hb d_MD_isNeeded_2 rfl (lv_at hl 0 rfl) ?_
      refine lv_aload_n hx hb d_MD_isNeeded_3 rfl (lv_at hl 1 rfl) ?_
      refine g_get cx wo m20 (cel_20 E ad n σ) rfl in_MD 3 (by decide) wf_MD_58 rfl d_MD_isNeeded_4 ?_
      refine lv_icmp_ge (tgt := 54) hx hb d_MD_isNeeded_7 (by decide) (fun c4 => ?_) (fun c4 => ?_)
      · have hD := ite_p hD c4
        exact hex  _ _ _ (Option.some.inj hD).symm wo (lv_sub hl [] rfl)
      · have hD := ite_n hD c4
        refine lv_iconst (v := 0) hx hb d_MD_isNeeded_10 (by decide) ?_
        refine lv_istore_n (lv' := [(3, .int (0 : Int32)), (2, .int x3), (0, .ref (ad 20)), (1, .int p1)]) hx hb d_MD_isNeeded_11 rfl hl (by decide) rfl (fun ls hl => ?_)
        have lp12 : ∀ (k6 : Nat) (x7 : Int32) (H : Heap) (locs : List Loc) (ls : Array Slot) (res5 : (Unit) ⊕ (Int32)), D_MD_isNeeded_L12 F n σ x3 p1 k6 x7 = some res5 → (∀ z, res5 = Sum.inr z → r = z) → (∀  (H : Heap) (locs : List Loc) (ls : Array Slot), res5 = Sum.inl () → Wo E (va_A (wl E ad n L σ) sz) s.heap (wl E ad n L σ) H locs → lv_has ls 4 [(2, .int x3), (0, .ref (ad 20)), (1, .int p1)] → W p l e ({ frames := 6, cells := 0, slots := 0, locals := 142 }) s m ([.ref (ad 20), .int p1] : List Value).toArray below meth c H locs 0 0 (MQ below (va_Qi (fun (x : Int32) (_ : Unit) => x = r) (fun _ t => va_P E.1 cls6 (wl E ad n L σ) t.heap ∧ va_D (va_A (wl E ad n L σ) sz) (wl E ad n L σ)) (va_A (wl E ad n L σ) sz)) ([.ref (ad 20), .int p1] : List Value).toArray s 0 0 (va_A (wl E ad n L σ) sz)) (F0 m 48 ls [])) → Wo E (va_A (wl E ad n L σ) sz) s.heap (wl E ad n L σ) H locs → lv_has ls 4 [(3, .int x7), (2, .int x3), (0, .ref (ad 20)), (1, .int p1)] → W p l e ({ frames := 6, cells := 0, slots := 0, locals := 142 }) s m ([.ref (ad 20), .int p1] : List Value).toArray below meth c H locs 0 0 (MQ below (va_Qi (fun (x : Int32) (_ : Unit) => x = r) (fun _ t => va_P E.1 cls6 (wl E ad n L σ) t.heap ∧ va_D (va_A (wl E ad n L σ) sz) (wl E ad n L σ)) (va_A (wl E ad n L σ) sz)) ([.ref (ad 20), .int p1] : List Value).toArray s 0 0 (va_A (wl E ad n L σ) sz)) (F0 m 12 ls []) := by
          intro k6
          induction k6 with
          | zero =>
            intro x7 H locs ls res5 hD
            rw [D_MD_isNeeded_L12.eq_1] at hD
            cases hD
          | succ k6 ih =>
            intro x7 H locs ls res5 hD hret hex wo hl
            rw [D_MD_isNeeded_L12.eq_2] at hD
            refine lv_iload_n hx hb d_MD_isNeeded_12 rfl (lv_at hl 0 rfl) ?_
            refine lv_aload_n hx hb d_MD_isNeeded_13 rfl (lv_at hl 2 rfl) ?_
            refine g_get cx wo m20 (cel_20 E ad n σ) rfl in_MD 2 (by decide) wf_MD_55 rfl d_MD_isNeeded_14 ?_
            refine lv_aload_n hx hb d_MD_isNeeded_17 rfl (lv_at hl 2 rfl) ?_
            refine g_get cx wo m20 (cel_20 E ad n σ) rfl in_MD 4 (by decide) wf_MD_61 rfl d_MD_isNeeded_18 ?_
            refine lv_imul hx hb d_MD_isNeeded_21 ?_
            refine lv_icmp_ge (tgt := 48) hx hb d_MD_isNeeded_22 (by decide) (fun c8 => ?_) (fun c8 => ?_)
            · have hD := ite_p hD c8
              exact hex  _ _ _ (Option.some.inj hD).symm wo (lv_sub hl [1, 2, 3] rfl)
            · have hD := ite_n hD c8
              refine lv_aload_n hx hb d_MD_isNeeded_25 rfl (lv_at hl 2 rfl) ?_
              refine lv_iload_n hx hb d_MD_isNeeded_26 rfl (lv_at hl 1 rfl) ?_
              refine lv_iload_n hx hb d_MD_isNeeded_27 rfl (lv_at hl 0 rfl) ?_
              refine lv_iload_n hx hb d_MD_isNeeded_28 rfl (lv_at hl 3 rfl) ?_
              obtain ⟨x9, hcx9, hD⟩ := bd_s hD
              try dsimp only [nm2] at hD
              refine call_Vi cx wo (k_MD_bad l E ad n L (fun a h => hL a ((by decide : ∀ a ∈ ([20, 21, 22, 23, 24, 25, 26] : List Nat), a ∈ ([20, 21, 22, 23, 24, 25, 26] : List Nat)) a h)) F σ  x3 x7 p1 x9 hcx9) m20 (cel_20 E ad n σ) rfl rfl mw_MD_bad wm_MD_90 ⟨by decide, by decide⟩ ⟨by decide, by decide⟩ hl.1 rfl (Nat.le_of_ble_eq_true rfl) d_MD_isNeeded_29 (fun H locs wo => ?_)
              refine lv_iconst (v := 1) hx hb d_MD_isNeeded_32 (by decide) ?_
              refine lv_icmp_le (tgt := 38) hx hb d_MD_isNeeded_33 (by decide) (fun c10 => ?_) (fun c10 => ?_)
              · have hD := ite_p hD c10
                refine lv_iload_n hx hb d_MD_isNeeded_38 rfl (lv_at hl 0 rfl) ?_
                refine lv_aload_n hx hb d_MD_isNeeded_39 rfl (lv_at hl 2 rfl) ?_
                refine g_get cx wo m20 (cel_20 E ad n σ) rfl in_MD 2 (by decide) wf_MD_55 rfl d_MD_isNeeded_40 ?_
                refine lv_iadd hx hb d_MD_isNeeded_43 ?_
                refine lv_topi (fun x11 ex11 => ?_)
                have hD := nm_at hD ex11
                try dsimp only at hD
                refine lv_istore_n (lv' := [(3, .int x11), (2, .int x3), (0, .ref (ad 20)), (1, .int p1)]) hx hb d_MD_isNeeded_44 rfl hl (by decide) rfl (fun ls hl => ?_)
                refine lv_goto (tgt := 12) hx hb d_MD_isNeeded_45 (by decide) ?_
                exact ih x11 _ _ _ _ hD hret hex wo (lv_sub hl [0, 1, 2, 3] rfl)
              · have hD := ite_n hD c10
                refine lv_iconst (v := 1) hx hb d_MD_isNeeded_36 (by decide) ?_
                have hz := hret _ (Option.some.inj hD).symm
                cases hz
                exact t_ireti cx wo rfl rfl d_MD_isNeeded_37
        obtain ⟨res13, hr14, hD⟩ := bd_s hD
        refine lp12 F (0 : Int32) _ _ _ _ hr14 (fun z hz => by subst hz; exact hret _ (Option.some.inj hD).symm) (fun  H locs ls hz wo hl => ?_) wo (lv_sub hl [0, 1, 2, 3] rfl)
        subst hz
        try dsimp only at hD
        obtain ⟨x15, ex15⟩ : ∃ y : Int32, y = x3 + (1 : Int32) := ⟨_, rfl⟩
        have hD := nm_at hD ex15
        try dsimp only at hD
        refine lv_iinc (v := x15) (lv' := [(2, .int x15), (0, .ref (ad 20)), (1, .int p1)]) hx hb d_MD_isNeeded_48 hl (k := 0) rfl (by rw [ex15]; rfl) (by decide) rfl (fun ls hl => ?_)
        refine lv_goto (tgt := 2) hx hb d_MD_isNeeded_51 (by decide) ?_
        exact ih x15 _ _ _ _ hD hret hex wo (lv_sub hl [0, 1, 2] rfl)
  obtain ⟨res18, hr19, hD⟩ := bd_s hD
  refine lp17 F (0 : Int32) _ _ _ _ hr19 (fun z hz => by subst hz; exact (Option.some.inj hD).symm) (fun  H locs ls hz wo hl => ?_) wo (lv_sub hl [0, 1, 2] rfl)
  subst hz
  try dsimp only at hD
  refine lv_iconst (v := 0) hx hb d_MD_isNeeded_54 (by decide) ?_
  cases hD
  exact t_ireti cx wo rfl rfl d_MD_isNeeded_55
def D_MD_fail_L193 (F : Nat) (n : Nat → Nat)  : Nat → HS → Int32 → Option (HS)
  | 0, _, _ => none
  | k7 + 1, σ5, x8 =>
      (if (64 : Int32) ≤ x8 then
            some σ5
          else
            grd (inb x8 (n 29)) (
            grd (inb (((64 : Int32) * (σ5.1 20 19)) + x8) (n 28)) (
            nm (stI σ5 28 ((((64 : Int32) * (σ5.1 20 19)) + x8)).toNatClampNeg (σ5.1 29 (x8).toNatClampNeg)) (fun σ12 =>
            nm (x8 + (1 : Int32)) (fun x13 =>
            D_MD_fail_L193 F n  k7 σ12 x13)))))
def D_MD_fail_L123 (F : Nat) (n : Nat → Nat) (p1 : Int32) : Nat → HS → Int32 → Option (HS)
  | 0, _, _ => none
  | k26 + 1, σ24, x27 =>
      (if ((16 : Int32) * (σ24.1 20 3)) ≤ x27 then
          some σ24
        else
          (if (σ24.1 20 12) = 0 then
            some σ24
          else
            (if ((σ24.1 20 2) * (σ24.1 20 4)) ≤ (x27 - x27 / (16 : Int32) * (16 : Int32)) then
              nm (x27 + (1 : Int32)) (fun x31 =>
              D_MD_fail_L123 F n p1 k26 σ24 x31)
            else
              grd (inb x27 (n 26)) (
              (if (σ24.1 26 (x27).toNatClampNeg) = p1 then
                grd (inb x27 (n 26)) (
                nm (stI σ24 26 (x27).toNatClampNeg (-1 : Int32)) (fun σ36 =>
                nm (x27 + (1 : Int32)) (fun x37 =>
                D_MD_fail_L123 F n p1 k26 σ36 x37)))
              else
                nm (x27 + (1 : Int32)) (fun x34 =>
                D_MD_fail_L123 F n p1 k26 σ24 x34))))))
def D_MD_fail (F : Nat) (n : Nat → Nat) (σ : HS) (p1 : Int32) : Option (HS × Int32) :=
jn (fun (σ2 : HS) (x3 : Int32) =>
    (if x3 = 0 then
      some (σ2, (1 : Int32))
    else
      (D_MD_fail_L193 F n  F σ2 (0 : Int32)).bind (fun (σ14 : HS) =>
      nm (stF σ14 20 20 (0 : Int32)) (fun σ18 =>
        some (σ18, (1 : Int32))))))
  (fun j1 =>
  jn (fun (σ20 : HS) (x21 : Int32) =>
    grd (inb p1 (n 22)) (
    nm (stI σ20 22 (p1).toNatClampNeg (vp_nar .boolean (0 : Int32))) (fun σ23 =>
    (D_MD_fail_L123 F n p1 F σ23 (0 : Int32)).bind (fun (σ38 : HS) =>
    j1 σ38 x21))))
  (fun j19 =>
  jn (fun (x43 : Int32) =>
    (D_MD_fails F n σ x43 (1 : Int32)).bind (fun (qx44 : HS × Int32) => nm2 qx44 (fun (σ45 : HS) (x44 : Int32) =>
    (if x44 = 0 then
      grd (inb p1 (n 22)) (
      (if (σ45.1 22 (p1).toNatClampNeg) = 0 then
        some (σ45, (0 : Int32))
      else
        (D_MD_isNeeded F n σ45 p1).bind (fun (x49 : Int32) =>
        (if x49 = 0 then
          grd (decide (¬ ((σ45.1 20 2) - (1 : Int32)) = 0)) (
          nm ((σ45.1 20 19) / ((σ45.1 20 2) - (1 : Int32))) (fun x52 =>
          (if (σ45.1 20 12) = 0 then
            (if (σ45.1 20 20) = 0 then
              j19 σ45 (0 : Int32)
            else
              grd (decide (¬ (σ45.1 20 4) = 0)) (
              grd (decide (¬ (σ45.1 20 4) = 0)) (
              grd (decide (¬ ((σ45.1 20 2) - (1 : Int32)) = 0)) (
              (D_MD_found F n σ45 (x52 / (σ45.1 20 4)) (((σ45.1 20 2) * (x52 - x52 / (σ45.1 20 4) * (σ45.1 20 4))) + ((σ45.1 20 19) - (σ45.1 20 19) / ((σ45.1 20 2) - (1 : Int32)) * ((σ45.1 20 2) - (1 : Int32))))).bind (fun (x58 : Int32) =>
              (if x58 = p1 then
                j19 σ45 (1 : Int32)
              else
                j19 σ45 (0 : Int32)))))))
          else
            j19 σ45 (0 : Int32))))
        else
          some (σ45, (0 : Int32))))))
    else
      some (σ45, (0 : Int32))))))
  (fun j42 =>
  (if p1 < 0 then
    j42 (1 : Int32)
  else
    (if p1 < (σ.1 20 1) then
      j42 (0 : Int32)
    else
      j42 (1 : Int32))))))
set_option maxRecDepth 100000 in
set_option maxHeartbeats 4000000 in
theorem k_MD_fail (l : Launch) (E : EV) (ad n : Nat → Nat) (L : List Nat) (hL : ∀ a ∈ ([20, 21, 22, 23, 24, 25, 26, 28, 29] : List Nat), a ∈ L) (F : Nat) (σ σo : HS) (p1 : Int32) (r : Int32) (hD : D_MD_fail F n σ p1 = some (σo, r)) : CtI l E y_MD_fail c_MD_fail 5 (some FieldType.boolean) ({ frames := 7, cells := 0, slots := 0, locals := 165 }) [.ref (ad 20), .int p1] (wl E ad n L σ) r (wl E ad n L σo) := by
  refine fun sz => ent (by decide) (Nat.le_of_ble_eq_true rfl) ?_
  intro p e s m below meth c hsz cx wo ls hl
  have hx := cx.1.1
  have hb := cx.1.2.1
  have hown := cx.1.2.2.2.1
  have hts := cx.1.2.2.2.2
  have hl : lv_has ls 5 [(0, .ref (ad 20)), (1, .int p1)] := hl
  have m20 : 20 ∈ L := hL 20 (by decide)
  have m21 : 21 ∈ L := hL 21 (by decide)
  have m22 : 22 ∈ L := hL 22 (by decide)
  have m23 : 23 ∈ L := hL 23 (by decide)
  have m24 : 24 ∈ L := hL 24 (by decide)
  have m25 : 25 ∈ L := hL 25 (by decide)
  have m26 : 26 ∈ L := hL 26 (by decide)
  have m28 : 28 ∈ L := hL 28 (by decide)
  have m29 : 29 ∈ L := hL 29 (by decide)
  rw [D_MD_fail] at hD
  refine lv_aload_n hx hb d_MD_fail_0 rfl (lv_at hl 0 rfl) ?_
  refine lv_iload_n hx hb d_MD_fail_1 rfl (lv_at hl 1 rfl) ?_
  obtain ⟨j1, hj1, hD⟩ := jn_s hD
  try dsimp only at hD
  have j1_ok : ∀ (σ2 : HS) (x3 : Int32) (H : Heap) (locs : List Loc) (ls : Array Slot), j1 σ2 x3 = some (σo, r) → Wo E (va_A (wl E ad n L σ) sz) s.heap (wl E ad n L σ2) H locs → lv_has ls 5 [(3, .int x3), (0, .ref (ad 20))] → W p l e ({ frames := 7, cells := 0, slots := 0, locals := 165 }) s m ([.ref (ad 20), .int p1] : List Value).toArray below meth c H locs 0 0 (MQ below (va_Qi (fun (x : Int32) (_ : Unit) => x = r) (fun _ t => va_P E.1 cls6 (wl E ad n L σo) t.heap ∧ va_D (va_A (wl E ad n L σ) sz) (wl E ad n L σo)) (va_A (wl E ad n L σ) sz)) ([.ref (ad 20), .int p1] : List Value).toArray s 0 0 (va_A (wl E ad n L σ) sz)) (F0 m 184 ls []) := by
    intro σ2 x3 H locs ls hD wo hl
    rw [hj1] at hD
    try dsimp only at hD
    refine lv_iload_n hx hb d_MD_fail_184 rfl (lv_at hl 0 rfl) ?_
    refine lv_if_ne (tgt := 190) hx hb d_MD_fail_185 (by decide) (fun c4 => ?_) (fun c4 => ?_)
    · have hD := ite_n hD c4
      refine lv_iconst (v := 0) hx hb d_MD_fail_190 (by decide) ?_
      refine lv_istore (lv' := [(4, .int (0 : Int32)), (3, .int x3), (0, .ref (ad 20))]) hx hb d_MD_fail_191 hl (by decide) rfl (fun ls hl => ?_)
      have lp15 : ∀ (k7 : Nat) (σ5 : HS) (x8 : Int32) (H : Heap) (locs : List Loc) (ls : Array Slot) (res6 : HS), D_MD_fail_L193 F n  k7 σ5 x8 = some res6 → (∀ (σ14 : HS) (H : Heap) (locs : List Loc) (ls : Array Slot), res6 = σ14 → Wo E (va_A (wl E ad n L σ) sz) s.heap (wl E ad n L σ14) H locs → lv_has ls 5 [(0, .ref (ad 20))] → W p l e ({ frames := 7, cells := 0, slots := 0, locals := 165 }) s m ([.ref (ad 20), .int p1] : List Value).toArray below meth c H locs 0 0 (MQ below (va_Qi (fun (x : Int32) (_ : Unit) => x = r) (fun _ t => va_P E.1 cls6 (wl E ad n L σo) t.heap ∧ va_D (va_A (wl E ad n L σ) sz) (wl E ad n L σo)) (va_A (wl E ad n L σ) sz)) ([.ref (ad 20), .int p1] : List Value).toArray s 0 0 (va_A (wl E ad n L σ) sz)) (F0 m 228 ls [])) → Wo E (va_A (wl E ad n L σ) sz) s.heap (wl E ad n L σ5) H locs → lv_has ls 5 [(4, .int x8), (0, .ref (ad 20))] → W p l e ({ frames := 7, cells := 0, slots := 0, locals := 165 }) s m ([.ref (ad 20), .int p1] : List Value).toArray below meth c H locs 0 0 (MQ below (va_Qi (fun (x : Int32) (_ : Unit) => x = r) (fun _ t => va_P E.1 cls6 (wl E ad n L σo) t.heap ∧ va_D (va_A (wl E ad n L σ) sz) (wl E ad n L σo)) (va_A (wl E ad n L σ) sz)) ([.ref (ad 20), .int p1] : List Value).toArray s 0 0 (va_A (wl E ad n L σ) sz)) (F0 m 193 ls []) := by
        intro k7
        induction k7 with
        | zero =>
          intro σ5 x8 H locs ls res6 hD
          rw [D_MD_fail_L193.eq_1] at hD
          cases hD
        | succ k7 ih =>
          intro σ5 x8 H locs ls res6 hD hex wo hl
          rw [D_MD_fail_L193.eq_2] at hD
          refine lv_iload hx hb d_MD_fail_193 (lv_at hl 0 rfl) ?_
          refine lv_bipush (v := 64) hx hb d_MD_fail_195 (by decide) ?_
          refine lv_icmp_ge (tgt := 228) hx hb d_MD_fail_197 (by decide) (fun c9 => ?_) (fun c9 => ?_)
          · have hD := ite_p hD c9
            exact hex σ5 _ _ _ (Option.some.inj hD).symm wo (lv_sub hl [1] rfl)
          · have hD := ite_n hD c9
            refine lv_aload_n hx hb d_MD_fail_200 rfl (lv_at hl 1 rfl) ?_
            refine g_get cx wo m20 (cel_20 E ad n σ5) rfl in_MD 18 (by decide) wf_MD_43 rfl d_MD_fail_201 ?_
            refine lv_bipush (v := 64) hx hb d_MD_fail_204 (by decide) ?_
            refine lv_aload_n hx hb d_MD_fail_206 rfl (lv_at hl 1 rfl) ?_
            refine g_get cx wo m20 (cel_20 E ad n σ5) rfl in_MD 19 (by decide) wf_MD_46 rfl d_MD_fail_207 ?_
            refine lv_imul hx hb d_MD_fail_210 ?_
            refine lv_iload hx hb d_MD_fail_211 (lv_at hl 0 rfl) ?_
            refine lv_iadd hx hb d_MD_fail_213 ?_
            refine lv_aload_n hx hb d_MD_fail_214 rfl (lv_at hl 1 rfl) ?_
            refine g_get cx wo m20 (cel_20 E ad n σ5) rfl in_MD 21 (by decide) wf_MD_49 rfl d_MD_fail_215 ?_
            refine lv_iload hx hb d_MD_fail_218 (lv_at hl 0 rfl) ?_
            obtain ⟨g10, hD⟩ := grd_s hD
            refine g_iald cx wo m29 (cel_29 E ad n σ5) g10 d_MD_fail_220 ?_
            obtain ⟨g11, hD⟩ := grd_s hD
            refine g_iast cx wo m28 (cel_28 E ad n) g11 d_MD_fail_221 (fun H locs wo => ?_)
            obtain ⟨σ12, eσ12⟩ : ∃ z, z = stI σ5 28 ((((64 : Int32) * (σ5.1 20 19)) + x8)).toNatClampNeg (σ5.1 29 (x8).toNatClampNeg) := ⟨_, rfl⟩
            rw [← eσ12] at wo
            have hD := nm_at hD eσ12
            try dsimp only at hD
            obtain ⟨x13, ex13⟩ : ∃ y : Int32, y = x8 + (1 : Int32) := ⟨_, rfl⟩
            have hD := nm_at hD ex13
            try dsimp only at hD
            refine lv_iinc (v := x13) (lv' := [(4, .int x13), (0, .ref (ad 20))]) hx hb d_MD_fail_222 hl (k := 0) rfl (by rw [ex13]; rfl) (by decide) rfl (fun ls hl => ?_)
            refine lv_goto (tgt := 193) hx hb d_MD_fail_225 (by decide) ?_
            exact ih σ12 x13 _ _ _ _ hD hex wo (lv_sub hl [0, 1] rfl)
      obtain ⟨res16, hr17, hD⟩ := bd_s hD
      refine lp15 F σ2 (0 : Int32) _ _ _ _ hr17 (fun σ14 H locs ls hz wo hl => ?_) wo (lv_sub hl [0, 2] rfl)
      have hz := hz.symm
      subst hz
      try dsimp only at hD
      refine lv_aload_n hx hb d_MD_fail_228 rfl (lv_at hl 0 rfl) ?_
      refine lv_iconst (v := 0) hx hb d_MD_fail_229 (by decide) ?_
      refine g_put cx wo m20 (cel_20 E ad n σ14) rfl in_MD t_MD tok_MD n_MD 20 (by decide) wf_MD_124 rfl rfl rfl (Nat.le_of_ble_eq_true rfl) rfl d_MD_fail_230 (fun H locs wo => ?_)
      obtain ⟨σ18, eσ18⟩ : ∃ z, z = stF σ14 20 20 (0 : Int32) := ⟨_, rfl⟩
      rw [← eσ18] at wo
      have hD := nm_at hD eσ18
      try dsimp only at hD
      refine lv_iconst (v := 1) hx hb d_MD_fail_233 (by decide) ?_
      cases hD
      exact t_ireti cx wo rfl rfl d_MD_fail_234
    · have hD := ite_p hD c4
      refine lv_iconst (v := 1) hx hb d_MD_fail_188 (by decide) ?_
      cases hD
      exact t_ireti cx wo rfl rfl d_MD_fail_189
  obtain ⟨j19, hj19, hD⟩ := jn_s hD
  try dsimp only at hD
  have j19_ok : ∀ (σ20 : HS) (x21 : Int32) (H : Heap) (locs : List Loc) (ls : Array Slot), j19 σ20 x21 = some (σo, r) → Wo E (va_A (wl E ad n L σ) sz) s.heap (wl E ad n L σ20) H locs → lv_has ls 5 [(0, .ref (ad 20)), (1, .int p1)] → W p l e ({ frames := 7, cells := 0, slots := 0, locals := 165 }) s m ([.ref (ad 20), .int p1] : List Value).toArray below meth c H locs 0 0 (MQ below (va_Qi (fun (x : Int32) (_ : Unit) => x = r) (fun _ t => va_P E.1 cls6 (wl E ad n L σo) t.heap ∧ va_D (va_A (wl E ad n L σ) sz) (wl E ad n L σo)) (va_A (wl E ad n L σ) sz)) ([.ref (ad 20), .int p1] : List Value).toArray s 0 0 (va_A (wl E ad n L σ) sz)) (F0 m 112 ls [.int x21]) := by
    intro σ20 x21 H locs ls hD wo hl
    rw [hj19] at hD
    try dsimp only at hD
    refine lv_istore_n (lv' := [(3, .int x21), (0, .ref (ad 20)), (1, .int p1)]) hx hb d_MD_fail_112 rfl hl (by decide) rfl (fun ls hl => ?_)
    refine lv_aload_n hx hb d_MD_fail_113 rfl (lv_at hl 1 rfl) ?_
    refine g_get cx wo m20 (cel_20 E ad n σ20) rfl in_MD 7 (by decide) wf_MD_13 rfl d_MD_fail_114 ?_
    refine lv_iload_n hx hb d_MD_fail_117 rfl (lv_at hl 2 rfl) ?_
    refine lv_iconst (v := 0) hx hb d_MD_fail_118 (by decide) ?_
    obtain ⟨g22, hD⟩ := grd_s hD
    refine g_zast cx wo m22 (cel_22 E ad n) g22 d_MD_fail_119 (fun H locs wo => ?_)
    obtain ⟨σ23, eσ23⟩ : ∃ z, z = stI σ20 22 (p1).toNatClampNeg (vp_nar .boolean (0 : Int32)) := ⟨_, rfl⟩
    rw [← eσ23] at wo
    have hD := nm_at hD eσ23
    try dsimp only at hD
    refine lv_iconst (v := 0) hx hb d_MD_fail_120 (by decide) ?_
    refine lv_istore (lv' := [(4, .int (0 : Int32)), (3, .int x21), (0, .ref (ad 20)), (1, .int p1)]) hx hb d_MD_fail_121 hl (by decide) rfl (fun ls hl => ?_)
    have lp39 : ∀ (k26 : Nat) (σ24 : HS) (x27 : Int32) (H : Heap) (locs : List Loc) (ls : Array Slot) (res25 : HS), D_MD_fail_L123 F n p1 k26 σ24 x27 = some res25 → (∀ (σ38 : HS) (H : Heap) (locs : List Loc) (ls : Array Slot), res25 = σ38 → Wo E (va_A (wl E ad n L σ) sz) s.heap (wl E ad n L σ38) H locs → lv_has ls 5 [(3, .int x21), (0, .ref (ad 20))] → W p l e ({ frames := 7, cells := 0, slots := 0, locals := 165 }) s m ([.ref (ad 20), .int p1] : List Value).toArray below meth c H locs 0 0 (MQ below (va_Qi (fun (x : Int32) (_ : Unit) => x = r) (fun _ t => va_P E.1 cls6 (wl E ad n L σo) t.heap ∧ va_D (va_A (wl E ad n L σ) sz) (wl E ad n L σo)) (va_A (wl E ad n L σ) sz)) ([.ref (ad 20), .int p1] : List Value).toArray s 0 0 (va_A (wl E ad n L σ) sz)) (F0 m 184 ls [])) → Wo E (va_A (wl E ad n L σ) sz) s.heap (wl E ad n L σ24) H locs → lv_has ls 5 [(4, .int x27), (3, .int x21), (0, .ref (ad 20)), (1, .int p1)] → W p l e ({ frames := 7, cells := 0, slots := 0, locals := 165 }) s m ([.ref (ad 20), .int p1] : List Value).toArray below meth c H locs 0 0 (MQ below (va_Qi (fun (x : Int32) (_ : Unit) => x = r) (fun _ t => va_P E.1 cls6 (wl E ad n L σo) t.heap ∧ va_D (va_A (wl E ad n L σ) sz) (wl E ad n L σo)) (va_A (wl E ad n L σ) sz)) ([.ref (ad 20), .int p1] : List Value).toArray s 0 0 (va_A (wl E ad n L σ) sz)) (F0 m 123 ls []) := by
      intro k26
      induction k26 with
      | zero =>
        intro σ24 x27 H locs ls res25 hD
        rw [D_MD_fail_L123.eq_1] at hD
        cases hD
      | succ k26 ih =>
        intro σ24 x27 H locs ls res25 hD hex wo hl
        rw [D_MD_fail_L123.eq_2] at hD
        refine lv_iload hx hb d_MD_fail_123 (lv_at hl 0 rfl) ?_
        refine lv_bipush (v := 16) hx hb d_MD_fail_125 (by decide) ?_
        refine lv_aload_n hx hb d_MD_fail_127 rfl (lv_at hl 2 rfl) ?_
        refine g_get cx wo m20 (cel_20 E ad n σ24) rfl in_MD 3 (by decide) wf_MD_58 rfl d_MD_fail_128 ?_
        refine lv_imul hx hb d_MD_fail_131 ?_
        refine lv_icmp_ge (tgt := 184) hx hb d_MD_fail_132 (by decide) (fun c28 => ?_) (fun c28 => ?_)
        · have hD := ite_p hD c28
          exact hex σ24 _ _ _ (Option.some.inj hD).symm wo (lv_sub hl [1, 2] rfl)
        · have hD := ite_n hD c28
          refine lv_aload_n hx hb d_MD_fail_135 rfl (lv_at hl 2 rfl) ?_
          refine g_get cx wo m20 (cel_20 E ad n σ24) rfl in_MD 12 (by decide) wf_MD_31 rfl d_MD_fail_136 ?_
          refine lv_if_eq (tgt := 184) hx hb d_MD_fail_139 (by decide) (fun c29 => ?_) (fun c29 => ?_)
          · have hD := ite_p hD c29
            exact hex σ24 _ _ _ (Option.some.inj hD).symm wo (lv_sub hl [1, 2] rfl)
          · have hD := ite_n hD c29
            refine lv_iload hx hb d_MD_fail_142 (lv_at hl 0 rfl) ?_
            refine lv_bipush (v := 16) hx hb d_MD_fail_144 (by decide) ?_
            refine lv_irem hx hb d_MD_fail_146 (by decide) ?_
            refine lv_aload_n hx hb d_MD_fail_147 rfl (lv_at hl 2 rfl) ?_
            refine g_get cx wo m20 (cel_20 E ad n σ24) rfl in_MD 2 (by decide) wf_MD_55 rfl d_MD_fail_148 ?_
            refine lv_aload_n hx hb d_MD_fail_151 rfl (lv_at hl 2 rfl) ?_
            refine g_get cx wo m20 (cel_20 E ad n σ24) rfl in_MD 4 (by decide) wf_MD_61 rfl d_MD_fail_152 ?_
            refine lv_imul hx hb d_MD_fail_155 ?_
            refine lv_icmp_ge (tgt := 178) hx hb d_MD_fail_156 (by decide) (fun c30 => ?_) (fun c30 => ?_)
            · have hD := ite_p hD c30
              obtain ⟨x31, ex31⟩ : ∃ y : Int32, y = x27 + (1 : Int32) := ⟨_, rfl⟩
              have hD := nm_at hD ex31
              try dsimp only at hD
              refine lv_iinc (v := x31) (lv' := [(4, .int x31), (3, .int x21), (0, .ref (ad 20)), (1, .int p1)]) hx hb d_MD_fail_178 hl (k := 0) rfl (by rw [ex31]; rfl) (by decide) rfl (fun ls hl => ?_)
              refine lv_goto (tgt := 123) hx hb d_MD_fail_181 (by decide) ?_
              exact ih σ24 x31 _ _ _ _ hD hex wo (lv_sub hl [0, 1, 2, 3] rfl)
            · have hD := ite_n hD c30
              refine lv_aload_n hx hb d_MD_fail_159 rfl (lv_at hl 2 rfl) ?_
              refine g_get cx wo m20 (cel_20 E ad n σ24) rfl in_MD 11 (by decide) wf_MD_28 rfl d_MD_fail_160 ?_
              refine lv_iload hx hb d_MD_fail_163 (lv_at hl 0 rfl) ?_
              obtain ⟨g32, hD⟩ := grd_s hD
              refine g_iald cx wo m26 (cel_26 E ad n σ24) g32 d_MD_fail_165 ?_
              refine lv_iload_n hx hb d_MD_fail_166 rfl (lv_at hl 3 rfl) ?_
              refine lv_icmp_ne (tgt := 178) hx hb d_MD_fail_167 (by decide) (fun c33 => ?_) (fun c33 => ?_)
              · have hD := ite_n hD c33
                obtain ⟨x34, ex34⟩ : ∃ y : Int32, y = x27 + (1 : Int32) := ⟨_, rfl⟩
                have hD := nm_at hD ex34
                try dsimp only at hD
                refine lv_iinc (v := x34) (lv' := [(4, .int x34), (3, .int x21), (0, .ref (ad 20)), (1, .int p1)]) hx hb d_MD_fail_178 hl (k := 0) rfl (by rw [ex34]; rfl) (by decide) rfl (fun ls hl => ?_)
                refine lv_goto (tgt := 123) hx hb d_MD_fail_181 (by decide) ?_
                exact ih σ24 x34 _ _ _ _ hD hex wo (lv_sub hl [0, 1, 2, 3] rfl)
              · have hD := ite_p hD c33
                refine lv_aload_n hx hb d_MD_fail_170 rfl (lv_at hl 2 rfl) ?_
                refine g_get cx wo m20 (cel_20 E ad n σ24) rfl in_MD 11 (by decide) wf_MD_28 rfl d_MD_fail_171 ?_
                refine lv_iload hx hb d_MD_fail_174 (lv_at hl 0 rfl) ?_
                refine lv_iconst (v := -1) hx hb d_MD_fail_176 (by decide) ?_
                obtain ⟨g35, hD⟩ := grd_s hD
                refine g_iast cx wo m26 (cel_26 E ad n) g35 d_MD_fail_177 (fun H locs wo => ?_)
                obtain ⟨σ36, eσ36⟩ : ∃ z, z = stI σ24 26 (x27).toNatClampNeg (-1 : Int32) := ⟨_, rfl⟩
                rw [← eσ36] at wo
                have hD := nm_at hD eσ36
                try dsimp only at hD
                obtain ⟨x37, ex37⟩ : ∃ y : Int32, y = x27 + (1 : Int32) := ⟨_, rfl⟩
                have hD := nm_at hD ex37
                try dsimp only at hD
                refine lv_iinc (v := x37) (lv' := [(4, .int x37), (3, .int x21), (0, .ref (ad 20)), (1, .int p1)]) hx hb d_MD_fail_178 hl (k := 0) rfl (by rw [ex37]; rfl) (by decide) rfl (fun ls hl => ?_)
                refine lv_goto (tgt := 123) hx hb d_MD_fail_181 (by decide) ?_
                exact ih σ36 x37 _ _ _ _ hD hex wo (lv_sub hl [0, 1, 2, 3] rfl)
    obtain ⟨res40, hr41, hD⟩ := bd_s hD
    refine lp39 F σ23 (0 : Int32) _ _ _ _ hr41 (fun σ38 H locs ls hz wo hl => ?_) wo (lv_sub hl [0, 1, 2, 3] rfl)
    have hz := hz.symm
    subst hz
    try dsimp only at hD
    exact j1_ok σ38 x21 _ _ _ hD wo (lv_sub hl [0, 1] rfl)
  obtain ⟨j42, hj42, hD⟩ := jn_s hD
  try dsimp only at hD
  have j42_ok : ∀ (x43 : Int32) (H : Heap) (locs : List Loc) (ls : Array Slot), j42 x43 = some (σo, r) → Wo E (va_A (wl E ad n L σ) sz) s.heap (wl E ad n L σ) H locs → lv_has ls 5 [(0, .ref (ad 20)), (1, .int p1)] → W p l e ({ frames := 7, cells := 0, slots := 0, locals := 165 }) s m ([.ref (ad 20), .int p1] : List Value).toArray below meth c H locs 0 0 (MQ below (va_Qi (fun (x : Int32) (_ : Unit) => x = r) (fun _ t => va_P E.1 cls6 (wl E ad n L σo) t.heap ∧ va_D (va_A (wl E ad n L σ) sz) (wl E ad n L σo)) (va_A (wl E ad n L σ) sz)) ([.ref (ad 20), .int p1] : List Value).toArray s 0 0 (va_A (wl E ad n L σ) sz)) (F0 m 18 ls [.int x43, .ref (ad 20)]) := by
    intro x43 H locs ls hD wo hl
    rw [hj42] at hD
    try dsimp only at hD
    refine lv_iconst (v := 1) hx hb d_MD_fail_18 (by decide) ?_
    obtain ⟨⟨σ45, x44⟩, hcx44, hD⟩ := bd_s hD
    try dsimp only [nm2] at hD
    refine call_Vi cx wo (k_MD_fails l E ad n L (fun a h => hL a ((by decide : ∀ a ∈ ([20] : List Nat), a ∈ ([20, 21, 22, 23, 24, 25, 26, 28, 29] : List Nat)) a h)) F σ σ45 x43 (1 : Int32) x44 hcx44) m20 (cel_20 E ad n σ) rfl rfl mw_MD_fails wm_MD_100 ⟨by decide, by decide⟩ ⟨by decide, by decide⟩ hl.1 rfl (Nat.le_of_ble_eq_true rfl) d_MD_fail_19 (fun H locs wo => ?_)
    refine lv_if_ne (tgt := 42) hx hb d_MD_fail_22 (by decide) (fun c46 => ?_) (fun c46 => ?_)
    · have hD := ite_n hD c46
      refine lv_iconst (v := 0) hx hb d_MD_fail_42 (by decide) ?_
      cases hD
      exact t_ireti cx wo rfl rfl d_MD_fail_43
    · have hD := ite_p hD c46
      refine lv_aload_n hx hb d_MD_fail_25 rfl (lv_at hl 0 rfl) ?_
      refine g_get cx wo m20 (cel_20 E ad n σ45) rfl in_MD 7 (by decide) wf_MD_13 rfl d_MD_fail_26 ?_
      refine lv_iload_n hx hb d_MD_fail_29 rfl (lv_at hl 1 rfl) ?_
      obtain ⟨g47, hD⟩ := grd_s hD
      refine g_zald cx wo m22 (cel_22 E ad n σ45) g47 d_MD_fail_30 ?_
      refine lv_if_eq (tgt := 42) hx hb d_MD_fail_31 (by decide) (fun c48 => ?_) (fun c48 => ?_)
      · have hD := ite_p hD c48
        refine lv_iconst (v := 0) hx hb d_MD_fail_42 (by decide) ?_
        cases hD
        exact t_ireti cx wo rfl rfl d_MD_fail_43
      · have hD := ite_n hD c48
        refine lv_aload_n hx hb d_MD_fail_34 rfl (lv_at hl 0 rfl) ?_
        refine lv_iload_n hx hb d_MD_fail_35 rfl (lv_at hl 1 rfl) ?_
        obtain ⟨x49, hcx49, hD⟩ := bd_s hD
        try dsimp only [nm2] at hD
        refine call_Vi cx wo (k_MD_isNeeded l E ad n L (fun a h => hL a ((by decide : ∀ a ∈ ([20, 21, 22, 23, 24, 25, 26] : List Nat), a ∈ ([20, 21, 22, 23, 24, 25, 26, 28, 29] : List Nat)) a h)) F σ45  p1 x49 hcx49) m20 (cel_20 E ad n σ45) rfl rfl mw_MD_isNeeded wm_MD_137 ⟨by decide, by decide⟩ ⟨by decide, by decide⟩ hl.1 rfl (Nat.le_of_ble_eq_true rfl) d_MD_fail_36 (fun H locs wo => ?_)
        refine lv_if_eq (tgt := 44) hx hb d_MD_fail_39 (by decide) (fun c50 => ?_) (fun c50 => ?_)
        · have hD := ite_p hD c50
          refine lv_aload_n hx hb d_MD_fail_44 rfl (lv_at hl 0 rfl) ?_
          refine g_get cx wo m20 (cel_20 E ad n σ45) rfl in_MD 19 (by decide) wf_MD_46 rfl d_MD_fail_45 ?_
          refine lv_aload_n hx hb d_MD_fail_48 rfl (lv_at hl 0 rfl) ?_
          refine g_get cx wo m20 (cel_20 E ad n σ45) rfl in_MD 2 (by decide) wf_MD_55 rfl d_MD_fail_49 ?_
          refine lv_iconst (v := 1) hx hb d_MD_fail_52 (by decide) ?_
          refine lv_isub hx hb d_MD_fail_53 ?_
          obtain ⟨g51, hD⟩ := grd_s hD
          refine lv_idiv hx hb d_MD_fail_54 (of_decide_eq_true g51) ?_
          refine lv_topi (fun x52 ex52 => ?_)
          have hD := nm_at hD ex52
          try dsimp only at hD
          refine lv_istore_n (lv' := [(2, .int x52), (0, .ref (ad 20)), (1, .int p1)]) hx hb d_MD_fail_55 rfl hl (by decide) rfl (fun ls hl => ?_)
          refine lv_aload_n hx hb d_MD_fail_56 rfl (lv_at hl 1 rfl) ?_
          refine g_get cx wo m20 (cel_20 E ad n σ45) rfl in_MD 12 (by decide) wf_MD_31 rfl d_MD_fail_57 ?_
          refine lv_if_ne (tgt := 111) hx hb d_MD_fail_60 (by decide) (fun c53 => ?_) (fun c53 => ?_)
          · have hD := ite_n hD c53
            refine lv_iconst (v := 0) hx hb d_MD_fail_111 (by decide) ?_
            exact j19_ok σ45 (0 : Int32) _ _ _ hD wo (lv_sub hl [1, 2] rfl)
          · have hD := ite_p hD c53
            refine lv_aload_n hx hb d_MD_fail_63 rfl (lv_at hl 1 rfl) ?_
            refine g_get cx wo m20 (cel_20 E ad n σ45) rfl in_MD 20 (by decide) wf_MD_124 rfl d_MD_fail_64 ?_
            refine lv_if_eq (tgt := 111) hx hb d_MD_fail_67 (by decide) (fun c54 => ?_) (fun c54 => ?_)
            · have hD := ite_p hD c54
              refine lv_iconst (v := 0) hx hb d_MD_fail_111 (by decide) ?_
              exact j19_ok σ45 (0 : Int32) _ _ _ hD wo (lv_sub hl [1, 2] rfl)
            · have hD := ite_n hD c54
              refine lv_aload_n hx hb d_MD_fail_70 rfl (lv_at hl 1 rfl) ?_
              refine lv_iload_n hx hb d_MD_fail_71 rfl (lv_at hl 0 rfl) ?_
              refine lv_aload_n hx hb d_MD_fail_72 rfl (lv_at hl 1 rfl) ?_
              refine g_get cx wo m20 (cel_20 E ad n σ45) rfl in_MD 4 (by decide) wf_MD_61 rfl d_MD_fail_73 ?_
              obtain ⟨g55, hD⟩ := grd_s hD
              refine lv_idiv hx hb d_MD_fail_76 (of_decide_eq_true g55) ?_
              refine lv_aload_n hx hb d_MD_fail_77 rfl (lv_at hl 1 rfl) ?_
              refine g_get cx wo m20 (cel_20 E ad n σ45) rfl in_MD 2 (by decide) wf_MD_55 rfl d_MD_fail_78 ?_
              refine lv_iload_n hx hb d_MD_fail_81 rfl (lv_at hl 0 rfl) ?_
              refine lv_aload_n hx hb d_MD_fail_82 rfl (lv_at hl 1 rfl) ?_
              refine g_get cx wo m20 (cel_20 E ad n σ45) rfl in_MD 4 (by decide) wf_MD_61 rfl d_MD_fail_83 ?_
              obtain ⟨g56, hD⟩ := grd_s hD
              refine lv_irem hx hb d_MD_fail_86 (of_decide_eq_true g56) ?_
              refine lv_imul hx hb d_MD_fail_87 ?_
              refine lv_aload_n hx hb d_MD_fail_88 rfl (lv_at hl 1 rfl) ?_
              refine g_get cx wo m20 (cel_20 E ad n σ45) rfl in_MD 19 (by decide) wf_MD_46 rfl d_MD_fail_89 ?_
              refine lv_aload_n hx hb d_MD_fail_92 rfl (lv_at hl 1 rfl) ?_
              refine g_get cx wo m20 (cel_20 E ad n σ45) rfl in_MD 2 (by decide) wf_MD_55 rfl d_MD_fail_93 ?_
              refine lv_iconst (v := 1) hx hb d_MD_fail_96 (by decide) ?_
              refine lv_isub hx hb d_MD_fail_97 ?_
              obtain ⟨g57, hD⟩ := grd_s hD
              refine lv_irem hx hb d_MD_fail_98 (of_decide_eq_true g57) ?_
              refine lv_iadd hx hb d_MD_fail_99 ?_
              obtain ⟨x58, hcx58, hD⟩ := bd_s hD
              try dsimp only [nm2] at hD
              refine call_Vi cx wo (k_MD_found l E ad n L (fun a h => hL a ((by decide : ∀ a ∈ ([20, 21, 22, 23, 24, 25] : List Nat), a ∈ ([20, 21, 22, 23, 24, 25, 26, 28, 29] : List Nat)) a h)) F σ45  (x52 / (σ45.1 20 4)) (((σ45.1 20 2) * (x52 - x52 / (σ45.1 20 4) * (σ45.1 20 4))) + ((σ45.1 20 19) - (σ45.1 20 19) / ((σ45.1 20 2) - (1 : Int32)) * ((σ45.1 20 2) - (1 : Int32)))) x58 hcx58) m20 (cel_20 E ad n σ45) rfl rfl mw_MD_found wm_MD_81 ⟨by decide, by decide⟩ ⟨by decide, by decide⟩ hl.1 rfl (Nat.le_of_ble_eq_true rfl) d_MD_fail_100 (fun H locs wo => ?_)
              refine lv_iload_n hx hb d_MD_fail_103 rfl (lv_at hl 2 rfl) ?_
              refine lv_icmp_ne (tgt := 111) hx hb d_MD_fail_104 (by decide) (fun c59 => ?_) (fun c59 => ?_)
              · have hD := ite_n hD c59
                refine lv_iconst (v := 0) hx hb d_MD_fail_111 (by decide) ?_
                exact j19_ok σ45 (0 : Int32) _ _ _ hD wo (lv_sub hl [1, 2] rfl)
              · have hD := ite_p hD c59
                refine lv_iconst (v := 1) hx hb d_MD_fail_107 (by decide) ?_
                refine lv_goto (tgt := 112) hx hb d_MD_fail_108 (by decide) ?_
                exact j19_ok σ45 (1 : Int32) _ _ _ hD wo (lv_sub hl [1, 2] rfl)
        · have hD := ite_n hD c50
          refine lv_iconst (v := 0) hx hb d_MD_fail_42 (by decide) ?_
          cases hD
          exact t_ireti cx wo rfl rfl d_MD_fail_43
  refine lv_if_lt (tgt := 13) hx hb d_MD_fail_2 (by decide) (fun c60 => ?_) (fun c60 => ?_)
  · have hD := ite_p hD c60
    refine lv_iconst (v := 1) hx hb d_MD_fail_13 (by decide) ?_
    refine lv_goto (tgt := 18) hx hb d_MD_fail_14 (by decide) ?_
    exact j42_ok (1 : Int32) _ _ _ hD wo (lv_sub hl [0, 1] rfl)
  · have hD := ite_n hD c60
    refine lv_iload_n hx hb d_MD_fail_5 rfl (lv_at hl 1 rfl) ?_
    refine lv_aload_n hx hb d_MD_fail_6 rfl (lv_at hl 0 rfl) ?_
    refine g_get cx wo m20 (cel_20 E ad n σ) rfl in_MD 1 (by decide) wf_MD_52 rfl d_MD_fail_7 ?_
    refine lv_icmp_lt (tgt := 17) hx hb d_MD_fail_10 (by decide) (fun c61 => ?_) (fun c61 => ?_)
    · have hD := ite_p hD c61
      refine lv_iconst (v := 0) hx hb d_MD_fail_17 (by decide) ?_
      exact j42_ok (0 : Int32) _ _ _ hD wo (lv_sub hl [0, 1] rfl)
    · have hD := ite_n hD c61
      refine lv_iconst (v := 1) hx hb d_MD_fail_13 (by decide) ?_
      refine lv_goto (tgt := 18) hx hb d_MD_fail_14 (by decide) ?_
      exact j42_ok (1 : Int32) _ _ _ hD wo (lv_sub hl [0, 1] rfl)
def D_MD_replace_L84 (F : Nat) (n : Nat → Nat) (x13 : Int32) (p1 : Int32) : Nat → HS → Int32 → Option (HS)
  | 0, _, _ => none
  | k25 + 1, σ23, x26 =>
      (D_MD_at F n σ23 p1 x13).bind (fun (x27 : Int32) =>
                  (if (((70 : Int32) * x27) + (70 : Int32)) ≤ x26 then
                    some σ23
                  else
                    grd (inb x26 (n 25)) (
                    nm (stI σ23 25 (x26).toNatClampNeg (vp_nar .byte (0 : Int32))) (fun σ30 =>
                    nm (x26 + (1 : Int32)) (fun x31 =>
                    D_MD_replace_L84 F n x13 p1 k25 σ30 x31)))))
def D_MD_replace_L45 (F : Nat) (n : Nat → Nat) (p1 : Int32) : Nat → HS → Int32 → Option (HS)
  | 0, _, _ => none
  | k12 + 1, σ10, x13 =>
      (if (σ10.1 20 3) < x13 then
              some σ10
            else
              (D_MD_at F n σ10 p1 x13).bind (fun (x15 : Int32) =>
              grd (inb x15 (n 23)) (
              nm (stI σ10 23 (x15).toNatClampNeg (vp_nar .boolean (0 : Int32))) (fun σ17 =>
              (D_MD_at F n σ17 p1 x13).bind (fun (x18 : Int32) =>
              grd (inb x18 (n 24)) (
              nm (stI σ17 24 (x18).toNatClampNeg (0 : Int32)) (fun σ20 =>
              (D_MD_at F n σ20 p1 x13).bind (fun (x21 : Int32) =>
              nm ((70 : Int32) * x21) (fun x22 =>
              (D_MD_replace_L84 F n x13 p1 F σ20 x22).bind (fun (σ32 : HS) =>
              nm (x13 + (1 : Int32)) (fun x36 =>
                D_MD_replace_L45 F n p1 k12 σ32 x36)))))))))))
def D_MD_replace (F : Nat) (n : Nat → Nat) (σ : HS) (p1 : Int32) : Option (HS × Int32) :=
jn (fun (x2 : Int32) =>
    (D_MD_fails F n σ x2 (1 : Int32)).bind (fun (qx3 : HS × Int32) => nm2 qx3 (fun (σ4 : HS) (x3 : Int32) =>
    (if x3 = 0 then
      grd (inb p1 (n 22)) (
      (if (σ4.1 22 (p1).toNatClampNeg) = 0 then
        grd (inb p1 (n 22)) (
        nm (stI σ4 22 (p1).toNatClampNeg (vp_nar .boolean (1 : Int32))) (fun σ9 =>
        (D_MD_replace_L45 F n p1 F σ9 (0 : Int32)).bind (fun (σ37 : HS) =>
        some (σ37, (1 : Int32)))))
      else
        some (σ4, (0 : Int32))))
    else
      some (σ4, (0 : Int32))))))
  (fun j1 =>
  (if p1 < 0 then
    j1 (1 : Int32)
  else
    (if p1 < (σ.1 20 1) then
      j1 (0 : Int32)
    else
      j1 (1 : Int32))))
set_option maxRecDepth 100000 in
set_option maxHeartbeats 4000000 in
theorem k_MD_replace (l : Launch) (E : EV) (ad n : Nat → Nat) (L : List Nat) (hL : ∀ a ∈ ([20, 22, 23, 24, 25] : List Nat), a ∈ L) (F : Nat) (σ σo : HS) (p1 : Int32) (r : Int32) (hD : D_MD_replace F n σ p1 = some (σo, r)) : CtI l E y_MD_replace c_MD_replace 4 (some FieldType.boolean) ({ frames := 1, cells := 0, slots := 0, locals := 22 }) [.ref (ad 20), .int p1] (wl E ad n L σ) r (wl E ad n L σo) := by
  refine fun sz => ent (by decide) (Nat.le_of_ble_eq_true rfl) ?_
  intro p e s m below meth c hsz cx wo ls hl
  have hx := cx.1.1
  have hb := cx.1.2.1
  have hown := cx.1.2.2.2.1
  have hts := cx.1.2.2.2.2
  have hl : lv_has ls 4 [(0, .ref (ad 20)), (1, .int p1)] := hl
  have m20 : 20 ∈ L := hL 20 (by decide)
  have m22 : 22 ∈ L := hL 22 (by decide)
  have m23 : 23 ∈ L := hL 23 (by decide)
  have m24 : 24 ∈ L := hL 24 (by decide)
  have m25 : 25 ∈ L := hL 25 (by decide)
  rw [D_MD_replace] at hD
  refine lv_aload_n hx hb d_MD_replace_0 rfl (lv_at hl 0 rfl) ?_
  refine lv_iload_n hx hb d_MD_replace_1 rfl (lv_at hl 1 rfl) ?_
  obtain ⟨j1, hj1, hD⟩ := jn_s hD
  try dsimp only at hD
  have j1_ok : ∀ (x2 : Int32) (H : Heap) (locs : List Loc) (ls : Array Slot), j1 x2 = some (σo, r) → Wo E (va_A (wl E ad n L σ) sz) s.heap (wl E ad n L σ) H locs → lv_has ls 4 [(0, .ref (ad 20)), (1, .int p1)] → W p l e ({ frames := 1, cells := 0, slots := 0, locals := 22 }) s m ([.ref (ad 20), .int p1] : List Value).toArray below meth c H locs 0 0 (MQ below (va_Qi (fun (x : Int32) (_ : Unit) => x = r) (fun _ t => va_P E.1 cls6 (wl E ad n L σo) t.heap ∧ va_D (va_A (wl E ad n L σ) sz) (wl E ad n L σo)) (va_A (wl E ad n L σ) sz)) ([.ref (ad 20), .int p1] : List Value).toArray s 0 0 (va_A (wl E ad n L σ) sz)) (F0 m 18 ls [.int x2, .ref (ad 20)]) := by
    intro x2 H locs ls hD wo hl
    rw [hj1] at hD
    try dsimp only at hD
    refine lv_iconst (v := 1) hx hb d_MD_replace_18 (by decide) ?_
    obtain ⟨⟨σ4, x3⟩, hcx3, hD⟩ := bd_s hD
    try dsimp only [nm2] at hD
    refine call_Vi cx wo (k_MD_fails l E ad n L (fun a h => hL a ((by decide : ∀ a ∈ ([20] : List Nat), a ∈ ([20, 22, 23, 24, 25] : List Nat)) a h)) F σ σ4 x2 (1 : Int32) x3 hcx3) m20 (cel_20 E ad n σ) rfl rfl mw_MD_fails wm_MD_100 ⟨by decide, by decide⟩ ⟨by decide, by decide⟩ hl.1 rfl (Nat.le_of_ble_eq_true rfl) d_MD_replace_19 (fun H locs wo => ?_)
    refine lv_if_ne (tgt := 34) hx hb d_MD_replace_22 (by decide) (fun c5 => ?_) (fun c5 => ?_)
    · have hD := ite_n hD c5
      refine lv_iconst (v := 0) hx hb d_MD_replace_34 (by decide) ?_
      cases hD
      exact t_ireti cx wo rfl rfl d_MD_replace_35
    · have hD := ite_p hD c5
      refine lv_aload_n hx hb d_MD_replace_25 rfl (lv_at hl 0 rfl) ?_
      refine g_get cx wo m20 (cel_20 E ad n σ4) rfl in_MD 7 (by decide) wf_MD_13 rfl d_MD_replace_26 ?_
      refine lv_iload_n hx hb d_MD_replace_29 rfl (lv_at hl 1 rfl) ?_
      obtain ⟨g6, hD⟩ := grd_s hD
      refine g_zald cx wo m22 (cel_22 E ad n σ4) g6 d_MD_replace_30 ?_
      refine lv_if_eq (tgt := 36) hx hb d_MD_replace_31 (by decide) (fun c7 => ?_) (fun c7 => ?_)
      · have hD := ite_p hD c7
        refine lv_aload_n hx hb d_MD_replace_36 rfl (lv_at hl 0 rfl) ?_
        refine g_get cx wo m20 (cel_20 E ad n σ4) rfl in_MD 7 (by decide) wf_MD_13 rfl d_MD_replace_37 ?_
        refine lv_iload_n hx hb d_MD_replace_40 rfl (lv_at hl 1 rfl) ?_
        refine lv_iconst (v := 1) hx hb d_MD_replace_41 (by decide) ?_
        obtain ⟨g8, hD⟩ := grd_s hD
        refine g_zast cx wo m22 (cel_22 E ad n) g8 d_MD_replace_42 (fun H locs wo => ?_)
        obtain ⟨σ9, eσ9⟩ : ∃ z, z = stI σ4 22 (p1).toNatClampNeg (vp_nar .boolean (1 : Int32)) := ⟨_, rfl⟩
        rw [← eσ9] at wo
        have hD := nm_at hD eσ9
        try dsimp only at hD
        refine lv_iconst (v := 0) hx hb d_MD_replace_43 (by decide) ?_
        refine lv_istore_n (lv' := [(2, .int (0 : Int32)), (0, .ref (ad 20)), (1, .int p1)]) hx hb d_MD_replace_44 rfl hl (by decide) rfl (fun ls hl => ?_)
        have lp38 : ∀ (k12 : Nat) (σ10 : HS) (x13 : Int32) (H : Heap) (locs : List Loc) (ls : Array Slot) (res11 : HS), D_MD_replace_L45 F n p1 k12 σ10 x13 = some res11 → (∀ (σ37 : HS) (H : Heap) (locs : List Loc) (ls : Array Slot), res11 = σ37 → Wo E (va_A (wl E ad n L σ) sz) s.heap (wl E ad n L σ37) H locs → lv_has ls 4 [] → W p l e ({ frames := 1, cells := 0, slots := 0, locals := 22 }) s m ([.ref (ad 20), .int p1] : List Value).toArray below meth c H locs 0 0 (MQ below (va_Qi (fun (x : Int32) (_ : Unit) => x = r) (fun _ t => va_P E.1 cls6 (wl E ad n L σo) t.heap ∧ va_D (va_A (wl E ad n L σ) sz) (wl E ad n L σo)) (va_A (wl E ad n L σ) sz)) ([.ref (ad 20), .int p1] : List Value).toArray s 0 0 (va_A (wl E ad n L σ) sz)) (F0 m 118 ls [])) → Wo E (va_A (wl E ad n L σ) sz) s.heap (wl E ad n L σ10) H locs → lv_has ls 4 [(2, .int x13), (0, .ref (ad 20)), (1, .int p1)] → W p l e ({ frames := 1, cells := 0, slots := 0, locals := 22 }) s m ([.ref (ad 20), .int p1] : List Value).toArray below meth c H locs 0 0 (MQ below (va_Qi (fun (x : Int32) (_ : Unit) => x = r) (fun _ t => va_P E.1 cls6 (wl E ad n L σo) t.heap ∧ va_D (va_A (wl E ad n L σ) sz) (wl E ad n L σo)) (va_A (wl E ad n L σ) sz)) ([.ref (ad 20), .int p1] : List Value).toArray s 0 0 (va_A (wl E ad n L σ) sz)) (F0 m 45 ls []) := by
          intro k12
          induction k12 with
          | zero =>
            intro σ10 x13 H locs ls res11 hD
            rw [D_MD_replace_L45.eq_1] at hD
            cases hD
          | succ k12 ih =>
            intro σ10 x13 H locs ls res11 hD hex wo hl
            rw [D_MD_replace_L45.eq_2] at hD
            refine lv_iload_n hx hb d_MD_replace_45 rfl (lv_at hl 0 rfl) ?_
            refine lv_aload_n hx hb d_MD_replace_46 rfl (lv_at hl 1 rfl) ?_
            refine g_get cx wo m20 (cel_20 E ad n σ10) rfl in_MD 3 (by decide) wf_MD_58 rfl d_MD_replace_47 ?_
            refine lv_icmp_gt (tgt := 118) hx hb d_MD_replace_50 (by decide) (fun c14 => ?_) (fun c14 => ?_)
            · have hD := ite_p hD c14
              exact hex σ10 _ _ _ (Option.some.inj hD).symm wo (lv_sub hl [] rfl)
            · have hD := ite_n hD c14
              refine lv_aload_n hx hb d_MD_replace_53 rfl (lv_at hl 1 rfl) ?_
              refine g_get cx wo m20 (cel_20 E ad n σ10) rfl in_MD 8 (by decide) wf_MD_17 rfl d_MD_replace_54 ?_
              refine lv_iload_n hx hb d_MD_replace_57 rfl (lv_at hl 2 rfl) ?_
              refine lv_iload_n hx hb d_MD_replace_58 rfl (lv_at hl 0 rfl) ?_
              obtain ⟨x15, hcx15, hD⟩ := bd_s hD
              try dsimp only [nm2] at hD
              refine call_Si cx wo (k_MD_at l E ad n L (fun a h => hL a ((by decide : ∀ a ∈ ([] : List Nat), a ∈ ([20, 22, 23, 24, 25] : List Nat)) a h)) F σ10  p1 x13 x15 hcx15) mw_MD_at wm_MD_67 ⟨by decide, by decide⟩ ⟨by decide, by decide⟩ hl.1 rfl (Nat.le_of_ble_eq_true rfl) d_MD_replace_59 (fun H locs wo => ?_)
              refine lv_iconst (v := 0) hx hb d_MD_replace_62 (by decide) ?_
              obtain ⟨g16, hD⟩ := grd_s hD
              refine g_zast cx wo m23 (cel_23 E ad n) g16 d_MD_replace_63 (fun H locs wo => ?_)
              obtain ⟨σ17, eσ17⟩ : ∃ z, z = stI σ10 23 (x15).toNatClampNeg (vp_nar .boolean (0 : Int32)) := ⟨_, rfl⟩
              rw [← eσ17] at wo
              have hD := nm_at hD eσ17
              try dsimp only at hD
              refine lv_aload_n hx hb d_MD_replace_64 rfl (lv_at hl 1 rfl) ?_
              refine g_get cx wo m20 (cel_20 E ad n σ17) rfl in_MD 9 (by decide) wf_MD_20 rfl d_MD_replace_65 ?_
              refine lv_iload_n hx hb d_MD_replace_68 rfl (lv_at hl 2 rfl) ?_
              refine lv_iload_n hx hb d_MD_replace_69 rfl (lv_at hl 0 rfl) ?_
              obtain ⟨x18, hcx18, hD⟩ := bd_s hD
              try dsimp only [nm2] at hD
              refine call_Si cx wo (k_MD_at l E ad n L (fun a h => hL a ((by decide : ∀ a ∈ ([] : List Nat), a ∈ ([20, 22, 23, 24, 25] : List Nat)) a h)) F σ17  p1 x13 x18 hcx18) mw_MD_at wm_MD_67 ⟨by decide, by decide⟩ ⟨by decide, by decide⟩ hl.1 rfl (Nat.le_of_ble_eq_true rfl) d_MD_replace_70 (fun H locs wo => ?_)
              refine lv_iconst (v := 0) hx hb d_MD_replace_73 (by decide) ?_
              obtain ⟨g19, hD⟩ := grd_s hD
              refine g_iast cx wo m24 (cel_24 E ad n) g19 d_MD_replace_74 (fun H locs wo => ?_)
              obtain ⟨σ20, eσ20⟩ : ∃ z, z = stI σ17 24 (x18).toNatClampNeg (0 : Int32) := ⟨_, rfl⟩
              rw [← eσ20] at wo
              have hD := nm_at hD eσ20
              try dsimp only at hD
              refine lv_bipush (v := 70) hx hb d_MD_replace_75 (by decide) ?_
              refine lv_iload_n hx hb d_MD_replace_77 rfl (lv_at hl 2 rfl) ?_
              refine lv_iload_n hx hb d_MD_replace_78 rfl (lv_at hl 0 rfl) ?_
              obtain ⟨x21, hcx21, hD⟩ := bd_s hD
              try dsimp only [nm2] at hD
              refine call_Si cx wo (k_MD_at l E ad n L (fun a h => hL a ((by decide : ∀ a ∈ ([] : List Nat), a ∈ ([20, 22, 23, 24, 25] : List Nat)) a h)) F σ20  p1 x13 x21 hcx21) mw_MD_at wm_MD_67 ⟨by decide, by decide⟩ ⟨by decide, by decide⟩ hl.1 rfl (Nat.le_of_ble_eq_true rfl) d_MD_replace_79 (fun H locs wo => ?_)
              refine lv_imul hx hb d_MD_replace_82 ?_
              refine lv_topi (fun x22 ex22 => ?_)
              have hD := nm_at hD ex22
              try dsimp only at hD
              refine lv_istore_n (lv' := [(3, .int x22), (2, .int x13), (0, .ref (ad 20)), (1, .int p1)]) hx hb d_MD_replace_83 rfl hl (by decide) rfl (fun ls hl => ?_)
              have lp33 : ∀ (k25 : Nat) (σ23 : HS) (x26 : Int32) (H : Heap) (locs : List Loc) (ls : Array Slot) (res24 : HS), D_MD_replace_L84 F n x13 p1 k25 σ23 x26 = some res24 → (∀ (σ32 : HS) (H : Heap) (locs : List Loc) (ls : Array Slot), res24 = σ32 → Wo E (va_A (wl E ad n L σ) sz) s.heap (wl E ad n L σ32) H locs → lv_has ls 4 [(2, .int x13), (0, .ref (ad 20)), (1, .int p1)] → W p l e ({ frames := 1, cells := 0, slots := 0, locals := 22 }) s m ([.ref (ad 20), .int p1] : List Value).toArray below meth c H locs 0 0 (MQ below (va_Qi (fun (x : Int32) (_ : Unit) => x = r) (fun _ t => va_P E.1 cls6 (wl E ad n L σo) t.heap ∧ va_D (va_A (wl E ad n L σ) sz) (wl E ad n L σo)) (va_A (wl E ad n L σ) sz)) ([.ref (ad 20), .int p1] : List Value).toArray s 0 0 (va_A (wl E ad n L σ) sz)) (F0 m 112 ls [])) → Wo E (va_A (wl E ad n L σ) sz) s.heap (wl E ad n L σ23) H locs → lv_has ls 4 [(3, .int x26), (2, .int x13), (0, .ref (ad 20)), (1, .int p1)] → W p l e ({ frames := 1, cells := 0, slots := 0, locals := 22 }) s m ([.ref (ad 20), .int p1] : List Value).toArray below meth c H locs 0 0 (MQ below (va_Qi (fun (x : Int32) (_ : Unit) => x = r) (fun _ t => va_P E.1 cls6 (wl E ad n L σo) t.heap ∧ va_D (va_A (wl E ad n L σ) sz) (wl E ad n L σo)) (va_A (wl E ad n L σ) sz)) ([.ref (ad 20), .int p1] : List Value).toArray s 0 0 (va_A (wl E ad n L σ) sz)) (F0 m 84 ls []) := by
                intro k25
                induction k25 with
                | zero =>
                  intro σ23 x26 H locs ls res24 hD
                  rw [D_MD_replace_L84.eq_1] at hD
                  cases hD
                | succ k25 ih =>
                  intro σ23 x26 H locs ls res24 hD hex wo hl
                  rw [D_MD_replace_L84.eq_2] at hD
                  refine lv_iload_n hx hb d_MD_replace_84 rfl (lv_at hl 0 rfl) ?_
                  refine lv_bipush (v := 70) hx hb d_MD_replace_85 (by decide) ?_
                  refine lv_iload_n hx hb d_MD_replace_87 rfl (lv_at hl 3 rfl) ?_
                  refine lv_iload_n hx hb d_MD_replace_88 rfl (lv_at hl 1 rfl) ?_
                  obtain ⟨x27, hcx27, hD⟩ := bd_s hD
                  try dsimp only [nm2] at hD
                  refine call_Si cx wo (k_MD_at l E ad n L (fun a h => hL a ((by decide : ∀ a ∈ ([] : List Nat), a ∈ ([20, 22, 23, 24, 25] : List Nat)) a h)) F σ23  p1 x13 x27 hcx27) mw_MD_at wm_MD_67 ⟨by decide, by decide⟩ ⟨by decide, by decide⟩ hl.1 rfl (Nat.le_of_ble_eq_true rfl) d_MD_replace_89 (fun H locs wo => ?_)
                  refine lv_imul hx hb d_MD_replace_92 ?_
                  refine lv_bipush (v := 70) hx hb d_MD_replace_93 (by decide) ?_
                  refine lv_iadd hx hb d_MD_replace_95 ?_
                  refine lv_icmp_ge (tgt := 112) hx hb d_MD_replace_96 (by decide) (fun c28 => ?_) (fun c28 => ?_)
                  · have hD := ite_p hD c28
                    exact hex σ23 _ _ _ (Option.some.inj hD).symm wo (lv_sub hl [1, 2, 3] rfl)
                  · have hD := ite_n hD c28
                    refine lv_aload_n hx hb d_MD_replace_99 rfl (lv_at hl 2 rfl) ?_
                    refine g_get cx wo m20 (cel_20 E ad n σ23) rfl in_MD 10 (by decide) wf_MD_24 rfl d_MD_replace_100 ?_
                    refine lv_iload_n hx hb d_MD_replace_103 rfl (lv_at hl 0 rfl) ?_
                    refine lv_iconst (v := 0) hx hb d_MD_replace_104 (by decide) ?_
                    obtain ⟨g29, hD⟩ := grd_s hD
                    refine g_bast cx wo m25 (cel_25 E ad n) g29 d_MD_replace_105 (fun H locs wo => ?_)
                    obtain ⟨σ30, eσ30⟩ : ∃ z, z = stI σ23 25 (x26).toNatClampNeg (vp_nar .byte (0 : Int32)) := ⟨_, rfl⟩
                    rw [← eσ30] at wo
                    have hD := nm_at hD eσ30
                    try dsimp only at hD
                    obtain ⟨x31, ex31⟩ : ∃ y : Int32, y = x26 + (1 : Int32) := ⟨_, rfl⟩
                    have hD := nm_at hD ex31
                    try dsimp only at hD
                    refine lv_iinc (v := x31) (lv' := [(3, .int x31), (2, .int x13), (0, .ref (ad 20)), (1, .int p1)]) hx hb d_MD_replace_106 hl (k := 0) rfl (by rw [ex31]; rfl) (by decide) rfl (fun ls hl => ?_)
                    refine lv_goto (tgt := 84) hx hb d_MD_replace_109 (by decide) ?_
                    exact ih σ30 x31 _ _ _ _ hD hex wo (lv_sub hl [0, 1, 2, 3] rfl)
              obtain ⟨res34, hr35, hD⟩ := bd_s hD
              refine lp33 F σ20 x22 _ _ _ _ hr35 (fun σ32 H locs ls hz wo hl => ?_) wo (lv_sub hl [0, 1, 2, 3] rfl)
              have hz := hz.symm
              subst hz
              try dsimp only at hD
              obtain ⟨x36, ex36⟩ : ∃ y : Int32, y = x13 + (1 : Int32) := ⟨_, rfl⟩
              have hD := nm_at hD ex36
              try dsimp only at hD
              refine lv_iinc (v := x36) (lv' := [(2, .int x36), (0, .ref (ad 20)), (1, .int p1)]) hx hb d_MD_replace_112 hl (k := 0) rfl (by rw [ex36]; rfl) (by decide) rfl (fun ls hl => ?_)
              refine lv_goto (tgt := 45) hx hb d_MD_replace_115 (by decide) ?_
              exact ih σ32 x36 _ _ _ _ hD hex wo (lv_sub hl [0, 1, 2] rfl)
        obtain ⟨res39, hr40, hD⟩ := bd_s hD
        refine lp38 F σ9 (0 : Int32) _ _ _ _ hr40 (fun σ37 H locs ls hz wo hl => ?_) wo (lv_sub hl [0, 1, 2] rfl)
        have hz := hz.symm
        subst hz
        try dsimp only at hD
        refine lv_iconst (v := 1) hx hb d_MD_replace_118 (by decide) ?_
        cases hD
        exact t_ireti cx wo rfl rfl d_MD_replace_119
      · have hD := ite_n hD c7
        refine lv_iconst (v := 0) hx hb d_MD_replace_34 (by decide) ?_
        cases hD
        exact t_ireti cx wo rfl rfl d_MD_replace_35
  refine lv_if_lt (tgt := 13) hx hb d_MD_replace_2 (by decide) (fun c41 => ?_) (fun c41 => ?_)
  · have hD := ite_p hD c41
    refine lv_iconst (v := 1) hx hb d_MD_replace_13 (by decide) ?_
    refine lv_goto (tgt := 18) hx hb d_MD_replace_14 (by decide) ?_
    exact j1_ok (1 : Int32) _ _ _ hD wo (lv_sub hl [0, 1] rfl)
  · have hD := ite_n hD c41
    refine lv_iload_n hx hb d_MD_replace_5 rfl (lv_at hl 1 rfl) ?_
    refine lv_aload_n hx hb d_MD_replace_6 rfl (lv_at hl 0 rfl) ?_
    refine g_get cx wo m20 (cel_20 E ad n σ) rfl in_MD 1 (by decide) wf_MD_52 rfl d_MD_replace_7 ?_
    refine lv_icmp_lt (tgt := 17) hx hb d_MD_replace_10 (by decide) (fun c42 => ?_) (fun c42 => ?_)
    · have hD := ite_p hD c42
      refine lv_iconst (v := 0) hx hb d_MD_replace_17 (by decide) ?_
      exact j1_ok (0 : Int32) _ _ _ hD wo (lv_sub hl [0, 1] rfl)
    · have hD := ite_n hD c42
      refine lv_iconst (v := 1) hx hb d_MD_replace_13 (by decide) ?_
      refine lv_goto (tgt := 18) hx hb d_MD_replace_14 (by decide) ?_
      exact j1_ok (1 : Int32) _ _ _ hD wo (lv_sub hl [0, 1] rfl)
def D_MD_turn_L3 (F : Nat) (n : Nat → Nat) (p1 : Int32) (p2 : Int32) (p3 : Int64) : Nat → HS → Int32 → Option (HS)
  | 0, _, _ => none
  | k3 + 1, σ1, x4 =>
      (if p2 ≤ x4 then
        some σ1
      else
        grd (inb (p1 + x4) (n 25)) (
        grd (inb (p1 + x4) (n 25)) (
        nm (stI σ1 25 ((p1 + x4)).toNatClampNeg (vp_nar .byte (((σ1.1 25 ((p1 + x4)).toNatClampNeg) ^^^ (((p3 >>> ((((8 : Int32) * x4)).toInt64 &&& 63)) &&& (255 : Int64))).toInt32)).toInt8.toInt32)) (fun σ8 =>
        nm (x4 + (1 : Int32)) (fun x9 =>
        D_MD_turn_L3 F n p1 p2 p3 k3 σ8 x9)))))
def D_MD_turn (F : Nat) (n : Nat → Nat) (σ : HS) (p1 : Int32) (p2 : Int32) (p3 : Int64) : Option (HS) :=
(D_MD_turn_L3 F n p1 p2 p3 F σ (0 : Int32)).bind (fun (σ10 : HS) =>
  some σ10)
set_option maxRecDepth 100000 in
set_option maxHeartbeats 4000000 in
theorem k_MD_turn (l : Launch) (E : EV) (ad n : Nat → Nat) (L : List Nat) (hL : ∀ a ∈ ([20, 25] : List Nat), a ∈ L) (F : Nat) (σ σo : HS) (p1 : Int32) (p2 : Int32) (p3 : Int64)  (hD : D_MD_turn F n σ p1 p2 p3 = some σo) : CtV l E y_MD_turn c_MD_turn 6 none ({ frames := 0, cells := 0, slots := 0, locals := 0 }) [.ref (ad 20), .int p1, .int p2, .long p3] (wl E ad n L σ) (wl E ad n L σo) := by
  refine fun sz => ent (by decide) (Nat.le_of_ble_eq_true rfl) ?_
  intro p e s m below meth c hsz cx wo ls hl
  have hx := cx.1.1
  have hb := cx.1.2.1
  have hown := cx.1.2.2.2.1
  have hts := cx.1.2.2.2.2
  have hl : lv_has ls 6 [(0, .ref (ad 20)), (1, .int p1), (2, .int p2), (3, .long p3)] := hl
  have m20 : 20 ∈ L := hL 20 (by decide)
  have m25 : 25 ∈ L := hL 25 (by decide)
  rw [D_MD_turn] at hD
  refine lv_iconst (v := 0) hx hb d_MD_turn_0 (by decide) ?_
  refine lv_istore (lv' := [(5, .int (0 : Int32)), (0, .ref (ad 20)), (1, .int p1), (2, .int p2), (3, .long p3)]) hx hb d_MD_turn_1 hl (by decide) rfl (fun ls hl => ?_)
  have lp11 : ∀ (k3 : Nat) (σ1 : HS) (x4 : Int32) (H : Heap) (locs : List Loc) (ls : Array Slot) (res2 : HS), D_MD_turn_L3 F n p1 p2 p3 k3 σ1 x4 = some res2 → (∀ (σ10 : HS) (H : Heap) (locs : List Loc) (ls : Array Slot), res2 = σ10 → Wo E (va_A (wl E ad n L σ) sz) s.heap (wl E ad n L σ10) H locs → lv_has ls 6 [] → W p l e ({ frames := 0, cells := 0, slots := 0, locals := 0 }) s m ([.ref (ad 20), .int p1, .int p2, .long p3] : List Value).toArray below meth c H locs 0 0 (MQ below (va_Qv (fun (_ : Unit) => True) (fun _ t => va_P E.1 cls6 (wl E ad n L σo) t.heap ∧ va_D (va_A (wl E ad n L σ) sz) (wl E ad n L σo)) (va_A (wl E ad n L σ) sz)) ([.ref (ad 20), .int p1, .int p2, .long p3] : List Value).toArray s 0 0 (va_A (wl E ad n L σ) sz)) (F0 m 47 ls [])) → Wo E (va_A (wl E ad n L σ) sz) s.heap (wl E ad n L σ1) H locs → lv_has ls 6 [(5, .int x4), (0, .ref (ad 20)), (1, .int p1), (2, .int p2), (3, .long p3)] → W p l e ({ frames := 0, cells := 0, slots := 0, locals := 0 }) s m ([.ref (ad 20), .int p1, .int p2, .long p3] : List Value).toArray below meth c H locs 0 0 (MQ below (va_Qv (fun (_ : Unit) => True) (fun _ t => va_P E.1 cls6 (wl E ad n L σo) t.heap ∧ va_D (va_A (wl E ad n L σ) sz) (wl E ad n L σo)) (va_A (wl E ad n L σ) sz)) ([.ref (ad 20), .int p1, .int p2, .long p3] : List Value).toArray s 0 0 (va_A (wl E ad n L σ) sz)) (F0 m 3 ls []) := by
    intro k3
    induction k3 with
    | zero =>
      intro σ1 x4 H locs ls res2 hD
      rw [D_MD_turn_L3.eq_1] at hD
      cases hD
    | succ k3 ih =>
      intro σ1 x4 H locs ls res2 hD hex wo hl
      rw [D_MD_turn_L3.eq_2] at hD
      refine lv_iload hx hb d_MD_turn_3 (lv_at hl 0 rfl) ?_
      refine lv_iload_n hx hb d_MD_turn_5 rfl (lv_at hl 3 rfl) ?_
      refine lv_icmp_ge (tgt := 47) hx hb d_MD_turn_6 (by decide) (fun c5 => ?_) (fun c5 => ?_)
      · have hD := ite_p hD c5
        exact hex σ1 _ _ _ (Option.some.inj hD).symm wo (lv_sub hl [] rfl)
      · have hD := ite_n hD c5
        refine lv_aload_n hx hb d_MD_turn_9 rfl (lv_at hl 1 rfl) ?_
        refine g_get cx wo m20 (cel_20 E ad n σ1) rfl in_MD 10 (by decide) wf_MD_24 rfl d_MD_turn_10 ?_
        refine lv_iload_n hx hb d_MD_turn_13 rfl (lv_at hl 2 rfl) ?_
        refine lv_iload hx hb d_MD_turn_14 (lv_at hl 0 rfl) ?_
        refine lv_iadd hx hb d_MD_turn_16 ?_
        refine lv_aload_n hx hb d_MD_turn_17 rfl (lv_at hl 1 rfl) ?_
        refine g_get cx wo m20 (cel_20 E ad n σ1) rfl in_MD 10 (by decide) wf_MD_24 rfl d_MD_turn_18 ?_
        refine lv_iload_n hx hb d_MD_turn_21 rfl (lv_at hl 2 rfl) ?_
        refine lv_iload hx hb d_MD_turn_22 (lv_at hl 0 rfl) ?_
        refine lv_iadd hx hb d_MD_turn_24 ?_
        obtain ⟨g6, hD⟩ := grd_s hD
        refine g_bald cx wo m25 (cel_25 E ad n σ1) g6 d_MD_turn_25 ?_
        refine lv_lload_n hx hb d_MD_turn_26 rfl (lv_at hl 4 rfl) ?_
        refine lv_bipush (v := 8) hx hb d_MD_turn_27 (by decide) ?_
        refine lv_iload hx hb d_MD_turn_29 (lv_at hl 0 rfl) ?_
        refine lv_imul hx hb d_MD_turn_31 ?_
        refine lv_lshr hx hb d_MD_turn_32 rfl ?_
        refine lv_ldc2 hx hb hown (hts _ wj_MD_107) d_MD_turn_33 ?_
        refine lv_land hx hb d_MD_turn_36 ?_
        refine lv_l2i hx hb d_MD_turn_37 rfl ?_
        refine lv_ixor hx hb d_MD_turn_38 ?_
        refine lv_i2b hx hb d_MD_turn_39 rfl ?_
        obtain ⟨g7, hD⟩ := grd_s hD
        refine g_bast cx wo m25 (cel_25 E ad n) g7 d_MD_turn_40 (fun H locs wo => ?_)
        obtain ⟨σ8, eσ8⟩ : ∃ z, z = stI σ1 25 ((p1 + x4)).toNatClampNeg (vp_nar .byte (((σ1.1 25 ((p1 + x4)).toNatClampNeg) ^^^ (((p3 >>> ((((8 : Int32) * x4)).toInt64 &&& 63)) &&& (255 : Int64))).toInt32)).toInt8.toInt32) := ⟨_, rfl⟩
        rw [← eσ8] at wo
        have hD := nm_at hD eσ8
        try dsimp only at hD
        obtain ⟨x9, ex9⟩ : ∃ y : Int32, y = x4 + (1 : Int32) := ⟨_, rfl⟩
        have hD := nm_at hD ex9
        try dsimp only at hD
        refine lv_iinc (v := x9) (lv' := [(5, .int x9), (0, .ref (ad 20)), (1, .int p1), (2, .int p2), (3, .long p3)]) hx hb d_MD_turn_41 hl (k := 0) rfl (by rw [ex9]; rfl) (by decide) rfl (fun ls hl => ?_)
        refine lv_goto (tgt := 3) hx hb d_MD_turn_44 (by decide) ?_
        exact ih σ8 x9 _ _ _ _ hD hex wo (lv_sub hl [0, 1, 2, 3, 4] rfl)
  obtain ⟨res12, hr13, hD⟩ := bd_s hD
  refine lp11 F σ (0 : Int32) _ _ _ _ hr13 (fun σ10 H locs ls hz wo hl => ?_) wo (lv_sub hl [0, 1, 2, 3, 4] rfl)
  have hz := hz.symm
  subst hz
  try dsimp only at hD
  cases hD
  exact t_vret cx wo d_MD_turn_47
def D_MD_isUnseen_L10 (F : Nat) (n : Nat → Nat) (σ : HS) (p1 : Int32) : Nat → Int32 → Int32 → Option (Int32)
  | 0, _, _ => none
  | k3 + 1, x4, x5 =>
      (if (((70 : Int32) * p1) + (70 : Int32)) ≤ x4 then
        some x5
      else
        (if x5 = 0 then
          grd (inb x4 (n 25)) (
          (if (σ.1 25 (x4).toNatClampNeg) = 0 then
            nm (x4 + (1 : Int32)) (fun x11 =>
            D_MD_isUnseen_L10 F n σ p1 k3 x11 (0 : Int32))
          else
            nm (x4 + (1 : Int32)) (fun x12 =>
            D_MD_isUnseen_L10 F n σ p1 k3 x12 (1 : Int32))))
        else
          nm (x4 + (1 : Int32)) (fun x8 =>
          D_MD_isUnseen_L10 F n σ p1 k3 x8 (1 : Int32))))
def D_MD_isUnseen_L85 (F : Nat) (n : Nat → Nat)  : Nat → Int32 → Int32 → Option (Int32)
  | 0, _, _ => none
  | k26 + 1, x27, x28 =>
      (if (8 : Int32) ≤ x27 then
                some x28
              else
                (if (x28 &&& (1 : Int32)) = (1 : Int32) then
                  nm (((x28).toUInt32 >>> (((1 : Int32)).toUInt32 &&& Int32.toUInt32 31)).toInt32 ^^^ (-2097792136 : Int32)) (fun x33 =>
                  nm (x27 + (1 : Int32)) (fun x34 =>
                  D_MD_isUnseen_L85 F n  k26 x34 x33))
                else
                  nm ((x28).toUInt32 >>> (((1 : Int32)).toUInt32 &&& Int32.toUInt32 31)).toInt32 (fun x31 =>
                  nm (x27 + (1 : Int32)) (fun x32 =>
                  D_MD_isUnseen_L85 F n  k26 x32 x31))))
def D_MD_isUnseen_L54 (F : Nat) (n : Nat → Nat) (σ : HS) (p1 : Int32) : Nat → Int32 → Int32 → Option (Int32)
  | 0, _, _ => none
  | k19 + 1, x20, x21 =>
      (if ((((70 : Int32) * p1) + (70 : Int32)) - (4 : Int32)) ≤ x20 then
          some x21
        else
          grd (inb x20 (n 25)) (
          nm (x21 ^^^ ((σ.1 25 (x20).toNatClampNeg) &&& (255 : Int32))) (fun x24 =>
          (D_MD_isUnseen_L85 F n  F (0 : Int32) x24).bind (fun (x35 : Int32) =>
          nm (x20 + (1 : Int32)) (fun x39 =>
            D_MD_isUnseen_L54 F n σ p1 k19 x39 x35)))))
def D_MD_isUnseen_L127 (F : Nat) (n : Nat → Nat) (σ : HS) (p1 : Int32) : Nat → Int32 → Int32 → Option (Int32)
  | 0, _, _ => none
  | k45 + 1, x46, x47 =>
      (if (4 : Int32) ≤ x46 then
            some x47
          else
            grd (inb (((((70 : Int32) * p1) + (70 : Int32)) - (4 : Int32)) + x46) (n 25)) (
            nm (x47 ^^^ (((σ.1 25 ((((((70 : Int32) * p1) + (70 : Int32)) - (4 : Int32)) + x46)).toNatClampNeg) &&& (255 : Int32)) <<< (((8 : Int32) * x46) &&& 31))) (fun x50 =>
            nm (x46 + (1 : Int32)) (fun x51 =>
            D_MD_isUnseen_L127 F n σ p1 k45 x51 x50))))
def D_MD_isUnseen (F : Nat) (n : Nat → Nat) (σ : HS) (p1 : Int32) : Option (Int32) :=
nm ((70 : Int32) * p1) (fun x1 =>
  (D_MD_isUnseen_L10 F n σ p1 F x1 (0 : Int32)).bind (fun (x13 : Int32) =>
  nm ((70 : Int32) * p1) (fun x17 =>
    (D_MD_isUnseen_L54 F n σ p1 F x17 (0 : Int32)).bind (fun (x40 : Int32) =>
    (D_MD_isUnseen_L127 F n σ p1 F (0 : Int32) x40).bind (fun (x52 : Int32) =>
      (if x13 = 0 then
          some (0 : Int32)
        else
          (if x52 = 0 then
            some (1 : Int32)
          else
            some (0 : Int32))))))))
set_option maxRecDepth 100000 in
set_option maxHeartbeats 4000000 in
theorem k_MD_isUnseen (l : Launch) (E : EV) (ad n : Nat → Nat) (L : List Nat) (hL : ∀ a ∈ ([20, 25] : List Nat), a ∈ L) (F : Nat) (σ  : HS) (p1 : Int32) (r : Int32) (hD : D_MD_isUnseen F n σ p1 = some r) : CtI l E y_MD_isUnseen c_MD_isUnseen 6 (some FieldType.boolean) ({ frames := 0, cells := 0, slots := 0, locals := 0 }) [.ref (ad 20), .int p1] (wl E ad n L σ) r (wl E ad n L σ) := by
  refine fun sz => ent (by decide) (Nat.le_of_ble_eq_true rfl) ?_
  intro p e s m below meth c hsz cx wo ls hl
  have hx := cx.1.1
  have hb := cx.1.2.1
  have hown := cx.1.2.2.2.1
  have hts := cx.1.2.2.2.2
  have hl : lv_has ls 6 [(0, .ref (ad 20)), (1, .int p1)] := hl
  have m20 : 20 ∈ L := hL 20 (by decide)
  have m25 : 25 ∈ L := hL 25 (by decide)
  rw [D_MD_isUnseen] at hD
  refine lv_iconst (v := 0) hx hb d_MD_isUnseen_0 (by decide) ?_
  refine lv_istore_n (lv' := [(2, .int (0 : Int32)), (0, .ref (ad 20)), (1, .int p1)]) hx hb d_MD_isUnseen_1 rfl hl (by decide) rfl (fun ls hl => ?_)
  refine lv_iconst (v := 0) hx hb d_MD_isUnseen_2 (by decide) ?_
  refine lv_istore_n (lv' := [(3, .int (0 : Int32)), (2, .int (0 : Int32)), (0, .ref (ad 20)), (1, .int p1)]) hx hb d_MD_isUnseen_3 rfl hl (by decide) rfl (fun ls hl => ?_)
  refine lv_bipush (v := 70) hx hb d_MD_isUnseen_4 (by decide) ?_
  refine lv_iload_n hx hb d_MD_isUnseen_6 rfl (lv_at hl 3 rfl) ?_
  refine lv_imul hx hb d_MD_isUnseen_7 ?_
  refine lv_topi (fun x1 ex1 => ?_)
  have hD := nm_at hD ex1
  try dsimp only at hD
  refine lv_istore (lv' := [(4, .int x1), (3, .int (0 : Int32)), (2, .int (0 : Int32)), (0, .ref (ad 20)), (1, .int p1)]) hx hb d_MD_isUnseen_8 hl (by decide) rfl (fun ls hl => ?_)
  have lp14 : ∀ (k3 : Nat) (x4 : Int32) (x5 : Int32) (H : Heap) (locs : List Loc) (ls : Array Slot) (res2 : Int32), D_MD_isUnseen_L10 F n σ p1 k3 x4 x5 = some res2 → (∀ (x13 : Int32) (H : Heap) (locs : List Loc) (ls : Array Slot), res2 = x13 → Wo E (va_A (wl E ad n L σ) sz) s.heap (wl E ad n L σ) H locs → lv_has ls 6 [(3, .int x13), (2, .int (0 : Int32)), (0, .ref (ad 20)), (1, .int p1)] → W p l e ({ frames := 0, cells := 0, slots := 0, locals := 0 }) s m ([.ref (ad 20), .int p1] : List Value).toArray below meth c H locs 0 0 (MQ below (va_Qi (fun (x : Int32) (_ : Unit) => x = r) (fun _ t => va_P E.1 cls6 (wl E ad n L σ) t.heap ∧ va_D (va_A (wl E ad n L σ) sz) (wl E ad n L σ)) (va_A (wl E ad n L σ) sz)) ([.ref (ad 20), .int p1] : List Value).toArray s 0 0 (va_A (wl E ad n L σ) sz)) (F0 m 48 ls [])) → Wo E (va_A (wl E ad n L σ) sz) s.heap (wl E ad n L σ) H locs → lv_has ls 6 [(4, .int x4), (3, .int x5), (2, .int (0 : Int32)), (0, .ref (ad 20)), (1, .int p1)] → W p l e ({ frames := 0, cells := 0, slots := 0, locals := 0 }) s m ([.ref (ad 20), .int p1] : List Value).toArray below meth c H locs 0 0 (MQ below (va_Qi (fun (x : Int32) (_ : Unit) => x = r) (fun _ t => va_P E.1 cls6 (wl E ad n L σ) t.heap ∧ va_D (va_A (wl E ad n L σ) sz) (wl E ad n L σ)) (va_A (wl E ad n L σ) sz)) ([.ref (ad 20), .int p1] : List Value).toArray s 0 0 (va_A (wl E ad n L σ) sz)) (F0 m 10 ls []) := by
    intro k3
    induction k3 with
    | zero =>
      intro x4 x5 H locs ls res2 hD
      rw [D_MD_isUnseen_L10.eq_1] at hD
      cases hD
    | succ k3 ih =>
      intro x4 x5 H locs ls res2 hD hex wo hl
      rw [D_MD_isUnseen_L10.eq_2] at hD
      refine lv_iload hx hb d_MD_isUnseen_10 (lv_at hl 0 rfl) ?_
      refine lv_bipush (v := 70) hx hb d_MD_isUnseen_12 (by decide) ?_
      refine lv_iload_n hx hb d_MD_isUnseen_14 rfl (lv_at hl 4 rfl) ?_
      refine lv_imul hx hb d_MD_isUnseen_15 ?_
      refine lv_bipush (v := 70) hx hb d_MD_isUnseen_16 (by decide) ?_
      refine lv_iadd hx hb d_MD_isUnseen_18 ?_
      refine lv_icmp_ge (tgt := 48) hx hb d_MD_isUnseen_19 (by decide) (fun c6 => ?_) (fun c6 => ?_)
      · have hD := ite_p hD c6
        exact hex x5 _ _ _ (Option.some.inj hD).symm wo (lv_sub hl [1, 2, 3, 4] rfl)
      · have hD := ite_n hD c6
        refine lv_iload_n hx hb d_MD_isUnseen_22 rfl (lv_at hl 1 rfl) ?_
        refine lv_if_ne (tgt := 36) hx hb d_MD_isUnseen_23 (by decide) (fun c7 => ?_) (fun c7 => ?_)
        · have hD := ite_n hD c7
          refine lv_iconst (v := 1) hx hb d_MD_isUnseen_36 (by decide) ?_
          refine lv_goto (tgt := 41) hx hb d_MD_isUnseen_37 (by decide) ?_
          refine lv_istore_n (lv' := [(3, .int (1 : Int32)), (4, .int x4), (2, .int (0 : Int32)), (0, .ref (ad 20)), (1, .int p1)]) hx hb d_MD_isUnseen_41 rfl hl (by decide) rfl (fun ls hl => ?_)
          obtain ⟨x8, ex8⟩ : ∃ y : Int32, y = x4 + (1 : Int32) := ⟨_, rfl⟩
          have hD := nm_at hD ex8
          try dsimp only at hD
          refine lv_iinc (v := x8) (lv' := [(4, .int x8), (3, .int (1 : Int32)), (2, .int (0 : Int32)), (0, .ref (ad 20)), (1, .int p1)]) hx hb d_MD_isUnseen_42 hl (k := 1) rfl (by rw [ex8]; rfl) (by decide) rfl (fun ls hl => ?_)
          refine lv_goto (tgt := 10) hx hb d_MD_isUnseen_45 (by decide) ?_
          exact ih x8 (1 : Int32) _ _ _ _ hD hex wo (lv_sub hl [0, 1, 2, 3, 4] rfl)
        · have hD := ite_p hD c7
          refine lv_aload_n hx hb d_MD_isUnseen_26 rfl (lv_at hl 3 rfl) ?_
          refine g_get cx wo m20 (cel_20 E ad n σ) rfl in_MD 10 (by decide) wf_MD_24 rfl d_MD_isUnseen_27 ?_
          refine lv_iload hx hb d_MD_isUnseen_30 (lv_at hl 0 rfl) ?_
          obtain ⟨g9, hD⟩ := grd_s hD
          refine g_bald cx wo m25 (cel_25 E ad n σ) g9 d_MD_isUnseen_32 ?_
          refine lv_if_eq (tgt := 40) hx hb d_MD_isUnseen_33 (by decide) (fun c10 => ?_) (fun c10 => ?_)
          · have hD := ite_p hD c10
            refine lv_iconst (v := 0) hx hb d_MD_isUnseen_40 (by decide) ?_
            refine lv_istore_n (lv' := [(3, .int (0 : Int32)), (4, .int x4), (2, .int (0 : Int32)), (0, .ref (ad 20)), (1, .int p1)]) hx hb d_MD_isUnseen_41 rfl hl (by decide) rfl (fun ls hl => ?_)
            obtain ⟨x11, ex11⟩ : ∃ y : Int32, y = x4 + (1 : Int32) := ⟨_, rfl⟩
            have hD := nm_at hD ex11
            try dsimp only at hD
            refine lv_iinc (v := x11) (lv' := [(4, .int x11), (3, .int (0 : Int32)), (2, .int (0 : Int32)), (0, .ref (ad 20)), (1, .int p1)]) hx hb d_MD_isUnseen_42 hl (k := 1) rfl (by rw [ex11]; rfl) (by decide) rfl (fun ls hl => ?_)
            refine lv_goto (tgt := 10) hx hb d_MD_isUnseen_45 (by decide) ?_
            exact ih x11 (0 : Int32) _ _ _ _ hD hex wo (lv_sub hl [0, 1, 2, 3, 4] rfl)
          · have hD := ite_n hD c10
            refine lv_iconst (v := 1) hx hb d_MD_isUnseen_36 (by decide) ?_
            refine lv_goto (tgt := 41) hx hb d_MD_isUnseen_37 (by decide) ?_
            refine lv_istore_n (lv' := [(3, .int (1 : Int32)), (4, .int x4), (2, .int (0 : Int32)), (0, .ref (ad 20)), (1, .int p1)]) hx hb d_MD_isUnseen_41 rfl hl (by decide) rfl (fun ls hl => ?_)
            obtain ⟨x12, ex12⟩ : ∃ y : Int32, y = x4 + (1 : Int32) := ⟨_, rfl⟩
            have hD := nm_at hD ex12
            try dsimp only at hD
            refine lv_iinc (v := x12) (lv' := [(4, .int x12), (3, .int (1 : Int32)), (2, .int (0 : Int32)), (0, .ref (ad 20)), (1, .int p1)]) hx hb d_MD_isUnseen_42 hl (k := 1) rfl (by rw [ex12]; rfl) (by decide) rfl (fun ls hl => ?_)
            refine lv_goto (tgt := 10) hx hb d_MD_isUnseen_45 (by decide) ?_
            exact ih x12 (1 : Int32) _ _ _ _ hD hex wo (lv_sub hl [0, 1, 2, 3, 4] rfl)
  obtain ⟨res15, hr16, hD⟩ := bd_s hD
  refine lp14 F x1 (0 : Int32) _ _ _ _ hr16 (fun x13 H locs ls hz wo hl => ?_) wo (lv_sub hl [0, 1, 2, 3, 4] rfl)
  have hz := hz.symm
  subst hz
  try dsimp only at hD
  refine lv_bipush (v := 70) hx hb d_MD_isUnseen_48 (by decide) ?_
  refine lv_iload_n hx hb d_MD_isUnseen_50 rfl (lv_at hl 3 rfl) ?_
  refine lv_imul hx hb d_MD_isUnseen_51 ?_
  refine lv_topi (fun x17 ex17 => ?_)
  have hD := nm_at hD ex17
  try dsimp only at hD
  refine lv_istore (lv' := [(4, .int x17), (3, .int x13), (2, .int (0 : Int32)), (0, .ref (ad 20)), (1, .int p1)]) hx hb d_MD_isUnseen_52 hl (by decide) rfl (fun ls hl => ?_)
  have lp41 : ∀ (k19 : Nat) (x20 : Int32) (x21 : Int32) (H : Heap) (locs : List Loc) (ls : Array Slot) (res18 : Int32), D_MD_isUnseen_L54 F n σ p1 k19 x20 x21 = some res18 → (∀ (x40 : Int32) (H : Heap) (locs : List Loc) (ls : Array Slot), res18 = x40 → Wo E (va_A (wl E ad n L σ) sz) s.heap (wl E ad n L σ) H locs → lv_has ls 6 [(3, .int x13), (2, .int x40), (0, .ref (ad 20)), (1, .int p1)] → W p l e ({ frames := 0, cells := 0, slots := 0, locals := 0 }) s m ([.ref (ad 20), .int p1] : List Value).toArray below meth c H locs 0 0 (MQ below (va_Qi (fun (x : Int32) (_ : Unit) => x = r) (fun _ t => va_P E.1 cls6 (wl E ad n L σ) t.heap ∧ va_D (va_A (wl E ad n L σ) sz) (wl E ad n L σ)) (va_A (wl E ad n L σ) sz)) ([.ref (ad 20), .int p1] : List Value).toArray s 0 0 (va_A (wl E ad n L σ) sz)) (F0 m 124 ls [])) → Wo E (va_A (wl E ad n L σ) sz) s.heap (wl E ad n L σ) H locs → lv_has ls 6 [(4, .int x20), (3, .int x13), (2, .int x21), (0, .ref (ad 20)), (1, .int p1)] → W p l e ({ frames := 0, cells := 0, slots := 0, locals := 0 }) s m ([.ref (ad 20), .int p1] : List Value).toArray below meth c H locs 0 0 (MQ below (va_Qi (fun (x : Int32) (_ : Unit) => x = r) (fun _ t => va_P E.1 cls6 (wl E ad n L σ) t.heap ∧ va_D (va_A (wl E ad n L σ) sz) (wl E ad n L σ)) (va_A (wl E ad n L σ) sz)) ([.ref (ad 20), .int p1] : List Value).toArray s 0 0 (va_A (wl E ad n L σ) sz)) (F0 m 54 ls []) := by
    intro k19
    induction k19 with
    | zero =>
      intro x20 x21 H locs ls res18 hD
      rw [D_MD_isUnseen_L54.eq_1] at hD
      cases hD
    | succ k19 ih =>
      intro x20 x21 H locs ls res18 hD hex wo hl
      rw [D_MD_isUnseen_L54.eq_2] at hD
      refine lv_iload hx hb d_MD_isUnseen_54 (lv_at hl 0 rfl) ?_
      refine lv_bipush (v := 70) hx hb d_MD_isUnseen_56 (by decide) ?_
      refine lv_iload_n hx hb d_MD_isUnseen_58 rfl (lv_at hl 4 rfl) ?_
      refine lv_imul hx hb d_MD_isUnseen_59 ?_
      refine lv_bipush (v := 70) hx hb d_MD_isUnseen_60 (by decide) ?_
      refine lv_iadd hx hb d_MD_isUnseen_62 ?_
      refine lv_iconst (v := 4) hx hb d_MD_isUnseen_63 (by decide) ?_
      refine lv_isub hx hb d_MD_isUnseen_64 ?_
      refine lv_icmp_ge (tgt := 124) hx hb d_MD_isUnseen_65 (by decide) (fun c22 => ?_) (fun c22 => ?_)
      · have hD := ite_p hD c22
        exact hex x21 _ _ _ (Option.some.inj hD).symm wo (lv_sub hl [1, 2, 3, 4] rfl)
      · have hD := ite_n hD c22
        refine lv_iload_n hx hb d_MD_isUnseen_68 rfl (lv_at hl 2 rfl) ?_
        refine lv_aload_n hx hb d_MD_isUnseen_69 rfl (lv_at hl 3 rfl) ?_
        refine g_get cx wo m20 (cel_20 E ad n σ) rfl in_MD 10 (by decide) wf_MD_24 rfl d_MD_isUnseen_70 ?_
        refine lv_iload hx hb d_MD_isUnseen_73 (lv_at hl 0 rfl) ?_
        obtain ⟨g23, hD⟩ := grd_s hD
        refine g_bald cx wo m25 (cel_25 E ad n σ) g23 d_MD_isUnseen_75 ?_
        refine lv_sipush (v := 255) hx hb d_MD_isUnseen_76 (by decide) ?_
        refine lv_iand hx hb d_MD_isUnseen_79 ?_
        refine lv_ixor hx hb d_MD_isUnseen_80 ?_
        refine lv_topi (fun x24 ex24 => ?_)
        have hD := nm_at hD ex24
        try dsimp only at hD
        refine lv_istore_n (lv' := [(2, .int x24), (4, .int x20), (3, .int x13), (0, .ref (ad 20)), (1, .int p1)]) hx hb d_MD_isUnseen_81 rfl hl (by decide) rfl (fun ls hl => ?_)
        refine lv_iconst (v := 0) hx hb d_MD_isUnseen_82 (by decide) ?_
        refine lv_istore (lv' := [(5, .int (0 : Int32)), (2, .int x24), (4, .int x20), (3, .int x13), (0, .ref (ad 20)), (1, .int p1)]) hx hb d_MD_isUnseen_83 hl (by decide) rfl (fun ls hl => ?_)
        have lp36 : ∀ (k26 : Nat) (x27 : Int32) (x28 : Int32) (H : Heap) (locs : List Loc) (ls : Array Slot) (res25 : Int32), D_MD_isUnseen_L85 F n  k26 x27 x28 = some res25 → (∀ (x35 : Int32) (H : Heap) (locs : List Loc) (ls : Array Slot), res25 = x35 → Wo E (va_A (wl E ad n L σ) sz) s.heap (wl E ad n L σ) H locs → lv_has ls 6 [(2, .int x35), (4, .int x20), (3, .int x13), (0, .ref (ad 20)), (1, .int p1)] → W p l e ({ frames := 0, cells := 0, slots := 0, locals := 0 }) s m ([.ref (ad 20), .int p1] : List Value).toArray below meth c H locs 0 0 (MQ below (va_Qi (fun (x : Int32) (_ : Unit) => x = r) (fun _ t => va_P E.1 cls6 (wl E ad n L σ) t.heap ∧ va_D (va_A (wl E ad n L σ) sz) (wl E ad n L σ)) (va_A (wl E ad n L σ) sz)) ([.ref (ad 20), .int p1] : List Value).toArray s 0 0 (va_A (wl E ad n L σ) sz)) (F0 m 118 ls [])) → Wo E (va_A (wl E ad n L σ) sz) s.heap (wl E ad n L σ) H locs → lv_has ls 6 [(5, .int x27), (2, .int x28), (4, .int x20), (3, .int x13), (0, .ref (ad 20)), (1, .int p1)] → W p l e ({ frames := 0, cells := 0, slots := 0, locals := 0 }) s m ([.ref (ad 20), .int p1] : List Value).toArray below meth c H locs 0 0 (MQ below (va_Qi (fun (x : Int32) (_ : Unit) => x = r) (fun _ t => va_P E.1 cls6 (wl E ad n L σ) t.heap ∧ va_D (va_A (wl E ad n L σ) sz) (wl E ad n L σ)) (va_A (wl E ad n L σ) sz)) ([.ref (ad 20), .int p1] : List Value).toArray s 0 0 (va_A (wl E ad n L σ) sz)) (F0 m 85 ls []) := by
          intro k26
          induction k26 with
          | zero =>
            intro x27 x28 H locs ls res25 hD
            rw [D_MD_isUnseen_L85.eq_1] at hD
            cases hD
          | succ k26 ih =>
            intro x27 x28 H locs ls res25 hD hex wo hl
            rw [D_MD_isUnseen_L85.eq_2] at hD
            refine lv_iload hx hb d_MD_isUnseen_85 (lv_at hl 0 rfl) ?_
            refine lv_bipush (v := 8) hx hb d_MD_isUnseen_87 (by decide) ?_
            refine lv_icmp_ge (tgt := 118) hx hb d_MD_isUnseen_89 (by decide) (fun c29 => ?_) (fun c29 => ?_)
            · have hD := ite_p hD c29
              exact hex x28 _ _ _ (Option.some.inj hD).symm wo (lv_sub hl [1, 2, 3, 4, 5] rfl)
            · have hD := ite_n hD c29
              refine lv_iload_n hx hb d_MD_isUnseen_92 rfl (lv_at hl 1 rfl) ?_
              refine lv_iconst (v := 1) hx hb d_MD_isUnseen_93 (by decide) ?_
              refine lv_iand hx hb d_MD_isUnseen_94 ?_
              refine lv_iconst (v := 1) hx hb d_MD_isUnseen_95 (by decide) ?_
              refine lv_icmp_ne (tgt := 108) hx hb d_MD_isUnseen_96 (by decide) (fun c30 => ?_) (fun c30 => ?_)
              · have hD := ite_n hD c30
                refine lv_iload_n hx hb d_MD_isUnseen_108 rfl (lv_at hl 1 rfl) ?_
                refine lv_iconst (v := 1) hx hb d_MD_isUnseen_109 (by decide) ?_
                refine lv_iushr hx hb d_MD_isUnseen_110 rfl ?_
                refine lv_topi (fun x31 ex31 => ?_)
                have hD := nm_at hD ex31
                try dsimp only at hD
                refine lv_istore_n (lv' := [(2, .int x31), (5, .int x27), (4, .int x20), (3, .int x13), (0, .ref (ad 20)), (1, .int p1)]) hx hb d_MD_isUnseen_111 rfl hl (by decide) rfl (fun ls hl => ?_)
                obtain ⟨x32, ex32⟩ : ∃ y : Int32, y = x27 + (1 : Int32) := ⟨_, rfl⟩
                have hD := nm_at hD ex32
                try dsimp only at hD
                refine lv_iinc (v := x32) (lv' := [(5, .int x32), (2, .int x31), (4, .int x20), (3, .int x13), (0, .ref (ad 20)), (1, .int p1)]) hx hb d_MD_isUnseen_112 hl (k := 1) rfl (by rw [ex32]; rfl) (by decide) rfl (fun ls hl => ?_)
                refine lv_goto (tgt := 85) hx hb d_MD_isUnseen_115 (by decide) ?_
                exact ih x32 x31 _ _ _ _ hD hex wo (lv_sub hl [0, 1, 2, 3, 4, 5] rfl)
              · have hD := ite_p hD c30
                refine lv_iload_n hx hb d_MD_isUnseen_99 rfl (lv_at hl 1 rfl) ?_
                refine lv_iconst (v := 1) hx hb d_MD_isUnseen_100 (by decide) ?_
                refine lv_iushr hx hb d_MD_isUnseen_101 rfl ?_
                refine lv_ldc hx hb hown (hts _ wc_MD_140) d_MD_isUnseen_102 ?_
                refine lv_ixor hx hb d_MD_isUnseen_104 ?_
                refine lv_goto (tgt := 111) hx hb d_MD_isUnseen_105 (by decide) ?_
                refine lv_topi (fun x33 ex33 => ?_)
                have hD := nm_at hD ex33
                try dsimp only at hD
                refine lv_istore_n (lv' := [(2, .int x33), (5, .int x27), (4, .int x20), (3, .int x13), (0, .ref (ad 20)), (1, .int p1)]) hx hb d_MD_isUnseen_111 rfl hl (by decide) rfl (fun ls hl => ?_)
                obtain ⟨x34, ex34⟩ : ∃ y : Int32, y = x27 + (1 : Int32) := ⟨_, rfl⟩
                have hD := nm_at hD ex34
                try dsimp only at hD
                refine lv_iinc (v := x34) (lv' := [(5, .int x34), (2, .int x33), (4, .int x20), (3, .int x13), (0, .ref (ad 20)), (1, .int p1)]) hx hb d_MD_isUnseen_112 hl (k := 1) rfl (by rw [ex34]; rfl) (by decide) rfl (fun ls hl => ?_)
                refine lv_goto (tgt := 85) hx hb d_MD_isUnseen_115 (by decide) ?_
                exact ih x34 x33 _ _ _ _ hD hex wo (lv_sub hl [0, 1, 2, 3, 4, 5] rfl)
        obtain ⟨res37, hr38, hD⟩ := bd_s hD
        refine lp36 F (0 : Int32) x24 _ _ _ _ hr38 (fun x35 H locs ls hz wo hl => ?_) wo (lv_sub hl [0, 1, 2, 3, 4, 5] rfl)
        have hz := hz.symm
        subst hz
        try dsimp only at hD
        obtain ⟨x39, ex39⟩ : ∃ y : Int32, y = x20 + (1 : Int32) := ⟨_, rfl⟩
        have hD := nm_at hD ex39
        try dsimp only at hD
        refine lv_iinc (v := x39) (lv' := [(4, .int x39), (2, .int x35), (3, .int x13), (0, .ref (ad 20)), (1, .int p1)]) hx hb d_MD_isUnseen_118 hl (k := 1) rfl (by rw [ex39]; rfl) (by decide) rfl (fun ls hl => ?_)
        refine lv_goto (tgt := 54) hx hb d_MD_isUnseen_121 (by decide) ?_
        exact ih x39 x35 _ _ _ _ hD hex wo (lv_sub hl [0, 2, 1, 3, 4] rfl)
  obtain ⟨res42, hr43, hD⟩ := bd_s hD
  refine lp41 F x17 (0 : Int32) _ _ _ _ hr43 (fun x40 H locs ls hz wo hl => ?_) wo (lv_sub hl [0, 1, 2, 3, 4] rfl)
  have hz := hz.symm
  subst hz
  try dsimp only at hD
  refine lv_iconst (v := 0) hx hb d_MD_isUnseen_124 (by decide) ?_
  refine lv_istore (lv' := [(4, .int (0 : Int32)), (3, .int x13), (2, .int x40), (0, .ref (ad 20)), (1, .int p1)]) hx hb d_MD_isUnseen_125 hl (by decide) rfl (fun ls hl => ?_)
  have lp53 : ∀ (k45 : Nat) (x46 : Int32) (x47 : Int32) (H : Heap) (locs : List Loc) (ls : Array Slot) (res44 : Int32), D_MD_isUnseen_L127 F n σ p1 k45 x46 x47 = some res44 → (∀ (x52 : Int32) (H : Heap) (locs : List Loc) (ls : Array Slot), res44 = x52 → Wo E (va_A (wl E ad n L σ) sz) s.heap (wl E ad n L σ) H locs → lv_has ls 6 [(3, .int x13), (2, .int x52)] → W p l e ({ frames := 0, cells := 0, slots := 0, locals := 0 }) s m ([.ref (ad 20), .int p1] : List Value).toArray below meth c H locs 0 0 (MQ below (va_Qi (fun (x : Int32) (_ : Unit) => x = r) (fun _ t => va_P E.1 cls6 (wl E ad n L σ) t.heap ∧ va_D (va_A (wl E ad n L σ) sz) (wl E ad n L σ)) (va_A (wl E ad n L σ) sz)) ([.ref (ad 20), .int p1] : List Value).toArray s 0 0 (va_A (wl E ad n L σ) sz)) (F0 m 169 ls [])) → Wo E (va_A (wl E ad n L σ) sz) s.heap (wl E ad n L σ) H locs → lv_has ls 6 [(4, .int x46), (3, .int x13), (2, .int x47), (0, .ref (ad 20)), (1, .int p1)] → W p l e ({ frames := 0, cells := 0, slots := 0, locals := 0 }) s m ([.ref (ad 20), .int p1] : List Value).toArray below meth c H locs 0 0 (MQ below (va_Qi (fun (x : Int32) (_ : Unit) => x = r) (fun _ t => va_P E.1 cls6 (wl E ad n L σ) t.heap ∧ va_D (va_A (wl E ad n L σ) sz) (wl E ad n L σ)) (va_A (wl E ad n L σ) sz)) ([.ref (ad 20), .int p1] : List Value).toArray s 0 0 (va_A (wl E ad n L σ) sz)) (F0 m 127 ls []) := by
    intro k45
    induction k45 with
    | zero =>
      intro x46 x47 H locs ls res44 hD
      rw [D_MD_isUnseen_L127.eq_1] at hD
      cases hD
    | succ k45 ih =>
      intro x46 x47 H locs ls res44 hD hex wo hl
      rw [D_MD_isUnseen_L127.eq_2] at hD
      refine lv_iload hx hb d_MD_isUnseen_127 (lv_at hl 0 rfl) ?_
      refine lv_iconst (v := 4) hx hb d_MD_isUnseen_129 (by decide) ?_
      refine lv_icmp_ge (tgt := 169) hx hb d_MD_isUnseen_130 (by decide) (fun c48 => ?_) (fun c48 => ?_)
      · have hD := ite_p hD c48
        exact hex x47 _ _ _ (Option.some.inj hD).symm wo (lv_sub hl [1, 2] rfl)
      · have hD := ite_n hD c48
        refine lv_iload_n hx hb d_MD_isUnseen_133 rfl (lv_at hl 2 rfl) ?_
        refine lv_aload_n hx hb d_MD_isUnseen_134 rfl (lv_at hl 3 rfl) ?_
        refine g_get cx wo m20 (cel_20 E ad n σ) rfl in_MD 10 (by decide) wf_MD_24 rfl d_MD_isUnseen_135 ?_
        refine lv_bipush (v := 70) hx hb d_MD_isUnseen_138 (by decide) ?_
        refine lv_iload_n hx hb d_MD_isUnseen_140 rfl (lv_at hl 4 rfl) ?_
        refine lv_imul hx hb d_MD_isUnseen_141 ?_
        refine lv_bipush (v := 70) hx hb d_MD_isUnseen_142 (by decide) ?_
        refine lv_iadd hx hb d_MD_isUnseen_144 ?_
        refine lv_iconst (v := 4) hx hb d_MD_isUnseen_145 (by decide) ?_
        refine lv_isub hx hb d_MD_isUnseen_146 ?_
        refine lv_iload hx hb d_MD_isUnseen_147 (lv_at hl 0 rfl) ?_
        refine lv_iadd hx hb d_MD_isUnseen_149 ?_
        obtain ⟨g49, hD⟩ := grd_s hD
        refine g_bald cx wo m25 (cel_25 E ad n σ) g49 d_MD_isUnseen_150 ?_
        refine lv_sipush (v := 255) hx hb d_MD_isUnseen_151 (by decide) ?_
        refine lv_iand hx hb d_MD_isUnseen_154 ?_
        refine lv_bipush (v := 8) hx hb d_MD_isUnseen_155 (by decide) ?_
        refine lv_iload hx hb d_MD_isUnseen_157 (lv_at hl 0 rfl) ?_
        refine lv_imul hx hb d_MD_isUnseen_159 ?_
        refine lv_ishl hx hb d_MD_isUnseen_160 ?_
        refine lv_ixor hx hb d_MD_isUnseen_161 ?_
        refine lv_topi (fun x50 ex50 => ?_)
        have hD := nm_at hD ex50
        try dsimp only at hD
        refine lv_istore_n (lv' := [(2, .int x50), (4, .int x46), (3, .int x13), (0, .ref (ad 20)), (1, .int p1)]) hx hb d_MD_isUnseen_162 rfl hl (by decide) rfl (fun ls hl => ?_)
        obtain ⟨x51, ex51⟩ : ∃ y : Int32, y = x46 + (1 : Int32) := ⟨_, rfl⟩
        have hD := nm_at hD ex51
        try dsimp only at hD
        refine lv_iinc (v := x51) (lv' := [(4, .int x51), (2, .int x50), (3, .int x13), (0, .ref (ad 20)), (1, .int p1)]) hx hb d_MD_isUnseen_163 hl (k := 1) rfl (by rw [ex51]; rfl) (by decide) rfl (fun ls hl => ?_)
        refine lv_goto (tgt := 127) hx hb d_MD_isUnseen_166 (by decide) ?_
        exact ih x51 x50 _ _ _ _ hD hex wo (lv_sub hl [0, 2, 1, 3, 4] rfl)
  obtain ⟨res54, hr55, hD⟩ := bd_s hD
  refine lp53 F (0 : Int32) x40 _ _ _ _ hr55 (fun x52 H locs ls hz wo hl => ?_) wo (lv_sub hl [0, 1, 2, 3, 4] rfl)
  have hz := hz.symm
  subst hz
  try dsimp only at hD
  refine lv_iload_n hx hb d_MD_isUnseen_169 rfl (lv_at hl 0 rfl) ?_
  refine lv_if_eq (tgt := 181) hx hb d_MD_isUnseen_170 (by decide) (fun c56 => ?_) (fun c56 => ?_)
  · have hD := ite_p hD c56
    refine lv_iconst (v := 0) hx hb d_MD_isUnseen_181 (by decide) ?_
    cases hD
    exact t_ireti cx wo rfl rfl d_MD_isUnseen_182
  · have hD := ite_n hD c56
    refine lv_iload_n hx hb d_MD_isUnseen_173 rfl (lv_at hl 1 rfl) ?_
    refine lv_if_ne (tgt := 181) hx hb d_MD_isUnseen_174 (by decide) (fun c57 => ?_) (fun c57 => ?_)
    · have hD := ite_n hD c57
      refine lv_iconst (v := 0) hx hb d_MD_isUnseen_181 (by decide) ?_
      cases hD
      exact t_ireti cx wo rfl rfl d_MD_isUnseen_182
    · have hD := ite_p hD c57
      refine lv_iconst (v := 1) hx hb d_MD_isUnseen_177 (by decide) ?_
      refine lv_goto (tgt := 182) hx hb d_MD_isUnseen_178 (by decide) ?_
      cases hD
      exact t_ireti cx wo rfl rfl d_MD_isUnseen_182
def D_MD_spoil (F : Nat) (n : Nat → Nat) (σ : HS) (p1 : Int32) (p2 : Int32) (p3 : Int32) (p4 : Int32) (p5 : Int64) : Option (HS × Int32) :=
jn (fun (σ2 : HS) =>
    (D_MD_at F n σ2 p1 p2).bind (fun (x3 : Int32) =>
    (D_MD_turn F n σ2 (((70 : Int32) * x3) + p3) p4 p5).bind (fun (σ5 : HS) =>
    some (σ5, (0 : Int32)))))
  (fun j1 =>
  jn (fun (x7 : Int32) =>
    (D_MD_fails F n σ x7 (1 : Int32)).bind (fun (qx8 : HS × Int32) => nm2 qx8 (fun (σ9 : HS) (x8 : Int32) =>
    (if x8 = 0 then
      (if (σ9.1 20 12) = 0 then
        some (σ9, (0 : Int32))
      else
        grd (inb p1 (n 22)) (
        (if (σ9.1 22 (p1).toNatClampNeg) = 0 then
          some (σ9, (0 : Int32))
        else
          (D_MD_holder F n σ9 p2 p1).bind (fun (x14 : Int32) =>
          (if 0 ≤ x14 then
            (D_MD_at F n σ9 p1 p2).bind (fun (x16 : Int32) =>
            (D_MD_turn F n σ9 (((70 : Int32) * x16) + p3) p4 p5).bind (fun (σ18 : HS) =>
            (D_MD_bad F n σ18 p2 x14 (-1 : Int32)).bind (fun (x19 : Int32) =>
            (if (2 : Int32) ≤ x19 then
              j1 σ18
            else
              (D_MD_at F n σ18 p1 p2).bind (fun (x21 : Int32) =>
              (D_MD_isUnseen F n σ18 x21).bind (fun (x22 : Int32) =>
              (if x22 = 0 then
                some (σ18, (1 : Int32))
              else
                j1 σ18)))))))
          else
            some (σ9, (0 : Int32)))))))
    else
      some (σ9, (0 : Int32))))))
  (fun j6 =>
  jn (fun (x25 : Int32) =>
    (if p1 < 0 then
      j6 (1 : Int32)
    else
      (if (σ.1 20 1) ≤ p1 then
        j6 (1 : Int32)
      else
        (if p2 < 0 then
          j6 (1 : Int32)
        else
          (if (σ.1 20 3) ≤ p2 then
            j6 (1 : Int32)
          else
            (if x25 = 0 then
              j6 (1 : Int32)
            else
              (if p4 = (8 : Int32) then
                (if (lg_cmp p5 (0 : Int64)) = 0 then
                  j6 (1 : Int32)
                else
                  j6 (0 : Int32))
              else
                (if (lg_cmp (p5 &&& (((1 : Int64) <<< ((((8 : Int32) * p4)).toInt64 &&& 63)) - (1 : Int64))) (0 : Int64)) = 0 then
                  j6 (1 : Int32)
                else
                  j6 (0 : Int32)))))))))
  (fun j24 =>
  (if p4 ≤ 0 then
    j24 (0 : Int32)
  else
    (if (9 : Int32) ≤ p4 then
      j24 (0 : Int32)
    else
      (if p3 < 0 then
        j24 (0 : Int32)
      else
        (if ((70 : Int32) - p4) < p3 then
          j24 (0 : Int32)
        else
          j24 (1 : Int32))))))))
set_option maxRecDepth 100000 in
set_option maxHeartbeats 4000000 in
theorem k_MD_spoil (l : Launch) (E : EV) (ad n : Nat → Nat) (L : List Nat) (hL : ∀ a ∈ ([20, 21, 22, 23, 24, 25, 26] : List Nat), a ∈ L) (F : Nat) (σ σo : HS) (p1 : Int32) (p2 : Int32) (p3 : Int32) (p4 : Int32) (p5 : Int64) (r : Int32) (hD : D_MD_spoil F n σ p1 p2 p3 p4 p5 = some (σo, r)) : CtI l E y_MD_spoil c_MD_spoil 9 (some FieldType.boolean) ({ frames := 6, cells := 0, slots := 0, locals := 142 }) [.ref (ad 20), .int p1, .int p2, .int p3, .int p4, .long p5] (wl E ad n L σ) r (wl E ad n L σo) := by
  refine fun sz => ent (by decide) (Nat.le_of_ble_eq_true rfl) ?_
  intro p e s m below meth c hsz cx wo ls hl
  have hx := cx.1.1
  have hb := cx.1.2.1
  have hown := cx.1.2.2.2.1
  have hts := cx.1.2.2.2.2
  have hl : lv_has ls 9 [(0, .ref (ad 20)), (1, .int p1), (2, .int p2), (3, .int p3), (4, .int p4), (5, .long p5)] := hl
  have m20 : 20 ∈ L := hL 20 (by decide)
  have m21 : 21 ∈ L := hL 21 (by decide)
  have m22 : 22 ∈ L := hL 22 (by decide)
  have m23 : 23 ∈ L := hL 23 (by decide)
  have m24 : 24 ∈ L := hL 24 (by decide)
  have m25 : 25 ∈ L := hL 25 (by decide)
  have m26 : 26 ∈ L := hL 26 (by decide)
  rw [D_MD_spoil] at hD
  refine lv_iload hx hb d_MD_spoil_0 (lv_at hl 4 rfl) ?_
  obtain ⟨j1, hj1, hD⟩ := jn_s hD
  try dsimp only at hD
  have j1_ok : ∀ (σ2 : HS) (H : Heap) (locs : List Loc) (ls : Array Slot), j1 σ2 = some (σo, r) → Wo E (va_A (wl E ad n L σ) sz) s.heap (wl E ad n L σ2) H locs → lv_has ls 9 [(0, .ref (ad 20)), (1, .int p1), (2, .int p2), (3, .int p3), (4, .int p4), (5, .long p5)] → W p l e ({ frames := 6, cells := 0, slots := 0, locals := 142 }) s m ([.ref (ad 20), .int p1, .int p2, .int p3, .int p4, .long p5] : List Value).toArray below meth c H locs 0 0 (MQ below (va_Qi (fun (x : Int32) (_ : Unit) => x = r) (fun _ t => va_P E.1 cls6 (wl E ad n L σo) t.heap ∧ va_D (va_A (wl E ad n L σ) sz) (wl E ad n L σo)) (va_A (wl E ad n L σ) sz)) ([.ref (ad 20), .int p1, .int p2, .int p3, .int p4, .long p5] : List Value).toArray s 0 0 (va_A (wl E ad n L σ) sz)) (F0 m 182 ls []) := by
    intro σ2 H locs ls hD wo hl
    rw [hj1] at hD
    try dsimp only at hD
    refine lv_aload_n hx hb d_MD_spoil_182 rfl (lv_at hl 0 rfl) ?_
    refine lv_bipush (v := 70) hx hb d_MD_spoil_183 (by decide) ?_
    refine lv_iload_n hx hb d_MD_spoil_185 rfl (lv_at hl 1 rfl) ?_
    refine lv_iload_n hx hb d_MD_spoil_186 rfl (lv_at hl 2 rfl) ?_
    obtain ⟨x3, hcx3, hD⟩ := bd_s hD
    try dsimp only [nm2] at hD
    refine call_Si cx wo (k_MD_at l E ad n L (fun a h => hL a ((by decide : ∀ a ∈ ([] : List Nat), a ∈ ([20, 21, 22, 23, 24, 25, 26] : List Nat)) a h)) F σ2  p1 p2 x3 hcx3) mw_MD_at wm_MD_67 ⟨by decide, by decide⟩ ⟨by decide, by decide⟩ hl.1 rfl (Nat.le_of_ble_eq_true rfl) d_MD_spoil_187 (fun H locs wo => ?_)
    refine lv_imul hx hb d_MD_spoil_190 ?_
    refine lv_iload_n hx hb d_MD_spoil_191 rfl (lv_at hl 3 rfl) ?_
    refine lv_iadd hx hb d_MD_spoil_192 ?_
    refine lv_iload hx hb d_MD_spoil_193 (lv_at hl 4 rfl) ?_
    refine lv_lload hx hb d_MD_spoil_195 (lv_at hl 5 rfl) ?_
    obtain ⟨σ5, hcx4, hD⟩ := bd_s hD
    try dsimp only [nm2] at hD
    refine call_Vv cx wo (k_MD_turn l E ad n L (fun a h => hL a ((by decide : ∀ a ∈ ([20, 25] : List Nat), a ∈ ([20, 21, 22, 23, 24, 25, 26] : List Nat)) a h)) F σ2 σ5 (((70 : Int32) * x3) + p3) p4 p5 hcx4) m20 (cel_20 E ad n σ2) rfl rfl mw_MD_turn wm_MD_141 ⟨by decide, by decide⟩ ⟨by decide, by decide⟩ hl.1 rfl (Nat.le_of_ble_eq_true rfl) d_MD_spoil_197 (fun H locs wo => ?_)
    refine lv_iconst (v := 0) hx hb d_MD_spoil_200 (by decide) ?_
    cases hD
    exact t_ireti cx wo rfl rfl d_MD_spoil_201
  obtain ⟨j6, hj6, hD⟩ := jn_s hD
  try dsimp only at hD
  have j6_ok : ∀ (x7 : Int32) (H : Heap) (locs : List Loc) (ls : Array Slot), j6 x7 = some (σo, r) → Wo E (va_A (wl E ad n L σ) sz) s.heap (wl E ad n L σ) H locs → lv_has ls 9 [(0, .ref (ad 20)), (1, .int p1), (2, .int p2), (3, .int p3), (4, .int p4), (5, .long p5)] → W p l e ({ frames := 6, cells := 0, slots := 0, locals := 142 }) s m ([.ref (ad 20), .int p1, .int p2, .int p3, .int p4, .long p5] : List Value).toArray below meth c H locs 0 0 (MQ below (va_Qi (fun (x : Int32) (_ : Unit) => x = r) (fun _ t => va_P E.1 cls6 (wl E ad n L σo) t.heap ∧ va_D (va_A (wl E ad n L σ) sz) (wl E ad n L σo)) (va_A (wl E ad n L σ) sz)) ([.ref (ad 20), .int p1, .int p2, .int p3, .int p4, .long p5] : List Value).toArray s 0 0 (va_A (wl E ad n L σ) sz)) (F0 m 96 ls [.int x7, .ref (ad 20)]) := by
    intro x7 H locs ls hD wo hl
    rw [hj6] at hD
    try dsimp only at hD
    refine lv_iconst (v := 1) hx hb d_MD_spoil_96 (by decide) ?_
    obtain ⟨⟨σ9, x8⟩, hcx8, hD⟩ := bd_s hD
    try dsimp only [nm2] at hD
    refine call_Vi cx wo (k_MD_fails l E ad n L (fun a h => hL a ((by decide : ∀ a ∈ ([20] : List Nat), a ∈ ([20, 21, 22, 23, 24, 25, 26] : List Nat)) a h)) F σ σ9 x7 (1 : Int32) x8 hcx8) m20 (cel_20 E ad n σ) rfl rfl mw_MD_fails wm_MD_100 ⟨by decide, by decide⟩ ⟨by decide, by decide⟩ hl.1 rfl (Nat.le_of_ble_eq_true rfl) d_MD_spoil_97 (fun H locs wo => ?_)
    refine lv_if_eq (tgt := 105) hx hb d_MD_spoil_100 (by decide) (fun c10 => ?_) (fun c10 => ?_)
    · have hD := ite_p hD c10
      refine lv_aload_n hx hb d_MD_spoil_105 rfl (lv_at hl 0 rfl) ?_
      refine g_get cx wo m20 (cel_20 E ad n σ9) rfl in_MD 12 (by decide) wf_MD_31 rfl d_MD_spoil_106 ?_
      refine lv_if_eq (tgt := 121) hx hb d_MD_spoil_109 (by decide) (fun c11 => ?_) (fun c11 => ?_)
      · have hD := ite_p hD c11
        refine lv_iconst (v := 0) hx hb d_MD_spoil_121 (by decide) ?_
        cases hD
        exact t_ireti cx wo rfl rfl d_MD_spoil_122
      · have hD := ite_n hD c11
        refine lv_aload_n hx hb d_MD_spoil_112 rfl (lv_at hl 0 rfl) ?_
        refine g_get cx wo m20 (cel_20 E ad n σ9) rfl in_MD 7 (by decide) wf_MD_13 rfl d_MD_spoil_113 ?_
        refine lv_iload_n hx hb d_MD_spoil_116 rfl (lv_at hl 1 rfl) ?_
        obtain ⟨g12, hD⟩ := grd_s hD
        refine g_zald cx wo m22 (cel_22 E ad n σ9) g12 d_MD_spoil_117 ?_
        refine lv_if_ne (tgt := 123) hx hb d_MD_spoil_118 (by decide) (fun c13 => ?_) (fun c13 => ?_)
        · have hD := ite_n hD c13
          refine lv_aload_n hx hb d_MD_spoil_123 rfl (lv_at hl 0 rfl) ?_
          refine lv_iload_n hx hb d_MD_spoil_124 rfl (lv_at hl 2 rfl) ?_
          refine lv_iload_n hx hb d_MD_spoil_125 rfl (lv_at hl 1 rfl) ?_
          obtain ⟨x14, hcx14, hD⟩ := bd_s hD
          try dsimp only [nm2] at hD
          refine call_Vi cx wo (k_MD_holder l E ad n L (fun a h => hL a ((by decide : ∀ a ∈ ([20, 21, 22, 23, 24, 25, 26] : List Nat), a ∈ ([20, 21, 22, 23, 24, 25, 26] : List Nat)) a h)) F σ9  p2 p1 x14 hcx14) m20 (cel_20 E ad n σ9) rfl rfl mw_MD_holder wm_MD_94 ⟨by decide, by decide⟩ ⟨by decide, by decide⟩ hl.1 rfl (Nat.le_of_ble_eq_true rfl) d_MD_spoil_126 (fun H locs wo => ?_)
          refine lv_istore (lv' := [(8, .int x14), (0, .ref (ad 20)), (1, .int p1), (2, .int p2), (3, .int p3), (4, .int p4), (5, .long p5)]) hx hb d_MD_spoil_129 hl (by decide) rfl (fun ls hl => ?_)
          refine lv_iload hx hb d_MD_spoil_131 (lv_at hl 0 rfl) ?_
          refine lv_if_ge (tgt := 138) hx hb d_MD_spoil_133 (by decide) (fun c15 => ?_) (fun c15 => ?_)
          · have hD := ite_p hD c15
            refine lv_aload_n hx hb d_MD_spoil_138 rfl (lv_at hl 1 rfl) ?_
            refine lv_bipush (v := 70) hx hb d_MD_spoil_139 (by decide) ?_
            refine lv_iload_n hx hb d_MD_spoil_141 rfl (lv_at hl 2 rfl) ?_
            refine lv_iload_n hx hb d_MD_spoil_142 rfl (lv_at hl 3 rfl) ?_
            obtain ⟨x16, hcx16, hD⟩ := bd_s hD
            try dsimp only [nm2] at hD
            refine call_Si cx wo (k_MD_at l E ad n L (fun a h => hL a ((by decide : ∀ a ∈ ([] : List Nat), a ∈ ([20, 21, 22, 23, 24, 25, 26] : List Nat)) a h)) F σ9  p1 p2 x16 hcx16) mw_MD_at wm_MD_67 ⟨by decide, by decide⟩ ⟨by decide, by decide⟩ hl.1 rfl (Nat.le_of_ble_eq_true rfl) d_MD_spoil_143 (fun H locs wo => ?_)
            refine lv_imul hx hb d_MD_spoil_146 ?_
            refine lv_iload_n hx hb d_MD_spoil_147 rfl (lv_at hl 4 rfl) ?_
            refine lv_iadd hx hb d_MD_spoil_148 ?_
            refine lv_iload hx hb d_MD_spoil_149 (lv_at hl 5 rfl) ?_
            refine lv_lload hx hb d_MD_spoil_151 (lv_at hl 6 rfl) ?_
            obtain ⟨σ18, hcx17, hD⟩ := bd_s hD
            try dsimp only [nm2] at hD
            refine call_Vv cx wo (k_MD_turn l E ad n L (fun a h => hL a ((by decide : ∀ a ∈ ([20, 25] : List Nat), a ∈ ([20, 21, 22, 23, 24, 25, 26] : List Nat)) a h)) F σ9 σ18 (((70 : Int32) * x16) + p3) p4 p5 hcx17) m20 (cel_20 E ad n σ9) rfl rfl mw_MD_turn wm_MD_141 ⟨by decide, by decide⟩ ⟨by decide, by decide⟩ hl.1 rfl (Nat.le_of_ble_eq_true rfl) d_MD_spoil_153 (fun H locs wo => ?_)
            refine lv_aload_n hx hb d_MD_spoil_156 rfl (lv_at hl 1 rfl) ?_
            refine lv_iload_n hx hb d_MD_spoil_157 rfl (lv_at hl 3 rfl) ?_
            refine lv_iload hx hb d_MD_spoil_158 (lv_at hl 0 rfl) ?_
            refine lv_iconst (v := -1) hx hb d_MD_spoil_160 (by decide) ?_
            obtain ⟨x19, hcx19, hD⟩ := bd_s hD
            try dsimp only [nm2] at hD
            refine call_Vi cx wo (k_MD_bad l E ad n L (fun a h => hL a ((by decide : ∀ a ∈ ([20, 21, 22, 23, 24, 25, 26] : List Nat), a ∈ ([20, 21, 22, 23, 24, 25, 26] : List Nat)) a h)) F σ18  p2 x14 (-1 : Int32) x19 hcx19) m20 (cel_20 E ad n σ18) rfl rfl mw_MD_bad wm_MD_90 ⟨by decide, by decide⟩ ⟨by decide, by decide⟩ hl.1 rfl (Nat.le_of_ble_eq_true rfl) d_MD_spoil_161 (fun H locs wo => ?_)
            refine lv_iconst (v := 2) hx hb d_MD_spoil_164 (by decide) ?_
            refine lv_icmp_ge (tgt := 182) hx hb d_MD_spoil_165 (by decide) (fun c20 => ?_) (fun c20 => ?_)
            · have hD := ite_p hD c20
              exact j1_ok σ18 _ _ _ hD wo (lv_sub hl [1, 2, 3, 4, 5, 6] rfl)
            · have hD := ite_n hD c20
              refine lv_aload_n hx hb d_MD_spoil_168 rfl (lv_at hl 1 rfl) ?_
              refine lv_iload_n hx hb d_MD_spoil_169 rfl (lv_at hl 2 rfl) ?_
              refine lv_iload_n hx hb d_MD_spoil_170 rfl (lv_at hl 3 rfl) ?_
              obtain ⟨x21, hcx21, hD⟩ := bd_s hD
              try dsimp only [nm2] at hD
              refine call_Si cx wo (k_MD_at l E ad n L (fun a h => hL a ((by decide : ∀ a ∈ ([] : List Nat), a ∈ ([20, 21, 22, 23, 24, 25, 26] : List Nat)) a h)) F σ18  p1 p2 x21 hcx21) mw_MD_at wm_MD_67 ⟨by decide, by decide⟩ ⟨by decide, by decide⟩ hl.1 rfl (Nat.le_of_ble_eq_true rfl) d_MD_spoil_171 (fun H locs wo => ?_)
              obtain ⟨x22, hcx22, hD⟩ := bd_s hD
              try dsimp only [nm2] at hD
              refine call_Vi cx wo (k_MD_isUnseen l E ad n L (fun a h => hL a ((by decide : ∀ a ∈ ([20, 25] : List Nat), a ∈ ([20, 21, 22, 23, 24, 25, 26] : List Nat)) a h)) F σ18  x21 x22 hcx22) m20 (cel_20 E ad n σ18) rfl rfl mw_MD_isUnseen wm_MD_145 ⟨by decide, by decide⟩ ⟨by decide, by decide⟩ hl.1 rfl (Nat.le_of_ble_eq_true rfl) d_MD_spoil_174 (fun H locs wo => ?_)
              refine lv_if_ne (tgt := 182) hx hb d_MD_spoil_177 (by decide) (fun c23 => ?_) (fun c23 => ?_)
              · have hD := ite_n hD c23
                exact j1_ok σ18 _ _ _ hD wo (lv_sub hl [1, 2, 3, 4, 5, 6] rfl)
              · have hD := ite_p hD c23
                refine lv_iconst (v := 1) hx hb d_MD_spoil_180 (by decide) ?_
                cases hD
                exact t_ireti cx wo rfl rfl d_MD_spoil_181
          · have hD := ite_n hD c15
            refine lv_iconst (v := 0) hx hb d_MD_spoil_136 (by decide) ?_
            cases hD
            exact t_ireti cx wo rfl rfl d_MD_spoil_137
        · have hD := ite_p hD c13
          refine lv_iconst (v := 0) hx hb d_MD_spoil_121 (by decide) ?_
          cases hD
          exact t_ireti cx wo rfl rfl d_MD_spoil_122
    · have hD := ite_n hD c10
      refine lv_iconst (v := 0) hx hb d_MD_spoil_103 (by decide) ?_
      cases hD
      exact t_ireti cx wo rfl rfl d_MD_spoil_104
  obtain ⟨j24, hj24, hD⟩ := jn_s hD
  try dsimp only at hD
  have j24_ok : ∀ (x25 : Int32) (H : Heap) (locs : List Loc) (ls : Array Slot), j24 x25 = some (σo, r) → Wo E (va_A (wl E ad n L σ) sz) s.heap (wl E ad n L σ) H locs → lv_has ls 9 [(0, .ref (ad 20)), (1, .int p1), (2, .int p2), (3, .int p3), (4, .int p4), (5, .long p5)] → W p l e ({ frames := 6, cells := 0, slots := 0, locals := 142 }) s m ([.ref (ad 20), .int p1, .int p2, .int p3, .int p4, .long p5] : List Value).toArray below meth c H locs 0 0 (MQ below (va_Qi (fun (x : Int32) (_ : Unit) => x = r) (fun _ t => va_P E.1 cls6 (wl E ad n L σo) t.heap ∧ va_D (va_A (wl E ad n L σ) sz) (wl E ad n L σo)) (va_A (wl E ad n L σ) sz)) ([.ref (ad 20), .int p1, .int p2, .int p3, .int p4, .long p5] : List Value).toArray s 0 0 (va_A (wl E ad n L σ) sz)) (F0 m 30 ls [.int x25]) := by
    intro x25 H locs ls hD wo hl
    rw [hj24] at hD
    try dsimp only at hD
    refine lv_istore (lv' := [(7, .int x25), (0, .ref (ad 20)), (1, .int p1), (2, .int p2), (3, .int p3), (4, .int p4), (5, .long p5)]) hx hb d_MD_spoil_30 hl (by decide) rfl (fun ls hl => ?_)
    refine lv_aload_n hx hb d_MD_spoil_32 rfl (lv_at hl 1 rfl) ?_
    refine lv_iload_n hx hb d_MD_spoil_33 rfl (lv_at hl 2 rfl) ?_
    refine lv_if_lt (tgt := 91) hx hb d_MD_spoil_34 (by decide) (fun c26 => ?_) (fun c26 => ?_)
    · have hD := ite_p hD c26
      refine lv_iconst (v := 1) hx hb d_MD_spoil_91 (by decide) ?_
      refine lv_goto (tgt := 96) hx hb d_MD_spoil_92 (by decide) ?_
      exact j6_ok (1 : Int32) _ _ _ hD wo (lv_sub hl [1, 2, 3, 4, 5, 6] rfl)
    · have hD := ite_n hD c26
      refine lv_iload_n hx hb d_MD_spoil_37 rfl (lv_at hl 2 rfl) ?_
      refine lv_aload_n hx hb d_MD_spoil_38 rfl (lv_at hl 1 rfl) ?_
      refine g_get cx wo m20 (cel_20 E ad n σ) rfl in_MD 1 (by decide) wf_MD_52 rfl d_MD_spoil_39 ?_
      refine lv_icmp_ge (tgt := 91) hx hb d_MD_spoil_42 (by decide) (fun c27 => ?_) (fun c27 => ?_)
      · have hD := ite_p hD c27
        refine lv_iconst (v := 1) hx hb d_MD_spoil_91 (by decide) ?_
        refine lv_goto (tgt := 96) hx hb d_MD_spoil_92 (by decide) ?_
        exact j6_ok (1 : Int32) _ _ _ hD wo (lv_sub hl [1, 2, 3, 4, 5, 6] rfl)
      · have hD := ite_n hD c27
        refine lv_iload_n hx hb d_MD_spoil_45 rfl (lv_at hl 3 rfl) ?_
        refine lv_if_lt (tgt := 91) hx hb d_MD_spoil_46 (by decide) (fun c28 => ?_) (fun c28 => ?_)
        · have hD := ite_p hD c28
          refine lv_iconst (v := 1) hx hb d_MD_spoil_91 (by decide) ?_
          refine lv_goto (tgt := 96) hx hb d_MD_spoil_92 (by decide) ?_
          exact j6_ok (1 : Int32) _ _ _ hD wo (lv_sub hl [1, 2, 3, 4, 5, 6] rfl)
        · have hD := ite_n hD c28
          refine lv_iload_n hx hb d_MD_spoil_49 rfl (lv_at hl 3 rfl) ?_
          refine lv_aload_n hx hb d_MD_spoil_50 rfl (lv_at hl 1 rfl) ?_
          refine g_get cx wo m20 (cel_20 E ad n σ) rfl in_MD 3 (by decide) wf_MD_58 rfl d_MD_spoil_51 ?_
          refine lv_icmp_ge (tgt := 91) hx hb d_MD_spoil_54 (by decide) (fun c29 => ?_) (fun c29 => ?_)
          · have hD := ite_p hD c29
            refine lv_iconst (v := 1) hx hb d_MD_spoil_91 (by decide) ?_
            refine lv_goto (tgt := 96) hx hb d_MD_spoil_92 (by decide) ?_
            exact j6_ok (1 : Int32) _ _ _ hD wo (lv_sub hl [1, 2, 3, 4, 5, 6] rfl)
          · have hD := ite_n hD c29
            refine lv_iload hx hb d_MD_spoil_57 (lv_at hl 0 rfl) ?_
            refine lv_if_eq (tgt := 91) hx hb d_MD_spoil_59 (by decide) (fun c30 => ?_) (fun c30 => ?_)
            · have hD := ite_p hD c30
              refine lv_iconst (v := 1) hx hb d_MD_spoil_91 (by decide) ?_
              refine lv_goto (tgt := 96) hx hb d_MD_spoil_92 (by decide) ?_
              exact j6_ok (1 : Int32) _ _ _ hD wo (lv_sub hl [1, 2, 3, 4, 5, 6] rfl)
            · have hD := ite_n hD c30
              refine lv_iload hx hb d_MD_spoil_62 (lv_at hl 5 rfl) ?_
              refine lv_bipush (v := 8) hx hb d_MD_spoil_64 (by decide) ?_
              refine lv_icmp_ne (tgt := 74) hx hb d_MD_spoil_66 (by decide) (fun c31 => ?_) (fun c31 => ?_)
              · have hD := ite_n hD c31
                refine lv_lload hx hb d_MD_spoil_74 (lv_at hl 6 rfl) ?_
                refine lv_lconst (v := 1) hx hb d_MD_spoil_76 (by decide) ?_
                refine lv_bipush (v := 8) hx hb d_MD_spoil_77 (by decide) ?_
                refine lv_iload hx hb d_MD_spoil_79 (lv_at hl 5 rfl) ?_
                refine lv_imul hx hb d_MD_spoil_81 ?_
                refine lv_lshl hx hb d_MD_spoil_82 rfl ?_
                refine lv_lconst (v := 1) hx hb d_MD_spoil_83 (by decide) ?_
                refine lv_lsub hx hb d_MD_spoil_84 ?_
                refine lv_land hx hb d_MD_spoil_85 ?_
                refine lv_lconst (v := 0) hx hb d_MD_spoil_86 (by decide) ?_
                refine W.lcmp hx hb d_MD_spoil_87 ?_
                refine lv_if_ne (tgt := 95) hx hb d_MD_spoil_88 (by decide) (fun c32 => ?_) (fun c32 => ?_)
                · have hD := ite_n hD c32
                  refine lv_iconst (v := 0) hx hb d_MD_spoil_95 (by decide) ?_
                  exact j6_ok (0 : Int32) _ _ _ hD wo (lv_sub hl [1, 2, 3, 4, 5, 6] rfl)
                · have hD := ite_p hD c32
                  refine lv_iconst (v := 1) hx hb d_MD_spoil_91 (by decide) ?_
                  refine lv_goto (tgt := 96) hx hb d_MD_spoil_92 (by decide) ?_
                  exact j6_ok (1 : Int32) _ _ _ hD wo (lv_sub hl [1, 2, 3, 4, 5, 6] rfl)
              · have hD := ite_p hD c31
                refine lv_lload hx hb d_MD_spoil_69 (lv_at hl 6 rfl) ?_
                refine lv_goto (tgt := 86) hx hb d_MD_spoil_71 (by decide) ?_
                refine lv_lconst (v := 0) hx hb d_MD_spoil_86 (by decide) ?_
                refine W.lcmp hx hb d_MD_spoil_87 ?_
                refine lv_if_ne (tgt := 95) hx hb d_MD_spoil_88 (by decide) (fun c33 => ?_) (fun c33 => ?_)
                · have hD := ite_n hD c33
                  refine lv_iconst (v := 0) hx hb d_MD_spoil_95 (by decide) ?_
                  exact j6_ok (0 : Int32) _ _ _ hD wo (lv_sub hl [1, 2, 3, 4, 5, 6] rfl)
                · have hD := ite_p hD c33
                  refine lv_iconst (v := 1) hx hb d_MD_spoil_91 (by decide) ?_
                  refine lv_goto (tgt := 96) hx hb d_MD_spoil_92 (by decide) ?_
                  exact j6_ok (1 : Int32) _ _ _ hD wo (lv_sub hl [1, 2, 3, 4, 5, 6] rfl)
  refine lv_if_le (tgt := 29) hx hb d_MD_spoil_2 (by decide) (fun c34 => ?_) (fun c34 => ?_)
  · have hD := ite_p hD c34
    refine lv_iconst (v := 0) hx hb d_MD_spoil_29 (by decide) ?_
    exact j24_ok (0 : Int32) _ _ _ hD wo (lv_sub hl [0, 1, 2, 3, 4, 5] rfl)
  · have hD := ite_n hD c34
    refine lv_iload hx hb d_MD_spoil_5 (lv_at hl 4 rfl) ?_
    refine lv_bipush (v := 9) hx hb d_MD_spoil_7 (by decide) ?_
    refine lv_icmp_ge (tgt := 29) hx hb d_MD_spoil_9 (by decide) (fun c35 => ?_) (fun c35 => ?_)
    · have hD := ite_p hD c35
      refine lv_iconst (v := 0) hx hb d_MD_spoil_29 (by decide) ?_
      exact j24_ok (0 : Int32) _ _ _ hD wo (lv_sub hl [0, 1, 2, 3, 4, 5] rfl)
    · have hD := ite_n hD c35
      refine lv_iload_n hx hb d_MD_spoil_12 rfl (lv_at hl 3 rfl) ?_
      refine lv_if_lt (tgt := 29) hx hb d_MD_spoil_13 (by decide) (fun c36 => ?_) (fun c36 => ?_)
      · have hD := ite_p hD c36
        refine lv_iconst (v := 0) hx hb d_MD_spoil_29 (by decide) ?_
        exact j24_ok (0 : Int32) _ _ _ hD wo (lv_sub hl [0, 1, 2, 3, 4, 5] rfl)
      · have hD := ite_n hD c36
        refine lv_iload_n hx hb d_MD_spoil_16 rfl (lv_at hl 3 rfl) ?_
        refine lv_bipush (v := 70) hx hb d_MD_spoil_17 (by decide) ?_
        refine lv_iload hx hb d_MD_spoil_19 (lv_at hl 4 rfl) ?_
        refine lv_isub hx hb d_MD_spoil_21 ?_
        refine lv_icmp_gt (tgt := 29) hx hb d_MD_spoil_22 (by decide) (fun c37 => ?_) (fun c37 => ?_)
        · have hD := ite_p hD c37
          refine lv_iconst (v := 0) hx hb d_MD_spoil_29 (by decide) ?_
          exact j24_ok (0 : Int32) _ _ _ hD wo (lv_sub hl [0, 1, 2, 3, 4, 5] rfl)
        · have hD := ite_n hD c37
          refine lv_iconst (v := 1) hx hb d_MD_spoil_25 (by decide) ?_
          refine lv_goto (tgt := 30) hx hb d_MD_spoil_26 (by decide) ?_
          exact j24_ok (1 : Int32) _ _ _ hD wo (lv_sub hl [0, 1, 2, 3, 4, 5] rfl)
def D_MD_freeSpare_L10 (F : Nat) (n : Nat → Nat) (σ : HS) (p1 : Int32) : Nat → Int32 → Option ((Unit) ⊕ (Int32))
  | 0, _ => none
  | k3 + 1, x4 =>
      (if (σ.1 20 1) ≤ x4 then
        some (Sum.inl ())
      else
        (D_MD_diskOf F n σ p1 x4).bind (fun (x6 : Int32) =>
        grd (inb x6 (n 22)) (
        (if (σ.1 22 (x6).toNatClampNeg) = 0 then
          nm (x4 + (1 : Int32)) (fun x9 =>
          D_MD_freeSpare_L10 F n σ p1 k3 x9)
        else
          (D_MD_diskOf F n σ p1 x4).bind (fun (x10 : Int32) =>
          (D_MD_holder F n σ p1 x10).bind (fun (x11 : Int32) =>
          (if 0 ≤ x11 then
            nm (x4 + (1 : Int32)) (fun x13 =>
            D_MD_freeSpare_L10 F n σ p1 k3 x13)
          else
            (D_MD_diskOf F n σ p1 x4).bind (fun (x14 : Int32) =>
            some (Sum.inr x14)))))))))
def D_MD_freeSpare (F : Nat) (n : Nat → Nat) (σ : HS) (p1 : Int32) : Option (Int32) :=
nm ((σ.1 20 2) * (σ.1 20 4)) (fun x1 =>
  (D_MD_freeSpare_L10 F n σ p1 F x1).bind (fun q18 => match q18 with
    | Sum.inl _ =>
      some (-1 : Int32)
    | Sum.inr z => some z))
set_option maxRecDepth 100000 in
set_option maxHeartbeats 4000000 in
theorem k_MD_freeSpare (l : Launch) (E : EV) (ad n : Nat → Nat) (L : List Nat) (hL : ∀ a ∈ ([20, 21, 22, 23, 24, 25, 26] : List Nat), a ∈ L) (F : Nat) (σ  : HS) (p1 : Int32) (r : Int32) (hD : D_MD_freeSpare F n σ p1 = some r) : CtI l E y_MD_freeSpare c_MD_freeSpare 3 (some FieldType.int) ({ frames := 5, cells := 0, slots := 0, locals := 115 }) [.ref (ad 20), .int p1] (wl E ad n L σ) r (wl E ad n L σ) := by
  refine fun sz => ent (by decide) (Nat.le_of_ble_eq_true rfl) ?_
  intro p e s m below meth c hsz cx wo ls hl
  have hx := cx.1.1
  have hb := cx.1.2.1
  have hown := cx.1.2.2.2.1
  have hts := cx.1.2.2.2.2
  have hl : lv_has ls 3 [(0, .ref (ad 20)), (1, .int p1)] := hl
  have m20 : 20 ∈ L := hL 20 (by decide)
  have m21 : 21 ∈ L := hL 21 (by decide)
  have m22 : 22 ∈ L := hL 22 (by decide)
  have m23 : 23 ∈ L := hL 23 (by decide)
  have m24 : 24 ∈ L := hL 24 (by decide)
  have m25 : 25 ∈ L := hL 25 (by decide)
  have m26 : 26 ∈ L := hL 26 (by decide)
  rw [D_MD_freeSpare] at hD
  refine lv_aload_n hx hb d_MD_freeSpare_0 rfl (lv_at hl 0 rfl) ?_
  refine g_get cx wo m20 (cel_20 E ad n σ) rfl in_MD 2 (by decide) wf_MD_55 rfl d_MD_freeSpare_1 ?_
  refine lv_aload_n hx hb d_MD_freeSpare_4 rfl (lv_at hl 0 rfl) ?_
  refine g_get cx wo m20 (cel_20 E ad n σ) rfl in_MD 4 (by decide) wf_MD_61 rfl d_MD_freeSpare_5 ?_
  refine lv_imul hx hb d_MD_freeSpare_8 ?_
  refine lv_topi (fun x1 ex1 => ?_)
  have hD := nm_at hD ex1
  try dsimp only at hD
  refine lv_istore_n (lv' := [(2, .int x1), (0, .ref (ad 20)), (1, .int p1)]) hx hb d_MD_freeSpare_9 rfl hl (by decide) rfl (fun ls hl => ?_)
  have lp15 : ∀ (k3 : Nat) (x4 : Int32) (H : Heap) (locs : List Loc) (ls : Array Slot) (res2 : (Unit) ⊕ (Int32)), D_MD_freeSpare_L10 F n σ p1 k3 x4 = some res2 → (∀ z, res2 = Sum.inr z → r = z) → (∀  (H : Heap) (locs : List Loc) (ls : Array Slot), res2 = Sum.inl () → Wo E (va_A (wl E ad n L σ) sz) s.heap (wl E ad n L σ) H locs → lv_has ls 3 [] → W p l e ({ frames := 5, cells := 0, slots := 0, locals := 115 }) s m ([.ref (ad 20), .int p1] : List Value).toArray below meth c H locs 0 0 (MQ below (va_Qi (fun (x : Int32) (_ : Unit) => x = r) (fun _ t => va_P E.1 cls6 (wl E ad n L σ) t.heap ∧ va_D (va_A (wl E ad n L σ) sz) (wl E ad n L σ)) (va_A (wl E ad n L σ) sz)) ([.ref (ad 20), .int p1] : List Value).toArray s 0 0 (va_A (wl E ad n L σ) sz)) (F0 m 59 ls [])) → Wo E (va_A (wl E ad n L σ) sz) s.heap (wl E ad n L σ) H locs → lv_has ls 3 [(2, .int x4), (0, .ref (ad 20)), (1, .int p1)] → W p l e ({ frames := 5, cells := 0, slots := 0, locals := 115 }) s m ([.ref (ad 20), .int p1] : List Value).toArray below meth c H locs 0 0 (MQ below (va_Qi (fun (x : Int32) (_ : Unit) => x = r) (fun _ t => va_P E.1 cls6 (wl E ad n L σ) t.heap ∧ va_D (va_A (wl E ad n L σ) sz) (wl E ad n L σ)) (va_A (wl E ad n L σ) sz)) ([.ref (ad 20), .int p1] : List Value).toArray s 0 0 (va_A (wl E ad n L σ) sz)) (F0 m 10 ls []) := by
    intro k3
    induction k3 with
    | zero =>
      intro x4 H locs ls res2 hD
      rw [D_MD_freeSpare_L10.eq_1] at hD
      cases hD
    | succ k3 ih =>
      intro x4 H locs ls res2 hD hret hex wo hl
      rw [D_MD_freeSpare_L10.eq_2] at hD
      refine lv_iload_n hx hb d_MD_freeSpare_10 rfl (lv_at hl 0 rfl) ?_
      refine lv_aload_n hx hb d_MD_freeSpare_11 rfl (lv_at hl 1 rfl) ?_
      refine g_get cx wo m20 (cel_20 E ad n σ) rfl in_MD 1 (by decide) wf_MD_52 rfl d_MD_freeSpare_12 ?_
      refine lv_icmp_ge (tgt := 59) hx hb d_MD_freeSpare_15 (by decide) (fun c5 => ?_) (fun c5 => ?_)
      · have hD := ite_p hD c5
        exact hex  _ _ _ (Option.some.inj hD).symm wo (lv_sub hl [] rfl)
      · have hD := ite_n hD c5
        refine lv_aload_n hx hb d_MD_freeSpare_18 rfl (lv_at hl 1 rfl) ?_
        refine g_get cx wo m20 (cel_20 E ad n σ) rfl in_MD 7 (by decide) wf_MD_13 rfl d_MD_freeSpare_19 ?_
        refine lv_aload_n hx hb d_MD_freeSpare_22 rfl (lv_at hl 1 rfl) ?_
        refine lv_iload_n hx hb d_MD_freeSpare_23 rfl (lv_at hl 2 rfl) ?_
        refine lv_iload_n hx hb d_MD_freeSpare_24 rfl (lv_at hl 0 rfl) ?_
        obtain ⟨x6, hcx6, hD⟩ := bd_s hD
        try dsimp only [nm2] at hD
        refine call_Vi cx wo (k_MD_diskOf l E ad n L (fun a h => hL a ((by decide : ∀ a ∈ ([20, 21] : List Nat), a ∈ ([20, 21, 22, 23, 24, 25, 26] : List Nat)) a h)) F σ  p1 x4 x6 hcx6) m20 (cel_20 E ad n σ) rfl rfl mw_MD_diskOf wm_MD_71 ⟨by decide, by decide⟩ ⟨by decide, by decide⟩ hl.1 rfl (Nat.le_of_ble_eq_true rfl) d_MD_freeSpare_25 (fun H locs wo => ?_)
        obtain ⟨g7, hD⟩ := grd_s hD
        refine g_zald cx wo m22 (cel_22 E ad n σ) g7 d_MD_freeSpare_28 ?_
        refine lv_if_eq (tgt := 53) hx hb d_MD_freeSpare_29 (by decide) (fun c8 => ?_) (fun c8 => ?_)
        · have hD := ite_p hD c8
          obtain ⟨x9, ex9⟩ : ∃ y : Int32, y = x4 + (1 : Int32) := ⟨_, rfl⟩
          have hD := nm_at hD ex9
          try dsimp only at hD
          refine lv_iinc (v := x9) (lv' := [(2, .int x9), (0, .ref (ad 20)), (1, .int p1)]) hx hb d_MD_freeSpare_53 hl (k := 0) rfl (by rw [ex9]; rfl) (by decide) rfl (fun ls hl => ?_)
          refine lv_goto (tgt := 10) hx hb d_MD_freeSpare_56 (by decide) ?_
          exact ih x9 _ _ _ _ hD hret hex wo (lv_sub hl [0, 1, 2] rfl)
        · have hD := ite_n hD c8
          refine lv_aload_n hx hb d_MD_freeSpare_32 rfl (lv_at hl 1 rfl) ?_
          refine lv_iload_n hx hb d_MD_freeSpare_33 rfl (lv_at hl 2 rfl) ?_
          refine lv_aload_n hx hb d_MD_freeSpare_34 rfl (lv_at hl 1 rfl) ?_
          refine lv_iload_n hx hb d_MD_freeSpare_35 rfl (lv_at hl 2 rfl) ?_
          refine lv_iload_n hx hb d_MD_freeSpare_36 rfl (lv_at hl 0 rfl) ?_
          obtain ⟨x10, hcx10, hD⟩ := bd_s hD
          try dsimp only [nm2] at hD
          refine call_Vi cx wo (k_MD_diskOf l E ad n L (fun a h => hL a ((by decide : ∀ a ∈ ([20, 21] : List Nat), a ∈ ([20, 21, 22, 23, 24, 25, 26] : List Nat)) a h)) F σ  p1 x4 x10 hcx10) m20 (cel_20 E ad n σ) rfl rfl mw_MD_diskOf wm_MD_71 ⟨by decide, by decide⟩ ⟨by decide, by decide⟩ hl.1 rfl (Nat.le_of_ble_eq_true rfl) d_MD_freeSpare_37 (fun H locs wo => ?_)
          obtain ⟨x11, hcx11, hD⟩ := bd_s hD
          try dsimp only [nm2] at hD
          refine call_Vi cx wo (k_MD_holder l E ad n L (fun a h => hL a ((by decide : ∀ a ∈ ([20, 21, 22, 23, 24, 25, 26] : List Nat), a ∈ ([20, 21, 22, 23, 24, 25, 26] : List Nat)) a h)) F σ  p1 x10 x11 hcx11) m20 (cel_20 E ad n σ) rfl rfl mw_MD_holder wm_MD_94 ⟨by decide, by decide⟩ ⟨by decide, by decide⟩ hl.1 rfl (Nat.le_of_ble_eq_true rfl) d_MD_freeSpare_40 (fun H locs wo => ?_)
          refine lv_if_ge (tgt := 53) hx hb d_MD_freeSpare_43 (by decide) (fun c12 => ?_) (fun c12 => ?_)
          · have hD := ite_p hD c12
            obtain ⟨x13, ex13⟩ : ∃ y : Int32, y = x4 + (1 : Int32) := ⟨_, rfl⟩
            have hD := nm_at hD ex13
            try dsimp only at hD
            refine lv_iinc (v := x13) (lv' := [(2, .int x13), (0, .ref (ad 20)), (1, .int p1)]) hx hb d_MD_freeSpare_53 hl (k := 0) rfl (by rw [ex13]; rfl) (by decide) rfl (fun ls hl => ?_)
            refine lv_goto (tgt := 10) hx hb d_MD_freeSpare_56 (by decide) ?_
            exact ih x13 _ _ _ _ hD hret hex wo (lv_sub hl [0, 1, 2] rfl)
          · have hD := ite_n hD c12
            refine lv_aload_n hx hb d_MD_freeSpare_46 rfl (lv_at hl 1 rfl) ?_
            refine lv_iload_n hx hb d_MD_freeSpare_47 rfl (lv_at hl 2 rfl) ?_
            refine lv_iload_n hx hb d_MD_freeSpare_48 rfl (lv_at hl 0 rfl) ?_
            obtain ⟨x14, hcx14, hD⟩ := bd_s hD
            try dsimp only [nm2] at hD
            refine call_Vi cx wo (k_MD_diskOf l E ad n L (fun a h => hL a ((by decide : ∀ a ∈ ([20, 21] : List Nat), a ∈ ([20, 21, 22, 23, 24, 25, 26] : List Nat)) a h)) F σ  p1 x4 x14 hcx14) m20 (cel_20 E ad n σ) rfl rfl mw_MD_diskOf wm_MD_71 ⟨by decide, by decide⟩ ⟨by decide, by decide⟩ hl.1 rfl (Nat.le_of_ble_eq_true rfl) d_MD_freeSpare_49 (fun H locs wo => ?_)
            have hz := hret _ (Option.some.inj hD).symm
            cases hz
            exact t_ireti cx wo rfl rfl d_MD_freeSpare_52
  obtain ⟨res16, hr17, hD⟩ := bd_s hD
  refine lp15 F x1 _ _ _ _ hr17 (fun z hz => by subst hz; exact (Option.some.inj hD).symm) (fun  H locs ls hz wo hl => ?_) wo (lv_sub hl [0, 1, 2] rfl)
  subst hz
  try dsimp only at hD
  refine lv_iconst (v := -1) hx hb d_MD_freeSpare_59 (by decide) ?_
  cases hD
  exact t_ireti cx wo rfl rfl d_MD_freeSpare_60
def D_MD_rebuild_L40 (F : Nat) (n : Nat → Nat) (x11 : Int32) (x9 : Int32) : Nat → HS → Int32 → Option ((HS) ⊕ (HS × Int32))
  | 0, _, _ => none
  | k14 + 1, σ12, x15 =>
      (if ((σ12.1 20 2) * (σ12.1 20 4)) ≤ x15 then
                  some (Sum.inl σ12)
                else
                  (if x11 < 0 then
                    some (Sum.inl σ12)
                  else
                    (D_MD_placeOf F n σ12 x9 x15).bind (fun (x18 : Int32) =>
                    (if 0 ≤ x18 then
                      nm (x15 + (1 : Int32)) (fun x20 =>
                      D_MD_rebuild_L40 F n x11 x9 k14 σ12 x20)
                    else
                      (D_MD_diskOf F n σ12 x9 x15).bind (fun (x21 : Int32) =>
                      grd (inb x21 (n 22)) (
                      (if (σ12.1 22 (x21).toNatClampNeg) = 0 then
                        (D_MD_puts F n σ12 x11 x9 (x15 + (1 : Int32))).bind (fun (qx24 : HS × Int32) => nm2 qx24 (fun (σ25 : HS) (x24 : Int32) =>
                        (if x24 = 0 then
                          some (Sum.inr (σ25, (-1 : Int32)))
                        else
                          grd (inb (((16 : Int32) * x9) + x15) (n 26)) (
                          nm (stI σ25 26 ((((16 : Int32) * x9) + x15)).toNatClampNeg x11) (fun σ28 =>
                          some (Sum.inr (σ28, (1 : Int32))))))))
                      else
                        nm (x15 + (1 : Int32)) (fun x29 =>
                        D_MD_rebuild_L40 F n x11 x9 k14 σ12 x29))))))))
def D_MD_rebuild_L24 (F : Nat) (n : Nat → Nat)  : Nat → HS → Int32 → Option ((HS) ⊕ (HS × Int32))
  | 0, _, _ => none
  | k8 + 1, σ6, x9 =>
      (if (σ6.1 20 3) ≤ x9 then
            some (Sum.inl σ6)
          else
            (D_MD_freeSpare F n σ6 x9).bind (fun (x11 : Int32) =>
            (D_MD_rebuild_L40 F n x11 x9 F σ6 (0 : Int32)).bind (fun q35 => match q35 with
              | Sum.inl σ30 =>
                nm (x9 + (1 : Int32)) (fun x34 =>
              D_MD_rebuild_L24 F n  k8 σ30 x34)
              | Sum.inr z => some (Sum.inr z))))
def D_MD_rebuild (F : Nat) (n : Nat → Nat) (σ : HS)  : Option (HS × Int32) :=
jn (fun (x2 : Int32) =>
    (D_MD_fails F n σ x2 (1 : Int32)).bind (fun (qx3 : HS × Int32) => nm2 qx3 (fun (σ4 : HS) (x3 : Int32) =>
    (if x3 = 0 then
      (D_MD_rebuild_L24 F n  F σ4 (0 : Int32)).bind (fun q40 => match q40 with
        | Sum.inl σ36 =>
          some (σ36, (0 : Int32))
        | Sum.inr z => some z)
    else
      some (σ4, (0 : Int32))))))
  (fun j1 =>
  (if (σ.1 20 12) = 0 then
    j1 (1 : Int32)
  else
    j1 (0 : Int32)))
set_option maxRecDepth 100000 in
set_option maxHeartbeats 4000000 in
theorem k_MD_rebuild (l : Launch) (E : EV) (ad n : Nat → Nat) (L : List Nat) (hL : ∀ a ∈ ([20, 21, 22, 23, 24, 25, 26] : List Nat), a ∈ L) (F : Nat) (σ σo : HS)  (r : Int32) (hD : D_MD_rebuild F n σ  = some (σo, r)) : CtI l E y_MD_rebuild c_MD_rebuild 4 (some FieldType.int) ({ frames := 6, cells := 0, slots := 0, locals := 137 }) [.ref (ad 20)] (wl E ad n L σ) r (wl E ad n L σo) := by
  refine fun sz => ent (by decide) (Nat.le_of_ble_eq_true rfl) ?_
  intro p e s m below meth c hsz cx wo ls hl
  have hx := cx.1.1
  have hb := cx.1.2.1
  have hown := cx.1.2.2.2.1
  have hts := cx.1.2.2.2.2
  have hl : lv_has ls 4 [(0, .ref (ad 20))] := hl
  have m20 : 20 ∈ L := hL 20 (by decide)
  have m21 : 21 ∈ L := hL 21 (by decide)
  have m22 : 22 ∈ L := hL 22 (by decide)
  have m23 : 23 ∈ L := hL 23 (by decide)
  have m24 : 24 ∈ L := hL 24 (by decide)
  have m25 : 25 ∈ L := hL 25 (by decide)
  have m26 : 26 ∈ L := hL 26 (by decide)
  rw [D_MD_rebuild] at hD
  refine lv_aload_n hx hb d_MD_rebuild_0 rfl (lv_at hl 0 rfl) ?_
  refine lv_aload_n hx hb d_MD_rebuild_1 rfl (lv_at hl 0 rfl) ?_
  refine g_get cx wo m20 (cel_20 E ad n σ) rfl in_MD 12 (by decide) wf_MD_31 rfl d_MD_rebuild_2 ?_
  obtain ⟨j1, hj1, hD⟩ := jn_s hD
  try dsimp only at hD
  have j1_ok : ∀ (x2 : Int32) (H : Heap) (locs : List Loc) (ls : Array Slot), j1 x2 = some (σo, r) → Wo E (va_A (wl E ad n L σ) sz) s.heap (wl E ad n L σ) H locs → lv_has ls 4 [(0, .ref (ad 20))] → W p l e ({ frames := 6, cells := 0, slots := 0, locals := 137 }) s m ([.ref (ad 20)] : List Value).toArray below meth c H locs 0 0 (MQ below (va_Qi (fun (x : Int32) (_ : Unit) => x = r) (fun _ t => va_P E.1 cls6 (wl E ad n L σo) t.heap ∧ va_D (va_A (wl E ad n L σ) sz) (wl E ad n L σo)) (va_A (wl E ad n L σ) sz)) ([.ref (ad 20)] : List Value).toArray s 0 0 (va_A (wl E ad n L σ) sz)) (F0 m 13 ls [.int x2, .ref (ad 20)]) := by
    intro x2 H locs ls hD wo hl
    rw [hj1] at hD
    try dsimp only at hD
    refine lv_iconst (v := 1) hx hb d_MD_rebuild_13 (by decide) ?_
    obtain ⟨⟨σ4, x3⟩, hcx3, hD⟩ := bd_s hD
    try dsimp only [nm2] at hD
    refine call_Vi cx wo (k_MD_fails l E ad n L (fun a h => hL a ((by decide : ∀ a ∈ ([20] : List Nat), a ∈ ([20, 21, 22, 23, 24, 25, 26] : List Nat)) a h)) F σ σ4 x2 (1 : Int32) x3 hcx3) m20 (cel_20 E ad n σ) rfl rfl mw_MD_fails wm_MD_100 ⟨by decide, by decide⟩ ⟨by decide, by decide⟩ hl.1 rfl (Nat.le_of_ble_eq_true rfl) d_MD_rebuild_14 (fun H locs wo => ?_)
    refine lv_if_eq (tgt := 22) hx hb d_MD_rebuild_17 (by decide) (fun c5 => ?_) (fun c5 => ?_)
    · have hD := ite_p hD c5
      refine lv_iconst (v := 0) hx hb d_MD_rebuild_22 (by decide) ?_
      refine lv_istore_n (lv' := [(1, .int (0 : Int32)), (0, .ref (ad 20))]) hx hb d_MD_rebuild_23 rfl hl (by decide) rfl (fun ls hl => ?_)
      have lp37 : ∀ (k8 : Nat) (σ6 : HS) (x9 : Int32) (H : Heap) (locs : List Loc) (ls : Array Slot) (res7 : (HS) ⊕ (HS × Int32)), D_MD_rebuild_L24 F n  k8 σ6 x9 = some res7 → (∀ z, res7 = Sum.inr z → (σo, r) = z) → (∀ (σ36 : HS) (H : Heap) (locs : List Loc) (ls : Array Slot), res7 = Sum.inl σ36 → Wo E (va_A (wl E ad n L σ) sz) s.heap (wl E ad n L σ36) H locs → lv_has ls 4 [] → W p l e ({ frames := 6, cells := 0, slots := 0, locals := 137 }) s m ([.ref (ad 20)] : List Value).toArray below meth c H locs 0 0 (MQ below (va_Qi (fun (x : Int32) (_ : Unit) => x = r) (fun _ t => va_P E.1 cls6 (wl E ad n L σo) t.heap ∧ va_D (va_A (wl E ad n L σ) sz) (wl E ad n L σo)) (va_A (wl E ad n L σ) sz)) ([.ref (ad 20)] : List Value).toArray s 0 0 (va_A (wl E ad n L σ) sz)) (F0 m 123 ls [])) → Wo E (va_A (wl E ad n L σ) sz) s.heap (wl E ad n L σ6) H locs → lv_has ls 4 [(1, .int x9), (0, .ref (ad 20))] → W p l e ({ frames := 6, cells := 0, slots := 0, locals := 137 }) s m ([.ref (ad 20)] : List Value).toArray below meth c H locs 0 0 (MQ below (va_Qi (fun (x : Int32) (_ : Unit) => x = r) (fun _ t => va_P E.1 cls6 (wl E ad n L σo) t.heap ∧ va_D (va_A (wl E ad n L σ) sz) (wl E ad n L σo)) (va_A (wl E ad n L σ) sz)) ([.ref (ad 20)] : List Value).toArray s 0 0 (va_A (wl E ad n L σ) sz)) (F0 m 24 ls []) := by
        intro k8
        induction k8 with
        | zero =>
          intro σ6 x9 H locs ls res7 hD
          rw [D_MD_rebuild_L24.eq_1] at hD
          cases hD
        | succ k8 ih =>
          intro σ6 x9 H locs ls res7 hD hret hex wo hl
          rw [D_MD_rebuild_L24.eq_2] at hD
          refine lv_iload_n hx hb d_MD_rebuild_24 rfl (lv_at hl 0 rfl) ?_
          refine lv_aload_n hx hb d_MD_rebuild_25 rfl (lv_at hl 1 rfl) ?_
          refine g_get cx wo m20 (cel_20 E ad n σ6) rfl in_MD 3 (by decide) wf_MD_58 rfl d_MD_rebuild_26 ?_
          refine lv_icmp_ge (tgt := 123) hx hb d_MD_rebuild_29 (by decide) (fun c10 => ?_) (fun c10 => ?_)
          · have hD := ite_p hD c10
            exact hex σ6 _ _ _ (Option.some.inj hD).symm wo (lv_sub hl [] rfl)
          · have hD := ite_n hD c10
            refine lv_aload_n hx hb d_MD_rebuild_32 rfl (lv_at hl 1 rfl) ?_
            refine lv_iload_n hx hb d_MD_rebuild_33 rfl (lv_at hl 0 rfl) ?_
            obtain ⟨x11, hcx11, hD⟩ := bd_s hD
            try dsimp only [nm2] at hD
            refine call_Vi cx wo (k_MD_freeSpare l E ad n L (fun a h => hL a ((by decide : ∀ a ∈ ([20, 21, 22, 23, 24, 25, 26] : List Nat), a ∈ ([20, 21, 22, 23, 24, 25, 26] : List Nat)) a h)) F σ6  x9 x11 hcx11) m20 (cel_20 E ad n σ6) rfl rfl mw_MD_freeSpare wm_MD_148 ⟨by decide, by decide⟩ ⟨by decide, by decide⟩ hl.1 rfl (Nat.le_of_ble_eq_true rfl) d_MD_rebuild_34 (fun H locs wo => ?_)
            refine lv_istore_n (lv' := [(2, .int x11), (1, .int x9), (0, .ref (ad 20))]) hx hb d_MD_rebuild_37 rfl hl (by decide) rfl (fun ls hl => ?_)
            refine lv_iconst (v := 0) hx hb d_MD_rebuild_38 (by decide) ?_
            refine lv_istore_n (lv' := [(3, .int (0 : Int32)), (2, .int x11), (1, .int x9), (0, .ref (ad 20))]) hx hb d_MD_rebuild_39 rfl hl (by decide) rfl (fun ls hl => ?_)
            have lp31 : ∀ (k14 : Nat) (σ12 : HS) (x15 : Int32) (H : Heap) (locs : List Loc) (ls : Array Slot) (res13 : (HS) ⊕ (HS × Int32)), D_MD_rebuild_L40 F n x11 x9 k14 σ12 x15 = some res13 → (∀ z, res13 = Sum.inr z → (σo, r) = z) → (∀ (σ30 : HS) (H : Heap) (locs : List Loc) (ls : Array Slot), res13 = Sum.inl σ30 → Wo E (va_A (wl E ad n L σ) sz) s.heap (wl E ad n L σ30) H locs → lv_has ls 4 [(1, .int x9), (0, .ref (ad 20))] → W p l e ({ frames := 6, cells := 0, slots := 0, locals := 137 }) s m ([.ref (ad 20)] : List Value).toArray below meth c H locs 0 0 (MQ below (va_Qi (fun (x : Int32) (_ : Unit) => x = r) (fun _ t => va_P E.1 cls6 (wl E ad n L σo) t.heap ∧ va_D (va_A (wl E ad n L σ) sz) (wl E ad n L σo)) (va_A (wl E ad n L σ) sz)) ([.ref (ad 20)] : List Value).toArray s 0 0 (va_A (wl E ad n L σ) sz)) (F0 m 117 ls [])) → Wo E (va_A (wl E ad n L σ) sz) s.heap (wl E ad n L σ12) H locs → lv_has ls 4 [(3, .int x15), (2, .int x11), (1, .int x9), (0, .ref (ad 20))] → W p l e ({ frames := 6, cells := 0, slots := 0, locals := 137 }) s m ([.ref (ad 20)] : List Value).toArray below meth c H locs 0 0 (MQ below (va_Qi (fun (x : Int32) (_ : Unit) => x = r) (fun _ t => va_P E.1 cls6 (wl E ad n L σo) t.heap ∧ va_D (va_A (wl E ad n L σ) sz) (wl E ad n L σo)) (va_A (wl E ad n L σ) sz)) ([.ref (ad 20)] : List Value).toArray s 0 0 (va_A (wl E ad n L σ) sz)) (F0 m 40 ls []) := by
              intro k14
              induction k14 with
              | zero =>
                intro σ12 x15 H locs ls res13 hD
                rw [D_MD_rebuild_L40.eq_1] at hD
                cases hD
              | succ k14 ih =>
                intro σ12 x15 H locs ls res13 hD hret hex wo hl
                rw [D_MD_rebuild_L40.eq_2] at hD
                refine lv_iload_n hx hb d_MD_rebuild_40 rfl (lv_at hl 0 rfl) ?_
                refine lv_aload_n hx hb d_MD_rebuild_41 rfl (lv_at hl 3 rfl) ?_
                refine g_get cx wo m20 (cel_20 E ad n σ12) rfl in_MD 2 (by decide) wf_MD_55 rfl d_MD_rebuild_42 ?_
                refine lv_aload_n hx hb d_MD_rebuild_45 rfl (lv_at hl 3 rfl) ?_
                refine g_get cx wo m20 (cel_20 E ad n σ12) rfl in_MD 4 (by decide) wf_MD_61 rfl d_MD_rebuild_46 ?_
                refine lv_imul hx hb d_MD_rebuild_49 ?_
                refine lv_icmp_ge (tgt := 117) hx hb d_MD_rebuild_50 (by decide) (fun c16 => ?_) (fun c16 => ?_)
                · have hD := ite_p hD c16
                  exact hex σ12 _ _ _ (Option.some.inj hD).symm wo (lv_sub hl [2, 3] rfl)
                · have hD := ite_n hD c16
                  refine lv_iload_n hx hb d_MD_rebuild_53 rfl (lv_at hl 1 rfl) ?_
                  refine lv_if_lt (tgt := 117) hx hb d_MD_rebuild_54 (by decide) (fun c17 => ?_) (fun c17 => ?_)
                  · have hD := ite_p hD c17
                    exact hex σ12 _ _ _ (Option.some.inj hD).symm wo (lv_sub hl [2, 3] rfl)
                  · have hD := ite_n hD c17
                    refine lv_aload_n hx hb d_MD_rebuild_57 rfl (lv_at hl 3 rfl) ?_
                    refine lv_iload_n hx hb d_MD_rebuild_58 rfl (lv_at hl 2 rfl) ?_
                    refine lv_iload_n hx hb d_MD_rebuild_59 rfl (lv_at hl 0 rfl) ?_
                    obtain ⟨x18, hcx18, hD⟩ := bd_s hD
                    try dsimp only [nm2] at hD
                    refine call_Vi cx wo (k_MD_placeOf l E ad n L (fun a h => hL a ((by decide : ∀ a ∈ ([20, 21, 22, 23, 24, 25, 26] : List Nat), a ∈ ([20, 21, 22, 23, 24, 25, 26] : List Nat)) a h)) F σ12  x9 x15 x18 hcx18) m20 (cel_20 E ad n σ12) rfl rfl mw_MD_placeOf wm_MD_84 ⟨by decide, by decide⟩ ⟨by decide, by decide⟩ hl.1 rfl (Nat.le_of_ble_eq_true rfl) d_MD_rebuild_60 (fun H locs wo => ?_)
                    refine lv_if_ge (tgt := 111) hx hb d_MD_rebuild_63 (by decide) (fun c19 => ?_) (fun c19 => ?_)
                    · have hD := ite_p hD c19
                      obtain ⟨x20, ex20⟩ : ∃ y : Int32, y = x15 + (1 : Int32) := ⟨_, rfl⟩
                      have hD := nm_at hD ex20
                      try dsimp only at hD
                      refine lv_iinc (v := x20) (lv' := [(3, .int x20), (2, .int x11), (1, .int x9), (0, .ref (ad 20))]) hx hb d_MD_rebuild_111 hl (k := 0) rfl (by rw [ex20]; rfl) (by decide) rfl (fun ls hl => ?_)
                      refine lv_goto (tgt := 40) hx hb d_MD_rebuild_114 (by decide) ?_
                      exact ih σ12 x20 _ _ _ _ hD hret hex wo (lv_sub hl [0, 1, 2, 3] rfl)
                    · have hD := ite_n hD c19
                      refine lv_aload_n hx hb d_MD_rebuild_66 rfl (lv_at hl 3 rfl) ?_
                      refine g_get cx wo m20 (cel_20 E ad n σ12) rfl in_MD 7 (by decide) wf_MD_13 rfl d_MD_rebuild_67 ?_
                      refine lv_aload_n hx hb d_MD_rebuild_70 rfl (lv_at hl 3 rfl) ?_
                      refine lv_iload_n hx hb d_MD_rebuild_71 rfl (lv_at hl 2 rfl) ?_
                      refine lv_iload_n hx hb d_MD_rebuild_72 rfl (lv_at hl 0 rfl) ?_
                      obtain ⟨x21, hcx21, hD⟩ := bd_s hD
                      try dsimp only [nm2] at hD
                      refine call_Vi cx wo (k_MD_diskOf l E ad n L (fun a h => hL a ((by decide : ∀ a ∈ ([20, 21] : List Nat), a ∈ ([20, 21, 22, 23, 24, 25, 26] : List Nat)) a h)) F σ12  x9 x15 x21 hcx21) m20 (cel_20 E ad n σ12) rfl rfl mw_MD_diskOf wm_MD_71 ⟨by decide, by decide⟩ ⟨by decide, by decide⟩ hl.1 rfl (Nat.le_of_ble_eq_true rfl) d_MD_rebuild_73 (fun H locs wo => ?_)
                      obtain ⟨g22, hD⟩ := grd_s hD
                      refine g_zald cx wo m22 (cel_22 E ad n σ12) g22 d_MD_rebuild_76 ?_
                      refine lv_if_eq (tgt := 83) hx hb d_MD_rebuild_77 (by decide) (fun c23 => ?_) (fun c23 => ?_)
                      · have hD := ite_p hD c23
                        refine lv_aload_n hx hb d_MD_rebuild_83 rfl (lv_at hl 3 rfl) ?_
                        refine lv_iload_n hx hb d_MD_rebuild_84 rfl (lv_at hl 1 rfl) ?_
                        refine lv_iload_n hx hb d_MD_rebuild_85 rfl (lv_at hl 2 rfl) ?_
                        refine lv_iload_n hx hb d_MD_rebuild_86 rfl (lv_at hl 0 rfl) ?_
                        refine lv_iconst (v := 1) hx hb d_MD_rebuild_87 (by decide) ?_
                        refine lv_iadd hx hb d_MD_rebuild_88 ?_
                        obtain ⟨⟨σ25, x24⟩, hcx24, hD⟩ := bd_s hD
                        try dsimp only [nm2] at hD
                        refine call_Vi cx wo (k_MD_puts l E ad n L (fun a h => hL a ((by decide : ∀ a ∈ ([20, 23, 24, 25] : List Nat), a ∈ ([20, 21, 22, 23, 24, 25, 26] : List Nat)) a h)) F σ12 σ25 x11 x9 (x15 + (1 : Int32)) x24 hcx24) m20 (cel_20 E ad n σ12) rfl rfl mw_MD_puts wm_MD_116 ⟨by decide, by decide⟩ ⟨by decide, by decide⟩ hl.1 rfl (Nat.le_of_ble_eq_true rfl) d_MD_rebuild_89 (fun H locs wo => ?_)
                        refine lv_if_ne (tgt := 97) hx hb d_MD_rebuild_92 (by decide) (fun c26 => ?_) (fun c26 => ?_)
                        · have hD := ite_n hD c26
                          refine lv_aload_n hx hb d_MD_rebuild_97 rfl (lv_at hl 3 rfl) ?_
                          refine g_get cx wo m20 (cel_20 E ad n σ25) rfl in_MD 11 (by decide) wf_MD_28 rfl d_MD_rebuild_98 ?_
                          refine lv_bipush (v := 16) hx hb d_MD_rebuild_101 (by decide) ?_
                          refine lv_iload_n hx hb d_MD_rebuild_103 rfl (lv_at hl 2 rfl) ?_
                          refine lv_imul hx hb d_MD_rebuild_104 ?_
                          refine lv_iload_n hx hb d_MD_rebuild_105 rfl (lv_at hl 0 rfl) ?_
                          refine lv_iadd hx hb d_MD_rebuild_106 ?_
                          refine lv_iload_n hx hb d_MD_rebuild_107 rfl (lv_at hl 1 rfl) ?_
                          obtain ⟨g27, hD⟩ := grd_s hD
                          refine g_iast cx wo m26 (cel_26 E ad n) g27 d_MD_rebuild_108 (fun H locs wo => ?_)
                          obtain ⟨σ28, eσ28⟩ : ∃ z, z = stI σ25 26 ((((16 : Int32) * x9) + x15)).toNatClampNeg x11 := ⟨_, rfl⟩
                          rw [← eσ28] at wo
                          have hD := nm_at hD eσ28
                          try dsimp only at hD
                          refine lv_iconst (v := 1) hx hb d_MD_rebuild_109 (by decide) ?_
                          have hz := hret _ (Option.some.inj hD).symm
                          cases hz
                          exact t_ireti cx wo rfl rfl d_MD_rebuild_110
                        · have hD := ite_p hD c26
                          refine lv_iconst (v := -1) hx hb d_MD_rebuild_95 (by decide) ?_
                          have hz := hret _ (Option.some.inj hD).symm
                          cases hz
                          exact t_ireti cx wo rfl rfl d_MD_rebuild_96
                      · have hD := ite_n hD c23
                        refine lv_goto (tgt := 111) hx hb d_MD_rebuild_80 (by decide) ?_
                        obtain ⟨x29, ex29⟩ : ∃ y : Int32, y = x15 + (1 : Int32) := ⟨_, rfl⟩
                        have hD := nm_at hD ex29
                        try dsimp only at hD
                        refine lv_iinc (v := x29) (lv' := [(3, .int x29), (2, .int x11), (1, .int x9), (0, .ref (ad 20))]) hx hb d_MD_rebuild_111 hl (k := 0) rfl (by rw [ex29]; rfl) (by decide) rfl (fun ls hl => ?_)
                        refine lv_goto (tgt := 40) hx hb d_MD_rebuild_114 (by decide) ?_
                        exact ih σ12 x29 _ _ _ _ hD hret hex wo (lv_sub hl [0, 1, 2, 3] rfl)
            obtain ⟨res32, hr33, hD⟩ := bd_s hD
            refine lp31 F σ6 (0 : Int32) _ _ _ _ hr33 (fun z hz => by subst hz; exact hret _ (Option.some.inj hD).symm) (fun σ30 H locs ls hz wo hl => ?_) wo (lv_sub hl [0, 1, 2, 3] rfl)
            subst hz
            try dsimp only at hD
            obtain ⟨x34, ex34⟩ : ∃ y : Int32, y = x9 + (1 : Int32) := ⟨_, rfl⟩
            have hD := nm_at hD ex34
            try dsimp only at hD
            refine lv_iinc (v := x34) (lv' := [(1, .int x34), (0, .ref (ad 20))]) hx hb d_MD_rebuild_117 hl (k := 0) rfl (by rw [ex34]; rfl) (by decide) rfl (fun ls hl => ?_)
            refine lv_goto (tgt := 24) hx hb d_MD_rebuild_120 (by decide) ?_
            exact ih σ30 x34 _ _ _ _ hD hret hex wo (lv_sub hl [0, 1] rfl)
      obtain ⟨res38, hr39, hD⟩ := bd_s hD
      refine lp37 F σ4 (0 : Int32) _ _ _ _ hr39 (fun z hz => by subst hz; exact (Option.some.inj hD).symm) (fun σ36 H locs ls hz wo hl => ?_) wo (lv_sub hl [0, 1] rfl)
      subst hz
      try dsimp only at hD
      refine lv_iconst (v := 0) hx hb d_MD_rebuild_123 (by decide) ?_
      cases hD
      exact t_ireti cx wo rfl rfl d_MD_rebuild_124
    · have hD := ite_n hD c5
      refine lv_iconst (v := 0) hx hb d_MD_rebuild_20 (by decide) ?_
      cases hD
      exact t_ireti cx wo rfl rfl d_MD_rebuild_21
  refine lv_if_ne (tgt := 12) hx hb d_MD_rebuild_5 (by decide) (fun c41 => ?_) (fun c41 => ?_)
  · have hD := ite_n hD c41
    refine lv_iconst (v := 0) hx hb d_MD_rebuild_12 (by decide) ?_
    exact j1_ok (0 : Int32) _ _ _ hD wo (lv_sub hl [0] rfl)
  · have hD := ite_p hD c41
    refine lv_iconst (v := 1) hx hb d_MD_rebuild_8 (by decide) ?_
    refine lv_goto (tgt := 13) hx hb d_MD_rebuild_9 (by decide) ?_
    exact j1_ok (1 : Int32) _ _ _ hD wo (lv_sub hl [0] rfl)
def D_MD_copyBack_L34 (F : Nat) (n : Nat → Nat) (x9 : Int32) : Nat → HS → Int32 → Option ((HS) ⊕ (HS × Int32))
  | 0, _, _ => none
  | k13 + 1, σ11, x14 =>
      (if ((σ11.1 20 2) * (σ11.1 20 4)) ≤ x14 then
                  some (Sum.inl σ11)
                else
                  (D_MD_diskOf F n σ11 x9 x14).bind (fun (x16 : Int32) =>
                  grd (inb x16 (n 22)) (
                  (if (σ11.1 22 (x16).toNatClampNeg) = 0 then
                    nm (x14 + (1 : Int32)) (fun x19 =>
                    D_MD_copyBack_L34 F n x9 k13 σ11 x19)
                  else
                    (D_MD_at F n σ11 x16 x9).bind (fun (x20 : Int32) =>
                    grd (inb x20 (n 23)) (
                    (if (σ11.1 23 (x20).toNatClampNeg) = 0 then
                      (D_MD_placeOf F n σ11 x9 x14).bind (fun (x23 : Int32) =>
                      (D_MD_puts F n σ11 x16 x9 (x14 + (1 : Int32))).bind (fun (qx24 : HS × Int32) => nm2 qx24 (fun (σ25 : HS) (x24 : Int32) =>
                      (if x24 = 0 then
                        some (Sum.inr (σ25, (-1 : Int32)))
                      else
                        grd (inb (((16 : Int32) * x9) + x14) (n 26)) (
                        nm (stI σ25 26 ((((16 : Int32) * x9) + x14)).toNatClampNeg x16) (fun σ28 =>
                        (if x23 < 0 then
                          some (Sum.inr (σ28, (1 : Int32)))
                        else
                          (D_MD_puts F n σ28 x23 x9 (0 : Int32)).bind (fun (qx30 : HS × Int32) => nm2 qx30 (fun (σ31 : HS) (x30 : Int32) =>
                          (if x30 = 0 then
                            some (Sum.inr (σ31, (-1 : Int32)))
                          else
                            some (Sum.inr (σ31, (1 : Int32)))))))))))))
                    else
                      nm (x14 + (1 : Int32)) (fun x33 =>
                      D_MD_copyBack_L34 F n x9 k13 σ11 x33))))))))
def D_MD_copyBack_L24 (F : Nat) (n : Nat → Nat)  : Nat → HS → Int32 → Option ((HS) ⊕ (HS × Int32))
  | 0, _, _ => none
  | k8 + 1, σ6, x9 =>
      (if (σ6.1 20 3) ≤ x9 then
            some (Sum.inl σ6)
          else
            (D_MD_copyBack_L34 F n x9 F σ6 (0 : Int32)).bind (fun q39 => match q39 with
              | Sum.inl σ34 =>
                nm (x9 + (1 : Int32)) (fun x38 =>
              D_MD_copyBack_L24 F n  k8 σ34 x38)
              | Sum.inr z => some (Sum.inr z)))
def D_MD_copyBack (F : Nat) (n : Nat → Nat) (σ : HS)  : Option (HS × Int32) :=
jn (fun (x2 : Int32) =>
    (D_MD_fails F n σ x2 (1 : Int32)).bind (fun (qx3 : HS × Int32) => nm2 qx3 (fun (σ4 : HS) (x3 : Int32) =>
    (if x3 = 0 then
      (D_MD_copyBack_L24 F n  F σ4 (0 : Int32)).bind (fun q44 => match q44 with
        | Sum.inl σ40 =>
          some (σ40, (0 : Int32))
        | Sum.inr z => some z)
    else
      some (σ4, (0 : Int32))))))
  (fun j1 =>
  (if (σ.1 20 12) = 0 then
    j1 (1 : Int32)
  else
    j1 (0 : Int32)))
set_option maxRecDepth 100000 in
set_option maxHeartbeats 4000000 in
theorem k_MD_copyBack (l : Launch) (E : EV) (ad n : Nat → Nat) (L : List Nat) (hL : ∀ a ∈ ([20, 21, 22, 23, 24, 25, 26] : List Nat), a ∈ L) (F : Nat) (σ σo : HS)  (r : Int32) (hD : D_MD_copyBack F n σ  = some (σo, r)) : CtI l E y_MD_copyBack c_MD_copyBack 5 (some FieldType.int) ({ frames := 4, cells := 0, slots := 0, locals := 92 }) [.ref (ad 20)] (wl E ad n L σ) r (wl E ad n L σo) := by
  refine fun sz => ent (by decide) (Nat.le_of_ble_eq_true rfl) ?_
  intro p e s m below meth c hsz cx wo ls hl
  have hx := cx.1.1
  have hb := cx.1.2.1
  have hown := cx.1.2.2.2.1
  have hts := cx.1.2.2.2.2
  have hl : lv_has ls 5 [(0, .ref (ad 20))] := hl
  have m20 : 20 ∈ L := hL 20 (by decide)
  have m21 : 21 ∈ L := hL 21 (by decide)
  have m22 : 22 ∈ L := hL 22 (by decide)
  have m23 : 23 ∈ L := hL 23 (by decide)
  have m24 : 24 ∈ L := hL 24 (by decide)
  have m25 : 25 ∈ L := hL 25 (by decide)
  have m26 : 26 ∈ L := hL 26 (by decide)
  rw [D_MD_copyBack] at hD
  refine lv_aload_n hx hb d_MD_copyBack_0 rfl (lv_at hl 0 rfl) ?_
  refine lv_aload_n hx hb d_MD_copyBack_1 rfl (lv_at hl 0 rfl) ?_
  refine g_get cx wo m20 (cel_20 E ad n σ) rfl in_MD 12 (by decide) wf_MD_31 rfl d_MD_copyBack_2 ?_
  obtain ⟨j1, hj1, hD⟩ := jn_s hD
  try dsimp only at hD
  have j1_ok : ∀ (x2 : Int32) (H : Heap) (locs : List Loc) (ls : Array Slot), j1 x2 = some (σo, r) → Wo E (va_A (wl E ad n L σ) sz) s.heap (wl E ad n L σ) H locs → lv_has ls 5 [(0, .ref (ad 20))] → W p l e ({ frames := 4, cells := 0, slots := 0, locals := 92 }) s m ([.ref (ad 20)] : List Value).toArray below meth c H locs 0 0 (MQ below (va_Qi (fun (x : Int32) (_ : Unit) => x = r) (fun _ t => va_P E.1 cls6 (wl E ad n L σo) t.heap ∧ va_D (va_A (wl E ad n L σ) sz) (wl E ad n L σo)) (va_A (wl E ad n L σ) sz)) ([.ref (ad 20)] : List Value).toArray s 0 0 (va_A (wl E ad n L σ) sz)) (F0 m 13 ls [.int x2, .ref (ad 20)]) := by
    intro x2 H locs ls hD wo hl
    rw [hj1] at hD
    try dsimp only at hD
    refine lv_iconst (v := 1) hx hb d_MD_copyBack_13 (by decide) ?_
    obtain ⟨⟨σ4, x3⟩, hcx3, hD⟩ := bd_s hD
    try dsimp only [nm2] at hD
    refine call_Vi cx wo (k_MD_fails l E ad n L (fun a h => hL a ((by decide : ∀ a ∈ ([20] : List Nat), a ∈ ([20, 21, 22, 23, 24, 25, 26] : List Nat)) a h)) F σ σ4 x2 (1 : Int32) x3 hcx3) m20 (cel_20 E ad n σ) rfl rfl mw_MD_fails wm_MD_100 ⟨by decide, by decide⟩ ⟨by decide, by decide⟩ hl.1 rfl (Nat.le_of_ble_eq_true rfl) d_MD_copyBack_14 (fun H locs wo => ?_)
    refine lv_if_eq (tgt := 22) hx hb d_MD_copyBack_17 (by decide) (fun c5 => ?_) (fun c5 => ?_)
    · have hD := ite_p hD c5
      refine lv_iconst (v := 0) hx hb d_MD_copyBack_22 (by decide) ?_
      refine lv_istore_n (lv' := [(1, .int (0 : Int32)), (0, .ref (ad 20))]) hx hb d_MD_copyBack_23 rfl hl (by decide) rfl (fun ls hl => ?_)
      have lp41 : ∀ (k8 : Nat) (σ6 : HS) (x9 : Int32) (H : Heap) (locs : List Loc) (ls : Array Slot) (res7 : (HS) ⊕ (HS × Int32)), D_MD_copyBack_L24 F n  k8 σ6 x9 = some res7 → (∀ z, res7 = Sum.inr z → (σo, r) = z) → (∀ (σ40 : HS) (H : Heap) (locs : List Loc) (ls : Array Slot), res7 = Sum.inl σ40 → Wo E (va_A (wl E ad n L σ) sz) s.heap (wl E ad n L σ40) H locs → lv_has ls 5 [] → W p l e ({ frames := 4, cells := 0, slots := 0, locals := 92 }) s m ([.ref (ad 20)] : List Value).toArray below meth c H locs 0 0 (MQ below (va_Qi (fun (x : Int32) (_ : Unit) => x = r) (fun _ t => va_P E.1 cls6 (wl E ad n L σo) t.heap ∧ va_D (va_A (wl E ad n L σ) sz) (wl E ad n L σo)) (va_A (wl E ad n L σ) sz)) ([.ref (ad 20)] : List Value).toArray s 0 0 (va_A (wl E ad n L σ) sz)) (F0 m 147 ls [])) → Wo E (va_A (wl E ad n L σ) sz) s.heap (wl E ad n L σ6) H locs → lv_has ls 5 [(1, .int x9), (0, .ref (ad 20))] → W p l e ({ frames := 4, cells := 0, slots := 0, locals := 92 }) s m ([.ref (ad 20)] : List Value).toArray below meth c H locs 0 0 (MQ below (va_Qi (fun (x : Int32) (_ : Unit) => x = r) (fun _ t => va_P E.1 cls6 (wl E ad n L σo) t.heap ∧ va_D (va_A (wl E ad n L σ) sz) (wl E ad n L σo)) (va_A (wl E ad n L σ) sz)) ([.ref (ad 20)] : List Value).toArray s 0 0 (va_A (wl E ad n L σ) sz)) (F0 m 24 ls []) := by
        intro k8
        induction k8 with
        | zero =>
          intro σ6 x9 H locs ls res7 hD
          rw [D_MD_copyBack_L24.eq_1] at hD
          cases hD
        | succ k8 ih =>
          intro σ6 x9 H locs ls res7 hD hret hex wo hl
          rw [D_MD_copyBack_L24.eq_2] at hD
          refine lv_iload_n hx hb d_MD_copyBack_24 rfl (lv_at hl 0 rfl) ?_
          refine lv_aload_n hx hb d_MD_copyBack_25 rfl (lv_at hl 1 rfl) ?_
          refine g_get cx wo m20 (cel_20 E ad n σ6) rfl in_MD 3 (by decide) wf_MD_58 rfl d_MD_copyBack_26 ?_
          refine lv_icmp_ge (tgt := 147) hx hb d_MD_copyBack_29 (by decide) (fun c10 => ?_) (fun c10 => ?_)
          · have hD := ite_p hD c10
            exact hex σ6 _ _ _ (Option.some.inj hD).symm wo (lv_sub hl [] rfl)
          · have hD := ite_n hD c10
            refine lv_iconst (v := 0) hx hb d_MD_copyBack_32 (by decide) ?_
            refine lv_istore_n (lv' := [(2, .int (0 : Int32)), (1, .int x9), (0, .ref (ad 20))]) hx hb d_MD_copyBack_33 rfl hl (by decide) rfl (fun ls hl => ?_)
            have lp35 : ∀ (k13 : Nat) (σ11 : HS) (x14 : Int32) (H : Heap) (locs : List Loc) (ls : Array Slot) (res12 : (HS) ⊕ (HS × Int32)), D_MD_copyBack_L34 F n x9 k13 σ11 x14 = some res12 → (∀ z, res12 = Sum.inr z → (σo, r) = z) → (∀ (σ34 : HS) (H : Heap) (locs : List Loc) (ls : Array Slot), res12 = Sum.inl σ34 → Wo E (va_A (wl E ad n L σ) sz) s.heap (wl E ad n L σ34) H locs → lv_has ls 5 [(1, .int x9), (0, .ref (ad 20))] → W p l e ({ frames := 4, cells := 0, slots := 0, locals := 92 }) s m ([.ref (ad 20)] : List Value).toArray below meth c H locs 0 0 (MQ below (va_Qi (fun (x : Int32) (_ : Unit) => x = r) (fun _ t => va_P E.1 cls6 (wl E ad n L σo) t.heap ∧ va_D (va_A (wl E ad n L σ) sz) (wl E ad n L σo)) (va_A (wl E ad n L σ) sz)) ([.ref (ad 20)] : List Value).toArray s 0 0 (va_A (wl E ad n L σ) sz)) (F0 m 141 ls [])) → Wo E (va_A (wl E ad n L σ) sz) s.heap (wl E ad n L σ11) H locs → lv_has ls 5 [(2, .int x14), (1, .int x9), (0, .ref (ad 20))] → W p l e ({ frames := 4, cells := 0, slots := 0, locals := 92 }) s m ([.ref (ad 20)] : List Value).toArray below meth c H locs 0 0 (MQ below (va_Qi (fun (x : Int32) (_ : Unit) => x = r) (fun _ t => va_P E.1 cls6 (wl E ad n L σo) t.heap ∧ va_D (va_A (wl E ad n L σ) sz) (wl E ad n L σo)) (va_A (wl E ad n L σ) sz)) ([.ref (ad 20)] : List Value).toArray s 0 0 (va_A (wl E ad n L σ) sz)) (F0 m 34 ls []) := by
              intro k13
              induction k13 with
              | zero =>
                intro σ11 x14 H locs ls res12 hD
                rw [D_MD_copyBack_L34.eq_1] at hD
                cases hD
              | succ k13 ih =>
                intro σ11 x14 H locs ls res12 hD hret hex wo hl
                rw [D_MD_copyBack_L34.eq_2] at hD
                refine lv_iload_n hx hb d_MD_copyBack_34 rfl (lv_at hl 0 rfl) ?_
                refine lv_aload_n hx hb d_MD_copyBack_35 rfl (lv_at hl 2 rfl) ?_
                refine g_get cx wo m20 (cel_20 E ad n σ11) rfl in_MD 2 (by decide) wf_MD_55 rfl d_MD_copyBack_36 ?_
                refine lv_aload_n hx hb d_MD_copyBack_39 rfl (lv_at hl 2 rfl) ?_
                refine g_get cx wo m20 (cel_20 E ad n σ11) rfl in_MD 4 (by decide) wf_MD_61 rfl d_MD_copyBack_40 ?_
                refine lv_imul hx hb d_MD_copyBack_43 ?_
                refine lv_icmp_ge (tgt := 141) hx hb d_MD_copyBack_44 (by decide) (fun c15 => ?_) (fun c15 => ?_)
                · have hD := ite_p hD c15
                  exact hex σ11 _ _ _ (Option.some.inj hD).symm wo (lv_sub hl [1, 2] rfl)
                · have hD := ite_n hD c15
                  refine lv_aload_n hx hb d_MD_copyBack_47 rfl (lv_at hl 2 rfl) ?_
                  refine lv_iload_n hx hb d_MD_copyBack_48 rfl (lv_at hl 1 rfl) ?_
                  refine lv_iload_n hx hb d_MD_copyBack_49 rfl (lv_at hl 0 rfl) ?_
                  obtain ⟨x16, hcx16, hD⟩ := bd_s hD
                  try dsimp only [nm2] at hD
                  refine call_Vi cx wo (k_MD_diskOf l E ad n L (fun a h => hL a ((by decide : ∀ a ∈ ([20, 21] : List Nat), a ∈ ([20, 21, 22, 23, 24, 25, 26] : List Nat)) a h)) F σ11  x9 x14 x16 hcx16) m20 (cel_20 E ad n σ11) rfl rfl mw_MD_diskOf wm_MD_71 ⟨by decide, by decide⟩ ⟨by decide, by decide⟩ hl.1 rfl (Nat.le_of_ble_eq_true rfl) d_MD_copyBack_50 (fun H locs wo => ?_)
                  refine lv_istore_n (lv' := [(3, .int x16), (2, .int x14), (1, .int x9), (0, .ref (ad 20))]) hx hb d_MD_copyBack_53 rfl hl (by decide) rfl (fun ls hl => ?_)
                  refine lv_aload_n hx hb d_MD_copyBack_54 rfl (lv_at hl 3 rfl) ?_
                  refine g_get cx wo m20 (cel_20 E ad n σ11) rfl in_MD 7 (by decide) wf_MD_13 rfl d_MD_copyBack_55 ?_
                  refine lv_iload_n hx hb d_MD_copyBack_58 rfl (lv_at hl 0 rfl) ?_
                  obtain ⟨g17, hD⟩ := grd_s hD
                  refine g_zald cx wo m22 (cel_22 E ad n σ11) g17 d_MD_copyBack_59 ?_
                  refine lv_if_eq (tgt := 135) hx hb d_MD_copyBack_60 (by decide) (fun c18 => ?_) (fun c18 => ?_)
                  · have hD := ite_p hD c18
                    obtain ⟨x19, ex19⟩ : ∃ y : Int32, y = x14 + (1 : Int32) := ⟨_, rfl⟩
                    have hD := nm_at hD ex19
                    try dsimp only at hD
                    refine lv_iinc (v := x19) (lv' := [(2, .int x19), (3, .int x16), (1, .int x9), (0, .ref (ad 20))]) hx hb d_MD_copyBack_135 hl (k := 1) rfl (by rw [ex19]; rfl) (by decide) rfl (fun ls hl => ?_)
                    refine lv_goto (tgt := 34) hx hb d_MD_copyBack_138 (by decide) ?_
                    exact ih σ11 x19 _ _ _ _ hD hret hex wo (lv_sub hl [0, 2, 3] rfl)
                  · have hD := ite_n hD c18
                    refine lv_aload_n hx hb d_MD_copyBack_63 rfl (lv_at hl 3 rfl) ?_
                    refine g_get cx wo m20 (cel_20 E ad n σ11) rfl in_MD 8 (by decide) wf_MD_17 rfl d_MD_copyBack_64 ?_
                    refine lv_iload_n hx hb d_MD_copyBack_67 rfl (lv_at hl 0 rfl) ?_
                    refine lv_iload_n hx hb d_MD_copyBack_68 rfl (lv_at hl 2 rfl) ?_
                    obtain ⟨x20, hcx20, hD⟩ := bd_s hD
                    try dsimp only [nm2] at hD
                    refine call_Si cx wo (k_MD_at l E ad n L (fun a h => hL a ((by decide : ∀ a ∈ ([] : List Nat), a ∈ ([20, 21, 22, 23, 24, 25, 26] : List Nat)) a h)) F σ11  x16 x9 x20 hcx20) mw_MD_at wm_MD_67 ⟨by decide, by decide⟩ ⟨by decide, by decide⟩ hl.1 rfl (Nat.le_of_ble_eq_true rfl) d_MD_copyBack_69 (fun H locs wo => ?_)
                    obtain ⟨g21, hD⟩ := grd_s hD
                    refine g_zald cx wo m23 (cel_23 E ad n σ11) g21 d_MD_copyBack_72 ?_
                    refine lv_if_eq (tgt := 79) hx hb d_MD_copyBack_73 (by decide) (fun c22 => ?_) (fun c22 => ?_)
                    · have hD := ite_p hD c22
                      refine lv_aload_n hx hb d_MD_copyBack_79 rfl (lv_at hl 3 rfl) ?_
                      refine lv_iload_n hx hb d_MD_copyBack_80 rfl (lv_at hl 2 rfl) ?_
                      refine lv_iload_n hx hb d_MD_copyBack_81 rfl (lv_at hl 1 rfl) ?_
                      obtain ⟨x23, hcx23, hD⟩ := bd_s hD
                      try dsimp only [nm2] at hD
                      refine call_Vi cx wo (k_MD_placeOf l E ad n L (fun a h => hL a ((by decide : ∀ a ∈ ([20, 21, 22, 23, 24, 25, 26] : List Nat), a ∈ ([20, 21, 22, 23, 24, 25, 26] : List Nat)) a h)) F σ11  x9 x14 x23 hcx23) m20 (cel_20 E ad n σ11) rfl rfl mw_MD_placeOf wm_MD_84 ⟨by decide, by decide⟩ ⟨by decide, by decide⟩ hl.1 rfl (Nat.le_of_ble_eq_true rfl) d_MD_copyBack_82 (fun H locs wo => ?_)
                      refine lv_istore (lv' := [(4, .int x23), (3, .int x16), (2, .int x14), (1, .int x9), (0, .ref (ad 20))]) hx hb d_MD_copyBack_85 hl (by decide) rfl (fun ls hl => ?_)
                      refine lv_aload_n hx hb d_MD_copyBack_87 rfl (lv_at hl 4 rfl) ?_
                      refine lv_iload_n hx hb d_MD_copyBack_88 rfl (lv_at hl 1 rfl) ?_
                      refine lv_iload_n hx hb d_MD_copyBack_89 rfl (lv_at hl 3 rfl) ?_
                      refine lv_iload_n hx hb d_MD_copyBack_90 rfl (lv_at hl 2 rfl) ?_
                      refine lv_iconst (v := 1) hx hb d_MD_copyBack_91 (by decide) ?_
                      refine lv_iadd hx hb d_MD_copyBack_92 ?_
                      obtain ⟨⟨σ25, x24⟩, hcx24, hD⟩ := bd_s hD
                      try dsimp only [nm2] at hD
                      refine call_Vi cx wo (k_MD_puts l E ad n L (fun a h => hL a ((by decide : ∀ a ∈ ([20, 23, 24, 25] : List Nat), a ∈ ([20, 21, 22, 23, 24, 25, 26] : List Nat)) a h)) F σ11 σ25 x16 x9 (x14 + (1 : Int32)) x24 hcx24) m20 (cel_20 E ad n σ11) rfl rfl mw_MD_puts wm_MD_116 ⟨by decide, by decide⟩ ⟨by decide, by decide⟩ hl.1 rfl (Nat.le_of_ble_eq_true rfl) d_MD_copyBack_93 (fun H locs wo => ?_)
                      refine lv_if_ne (tgt := 101) hx hb d_MD_copyBack_96 (by decide) (fun c26 => ?_) (fun c26 => ?_)
                      · have hD := ite_n hD c26
                        refine lv_aload_n hx hb d_MD_copyBack_101 rfl (lv_at hl 4 rfl) ?_
                        refine g_get cx wo m20 (cel_20 E ad n σ25) rfl in_MD 11 (by decide) wf_MD_28 rfl d_MD_copyBack_102 ?_
                        refine lv_bipush (v := 16) hx hb d_MD_copyBack_105 (by decide) ?_
                        refine lv_iload_n hx hb d_MD_copyBack_107 rfl (lv_at hl 3 rfl) ?_
                        refine lv_imul hx hb d_MD_copyBack_108 ?_
                        refine lv_iload_n hx hb d_MD_copyBack_109 rfl (lv_at hl 2 rfl) ?_
                        refine lv_iadd hx hb d_MD_copyBack_110 ?_
                        refine lv_iload_n hx hb d_MD_copyBack_111 rfl (lv_at hl 1 rfl) ?_
                        obtain ⟨g27, hD⟩ := grd_s hD
                        refine g_iast cx wo m26 (cel_26 E ad n) g27 d_MD_copyBack_112 (fun H locs wo => ?_)
                        obtain ⟨σ28, eσ28⟩ : ∃ z, z = stI σ25 26 ((((16 : Int32) * x9) + x14)).toNatClampNeg x16 := ⟨_, rfl⟩
                        rw [← eσ28] at wo
                        have hD := nm_at hD eσ28
                        try dsimp only at hD
                        refine lv_iload hx hb d_MD_copyBack_113 (lv_at hl 0 rfl) ?_
                        refine lv_if_lt (tgt := 129) hx hb d_MD_copyBack_115 (by decide) (fun c29 => ?_) (fun c29 => ?_)
                        · have hD := ite_p hD c29
                          refine lv_iconst (v := 1) hx hb d_MD_copyBack_129 (by decide) ?_
                          refine lv_goto (tgt := 134) hx hb d_MD_copyBack_130 (by decide) ?_
                          have hz := hret _ (Option.some.inj hD).symm
                          cases hz
                          exact t_ireti cx wo rfl rfl d_MD_copyBack_134
                        · have hD := ite_n hD c29
                          refine lv_aload_n hx hb d_MD_copyBack_118 rfl (lv_at hl 4 rfl) ?_
                          refine lv_iload hx hb d_MD_copyBack_119 (lv_at hl 0 rfl) ?_
                          refine lv_iload_n hx hb d_MD_copyBack_121 rfl (lv_at hl 3 rfl) ?_
                          refine lv_iconst (v := 0) hx hb d_MD_copyBack_122 (by decide) ?_
                          obtain ⟨⟨σ31, x30⟩, hcx30, hD⟩ := bd_s hD
                          try dsimp only [nm2] at hD
                          refine call_Vi cx wo (k_MD_puts l E ad n L (fun a h => hL a ((by decide : ∀ a ∈ ([20, 23, 24, 25] : List Nat), a ∈ ([20, 21, 22, 23, 24, 25, 26] : List Nat)) a h)) F σ28 σ31 x23 x9 (0 : Int32) x30 hcx30) m20 (cel_20 E ad n σ28) rfl rfl mw_MD_puts wm_MD_116 ⟨by decide, by decide⟩ ⟨by decide, by decide⟩ hl.1 rfl (Nat.le_of_ble_eq_true rfl) d_MD_copyBack_123 (fun H locs wo => ?_)
                          refine lv_if_eq (tgt := 133) hx hb d_MD_copyBack_126 (by decide) (fun c32 => ?_) (fun c32 => ?_)
                          · have hD := ite_p hD c32
                            refine lv_iconst (v := -1) hx hb d_MD_copyBack_133 (by decide) ?_
                            have hz := hret _ (Option.some.inj hD).symm
                            cases hz
                            exact t_ireti cx wo rfl rfl d_MD_copyBack_134
                          · have hD := ite_n hD c32
                            refine lv_iconst (v := 1) hx hb d_MD_copyBack_129 (by decide) ?_
                            refine lv_goto (tgt := 134) hx hb d_MD_copyBack_130 (by decide) ?_
                            have hz := hret _ (Option.some.inj hD).symm
                            cases hz
                            exact t_ireti cx wo rfl rfl d_MD_copyBack_134
                      · have hD := ite_p hD c26
                        refine lv_iconst (v := -1) hx hb d_MD_copyBack_99 (by decide) ?_
                        have hz := hret _ (Option.some.inj hD).symm
                        cases hz
                        exact t_ireti cx wo rfl rfl d_MD_copyBack_100
                    · have hD := ite_n hD c22
                      refine lv_goto (tgt := 135) hx hb d_MD_copyBack_76 (by decide) ?_
                      obtain ⟨x33, ex33⟩ : ∃ y : Int32, y = x14 + (1 : Int32) := ⟨_, rfl⟩
                      have hD := nm_at hD ex33
                      try dsimp only at hD
                      refine lv_iinc (v := x33) (lv' := [(2, .int x33), (3, .int x16), (1, .int x9), (0, .ref (ad 20))]) hx hb d_MD_copyBack_135 hl (k := 1) rfl (by rw [ex33]; rfl) (by decide) rfl (fun ls hl => ?_)
                      refine lv_goto (tgt := 34) hx hb d_MD_copyBack_138 (by decide) ?_
                      exact ih σ11 x33 _ _ _ _ hD hret hex wo (lv_sub hl [0, 2, 3] rfl)
            obtain ⟨res36, hr37, hD⟩ := bd_s hD
            refine lp35 F σ6 (0 : Int32) _ _ _ _ hr37 (fun z hz => by subst hz; exact hret _ (Option.some.inj hD).symm) (fun σ34 H locs ls hz wo hl => ?_) wo (lv_sub hl [0, 1, 2] rfl)
            subst hz
            try dsimp only at hD
            obtain ⟨x38, ex38⟩ : ∃ y : Int32, y = x9 + (1 : Int32) := ⟨_, rfl⟩
            have hD := nm_at hD ex38
            try dsimp only at hD
            refine lv_iinc (v := x38) (lv' := [(1, .int x38), (0, .ref (ad 20))]) hx hb d_MD_copyBack_141 hl (k := 0) rfl (by rw [ex38]; rfl) (by decide) rfl (fun ls hl => ?_)
            refine lv_goto (tgt := 24) hx hb d_MD_copyBack_144 (by decide) ?_
            exact ih σ34 x38 _ _ _ _ hD hret hex wo (lv_sub hl [0, 1] rfl)
      obtain ⟨res42, hr43, hD⟩ := bd_s hD
      refine lp41 F σ4 (0 : Int32) _ _ _ _ hr43 (fun z hz => by subst hz; exact (Option.some.inj hD).symm) (fun σ40 H locs ls hz wo hl => ?_) wo (lv_sub hl [0, 1] rfl)
      subst hz
      try dsimp only at hD
      refine lv_iconst (v := 0) hx hb d_MD_copyBack_147 (by decide) ?_
      cases hD
      exact t_ireti cx wo rfl rfl d_MD_copyBack_148
    · have hD := ite_n hD c5
      refine lv_iconst (v := 0) hx hb d_MD_copyBack_20 (by decide) ?_
      cases hD
      exact t_ireti cx wo rfl rfl d_MD_copyBack_21
  refine lv_if_ne (tgt := 12) hx hb d_MD_copyBack_5 (by decide) (fun c45 => ?_) (fun c45 => ?_)
  · have hD := ite_n hD c45
    refine lv_iconst (v := 0) hx hb d_MD_copyBack_12 (by decide) ?_
    exact j1_ok (0 : Int32) _ _ _ hD wo (lv_sub hl [0] rfl)
  · have hD := ite_p hD c45
    refine lv_iconst (v := 1) hx hb d_MD_copyBack_8 (by decide) ?_
    refine lv_goto (tgt := 13) hx hb d_MD_copyBack_9 (by decide) ?_
    exact j1_ok (1 : Int32) _ _ _ hD wo (lv_sub hl [0] rfl)
def D_MD_scrub_L69 (F : Nat) (n : Nat → Nat) (x9 : Int32) (x7 : Int32) : Nat → HS → Int32 → Option ((HS) ⊕ (HS × Int32))
  | 0, _, _ => none
  | k14 + 1, σ12, x15 =>
      (if (x9 + (σ12.1 20 2)) ≤ x15 then
            some (Sum.inl σ12)
          else
            (D_MD_isSpoilt F n σ12 x7 x15).bind (fun (x17 : Int32) =>
            (if x17 = 0 then
              nm (x15 + (1 : Int32)) (fun x19 =>
              D_MD_scrub_L69 F n x9 x7 k14 σ12 x19)
            else
              (D_MD_placeOf F n σ12 x7 x15).bind (fun (x20 : Int32) =>
              (D_MD_puts F n σ12 x20 x7 (x15 + (1 : Int32))).bind (fun (qx21 : HS × Int32) => nm2 qx21 (fun (σ22 : HS) (x21 : Int32) =>
              (if x21 = 0 then
                some (Sum.inr (σ22, (-1 : Int32)))
              else
                some (Sum.inr (σ22, (1 : Int32))))))))))
def D_MD_scrub (F : Nat) (n : Nat → Nat) (σ : HS)  : Option (HS × Int32) :=
jn (fun (x2 : Int32) =>
    (D_MD_fails F n σ x2 (1 : Int32)).bind (fun (qx3 : HS × Int32) => nm2 qx3 (fun (σ4 : HS) (x3 : Int32) =>
    (if x3 = 0 then
      grd (decide (¬ (σ4.1 20 4) = 0)) (
      nm ((σ4.1 20 15) / (σ4.1 20 4)) (fun x7 =>
      grd (decide (¬ (σ4.1 20 4) = 0)) (
      nm ((σ4.1 20 2) * ((σ4.1 20 15) - (σ4.1 20 15) / (σ4.1 20 4) * (σ4.1 20 4))) (fun x9 =>
      grd (decide (¬ ((σ4.1 20 3) * (σ4.1 20 4)) = 0)) (
      nm (stF σ4 20 15 (((σ4.1 20 15) + (1 : Int32)) - ((σ4.1 20 15) + (1 : Int32)) / ((σ4.1 20 3) * (σ4.1 20 4)) * ((σ4.1 20 3) * (σ4.1 20 4)))) (fun σ11 =>
      (D_MD_scrub_L69 F n x9 x7 F σ11 x9).bind (fun q28 => match q28 with
        | Sum.inl σ24 =>
          some (σ24, (0 : Int32))
        | Sum.inr z => some z)))))))
    else
      some (σ4, (0 : Int32))))))
  (fun j1 =>
  (if (σ.1 20 12) = 0 then
    j1 (1 : Int32)
  else
    j1 (0 : Int32)))
set_option maxRecDepth 100000 in
set_option maxHeartbeats 4000000 in
theorem k_MD_scrub (l : Launch) (E : EV) (ad n : Nat → Nat) (L : List Nat) (hL : ∀ a ∈ ([20, 21, 22, 23, 24, 25, 26] : List Nat), a ∈ L) (F : Nat) (σ σo : HS)  (r : Int32) (hD : D_MD_scrub F n σ  = some (σo, r)) : CtI l E y_MD_scrub c_MD_scrub 4 (some FieldType.int) ({ frames := 5, cells := 0, slots := 0, locals := 115 }) [.ref (ad 20)] (wl E ad n L σ) r (wl E ad n L σo) := by
  refine fun sz => ent (by decide) (Nat.le_of_ble_eq_true rfl) ?_
  intro p e s m below meth c hsz cx wo ls hl
  have hx := cx.1.1
  have hb := cx.1.2.1
  have hown := cx.1.2.2.2.1
  have hts := cx.1.2.2.2.2
  have hl : lv_has ls 4 [(0, .ref (ad 20))] := hl
  have m20 : 20 ∈ L := hL 20 (by decide)
  have m21 : 21 ∈ L := hL 21 (by decide)
  have m22 : 22 ∈ L := hL 22 (by decide)
  have m23 : 23 ∈ L := hL 23 (by decide)
  have m24 : 24 ∈ L := hL 24 (by decide)
  have m25 : 25 ∈ L := hL 25 (by decide)
  have m26 : 26 ∈ L := hL 26 (by decide)
  rw [D_MD_scrub] at hD
  refine lv_aload_n hx hb d_MD_scrub_0 rfl (lv_at hl 0 rfl) ?_
  refine lv_aload_n hx hb d_MD_scrub_1 rfl (lv_at hl 0 rfl) ?_
  refine g_get cx wo m20 (cel_20 E ad n σ) rfl in_MD 12 (by decide) wf_MD_31 rfl d_MD_scrub_2 ?_
  obtain ⟨j1, hj1, hD⟩ := jn_s hD
  try dsimp only at hD
  have j1_ok : ∀ (x2 : Int32) (H : Heap) (locs : List Loc) (ls : Array Slot), j1 x2 = some (σo, r) → Wo E (va_A (wl E ad n L σ) sz) s.heap (wl E ad n L σ) H locs → lv_has ls 4 [(0, .ref (ad 20))] → W p l e ({ frames := 5, cells := 0, slots := 0, locals := 115 }) s m ([.ref (ad 20)] : List Value).toArray below meth c H locs 0 0 (MQ below (va_Qi (fun (x : Int32) (_ : Unit) => x = r) (fun _ t => va_P E.1 cls6 (wl E ad n L σo) t.heap ∧ va_D (va_A (wl E ad n L σ) sz) (wl E ad n L σo)) (va_A (wl E ad n L σ) sz)) ([.ref (ad 20)] : List Value).toArray s 0 0 (va_A (wl E ad n L σ) sz)) (F0 m 13 ls [.int x2, .ref (ad 20)]) := by
    intro x2 H locs ls hD wo hl
    rw [hj1] at hD
    try dsimp only at hD
    refine lv_iconst (v := 1) hx hb d_MD_scrub_13 (by decide) ?_
    obtain ⟨⟨σ4, x3⟩, hcx3, hD⟩ := bd_s hD
    try dsimp only [nm2] at hD
    refine call_Vi cx wo (k_MD_fails l E ad n L (fun a h => hL a ((by decide : ∀ a ∈ ([20] : List Nat), a ∈ ([20, 21, 22, 23, 24, 25, 26] : List Nat)) a h)) F σ σ4 x2 (1 : Int32) x3 hcx3) m20 (cel_20 E ad n σ) rfl rfl mw_MD_fails wm_MD_100 ⟨by decide, by decide⟩ ⟨by decide, by decide⟩ hl.1 rfl (Nat.le_of_ble_eq_true rfl) d_MD_scrub_14 (fun H locs wo => ?_)
    refine lv_if_eq (tgt := 22) hx hb d_MD_scrub_17 (by decide) (fun c5 => ?_) (fun c5 => ?_)
    · have hD := ite_p hD c5
      refine lv_aload_n hx hb d_MD_scrub_22 rfl (lv_at hl 0 rfl) ?_
      refine g_get cx wo m20 (cel_20 E ad n σ4) rfl in_MD 15 (by decide) wf_MD_130 rfl d_MD_scrub_23 ?_
      refine lv_aload_n hx hb d_MD_scrub_26 rfl (lv_at hl 0 rfl) ?_
      refine g_get cx wo m20 (cel_20 E ad n σ4) rfl in_MD 4 (by decide) wf_MD_61 rfl d_MD_scrub_27 ?_
      obtain ⟨g6, hD⟩ := grd_s hD
      refine lv_idiv hx hb d_MD_scrub_30 (of_decide_eq_true g6) ?_
      refine lv_topi (fun x7 ex7 => ?_)
      have hD := nm_at hD ex7
      try dsimp only at hD
      refine lv_istore_n (lv' := [(1, .int x7), (0, .ref (ad 20))]) hx hb d_MD_scrub_31 rfl hl (by decide) rfl (fun ls hl => ?_)
      refine lv_aload_n hx hb d_MD_scrub_32 rfl (lv_at hl 1 rfl) ?_
      refine g_get cx wo m20 (cel_20 E ad n σ4) rfl in_MD 2 (by decide) wf_MD_55 rfl d_MD_scrub_33 ?_
      refine lv_aload_n hx hb d_MD_scrub_36 rfl (lv_at hl 1 rfl) ?_
      refine g_get cx wo m20 (cel_20 E ad n σ4) rfl in_MD 15 (by decide) wf_MD_130 rfl d_MD_scrub_37 ?_
      refine lv_aload_n hx hb d_MD_scrub_40 rfl (lv_at hl 1 rfl) ?_
      refine g_get cx wo m20 (cel_20 E ad n σ4) rfl in_MD 4 (by decide) wf_MD_61 rfl d_MD_scrub_41 ?_
      obtain ⟨g8, hD⟩ := grd_s hD
      refine lv_irem hx hb d_MD_scrub_44 (of_decide_eq_true g8) ?_
      refine lv_imul hx hb d_MD_scrub_45 ?_
      refine lv_topi (fun x9 ex9 => ?_)
      have hD := nm_at hD ex9
      try dsimp only at hD
      refine lv_istore_n (lv' := [(2, .int x9), (1, .int x7), (0, .ref (ad 20))]) hx hb d_MD_scrub_46 rfl hl (by decide) rfl (fun ls hl => ?_)
      refine lv_aload_n hx hb d_MD_scrub_47 rfl (lv_at hl 2 rfl) ?_
      refine lv_aload_n hx hb d_MD_scrub_48 rfl (lv_at hl 2 rfl) ?_
      refine g_get cx wo m20 (cel_20 E ad n σ4) rfl in_MD 15 (by decide) wf_MD_130 rfl d_MD_scrub_49 ?_
      refine lv_iconst (v := 1) hx hb d_MD_scrub_52 (by decide) ?_
      refine lv_iadd hx hb d_MD_scrub_53 ?_
      refine lv_aload_n hx hb d_MD_scrub_54 rfl (lv_at hl 2 rfl) ?_
      refine g_get cx wo m20 (cel_20 E ad n σ4) rfl in_MD 3 (by decide) wf_MD_58 rfl d_MD_scrub_55 ?_
      refine lv_aload_n hx hb d_MD_scrub_58 rfl (lv_at hl 2 rfl) ?_
      refine g_get cx wo m20 (cel_20 E ad n σ4) rfl in_MD 4 (by decide) wf_MD_61 rfl d_MD_scrub_59 ?_
      refine lv_imul hx hb d_MD_scrub_62 ?_
      obtain ⟨g10, hD⟩ := grd_s hD
      refine lv_irem hx hb d_MD_scrub_63 (of_decide_eq_true g10) ?_
      refine g_put cx wo m20 (cel_20 E ad n σ4) rfl in_MD t_MD tok_MD n_MD 15 (by decide) wf_MD_130 rfl rfl rfl (Nat.le_of_ble_eq_true rfl) rfl d_MD_scrub_64 (fun H locs wo => ?_)
      obtain ⟨σ11, eσ11⟩ : ∃ z, z = stF σ4 20 15 (((σ4.1 20 15) + (1 : Int32)) - ((σ4.1 20 15) + (1 : Int32)) / ((σ4.1 20 3) * (σ4.1 20 4)) * ((σ4.1 20 3) * (σ4.1 20 4))) := ⟨_, rfl⟩
      rw [← eσ11] at wo
      have hD := nm_at hD eσ11
      try dsimp only at hD
      refine lv_iload_n hx hb d_MD_scrub_67 rfl (lv_at hl 0 rfl) ?_
      refine lv_istore_n (lv' := [(3, .int x9), (2, .int x9), (1, .int x7), (0, .ref (ad 20))]) hx hb d_MD_scrub_68 rfl hl (by decide) rfl (fun ls hl => ?_)
      have lp25 : ∀ (k14 : Nat) (σ12 : HS) (x15 : Int32) (H : Heap) (locs : List Loc) (ls : Array Slot) (res13 : (HS) ⊕ (HS × Int32)), D_MD_scrub_L69 F n x9 x7 k14 σ12 x15 = some res13 → (∀ z, res13 = Sum.inr z → (σo, r) = z) → (∀ (σ24 : HS) (H : Heap) (locs : List Loc) (ls : Array Slot), res13 = Sum.inl σ24 → Wo E (va_A (wl E ad n L σ) sz) s.heap (wl E ad n L σ24) H locs → lv_has ls 4 [] → W p l e ({ frames := 5, cells := 0, slots := 0, locals := 115 }) s m ([.ref (ad 20)] : List Value).toArray below meth c H locs 0 0 (MQ below (va_Qi (fun (x : Int32) (_ : Unit) => x = r) (fun _ t => va_P E.1 cls6 (wl E ad n L σo) t.heap ∧ va_D (va_A (wl E ad n L σ) sz) (wl E ad n L σo)) (va_A (wl E ad n L σ) sz)) ([.ref (ad 20)] : List Value).toArray s 0 0 (va_A (wl E ad n L σ) sz)) (F0 m 117 ls [])) → Wo E (va_A (wl E ad n L σ) sz) s.heap (wl E ad n L σ12) H locs → lv_has ls 4 [(3, .int x15), (2, .int x9), (1, .int x7), (0, .ref (ad 20))] → W p l e ({ frames := 5, cells := 0, slots := 0, locals := 115 }) s m ([.ref (ad 20)] : List Value).toArray below meth c H locs 0 0 (MQ below (va_Qi (fun (x : Int32) (_ : Unit) => x = r) (fun _ t => va_P E.1 cls6 (wl E ad n L σo) t.heap ∧ va_D (va_A (wl E ad n L σ) sz) (wl E ad n L σo)) (va_A (wl E ad n L σ) sz)) ([.ref (ad 20)] : List Value).toArray s 0 0 (va_A (wl E ad n L σ) sz)) (F0 m 69 ls []) := by
        intro k14
        induction k14 with
        | zero =>
          intro σ12 x15 H locs ls res13 hD
          rw [D_MD_scrub_L69.eq_1] at hD
          cases hD
        | succ k14 ih =>
          intro σ12 x15 H locs ls res13 hD hret hex wo hl
          rw [D_MD_scrub_L69.eq_2] at hD
          refine lv_iload_n hx hb d_MD_scrub_69 rfl (lv_at hl 0 rfl) ?_
          refine lv_iload_n hx hb d_MD_scrub_70 rfl (lv_at hl 1 rfl) ?_
          refine lv_aload_n hx hb d_MD_scrub_71 rfl (lv_at hl 3 rfl) ?_
          refine g_get cx wo m20 (cel_20 E ad n σ12) rfl in_MD 2 (by decide) wf_MD_55 rfl d_MD_scrub_72 ?_
          refine lv_iadd hx hb d_MD_scrub_75 ?_
          refine lv_icmp_ge (tgt := 117) hx hb d_MD_scrub_76 (by decide) (fun c16 => ?_) (fun c16 => ?_)
          · have hD := ite_p hD c16
            exact hex σ12 _ _ _ (Option.some.inj hD).symm wo (lv_sub hl [] rfl)
          · have hD := ite_n hD c16
            refine lv_aload_n hx hb d_MD_scrub_79 rfl (lv_at hl 3 rfl) ?_
            refine lv_iload_n hx hb d_MD_scrub_80 rfl (lv_at hl 2 rfl) ?_
            refine lv_iload_n hx hb d_MD_scrub_81 rfl (lv_at hl 0 rfl) ?_
            obtain ⟨x17, hcx17, hD⟩ := bd_s hD
            try dsimp only [nm2] at hD
            refine call_Vi cx wo (k_MD_isSpoilt l E ad n L (fun a h => hL a ((by decide : ∀ a ∈ ([20, 21, 22, 23, 24, 25, 26] : List Nat), a ∈ ([20, 21, 22, 23, 24, 25, 26] : List Nat)) a h)) F σ12  x7 x15 x17 hcx17) m20 (cel_20 E ad n σ12) rfl rfl mw_MD_isSpoilt wm_MD_87 ⟨by decide, by decide⟩ ⟨by decide, by decide⟩ hl.1 rfl (Nat.le_of_ble_eq_true rfl) d_MD_scrub_82 (fun H locs wo => ?_)
            refine lv_if_eq (tgt := 111) hx hb d_MD_scrub_85 (by decide) (fun c18 => ?_) (fun c18 => ?_)
            · have hD := ite_p hD c18
              obtain ⟨x19, ex19⟩ : ∃ y : Int32, y = x15 + (1 : Int32) := ⟨_, rfl⟩
              have hD := nm_at hD ex19
              try dsimp only at hD
              refine lv_iinc (v := x19) (lv' := [(3, .int x19), (2, .int x9), (1, .int x7), (0, .ref (ad 20))]) hx hb d_MD_scrub_111 hl (k := 0) rfl (by rw [ex19]; rfl) (by decide) rfl (fun ls hl => ?_)
              refine lv_goto (tgt := 69) hx hb d_MD_scrub_114 (by decide) ?_
              exact ih σ12 x19 _ _ _ _ hD hret hex wo (lv_sub hl [0, 1, 2, 3] rfl)
            · have hD := ite_n hD c18
              refine lv_aload_n hx hb d_MD_scrub_88 rfl (lv_at hl 3 rfl) ?_
              refine lv_aload_n hx hb d_MD_scrub_89 rfl (lv_at hl 3 rfl) ?_
              refine lv_iload_n hx hb d_MD_scrub_90 rfl (lv_at hl 2 rfl) ?_
              refine lv_iload_n hx hb d_MD_scrub_91 rfl (lv_at hl 0 rfl) ?_
              obtain ⟨x20, hcx20, hD⟩ := bd_s hD
              try dsimp only [nm2] at hD
              refine call_Vi cx wo (k_MD_placeOf l E ad n L (fun a h => hL a ((by decide : ∀ a ∈ ([20, 21, 22, 23, 24, 25, 26] : List Nat), a ∈ ([20, 21, 22, 23, 24, 25, 26] : List Nat)) a h)) F σ12  x7 x15 x20 hcx20) m20 (cel_20 E ad n σ12) rfl rfl mw_MD_placeOf wm_MD_84 ⟨by decide, by decide⟩ ⟨by decide, by decide⟩ hl.1 rfl (Nat.le_of_ble_eq_true rfl) d_MD_scrub_92 (fun H locs wo => ?_)
              refine lv_iload_n hx hb d_MD_scrub_95 rfl (lv_at hl 2 rfl) ?_
              refine lv_iload_n hx hb d_MD_scrub_96 rfl (lv_at hl 0 rfl) ?_
              refine lv_iconst (v := 1) hx hb d_MD_scrub_97 (by decide) ?_
              refine lv_iadd hx hb d_MD_scrub_98 ?_
              obtain ⟨⟨σ22, x21⟩, hcx21, hD⟩ := bd_s hD
              try dsimp only [nm2] at hD
              refine call_Vi cx wo (k_MD_puts l E ad n L (fun a h => hL a ((by decide : ∀ a ∈ ([20, 23, 24, 25] : List Nat), a ∈ ([20, 21, 22, 23, 24, 25, 26] : List Nat)) a h)) F σ12 σ22 x20 x7 (x15 + (1 : Int32)) x21 hcx21) m20 (cel_20 E ad n σ12) rfl rfl mw_MD_puts wm_MD_116 ⟨by decide, by decide⟩ ⟨by decide, by decide⟩ hl.1 rfl (Nat.le_of_ble_eq_true rfl) d_MD_scrub_99 (fun H locs wo => ?_)
              refine lv_if_eq (tgt := 109) hx hb d_MD_scrub_102 (by decide) (fun c23 => ?_) (fun c23 => ?_)
              · have hD := ite_p hD c23
                refine lv_iconst (v := -1) hx hb d_MD_scrub_109 (by decide) ?_
                have hz := hret _ (Option.some.inj hD).symm
                cases hz
                exact t_ireti cx wo rfl rfl d_MD_scrub_110
              · have hD := ite_n hD c23
                refine lv_iconst (v := 1) hx hb d_MD_scrub_105 (by decide) ?_
                refine lv_goto (tgt := 110) hx hb d_MD_scrub_106 (by decide) ?_
                have hz := hret _ (Option.some.inj hD).symm
                cases hz
                exact t_ireti cx wo rfl rfl d_MD_scrub_110
      obtain ⟨res26, hr27, hD⟩ := bd_s hD
      refine lp25 F σ11 x9 _ _ _ _ hr27 (fun z hz => by subst hz; exact (Option.some.inj hD).symm) (fun σ24 H locs ls hz wo hl => ?_) wo (lv_sub hl [0, 1, 2, 3] rfl)
      subst hz
      try dsimp only at hD
      refine lv_iconst (v := 0) hx hb d_MD_scrub_117 (by decide) ?_
      cases hD
      exact t_ireti cx wo rfl rfl d_MD_scrub_118
    · have hD := ite_n hD c5
      refine lv_iconst (v := 0) hx hb d_MD_scrub_20 (by decide) ?_
      cases hD
      exact t_ireti cx wo rfl rfl d_MD_scrub_21
  refine lv_if_ne (tgt := 12) hx hb d_MD_scrub_5 (by decide) (fun c29 => ?_) (fun c29 => ?_)
  · have hD := ite_n hD c29
    refine lv_iconst (v := 0) hx hb d_MD_scrub_12 (by decide) ?_
    exact j1_ok (0 : Int32) _ _ _ hD wo (lv_sub hl [0] rfl)
  · have hD := ite_p hD c29
    refine lv_iconst (v := 1) hx hb d_MD_scrub_8 (by decide) ?_
    refine lv_goto (tgt := 13) hx hb d_MD_scrub_9 (by decide) ?_
    exact j1_ok (1 : Int32) _ _ _ hD wo (lv_sub hl [0] rfl)
def D_MD_count_L15 (F : Nat) (n : Nat → Nat) (σ : HS) (x3 : Int32) (p1 : Int32) : Nat → Int32 → Int32 → Option (Int32)
  | 0, _, _ => none
  | k7 + 1, x8, x9 =>
      (if (σ.1 20 1) ≤ x8 then
              some x9
            else
              jn (fun (x12 : Int32) (x13 : Int32) =>
                (if p1 = (4 : Int32) then
                  (if x12 = 0 then
                    nm (x13 + (0 : Int32)) (fun x17 =>
                    nm (x8 + (1 : Int32)) (fun x18 =>
                    D_MD_count_L15 F n σ x3 p1 k7 x18 x17))
                  else
                    (D_MD_diskOf F n σ x3 x8).bind (fun (x19 : Int32) =>
                    grd (inb x19 (n 22)) (
                    (if (σ.1 22 (x19).toNatClampNeg) = 0 then
                      nm (x13 + (0 : Int32)) (fun x22 =>
                      nm (x8 + (1 : Int32)) (fun x23 =>
                      D_MD_count_L15 F n σ x3 p1 k7 x23 x22))
                    else
                      (D_MD_diskOf F n σ x3 x8).bind (fun (x24 : Int32) =>
                      (D_MD_holder F n σ x3 x24).bind (fun (x25 : Int32) =>
                      (if 0 ≤ x25 then
                        nm (x13 + (0 : Int32)) (fun x27 =>
                        nm (x8 + (1 : Int32)) (fun x28 =>
                        D_MD_count_L15 F n σ x3 p1 k7 x28 x27))
                      else
                        nm (x13 + (1 : Int32)) (fun x29 =>
                        nm (x8 + (1 : Int32)) (fun x30 =>
                        D_MD_count_L15 F n σ x3 p1 k7 x30 x29)))))))))
                else
                  nm (x8 + (1 : Int32)) (fun x15 =>
                  D_MD_count_L15 F n σ x3 p1 k7 x15 x13)))
              (fun j11 =>
              jn (fun (x32 : Int32) (x33 : Int32) =>
                (if p1 = (3 : Int32) then
                  (if x32 = 0 then
                    (D_MD_isSpoilt F n σ x3 x8).bind (fun (x37 : Int32) =>
                    (if x37 = 0 then
                      nm (x33 + (0 : Int32)) (fun x39 =>
                      j11 x32 x39)
                    else
                      nm (x33 + (1 : Int32)) (fun x40 =>
                      j11 x32 x40)))
                  else
                    nm (x33 + (0 : Int32)) (fun x36 =>
                    j11 x32 x36))
                else
                  j11 x32 x33))
              (fun j31 =>
              jn (fun (x42 : Int32) =>
                (if p1 = (2 : Int32) then
                  (if x42 = 0 then
                    (D_MD_placeOf F n σ x3 x8).bind (fun (x46 : Int32) =>
                    (if 0 ≤ x46 then
                      nm (x9 + (0 : Int32)) (fun x48 =>
                      j31 x42 x48)
                    else
                      nm (x9 + (1 : Int32)) (fun x49 =>
                      j31 x42 x49)))
                  else
                    nm (x9 + (0 : Int32)) (fun x45 =>
                    j31 x42 x45))
                else
                  j31 x42 x9))
              (fun j41 =>
              (if x8 < ((σ.1 20 2) * (σ.1 20 4)) then
                j41 (0 : Int32)
              else
                j41 (1 : Int32))))))
def D_MD_count_L4 (F : Nat) (n : Nat → Nat) (σ : HS) (p1 : Int32) : Nat → Int32 → Int32 → Option (Int32)
  | 0, _, _ => none
  | k2 + 1, x3, x4 =>
      (if (σ.1 20 3) ≤ x3 then
        some x4
      else
        (D_MD_count_L15 F n σ x3 p1 F (0 : Int32) x4).bind (fun (x51 : Int32) =>
        nm (x3 + (1 : Int32)) (fun x55 =>
          D_MD_count_L4 F n σ p1 k2 x55 x51)))
def D_MD_count (F : Nat) (n : Nat → Nat) (σ : HS) (p1 : Int32) : Option (Int32) :=
(D_MD_count_L4 F n σ p1 F (0 : Int32) (0 : Int32)).bind (fun (x56 : Int32) =>
  some x56)
set_option maxRecDepth 100000 in
set_option maxHeartbeats 4000000 in
theorem k_MD_count (l : Launch) (E : EV) (ad n : Nat → Nat) (L : List Nat) (hL : ∀ a ∈ ([20, 21, 22, 23, 24, 25, 26] : List Nat), a ∈ L) (F : Nat) (σ  : HS) (p1 : Int32) (r : Int32) (hD : D_MD_count F n σ p1 = some r) : CtI l E y_MD_count c_MD_count 6 (some FieldType.int) ({ frames := 5, cells := 0, slots := 0, locals := 115 }) [.ref (ad 20), .int p1] (wl E ad n L σ) r (wl E ad n L σ) := by
  refine fun sz => ent (by decide) (Nat.le_of_ble_eq_true rfl) ?_
  intro p e s m below meth c hsz cx wo ls hl
  have hx := cx.1.1
  have hb := cx.1.2.1
  have hown := cx.1.2.2.2.1
  have hts := cx.1.2.2.2.2
  have hl : lv_has ls 6 [(0, .ref (ad 20)), (1, .int p1)] := hl
  have m20 : 20 ∈ L := hL 20 (by decide)
  have m21 : 21 ∈ L := hL 21 (by decide)
  have m22 : 22 ∈ L := hL 22 (by decide)
  have m23 : 23 ∈ L := hL 23 (by decide)
  have m24 : 24 ∈ L := hL 24 (by decide)
  have m25 : 25 ∈ L := hL 25 (by decide)
  have m26 : 26 ∈ L := hL 26 (by decide)
  rw [D_MD_count] at hD
  refine lv_iconst (v := 0) hx hb d_MD_count_0 (by decide) ?_
  refine lv_istore_n (lv' := [(2, .int (0 : Int32)), (0, .ref (ad 20)), (1, .int p1)]) hx hb d_MD_count_1 rfl hl (by decide) rfl (fun ls hl => ?_)
  refine lv_iconst (v := 0) hx hb d_MD_count_2 (by decide) ?_
  refine lv_istore_n (lv' := [(3, .int (0 : Int32)), (2, .int (0 : Int32)), (0, .ref (ad 20)), (1, .int p1)]) hx hb d_MD_count_3 rfl hl (by decide) rfl (fun ls hl => ?_)
  have lp57 : ∀ (k2 : Nat) (x3 : Int32) (x4 : Int32) (H : Heap) (locs : List Loc) (ls : Array Slot) (res1 : Int32), D_MD_count_L4 F n σ p1 k2 x3 x4 = some res1 → (∀ (x56 : Int32) (H : Heap) (locs : List Loc) (ls : Array Slot), res1 = x56 → Wo E (va_A (wl E ad n L σ) sz) s.heap (wl E ad n L σ) H locs → lv_has ls 6 [(2, .int x56)] → W p l e ({ frames := 5, cells := 0, slots := 0, locals := 115 }) s m ([.ref (ad 20), .int p1] : List Value).toArray below meth c H locs 0 0 (MQ below (va_Qi (fun (x : Int32) (_ : Unit) => x = r) (fun _ t => va_P E.1 cls6 (wl E ad n L σ) t.heap ∧ va_D (va_A (wl E ad n L σ) sz) (wl E ad n L σ)) (va_A (wl E ad n L σ) sz)) ([.ref (ad 20), .int p1] : List Value).toArray s 0 0 (va_A (wl E ad n L σ) sz)) (F0 m 161 ls [])) → Wo E (va_A (wl E ad n L σ) sz) s.heap (wl E ad n L σ) H locs → lv_has ls 6 [(3, .int x3), (2, .int x4), (0, .ref (ad 20)), (1, .int p1)] → W p l e ({ frames := 5, cells := 0, slots := 0, locals := 115 }) s m ([.ref (ad 20), .int p1] : List Value).toArray below meth c H locs 0 0 (MQ below (va_Qi (fun (x : Int32) (_ : Unit) => x = r) (fun _ t => va_P E.1 cls6 (wl E ad n L σ) t.heap ∧ va_D (va_A (wl E ad n L σ) sz) (wl E ad n L σ)) (va_A (wl E ad n L σ) sz)) ([.ref (ad 20), .int p1] : List Value).toArray s 0 0 (va_A (wl E ad n L σ) sz)) (F0 m 4 ls []) := by
    intro k2
    induction k2 with
    | zero =>
      intro x3 x4 H locs ls res1 hD
      rw [D_MD_count_L4.eq_1] at hD
      cases hD
    | succ k2 ih =>
      intro x3 x4 H locs ls res1 hD hex wo hl
      rw [D_MD_count_L4.eq_2] at hD
      refine lv_iload_n hx hb d_MD_count_4 rfl (lv_at hl 0 rfl) ?_
      refine lv_aload_n hx hb d_MD_count_5 rfl (lv_at hl 2 rfl) ?_
      refine g_get cx wo m20 (cel_20 E ad n σ) rfl in_MD 3 (by decide) wf_MD_58 rfl d_MD_count_6 ?_
      refine lv_icmp_ge (tgt := 161) hx hb d_MD_count_9 (by decide) (fun c5 => ?_) (fun c5 => ?_)
      · have hD := ite_p hD c5
        exact hex x4 _ _ _ (Option.some.inj hD).symm wo (lv_sub hl [1] rfl)
      · have hD := ite_n hD c5
        refine lv_iconst (v := 0) hx hb d_MD_count_12 (by decide) ?_
        refine lv_istore (lv' := [(4, .int (0 : Int32)), (3, .int x3), (2, .int x4), (0, .ref (ad 20)), (1, .int p1)]) hx hb d_MD_count_13 hl (by decide) rfl (fun ls hl => ?_)
        have lp52 : ∀ (k7 : Nat) (x8 : Int32) (x9 : Int32) (H : Heap) (locs : List Loc) (ls : Array Slot) (res6 : Int32), D_MD_count_L15 F n σ x3 p1 k7 x8 x9 = some res6 → (∀ (x51 : Int32) (H : Heap) (locs : List Loc) (ls : Array Slot), res6 = x51 → Wo E (va_A (wl E ad n L σ) sz) s.heap (wl E ad n L σ) H locs → lv_has ls 6 [(3, .int x3), (2, .int x51), (0, .ref (ad 20)), (1, .int p1)] → W p l e ({ frames := 5, cells := 0, slots := 0, locals := 115 }) s m ([.ref (ad 20), .int p1] : List Value).toArray below meth c H locs 0 0 (MQ below (va_Qi (fun (x : Int32) (_ : Unit) => x = r) (fun _ t => va_P E.1 cls6 (wl E ad n L σ) t.heap ∧ va_D (va_A (wl E ad n L σ) sz) (wl E ad n L σ)) (va_A (wl E ad n L σ) sz)) ([.ref (ad 20), .int p1] : List Value).toArray s 0 0 (va_A (wl E ad n L σ) sz)) (F0 m 155 ls [])) → Wo E (va_A (wl E ad n L σ) sz) s.heap (wl E ad n L σ) H locs → lv_has ls 6 [(4, .int x8), (3, .int x3), (2, .int x9), (0, .ref (ad 20)), (1, .int p1)] → W p l e ({ frames := 5, cells := 0, slots := 0, locals := 115 }) s m ([.ref (ad 20), .int p1] : List Value).toArray below meth c H locs 0 0 (MQ below (va_Qi (fun (x : Int32) (_ : Unit) => x = r) (fun _ t => va_P E.1 cls6 (wl E ad n L σ) t.heap ∧ va_D (va_A (wl E ad n L σ) sz) (wl E ad n L σ)) (va_A (wl E ad n L σ) sz)) ([.ref (ad 20), .int p1] : List Value).toArray s 0 0 (va_A (wl E ad n L σ) sz)) (F0 m 15 ls []) := by
          intro k7
          induction k7 with
          | zero =>
            intro x8 x9 H locs ls res6 hD
            rw [D_MD_count_L15.eq_1] at hD
            cases hD
          | succ k7 ih =>
            intro x8 x9 H locs ls res6 hD hex wo hl
            rw [D_MD_count_L15.eq_2] at hD
            refine lv_iload hx hb d_MD_count_15 (lv_at hl 0 rfl) ?_
            refine lv_aload_n hx hb d_MD_count_17 rfl (lv_at hl 3 rfl) ?_
            refine g_get cx wo m20 (cel_20 E ad n σ) rfl in_MD 1 (by decide) wf_MD_52 rfl d_MD_count_18 ?_
            refine lv_icmp_ge (tgt := 155) hx hb d_MD_count_21 (by decide) (fun c10 => ?_) (fun c10 => ?_)
            · have hD := ite_p hD c10
              exact hex x9 _ _ _ (Option.some.inj hD).symm wo (lv_sub hl [1, 2, 3, 4] rfl)
            · have hD := ite_n hD c10
              refine lv_iload hx hb d_MD_count_24 (lv_at hl 0 rfl) ?_
              refine lv_aload_n hx hb d_MD_count_26 rfl (lv_at hl 3 rfl) ?_
              refine g_get cx wo m20 (cel_20 E ad n σ) rfl in_MD 2 (by decide) wf_MD_55 rfl d_MD_count_27 ?_
              refine lv_aload_n hx hb d_MD_count_30 rfl (lv_at hl 3 rfl) ?_
              refine g_get cx wo m20 (cel_20 E ad n σ) rfl in_MD 4 (by decide) wf_MD_61 rfl d_MD_count_31 ?_
              refine lv_imul hx hb d_MD_count_34 ?_
              obtain ⟨j11, hj11, hD⟩ := jn_s hD
              try dsimp only at hD
              have j11_ok : ∀ (x12 : Int32) (x13 : Int32) (H : Heap) (locs : List Loc) (ls : Array Slot), j11 x12 x13 = some res6 → Wo E (va_A (wl E ad n L σ) sz) s.heap (wl E ad n L σ) H locs → lv_has ls 6 [(5, .int x12), (4, .int x8), (3, .int x3), (2, .int x13), (0, .ref (ad 20)), (1, .int p1)] → W p l e ({ frames := 5, cells := 0, slots := 0, locals := 115 }) s m ([.ref (ad 20), .int p1] : List Value).toArray below meth c H locs 0 0 (MQ below (va_Qi (fun (x : Int32) (_ : Unit) => x = r) (fun _ t => va_P E.1 cls6 (wl E ad n L σ) t.heap ∧ va_D (va_A (wl E ad n L σ) sz) (wl E ad n L σ)) (va_A (wl E ad n L σ) sz)) ([.ref (ad 20), .int p1] : List Value).toArray s 0 0 (va_A (wl E ad n L σ) sz)) (F0 m 101 ls []) := by
                intro x12 x13 H locs ls hD wo hl
                rw [hj11] at hD
                try dsimp only at hD
                refine lv_iload_n hx hb d_MD_count_101 rfl (lv_at hl 5 rfl) ?_
                refine lv_iconst (v := 4) hx hb d_MD_count_102 (by decide) ?_
                refine lv_icmp_ne (tgt := 149) hx hb d_MD_count_103 (by decide) (fun c14 => ?_) (fun c14 => ?_)
                · have hD := ite_n hD c14
                  obtain ⟨x15, ex15⟩ : ∃ y : Int32, y = x8 + (1 : Int32) := ⟨_, rfl⟩
                  have hD := nm_at hD ex15
                  try dsimp only at hD
                  refine lv_iinc (v := x15) (lv' := [(4, .int x15), (5, .int x12), (3, .int x3), (2, .int x13), (0, .ref (ad 20)), (1, .int p1)]) hx hb d_MD_count_149 hl (k := 1) rfl (by rw [ex15]; rfl) (by decide) rfl (fun ls hl => ?_)
                  refine lv_goto (tgt := 15) hx hb d_MD_count_152 (by decide) ?_
                  exact ih x15 x13 _ _ _ _ hD hex wo (lv_sub hl [0, 2, 3, 4, 5] rfl)
                · have hD := ite_p hD c14
                  refine lv_iload_n hx hb d_MD_count_106 rfl (lv_at hl 3 rfl) ?_
                  refine lv_iload hx hb d_MD_count_107 (lv_at hl 0 rfl) ?_
                  refine lv_if_eq (tgt := 146) hx hb d_MD_count_109 (by decide) (fun c16 => ?_) (fun c16 => ?_)
                  · have hD := ite_p hD c16
                    refine lv_iconst (v := 0) hx hb d_MD_count_146 (by decide) ?_
                    refine lv_iadd hx hb d_MD_count_147 ?_
                    refine lv_topi (fun x17 ex17 => ?_)
                    have hD := nm_at hD ex17
                    try dsimp only at hD
                    refine lv_istore_n (lv' := [(2, .int x17), (5, .int x12), (4, .int x8), (3, .int x3), (0, .ref (ad 20)), (1, .int p1)]) hx hb d_MD_count_148 rfl hl (by decide) rfl (fun ls hl => ?_)
                    obtain ⟨x18, ex18⟩ : ∃ y : Int32, y = x8 + (1 : Int32) := ⟨_, rfl⟩
                    have hD := nm_at hD ex18
                    try dsimp only at hD
                    refine lv_iinc (v := x18) (lv' := [(4, .int x18), (2, .int x17), (5, .int x12), (3, .int x3), (0, .ref (ad 20)), (1, .int p1)]) hx hb d_MD_count_149 hl (k := 2) rfl (by rw [ex18]; rfl) (by decide) rfl (fun ls hl => ?_)
                    refine lv_goto (tgt := 15) hx hb d_MD_count_152 (by decide) ?_
                    exact ih x18 x17 _ _ _ _ hD hex wo (lv_sub hl [0, 3, 1, 4, 5] rfl)
                  · have hD := ite_n hD c16
                    refine lv_aload_n hx hb d_MD_count_112 rfl (lv_at hl 4 rfl) ?_
                    refine g_get cx wo m20 (cel_20 E ad n σ) rfl in_MD 7 (by decide) wf_MD_13 rfl d_MD_count_113 ?_
                    refine lv_aload_n hx hb d_MD_count_116 rfl (lv_at hl 4 rfl) ?_
                    refine lv_iload_n hx hb d_MD_count_117 rfl (lv_at hl 2 rfl) ?_
                    refine lv_iload hx hb d_MD_count_118 (lv_at hl 1 rfl) ?_
                    obtain ⟨x19, hcx19, hD⟩ := bd_s hD
                    try dsimp only [nm2] at hD
                    refine call_Vi cx wo (k_MD_diskOf l E ad n L (fun a h => hL a ((by decide : ∀ a ∈ ([20, 21] : List Nat), a ∈ ([20, 21, 22, 23, 24, 25, 26] : List Nat)) a h)) F σ  x3 x8 x19 hcx19) m20 (cel_20 E ad n σ) rfl rfl mw_MD_diskOf wm_MD_71 ⟨by decide, by decide⟩ ⟨by decide, by decide⟩ hl.1 rfl (Nat.le_of_ble_eq_true rfl) d_MD_count_120 (fun H locs wo => ?_)
                    obtain ⟨g20, hD⟩ := grd_s hD
                    refine g_zald cx wo m22 (cel_22 E ad n σ) g20 d_MD_count_123 ?_
                    refine lv_if_eq (tgt := 146) hx hb d_MD_count_124 (by decide) (fun c21 => ?_) (fun c21 => ?_)
                    · have hD := ite_p hD c21
                      refine lv_iconst (v := 0) hx hb d_MD_count_146 (by decide) ?_
                      refine lv_iadd hx hb d_MD_count_147 ?_
                      refine lv_topi (fun x22 ex22 => ?_)
                      have hD := nm_at hD ex22
                      try dsimp only at hD
                      refine lv_istore_n (lv' := [(2, .int x22), (5, .int x12), (4, .int x8), (3, .int x3), (0, .ref (ad 20)), (1, .int p1)]) hx hb d_MD_count_148 rfl hl (by decide) rfl (fun ls hl => ?_)
                      obtain ⟨x23, ex23⟩ : ∃ y : Int32, y = x8 + (1 : Int32) := ⟨_, rfl⟩
                      have hD := nm_at hD ex23
                      try dsimp only at hD
                      refine lv_iinc (v := x23) (lv' := [(4, .int x23), (2, .int x22), (5, .int x12), (3, .int x3), (0, .ref (ad 20)), (1, .int p1)]) hx hb d_MD_count_149 hl (k := 2) rfl (by rw [ex23]; rfl) (by decide) rfl (fun ls hl => ?_)
                      refine lv_goto (tgt := 15) hx hb d_MD_count_152 (by decide) ?_
                      exact ih x23 x22 _ _ _ _ hD hex wo (lv_sub hl [0, 3, 1, 4, 5] rfl)
                    · have hD := ite_n hD c21
                      refine lv_aload_n hx hb d_MD_count_127 rfl (lv_at hl 4 rfl) ?_
                      refine lv_iload_n hx hb d_MD_count_128 rfl (lv_at hl 2 rfl) ?_
                      refine lv_aload_n hx hb d_MD_count_129 rfl (lv_at hl 4 rfl) ?_
                      refine lv_iload_n hx hb d_MD_count_130 rfl (lv_at hl 2 rfl) ?_
                      refine lv_iload hx hb d_MD_count_131 (lv_at hl 1 rfl) ?_
                      obtain ⟨x24, hcx24, hD⟩ := bd_s hD
                      try dsimp only [nm2] at hD
                      refine call_Vi cx wo (k_MD_diskOf l E ad n L (fun a h => hL a ((by decide : ∀ a ∈ ([20, 21] : List Nat), a ∈ ([20, 21, 22, 23, 24, 25, 26] : List Nat)) a h)) F σ  x3 x8 x24 hcx24) m20 (cel_20 E ad n σ) rfl rfl mw_MD_diskOf wm_MD_71 ⟨by decide, by decide⟩ ⟨by decide, by decide⟩ hl.1 rfl (Nat.le_of_ble_eq_true rfl) d_MD_count_133 (fun H locs wo => ?_)
                      obtain ⟨x25, hcx25, hD⟩ := bd_s hD
                      try dsimp only [nm2] at hD
                      refine call_Vi cx wo (k_MD_holder l E ad n L (fun a h => hL a ((by decide : ∀ a ∈ ([20, 21, 22, 23, 24, 25, 26] : List Nat), a ∈ ([20, 21, 22, 23, 24, 25, 26] : List Nat)) a h)) F σ  x3 x24 x25 hcx25) m20 (cel_20 E ad n σ) rfl rfl mw_MD_holder wm_MD_94 ⟨by decide, by decide⟩ ⟨by decide, by decide⟩ hl.1 rfl (Nat.le_of_ble_eq_true rfl) d_MD_count_136 (fun H locs wo => ?_)
                      refine lv_if_ge (tgt := 146) hx hb d_MD_count_139 (by decide) (fun c26 => ?_) (fun c26 => ?_)
                      · have hD := ite_p hD c26
                        refine lv_iconst (v := 0) hx hb d_MD_count_146 (by decide) ?_
                        refine lv_iadd hx hb d_MD_count_147 ?_
                        refine lv_topi (fun x27 ex27 => ?_)
                        have hD := nm_at hD ex27
                        try dsimp only at hD
                        refine lv_istore_n (lv' := [(2, .int x27), (5, .int x12), (4, .int x8), (3, .int x3), (0, .ref (ad 20)), (1, .int p1)]) hx hb d_MD_count_148 rfl hl (by decide) rfl (fun ls hl => ?_)
                        obtain ⟨x28, ex28⟩ : ∃ y : Int32, y = x8 + (1 : Int32) := ⟨_, rfl⟩
                        have hD := nm_at hD ex28
                        try dsimp only at hD
                        refine lv_iinc (v := x28) (lv' := [(4, .int x28), (2, .int x27), (5, .int x12), (3, .int x3), (0, .ref (ad 20)), (1, .int p1)]) hx hb d_MD_count_149 hl (k := 2) rfl (by rw [ex28]; rfl) (by decide) rfl (fun ls hl => ?_)
                        refine lv_goto (tgt := 15) hx hb d_MD_count_152 (by decide) ?_
                        exact ih x28 x27 _ _ _ _ hD hex wo (lv_sub hl [0, 3, 1, 4, 5] rfl)
                      · have hD := ite_n hD c26
                        refine lv_iconst (v := 1) hx hb d_MD_count_142 (by decide) ?_
                        refine lv_goto (tgt := 147) hx hb d_MD_count_143 (by decide) ?_
                        refine lv_iadd hx hb d_MD_count_147 ?_
                        refine lv_topi (fun x29 ex29 => ?_)
                        have hD := nm_at hD ex29
                        try dsimp only at hD
                        refine lv_istore_n (lv' := [(2, .int x29), (5, .int x12), (4, .int x8), (3, .int x3), (0, .ref (ad 20)), (1, .int p1)]) hx hb d_MD_count_148 rfl hl (by decide) rfl (fun ls hl => ?_)
                        obtain ⟨x30, ex30⟩ : ∃ y : Int32, y = x8 + (1 : Int32) := ⟨_, rfl⟩
                        have hD := nm_at hD ex30
                        try dsimp only at hD
                        refine lv_iinc (v := x30) (lv' := [(4, .int x30), (2, .int x29), (5, .int x12), (3, .int x3), (0, .ref (ad 20)), (1, .int p1)]) hx hb d_MD_count_149 hl (k := 2) rfl (by rw [ex30]; rfl) (by decide) rfl (fun ls hl => ?_)
                        refine lv_goto (tgt := 15) hx hb d_MD_count_152 (by decide) ?_
                        exact ih x30 x29 _ _ _ _ hD hex wo (lv_sub hl [0, 3, 1, 4, 5] rfl)
              obtain ⟨j31, hj31, hD⟩ := jn_s hD
              try dsimp only at hD
              have j31_ok : ∀ (x32 : Int32) (x33 : Int32) (H : Heap) (locs : List Loc) (ls : Array Slot), j31 x32 x33 = some res6 → Wo E (va_A (wl E ad n L σ) sz) s.heap (wl E ad n L σ) H locs → lv_has ls 6 [(5, .int x32), (4, .int x8), (3, .int x3), (2, .int x33), (0, .ref (ad 20)), (1, .int p1)] → W p l e ({ frames := 5, cells := 0, slots := 0, locals := 115 }) s m ([.ref (ad 20), .int p1] : List Value).toArray below meth c H locs 0 0 (MQ below (va_Qi (fun (x : Int32) (_ : Unit) => x = r) (fun _ t => va_P E.1 cls6 (wl E ad n L σ) t.heap ∧ va_D (va_A (wl E ad n L σ) sz) (wl E ad n L σ)) (va_A (wl E ad n L σ) sz)) ([.ref (ad 20), .int p1] : List Value).toArray s 0 0 (va_A (wl E ad n L σ) sz)) (F0 m 73 ls []) := by
                intro x32 x33 H locs ls hD wo hl
                rw [hj31] at hD
                try dsimp only at hD
                refine lv_iload_n hx hb d_MD_count_73 rfl (lv_at hl 5 rfl) ?_
                refine lv_iconst (v := 3) hx hb d_MD_count_74 (by decide) ?_
                refine lv_icmp_ne (tgt := 101) hx hb d_MD_count_75 (by decide) (fun c34 => ?_) (fun c34 => ?_)
                · have hD := ite_n hD c34
                  exact j11_ok x32 x33 _ _ _ hD wo (lv_sub hl [0, 1, 2, 3, 4, 5] rfl)
                · have hD := ite_p hD c34
                  refine lv_iload_n hx hb d_MD_count_78 rfl (lv_at hl 3 rfl) ?_
                  refine lv_iload hx hb d_MD_count_79 (lv_at hl 0 rfl) ?_
                  refine lv_if_ne (tgt := 98) hx hb d_MD_count_81 (by decide) (fun c35 => ?_) (fun c35 => ?_)
                  · have hD := ite_n hD c35
                    refine lv_iconst (v := 0) hx hb d_MD_count_98 (by decide) ?_
                    refine lv_iadd hx hb d_MD_count_99 ?_
                    refine lv_topi (fun x36 ex36 => ?_)
                    have hD := nm_at hD ex36
                    try dsimp only at hD
                    refine lv_istore_n (lv' := [(2, .int x36), (5, .int x32), (4, .int x8), (3, .int x3), (0, .ref (ad 20)), (1, .int p1)]) hx hb d_MD_count_100 rfl hl (by decide) rfl (fun ls hl => ?_)
                    exact j11_ok x32 x36 _ _ _ hD wo (lv_sub hl [1, 2, 3, 0, 4, 5] rfl)
                  · have hD := ite_p hD c35
                    refine lv_aload_n hx hb d_MD_count_84 rfl (lv_at hl 4 rfl) ?_
                    refine lv_iload_n hx hb d_MD_count_85 rfl (lv_at hl 2 rfl) ?_
                    refine lv_iload hx hb d_MD_count_86 (lv_at hl 1 rfl) ?_
                    obtain ⟨x37, hcx37, hD⟩ := bd_s hD
                    try dsimp only [nm2] at hD
                    refine call_Vi cx wo (k_MD_isSpoilt l E ad n L (fun a h => hL a ((by decide : ∀ a ∈ ([20, 21, 22, 23, 24, 25, 26] : List Nat), a ∈ ([20, 21, 22, 23, 24, 25, 26] : List Nat)) a h)) F σ  x3 x8 x37 hcx37) m20 (cel_20 E ad n σ) rfl rfl mw_MD_isSpoilt wm_MD_87 ⟨by decide, by decide⟩ ⟨by decide, by decide⟩ hl.1 rfl (Nat.le_of_ble_eq_true rfl) d_MD_count_88 (fun H locs wo => ?_)
                    refine lv_if_eq (tgt := 98) hx hb d_MD_count_91 (by decide) (fun c38 => ?_) (fun c38 => ?_)
                    · have hD := ite_p hD c38
                      refine lv_iconst (v := 0) hx hb d_MD_count_98 (by decide) ?_
                      refine lv_iadd hx hb d_MD_count_99 ?_
                      refine lv_topi (fun x39 ex39 => ?_)
                      have hD := nm_at hD ex39
                      try dsimp only at hD
                      refine lv_istore_n (lv' := [(2, .int x39), (5, .int x32), (4, .int x8), (3, .int x3), (0, .ref (ad 20)), (1, .int p1)]) hx hb d_MD_count_100 rfl hl (by decide) rfl (fun ls hl => ?_)
                      exact j11_ok x32 x39 _ _ _ hD wo (lv_sub hl [1, 2, 3, 0, 4, 5] rfl)
                    · have hD := ite_n hD c38
                      refine lv_iconst (v := 1) hx hb d_MD_count_94 (by decide) ?_
                      refine lv_goto (tgt := 99) hx hb d_MD_count_95 (by decide) ?_
                      refine lv_iadd hx hb d_MD_count_99 ?_
                      refine lv_topi (fun x40 ex40 => ?_)
                      have hD := nm_at hD ex40
                      try dsimp only at hD
                      refine lv_istore_n (lv' := [(2, .int x40), (5, .int x32), (4, .int x8), (3, .int x3), (0, .ref (ad 20)), (1, .int p1)]) hx hb d_MD_count_100 rfl hl (by decide) rfl (fun ls hl => ?_)
                      exact j11_ok x32 x40 _ _ _ hD wo (lv_sub hl [1, 2, 3, 0, 4, 5] rfl)
              obtain ⟨j41, hj41, hD⟩ := jn_s hD
              try dsimp only at hD
              have j41_ok : ∀ (x42 : Int32) (H : Heap) (locs : List Loc) (ls : Array Slot), j41 x42 = some res6 → Wo E (va_A (wl E ad n L σ) sz) s.heap (wl E ad n L σ) H locs → lv_has ls 6 [(4, .int x8), (3, .int x3), (2, .int x9), (0, .ref (ad 20)), (1, .int p1)] → W p l e ({ frames := 5, cells := 0, slots := 0, locals := 115 }) s m ([.ref (ad 20), .int p1] : List Value).toArray below meth c H locs 0 0 (MQ below (va_Qi (fun (x : Int32) (_ : Unit) => x = r) (fun _ t => va_P E.1 cls6 (wl E ad n L σ) t.heap ∧ va_D (va_A (wl E ad n L σ) sz) (wl E ad n L σ)) (va_A (wl E ad n L σ) sz)) ([.ref (ad 20), .int p1] : List Value).toArray s 0 0 (va_A (wl E ad n L σ) sz)) (F0 m 43 ls [.int x42]) := by
                intro x42 H locs ls hD wo hl
                rw [hj41] at hD
                try dsimp only at hD
                refine lv_istore (lv' := [(5, .int x42), (4, .int x8), (3, .int x3), (2, .int x9), (0, .ref (ad 20)), (1, .int p1)]) hx hb d_MD_count_43 hl (by decide) rfl (fun ls hl => ?_)
                refine lv_iload_n hx hb d_MD_count_45 rfl (lv_at hl 5 rfl) ?_
                refine lv_iconst (v := 2) hx hb d_MD_count_46 (by decide) ?_
                refine lv_icmp_ne (tgt := 73) hx hb d_MD_count_47 (by decide) (fun c43 => ?_) (fun c43 => ?_)
                · have hD := ite_n hD c43
                  exact j31_ok x42 x9 _ _ _ hD wo (lv_sub hl [0, 1, 2, 3, 4, 5] rfl)
                · have hD := ite_p hD c43
                  refine lv_iload_n hx hb d_MD_count_50 rfl (lv_at hl 3 rfl) ?_
                  refine lv_iload hx hb d_MD_count_51 (lv_at hl 0 rfl) ?_
                  refine lv_if_ne (tgt := 70) hx hb d_MD_count_53 (by decide) (fun c44 => ?_) (fun c44 => ?_)
                  · have hD := ite_n hD c44
                    refine lv_iconst (v := 0) hx hb d_MD_count_70 (by decide) ?_
                    refine lv_iadd hx hb d_MD_count_71 ?_
                    refine lv_topi (fun x45 ex45 => ?_)
                    have hD := nm_at hD ex45
                    try dsimp only at hD
                    refine lv_istore_n (lv' := [(2, .int x45), (5, .int x42), (4, .int x8), (3, .int x3), (0, .ref (ad 20)), (1, .int p1)]) hx hb d_MD_count_72 rfl hl (by decide) rfl (fun ls hl => ?_)
                    exact j31_ok x42 x45 _ _ _ hD wo (lv_sub hl [1, 2, 3, 0, 4, 5] rfl)
                  · have hD := ite_p hD c44
                    refine lv_aload_n hx hb d_MD_count_56 rfl (lv_at hl 4 rfl) ?_
                    refine lv_iload_n hx hb d_MD_count_57 rfl (lv_at hl 2 rfl) ?_
                    refine lv_iload hx hb d_MD_count_58 (lv_at hl 1 rfl) ?_
                    obtain ⟨x46, hcx46, hD⟩ := bd_s hD
                    try dsimp only [nm2] at hD
                    refine call_Vi cx wo (k_MD_placeOf l E ad n L (fun a h => hL a ((by decide : ∀ a ∈ ([20, 21, 22, 23, 24, 25, 26] : List Nat), a ∈ ([20, 21, 22, 23, 24, 25, 26] : List Nat)) a h)) F σ  x3 x8 x46 hcx46) m20 (cel_20 E ad n σ) rfl rfl mw_MD_placeOf wm_MD_84 ⟨by decide, by decide⟩ ⟨by decide, by decide⟩ hl.1 rfl (Nat.le_of_ble_eq_true rfl) d_MD_count_60 (fun H locs wo => ?_)
                    refine lv_if_ge (tgt := 70) hx hb d_MD_count_63 (by decide) (fun c47 => ?_) (fun c47 => ?_)
                    · have hD := ite_p hD c47
                      refine lv_iconst (v := 0) hx hb d_MD_count_70 (by decide) ?_
                      refine lv_iadd hx hb d_MD_count_71 ?_
                      refine lv_topi (fun x48 ex48 => ?_)
                      have hD := nm_at hD ex48
                      try dsimp only at hD
                      refine lv_istore_n (lv' := [(2, .int x48), (5, .int x42), (4, .int x8), (3, .int x3), (0, .ref (ad 20)), (1, .int p1)]) hx hb d_MD_count_72 rfl hl (by decide) rfl (fun ls hl => ?_)
                      exact j31_ok x42 x48 _ _ _ hD wo (lv_sub hl [1, 2, 3, 0, 4, 5] rfl)
                    · have hD := ite_n hD c47
                      refine lv_iconst (v := 1) hx hb d_MD_count_66 (by decide) ?_
                      refine lv_goto (tgt := 71) hx hb d_MD_count_67 (by decide) ?_
                      refine lv_iadd hx hb d_MD_count_71 ?_
                      refine lv_topi (fun x49 ex49 => ?_)
                      have hD := nm_at hD ex49
                      try dsimp only at hD
                      refine lv_istore_n (lv' := [(2, .int x49), (5, .int x42), (4, .int x8), (3, .int x3), (0, .ref (ad 20)), (1, .int p1)]) hx hb d_MD_count_72 rfl hl (by decide) rfl (fun ls hl => ?_)
                      exact j31_ok x42 x49 _ _ _ hD wo (lv_sub hl [1, 2, 3, 0, 4, 5] rfl)
              refine lv_icmp_lt (tgt := 42) hx hb d_MD_count_35 (by decide) (fun c50 => ?_) (fun c50 => ?_)
              · have hD := ite_p hD c50
                refine lv_iconst (v := 0) hx hb d_MD_count_42 (by decide) ?_
                exact j41_ok (0 : Int32) _ _ _ hD wo (lv_sub hl [0, 1, 2, 3, 4] rfl)
              · have hD := ite_n hD c50
                refine lv_iconst (v := 1) hx hb d_MD_count_38 (by decide) ?_
                refine lv_goto (tgt := 43) hx hb d_MD_count_39 (by decide) ?_
                exact j41_ok (1 : Int32) _ _ _ hD wo (lv_sub hl [0, 1, 2, 3, 4] rfl)
        obtain ⟨res53, hr54, hD⟩ := bd_s hD
        refine lp52 F (0 : Int32) x4 _ _ _ _ hr54 (fun x51 H locs ls hz wo hl => ?_) wo (lv_sub hl [0, 1, 2, 3, 4] rfl)
        have hz := hz.symm
        subst hz
        try dsimp only at hD
        obtain ⟨x55, ex55⟩ : ∃ y : Int32, y = x3 + (1 : Int32) := ⟨_, rfl⟩
        have hD := nm_at hD ex55
        try dsimp only at hD
        refine lv_iinc (v := x55) (lv' := [(3, .int x55), (2, .int x51), (0, .ref (ad 20)), (1, .int p1)]) hx hb d_MD_count_155 hl (k := 0) rfl (by rw [ex55]; rfl) (by decide) rfl (fun ls hl => ?_)
        refine lv_goto (tgt := 4) hx hb d_MD_count_158 (by decide) ?_
        exact ih x55 x51 _ _ _ _ hD hex wo (lv_sub hl [0, 1, 2, 3] rfl)
  obtain ⟨res58, hr59, hD⟩ := bd_s hD
  refine lp57 F (0 : Int32) (0 : Int32) _ _ _ _ hr59 (fun x56 H locs ls hz wo hl => ?_) wo (lv_sub hl [0, 1, 2, 3] rfl)
  have hz := hz.symm
  subst hz
  try dsimp only at hD
  refine lv_iload_n hx hb d_MD_count_161 rfl (lv_at hl 0 rfl) ?_
  cases hD
  exact t_ireti cx wo rfl rfl d_MD_count_162
def D_MD_look_L146 (F : Nat) (n : Nat → Nat) (σ4 : HS)  : Nat → Int32 → Int32 → Option (Int32)
  | 0, _, _ => none
  | k24 + 1, x25, x26 =>
      (if (σ4.1 20 1) ≤ x25 then
              some x26
            else
              grd (inb x25 (n 22)) (
              (if (σ4.1 22 (x25).toNatClampNeg) = 0 then
                nm (x26 + (0 : Int32)) (fun x30 =>
                nm (x25 + (1 : Int32)) (fun x31 =>
                D_MD_look_L146 F n σ4  k24 x31 x30))
              else
                nm (x26 + (1 : Int32)) (fun x32 =>
                nm (x25 + (1 : Int32)) (fun x33 =>
                D_MD_look_L146 F n σ4  k24 x33 x32)))))
def D_MD_look (F : Nat) (n : Nat → Nat) (σ : HS) (p1 : Int32) : Option (HS × Int32) :=
jn (fun (x2 : Int32) =>
    (D_MD_fails F n σ x2 (1 : Int32)).bind (fun (qx3 : HS × Int32) => nm2 qx3 (fun (σ4 : HS) (x3 : Int32) =>
    (if x3 = 0 then
      (if p1 = (0 : Int32) then
        (if (σ4.1 20 12) = 0 then
          some (σ4, (0 : Int32))
        else
          some (σ4, (1 : Int32)))
      else (if p1 = (1 : Int32) then
        some (σ4, (σ4.1 20 14))
      else (if p1 = (2 : Int32) then
        (D_MD_count F n σ4 p1).bind (fun (x10 : Int32) =>
        some (σ4, x10))
      else (if p1 = (3 : Int32) then
        (D_MD_count F n σ4 p1).bind (fun (x12 : Int32) =>
        some (σ4, x12))
      else (if p1 = (4 : Int32) then
        (D_MD_count F n σ4 p1).bind (fun (x14 : Int32) =>
        some (σ4, x14))
      else (if p1 = (5 : Int32) then
        (D_MD_blocks F n σ4 ).bind (fun (x16 : Int32) =>
        some (σ4, x16))
      else (if p1 = (6 : Int32) then
        some (σ4, (0 : Int32))
      else (if p1 = (7 : Int32) then
        some (σ4, ((σ4.1 20 3) * (σ4.1 20 4)))
      else (if p1 = (8 : Int32) then
        some (σ4, (σ4.1 20 15))
      else (if p1 = (9 : Int32) then
        some (σ4, (σ4.1 20 2))
      else (if p1 = (10 : Int32) then
        some (σ4, (σ4.1 20 1))
      else (if p1 = (11 : Int32) then
        (D_MD_look_L146 F n σ4  F (0 : Int32) (0 : Int32)).bind (fun (x34 : Int32) =>
        some (σ4, x34))
      else (if p1 = (12 : Int32) then
        some (σ4, (σ4.1 20 17))
      else (D_MD_count F n σ4 p1).bind (fun (x39 : Int32) =>
      some (σ4, x39)))))))))))))))
    else
      some (σ4, (0 : Int32))))))
  (fun j1 =>
  (if p1 < 0 then
    j1 (1 : Int32)
  else
    (if p1 ≤ (12 : Int32) then
      j1 (0 : Int32)
    else
      j1 (1 : Int32))))
set_option maxRecDepth 100000 in
set_option maxHeartbeats 4000000 in
theorem k_MD_look (l : Launch) (E : EV) (ad n : Nat → Nat) (L : List Nat) (hL : ∀ a ∈ ([20, 21, 22, 23, 24, 25, 26] : List Nat), a ∈ L) (F : Nat) (σ σo : HS) (p1 : Int32) (r : Int32) (hD : D_MD_look F n σ p1 = some (σo, r)) : CtI l E y_MD_look c_MD_look 4 (some FieldType.int) ({ frames := 6, cells := 0, slots := 0, locals := 140 }) [.ref (ad 20), .int p1] (wl E ad n L σ) r (wl E ad n L σo) := by
  refine fun sz => ent (by decide) (Nat.le_of_ble_eq_true rfl) ?_
  intro p e s m below meth c hsz cx wo ls hl
  have hx := cx.1.1
  have hb := cx.1.2.1
  have hown := cx.1.2.2.2.1
  have hts := cx.1.2.2.2.2
  have hl : lv_has ls 4 [(0, .ref (ad 20)), (1, .int p1)] := hl
  have m20 : 20 ∈ L := hL 20 (by decide)
  have m21 : 21 ∈ L := hL 21 (by decide)
  have m22 : 22 ∈ L := hL 22 (by decide)
  have m23 : 23 ∈ L := hL 23 (by decide)
  have m24 : 24 ∈ L := hL 24 (by decide)
  have m25 : 25 ∈ L := hL 25 (by decide)
  have m26 : 26 ∈ L := hL 26 (by decide)
  rw [D_MD_look] at hD
  refine lv_aload_n hx hb d_MD_look_0 rfl (lv_at hl 0 rfl) ?_
  refine lv_iload_n hx hb d_MD_look_1 rfl (lv_at hl 1 rfl) ?_
  obtain ⟨j1, hj1, hD⟩ := jn_s hD
  try dsimp only at hD
  have j1_ok : ∀ (x2 : Int32) (H : Heap) (locs : List Loc) (ls : Array Slot), j1 x2 = some (σo, r) → Wo E (va_A (wl E ad n L σ) sz) s.heap (wl E ad n L σ) H locs → lv_has ls 4 [(0, .ref (ad 20)), (1, .int p1)] → W p l e ({ frames := 6, cells := 0, slots := 0, locals := 140 }) s m ([.ref (ad 20), .int p1] : List Value).toArray below meth c H locs 0 0 (MQ below (va_Qi (fun (x : Int32) (_ : Unit) => x = r) (fun _ t => va_P E.1 cls6 (wl E ad n L σo) t.heap ∧ va_D (va_A (wl E ad n L σ) sz) (wl E ad n L σo)) (va_A (wl E ad n L σ) sz)) ([.ref (ad 20), .int p1] : List Value).toArray s 0 0 (va_A (wl E ad n L σ) sz)) (F0 m 16 ls [.int x2, .ref (ad 20)]) := by
    intro x2 H locs ls hD wo hl
    rw [hj1] at hD
    try dsimp only at hD
    refine lv_iconst (v := 1) hx hb d_MD_look_16 (by decide) ?_
    obtain ⟨⟨σ4, x3⟩, hcx3, hD⟩ := bd_s hD
    try dsimp only [nm2] at hD
    refine call_Vi cx wo (k_MD_fails l E ad n L (fun a h => hL a ((by decide : ∀ a ∈ ([20] : List Nat), a ∈ ([20, 21, 22, 23, 24, 25, 26] : List Nat)) a h)) F σ σ4 x2 (1 : Int32) x3 hcx3) m20 (cel_20 E ad n σ) rfl rfl mw_MD_fails wm_MD_100 ⟨by decide, by decide⟩ ⟨by decide, by decide⟩ hl.1 rfl (Nat.le_of_ble_eq_true rfl) d_MD_look_17 (fun H locs wo => ?_)
    refine lv_if_eq (tgt := 25) hx hb d_MD_look_20 (by decide) (fun c5 => ?_) (fun c5 => ?_)
    · have hD := ite_p hD c5
      refine lv_iload_n hx hb d_MD_look_25 rfl (lv_at hl 1 rfl) ?_
      by_cases c6 : p1 = (0 : Int32)
      · have hD := ite_p hD c6
        refine lv_tableIn (tgt := 92) hx hb d_MD_look_26 (by rw [c6]; decide) (by rw [c6]; decide) (off := 66) (by rw [c6]; decide) (by decide) ?_
        refine lv_aload_n hx hb d_MD_look_92 rfl (lv_at hl 0 rfl) ?_
        refine g_get cx wo m20 (cel_20 E ad n σ4) rfl in_MD 12 (by decide) wf_MD_31 rfl d_MD_look_93 ?_
        refine lv_if_eq (tgt := 103) hx hb d_MD_look_96 (by decide) (fun c7 => ?_) (fun c7 => ?_)
        · have hD := ite_p hD c7
          refine lv_iconst (v := 0) hx hb d_MD_look_103 (by decide) ?_
          cases hD
          exact t_ireti cx wo rfl rfl d_MD_look_104
        · have hD := ite_n hD c7
          refine lv_iconst (v := 1) hx hb d_MD_look_99 (by decide) ?_
          refine lv_goto (tgt := 104) hx hb d_MD_look_100 (by decide) ?_
          cases hD
          exact t_ireti cx wo rfl rfl d_MD_look_104
      have hD := ite_n hD c6
      by_cases c8 : p1 = (1 : Int32)
      · have hD := ite_p hD c8
        refine lv_tableIn (tgt := 105) hx hb d_MD_look_26 (by rw [c8]; decide) (by rw [c8]; decide) (off := 79) (by rw [c8]; decide) (by decide) ?_
        refine lv_aload_n hx hb d_MD_look_105 rfl (lv_at hl 0 rfl) ?_
        refine g_get cx wo m20 (cel_20 E ad n σ4) rfl in_MD 14 (by decide) wf_MD_97 rfl d_MD_look_106 ?_
        cases hD
        exact t_ireti cx wo rfl rfl d_MD_look_109
      have hD := ite_n hD c8
      by_cases c9 : p1 = (2 : Int32)
      · have hD := ite_p hD c9
        refine lv_tableIn (tgt := 184) hx hb d_MD_look_26 (by rw [c9]; decide) (by rw [c9]; decide) (off := 158) (by rw [c9]; decide) (by decide) ?_
        refine lv_aload_n hx hb d_MD_look_184 rfl (lv_at hl 0 rfl) ?_
        refine lv_iload_n hx hb d_MD_look_185 rfl (lv_at hl 1 rfl) ?_
        obtain ⟨x10, hcx10, hD⟩ := bd_s hD
        try dsimp only [nm2] at hD
        refine call_Vi cx wo (k_MD_count l E ad n L (fun a h => hL a ((by decide : ∀ a ∈ ([20, 21, 22, 23, 24, 25, 26] : List Nat), a ∈ ([20, 21, 22, 23, 24, 25, 26] : List Nat)) a h)) F σ4  p1 x10 hcx10) m20 (cel_20 E ad n σ4) rfl rfl mw_MD_count wm_MD_152 ⟨by decide, by decide⟩ ⟨by decide, by decide⟩ hl.1 rfl (Nat.le_of_ble_eq_true rfl) d_MD_look_186 (fun H locs wo => ?_)
        cases hD
        exact t_ireti cx wo rfl rfl d_MD_look_189
      have hD := ite_n hD c9
      by_cases c11 : p1 = (3 : Int32)
      · have hD := ite_p hD c11
        refine lv_tableIn (tgt := 184) hx hb d_MD_look_26 (by rw [c11]; decide) (by rw [c11]; decide) (off := 158) (by rw [c11]; decide) (by decide) ?_
        refine lv_aload_n hx hb d_MD_look_184 rfl (lv_at hl 0 rfl) ?_
        refine lv_iload_n hx hb d_MD_look_185 rfl (lv_at hl 1 rfl) ?_
        obtain ⟨x12, hcx12, hD⟩ := bd_s hD
        try dsimp only [nm2] at hD
        refine call_Vi cx wo (k_MD_count l E ad n L (fun a h => hL a ((by decide : ∀ a ∈ ([20, 21, 22, 23, 24, 25, 26] : List Nat), a ∈ ([20, 21, 22, 23, 24, 25, 26] : List Nat)) a h)) F σ4  p1 x12 hcx12) m20 (cel_20 E ad n σ4) rfl rfl mw_MD_count wm_MD_152 ⟨by decide, by decide⟩ ⟨by decide, by decide⟩ hl.1 rfl (Nat.le_of_ble_eq_true rfl) d_MD_look_186 (fun H locs wo => ?_)
        cases hD
        exact t_ireti cx wo rfl rfl d_MD_look_189
      have hD := ite_n hD c11
      by_cases c13 : p1 = (4 : Int32)
      · have hD := ite_p hD c13
        refine lv_tableIn (tgt := 184) hx hb d_MD_look_26 (by rw [c13]; decide) (by rw [c13]; decide) (off := 158) (by rw [c13]; decide) (by decide) ?_
        refine lv_aload_n hx hb d_MD_look_184 rfl (lv_at hl 0 rfl) ?_
        refine lv_iload_n hx hb d_MD_look_185 rfl (lv_at hl 1 rfl) ?_
        obtain ⟨x14, hcx14, hD⟩ := bd_s hD
        try dsimp only [nm2] at hD
        refine call_Vi cx wo (k_MD_count l E ad n L (fun a h => hL a ((by decide : ∀ a ∈ ([20, 21, 22, 23, 24, 25, 26] : List Nat), a ∈ ([20, 21, 22, 23, 24, 25, 26] : List Nat)) a h)) F σ4  p1 x14 hcx14) m20 (cel_20 E ad n σ4) rfl rfl mw_MD_count wm_MD_152 ⟨by decide, by decide⟩ ⟨by decide, by decide⟩ hl.1 rfl (Nat.le_of_ble_eq_true rfl) d_MD_look_186 (fun H locs wo => ?_)
        cases hD
        exact t_ireti cx wo rfl rfl d_MD_look_189
      have hD := ite_n hD c13
      by_cases c15 : p1 = (5 : Int32)
      · have hD := ite_p hD c15
        refine lv_tableIn (tgt := 110) hx hb d_MD_look_26 (by rw [c15]; decide) (by rw [c15]; decide) (off := 84) (by rw [c15]; decide) (by decide) ?_
        refine lv_aload_n hx hb d_MD_look_110 rfl (lv_at hl 0 rfl) ?_
        obtain ⟨x16, hcx16, hD⟩ := bd_s hD
        try dsimp only [nm2] at hD
        refine call_Vi cx wo (k_MD_blocks l E ad n L (fun a h => hL a ((by decide : ∀ a ∈ ([20] : List Nat), a ∈ ([20, 21, 22, 23, 24, 25, 26] : List Nat)) a h)) F σ4   x16 hcx16) m20 (cel_20 E ad n σ4) rfl rfl mw_MD_blocks wm_MD_109 ⟨by decide, by decide⟩ ⟨by decide, by decide⟩ hl.1 rfl (Nat.le_of_ble_eq_true rfl) d_MD_look_111 (fun H locs wo => ?_)
        cases hD
        exact t_ireti cx wo rfl rfl d_MD_look_114
      have hD := ite_n hD c15
      by_cases c17 : p1 = (6 : Int32)
      · have hD := ite_p hD c17
        refine lv_tableIn (tgt := 115) hx hb d_MD_look_26 (by rw [c17]; decide) (by rw [c17]; decide) (off := 89) (by rw [c17]; decide) (by decide) ?_
        refine lv_iconst (v := 0) hx hb d_MD_look_115 (by decide) ?_
        cases hD
        exact t_ireti cx wo rfl rfl d_MD_look_116
      have hD := ite_n hD c17
      by_cases c18 : p1 = (7 : Int32)
      · have hD := ite_p hD c18
        refine lv_tableIn (tgt := 117) hx hb d_MD_look_26 (by rw [c18]; decide) (by rw [c18]; decide) (off := 91) (by rw [c18]; decide) (by decide) ?_
        refine lv_aload_n hx hb d_MD_look_117 rfl (lv_at hl 0 rfl) ?_
        refine g_get cx wo m20 (cel_20 E ad n σ4) rfl in_MD 3 (by decide) wf_MD_58 rfl d_MD_look_118 ?_
        refine lv_aload_n hx hb d_MD_look_121 rfl (lv_at hl 0 rfl) ?_
        refine g_get cx wo m20 (cel_20 E ad n σ4) rfl in_MD 4 (by decide) wf_MD_61 rfl d_MD_look_122 ?_
        refine lv_imul hx hb d_MD_look_125 ?_
        cases hD
        exact t_ireti cx wo rfl rfl d_MD_look_126
      have hD := ite_n hD c18
      by_cases c19 : p1 = (8 : Int32)
      · have hD := ite_p hD c19
        refine lv_tableIn (tgt := 127) hx hb d_MD_look_26 (by rw [c19]; decide) (by rw [c19]; decide) (off := 101) (by rw [c19]; decide) (by decide) ?_
        refine lv_aload_n hx hb d_MD_look_127 rfl (lv_at hl 0 rfl) ?_
        refine g_get cx wo m20 (cel_20 E ad n σ4) rfl in_MD 15 (by decide) wf_MD_130 rfl d_MD_look_128 ?_
        cases hD
        exact t_ireti cx wo rfl rfl d_MD_look_131
      have hD := ite_n hD c19
      by_cases c20 : p1 = (9 : Int32)
      · have hD := ite_p hD c20
        refine lv_tableIn (tgt := 132) hx hb d_MD_look_26 (by rw [c20]; decide) (by rw [c20]; decide) (off := 106) (by rw [c20]; decide) (by decide) ?_
        refine lv_aload_n hx hb d_MD_look_132 rfl (lv_at hl 0 rfl) ?_
        refine g_get cx wo m20 (cel_20 E ad n σ4) rfl in_MD 2 (by decide) wf_MD_55 rfl d_MD_look_133 ?_
        cases hD
        exact t_ireti cx wo rfl rfl d_MD_look_136
      have hD := ite_n hD c20
      by_cases c21 : p1 = (10 : Int32)
      · have hD := ite_p hD c21
        refine lv_tableIn (tgt := 137) hx hb d_MD_look_26 (by rw [c21]; decide) (by rw [c21]; decide) (off := 111) (by rw [c21]; decide) (by decide) ?_
        refine lv_aload_n hx hb d_MD_look_137 rfl (lv_at hl 0 rfl) ?_
        refine g_get cx wo m20 (cel_20 E ad n σ4) rfl in_MD 1 (by decide) wf_MD_52 rfl d_MD_look_138 ?_
        cases hD
        exact t_ireti cx wo rfl rfl d_MD_look_141
      have hD := ite_n hD c21
      by_cases c22 : p1 = (11 : Int32)
      · have hD := ite_p hD c22
        refine lv_tableIn (tgt := 142) hx hb d_MD_look_26 (by rw [c22]; decide) (by rw [c22]; decide) (off := 116) (by rw [c22]; decide) (by decide) ?_
        refine lv_iconst (v := 0) hx hb d_MD_look_142 (by decide) ?_
        refine lv_istore_n (lv' := [(2, .int (0 : Int32)), (0, .ref (ad 20)), (1, .int p1)]) hx hb d_MD_look_143 rfl hl (by decide) rfl (fun ls hl => ?_)
        refine lv_iconst (v := 0) hx hb d_MD_look_144 (by decide) ?_
        refine lv_istore_n (lv' := [(3, .int (0 : Int32)), (2, .int (0 : Int32)), (0, .ref (ad 20)), (1, .int p1)]) hx hb d_MD_look_145 rfl hl (by decide) rfl (fun ls hl => ?_)
        have lp35 : ∀ (k24 : Nat) (x25 : Int32) (x26 : Int32) (H : Heap) (locs : List Loc) (ls : Array Slot) (res23 : Int32), D_MD_look_L146 F n σ4  k24 x25 x26 = some res23 → (∀ (x34 : Int32) (H : Heap) (locs : List Loc) (ls : Array Slot), res23 = x34 → Wo E (va_A (wl E ad n L σ) sz) s.heap (wl E ad n L σ4) H locs → lv_has ls 4 [(2, .int x34)] → W p l e ({ frames := 6, cells := 0, slots := 0, locals := 140 }) s m ([.ref (ad 20), .int p1] : List Value).toArray below meth c H locs 0 0 (MQ below (va_Qi (fun (x : Int32) (_ : Unit) => x = r) (fun _ t => va_P E.1 cls6 (wl E ad n L σo) t.heap ∧ va_D (va_A (wl E ad n L σ) sz) (wl E ad n L σo)) (va_A (wl E ad n L σ) sz)) ([.ref (ad 20), .int p1] : List Value).toArray s 0 0 (va_A (wl E ad n L σ) sz)) (F0 m 177 ls [])) → Wo E (va_A (wl E ad n L σ) sz) s.heap (wl E ad n L σ4) H locs → lv_has ls 4 [(3, .int x25), (2, .int x26), (0, .ref (ad 20))] → W p l e ({ frames := 6, cells := 0, slots := 0, locals := 140 }) s m ([.ref (ad 20), .int p1] : List Value).toArray below meth c H locs 0 0 (MQ below (va_Qi (fun (x : Int32) (_ : Unit) => x = r) (fun _ t => va_P E.1 cls6 (wl E ad n L σo) t.heap ∧ va_D (va_A (wl E ad n L σ) sz) (wl E ad n L σo)) (va_A (wl E ad n L σ) sz)) ([.ref (ad 20), .int p1] : List Value).toArray s 0 0 (va_A (wl E ad n L σ) sz)) (F0 m 146 ls []) := by
          intro k24
          induction k24 with
          | zero =>
            intro x25 x26 H locs ls res23 hD
            rw [D_MD_look_L146.eq_1] at hD
            cases hD
          | succ k24 ih =>
            intro x25 x26 H locs ls res23 hD hex wo hl
            rw [D_MD_look_L146.eq_2] at hD
            refine lv_iload_n hx hb d_MD_look_146 rfl (lv_at hl 0 rfl) ?_
            refine lv_aload_n hx hb d_MD_look_147 rfl (lv_at hl 2 rfl) ?_
            refine g_get cx wo m20 (cel_20 E ad n σ4) rfl in_MD 1 (by decide) wf_MD_52 rfl d_MD_look_148 ?_
            refine lv_icmp_ge (tgt := 177) hx hb d_MD_look_151 (by decide) (fun c27 => ?_) (fun c27 => ?_)
            · have hD := ite_p hD c27
              exact hex x26 _ _ _ (Option.some.inj hD).symm wo (lv_sub hl [1] rfl)
            · have hD := ite_n hD c27
              refine lv_iload_n hx hb d_MD_look_154 rfl (lv_at hl 1 rfl) ?_
              refine lv_aload_n hx hb d_MD_look_155 rfl (lv_at hl 2 rfl) ?_
              refine g_get cx wo m20 (cel_20 E ad n σ4) rfl in_MD 7 (by decide) wf_MD_13 rfl d_MD_look_156 ?_
              refine lv_iload_n hx hb d_MD_look_159 rfl (lv_at hl 0 rfl) ?_
              obtain ⟨g28, hD⟩ := grd_s hD
              refine g_zald cx wo m22 (cel_22 E ad n σ4) g28 d_MD_look_160 ?_
              refine lv_if_eq (tgt := 168) hx hb d_MD_look_161 (by decide) (fun c29 => ?_) (fun c29 => ?_)
              · have hD := ite_p hD c29
                refine lv_iconst (v := 0) hx hb d_MD_look_168 (by decide) ?_
                refine lv_iadd hx hb d_MD_look_169 ?_
                refine lv_topi (fun x30 ex30 => ?_)
                have hD := nm_at hD ex30
                try dsimp only at hD
                refine lv_istore_n (lv' := [(2, .int x30), (3, .int x25), (0, .ref (ad 20))]) hx hb d_MD_look_170 rfl hl (by decide) rfl (fun ls hl => ?_)
                obtain ⟨x31, ex31⟩ : ∃ y : Int32, y = x25 + (1 : Int32) := ⟨_, rfl⟩
                have hD := nm_at hD ex31
                try dsimp only at hD
                refine lv_iinc (v := x31) (lv' := [(3, .int x31), (2, .int x30), (0, .ref (ad 20))]) hx hb d_MD_look_171 hl (k := 1) rfl (by rw [ex31]; rfl) (by decide) rfl (fun ls hl => ?_)
                refine lv_goto (tgt := 146) hx hb d_MD_look_174 (by decide) ?_
                exact ih x31 x30 _ _ _ _ hD hex wo (lv_sub hl [0, 1, 2] rfl)
              · have hD := ite_n hD c29
                refine lv_iconst (v := 1) hx hb d_MD_look_164 (by decide) ?_
                refine lv_goto (tgt := 169) hx hb d_MD_look_165 (by decide) ?_
                refine lv_iadd hx hb d_MD_look_169 ?_
                refine lv_topi (fun x32 ex32 => ?_)
                have hD := nm_at hD ex32
                try dsimp only at hD
                refine lv_istore_n (lv' := [(2, .int x32), (3, .int x25), (0, .ref (ad 20))]) hx hb d_MD_look_170 rfl hl (by decide) rfl (fun ls hl => ?_)
                obtain ⟨x33, ex33⟩ : ∃ y : Int32, y = x25 + (1 : Int32) := ⟨_, rfl⟩
                have hD := nm_at hD ex33
                try dsimp only at hD
                refine lv_iinc (v := x33) (lv' := [(3, .int x33), (2, .int x32), (0, .ref (ad 20))]) hx hb d_MD_look_171 hl (k := 1) rfl (by rw [ex33]; rfl) (by decide) rfl (fun ls hl => ?_)
                refine lv_goto (tgt := 146) hx hb d_MD_look_174 (by decide) ?_
                exact ih x33 x32 _ _ _ _ hD hex wo (lv_sub hl [0, 1, 2] rfl)
        obtain ⟨res36, hr37, hD⟩ := bd_s hD
        refine lp35 F (0 : Int32) (0 : Int32) _ _ _ _ hr37 (fun x34 H locs ls hz wo hl => ?_) wo (lv_sub hl [0, 1, 2] rfl)
        have hz := hz.symm
        subst hz
        try dsimp only at hD
        refine lv_iload_n hx hb d_MD_look_177 rfl (lv_at hl 0 rfl) ?_
        cases hD
        exact t_ireti cx wo rfl rfl d_MD_look_178
      have hD := ite_n hD c22
      by_cases c38 : p1 = (12 : Int32)
      · have hD := ite_p hD c38
        refine lv_tableIn (tgt := 179) hx hb d_MD_look_26 (by rw [c38]; decide) (by rw [c38]; decide) (off := 153) (by rw [c38]; decide) (by decide) ?_
        refine lv_aload_n hx hb d_MD_look_179 rfl (lv_at hl 0 rfl) ?_
        refine g_get cx wo m20 (cel_20 E ad n σ4) rfl in_MD 17 (by decide) wf_MD_104 rfl d_MD_look_180 ?_
        cases hD
        exact t_ireti cx wo rfl rfl d_MD_look_183
      have hD := ite_n hD c38
      have c6 := lv_neT (a := 0) c6 (by decide)
      have c8 := lv_neT (a := 1) c8 (by decide)
      have c9 := lv_neT (a := 2) c9 (by decide)
      have c11 := lv_neT (a := 3) c11 (by decide)
      have c13 := lv_neT (a := 4) c13 (by decide)
      have c15 := lv_neT (a := 5) c15 (by decide)
      have c17 := lv_neT (a := 6) c17 (by decide)
      have c18 := lv_neT (a := 7) c18 (by decide)
      have c19 := lv_neT (a := 8) c19 (by decide)
      have c20 := lv_neT (a := 9) c20 (by decide)
      have c21 := lv_neT (a := 10) c21 (by decide)
      have c22 := lv_neT (a := 11) c22 (by decide)
      have c38 := lv_neT (a := 12) c38 (by decide)
      refine lv_tableOut (tgt := 184) hx hb d_MD_look_26 (by omega) (by decide) ?_
      refine lv_aload_n hx hb d_MD_look_184 rfl (lv_at hl 0 rfl) ?_
      refine lv_iload_n hx hb d_MD_look_185 rfl (lv_at hl 1 rfl) ?_
      obtain ⟨x39, hcx39, hD⟩ := bd_s hD
      try dsimp only [nm2] at hD
      refine call_Vi cx wo (k_MD_count l E ad n L (fun a h => hL a ((by decide : ∀ a ∈ ([20, 21, 22, 23, 24, 25, 26] : List Nat), a ∈ ([20, 21, 22, 23, 24, 25, 26] : List Nat)) a h)) F σ4  p1 x39 hcx39) m20 (cel_20 E ad n σ4) rfl rfl mw_MD_count wm_MD_152 ⟨by decide, by decide⟩ ⟨by decide, by decide⟩ hl.1 rfl (Nat.le_of_ble_eq_true rfl) d_MD_look_186 (fun H locs wo => ?_)
      cases hD
      exact t_ireti cx wo rfl rfl d_MD_look_189
    · have hD := ite_n hD c5
      refine lv_iconst (v := 0) hx hb d_MD_look_23 (by decide) ?_
      cases hD
      exact t_ireti cx wo rfl rfl d_MD_look_24
  refine lv_if_lt (tgt := 11) hx hb d_MD_look_2 (by decide) (fun c40 => ?_) (fun c40 => ?_)
  · have hD := ite_p hD c40
    refine lv_iconst (v := 1) hx hb d_MD_look_11 (by decide) ?_
    refine lv_goto (tgt := 16) hx hb d_MD_look_12 (by decide) ?_
    exact j1_ok (1 : Int32) _ _ _ hD wo (lv_sub hl [0, 1] rfl)
  · have hD := ite_n hD c40
    refine lv_iload_n hx hb d_MD_look_5 rfl (lv_at hl 1 rfl) ?_
    refine lv_bipush (v := 12) hx hb d_MD_look_6 (by decide) ?_
    refine lv_icmp_le (tgt := 15) hx hb d_MD_look_8 (by decide) (fun c41 => ?_) (fun c41 => ?_)
    · have hD := ite_p hD c41
      refine lv_iconst (v := 0) hx hb d_MD_look_15 (by decide) ?_
      exact j1_ok (0 : Int32) _ _ _ hD wo (lv_sub hl [0, 1] rfl)
    · have hD := ite_n hD c41
      refine lv_iconst (v := 1) hx hb d_MD_look_11 (by decide) ?_
      refine lv_goto (tgt := 16) hx hb d_MD_look_12 (by decide) ?_
      exact j1_ok (1 : Int32) _ _ _ hD wo (lv_sub hl [0, 1] rfl)
def D_MD_place (F : Nat) (n : Nat → Nat) (σ : HS) (p1 : Int32) (p2 : Int32) : Option (HS × Int32) :=
jn (fun (x2 : Int32) =>
    (D_MD_fails F n σ x2 (1 : Int32)).bind (fun (qx3 : HS × Int32) => nm2 qx3 (fun (σ4 : HS) (x3 : Int32) =>
    (if x3 = 0 then
      (D_MD_placeOf F n σ4 p1 p2).bind (fun (x6 : Int32) =>
      some (σ4, x6))
    else
      some (σ4, (0 : Int32))))))
  (fun j1 =>
  (if p1 < 0 then
    j1 (1 : Int32)
  else
    (if (σ.1 20 3) ≤ p1 then
      j1 (1 : Int32)
    else
      (if p2 < 0 then
        j1 (1 : Int32)
      else
        (if p2 < ((σ.1 20 2) * (σ.1 20 4)) then
          j1 (0 : Int32)
        else
          j1 (1 : Int32))))))
set_option maxRecDepth 100000 in
set_option maxHeartbeats 4000000 in
theorem k_MD_place (l : Launch) (E : EV) (ad n : Nat → Nat) (L : List Nat) (hL : ∀ a ∈ ([20, 21, 22, 23, 24, 25, 26] : List Nat), a ∈ L) (F : Nat) (σ σo : HS) (p1 : Int32) (p2 : Int32) (r : Int32) (hD : D_MD_place F n σ p1 p2 = some (σo, r)) : CtI l E y_MD_place c_MD_place 3 (some FieldType.int) ({ frames := 4, cells := 0, slots := 0, locals := 92 }) [.ref (ad 20), .int p1, .int p2] (wl E ad n L σ) r (wl E ad n L σo) := by
  refine fun sz => ent (by decide) (Nat.le_of_ble_eq_true rfl) ?_
  intro p e s m below meth c hsz cx wo ls hl
  have hx := cx.1.1
  have hb := cx.1.2.1
  have hown := cx.1.2.2.2.1
  have hts := cx.1.2.2.2.2
  have hl : lv_has ls 3 [(0, .ref (ad 20)), (1, .int p1), (2, .int p2)] := hl
  have m20 : 20 ∈ L := hL 20 (by decide)
  have m21 : 21 ∈ L := hL 21 (by decide)
  have m22 : 22 ∈ L := hL 22 (by decide)
  have m23 : 23 ∈ L := hL 23 (by decide)
  have m24 : 24 ∈ L := hL 24 (by decide)
  have m25 : 25 ∈ L := hL 25 (by decide)
  have m26 : 26 ∈ L := hL 26 (by decide)
  rw [D_MD_place] at hD
  refine lv_aload_n hx hb d_MD_place_0 rfl (lv_at hl 0 rfl) ?_
  refine lv_iload_n hx hb d_MD_place_1 rfl (lv_at hl 1 rfl) ?_
  obtain ⟨j1, hj1, hD⟩ := jn_s hD
  try dsimp only at hD
  have j1_ok : ∀ (x2 : Int32) (H : Heap) (locs : List Loc) (ls : Array Slot), j1 x2 = some (σo, r) → Wo E (va_A (wl E ad n L σ) sz) s.heap (wl E ad n L σ) H locs → lv_has ls 3 [(0, .ref (ad 20)), (1, .int p1), (2, .int p2)] → W p l e ({ frames := 4, cells := 0, slots := 0, locals := 92 }) s m ([.ref (ad 20), .int p1, .int p2] : List Value).toArray below meth c H locs 0 0 (MQ below (va_Qi (fun (x : Int32) (_ : Unit) => x = r) (fun _ t => va_P E.1 cls6 (wl E ad n L σo) t.heap ∧ va_D (va_A (wl E ad n L σ) sz) (wl E ad n L σo)) (va_A (wl E ad n L σ) sz)) ([.ref (ad 20), .int p1, .int p2] : List Value).toArray s 0 0 (va_A (wl E ad n L σ) sz)) (F0 m 35 ls [.int x2, .ref (ad 20)]) := by
    intro x2 H locs ls hD wo hl
    rw [hj1] at hD
    try dsimp only at hD
    refine lv_iconst (v := 1) hx hb d_MD_place_35 (by decide) ?_
    obtain ⟨⟨σ4, x3⟩, hcx3, hD⟩ := bd_s hD
    try dsimp only [nm2] at hD
    refine call_Vi cx wo (k_MD_fails l E ad n L (fun a h => hL a ((by decide : ∀ a ∈ ([20] : List Nat), a ∈ ([20, 21, 22, 23, 24, 25, 26] : List Nat)) a h)) F σ σ4 x2 (1 : Int32) x3 hcx3) m20 (cel_20 E ad n σ) rfl rfl mw_MD_fails wm_MD_100 ⟨by decide, by decide⟩ ⟨by decide, by decide⟩ hl.1 rfl (Nat.le_of_ble_eq_true rfl) d_MD_place_36 (fun H locs wo => ?_)
    refine lv_if_eq (tgt := 44) hx hb d_MD_place_39 (by decide) (fun c5 => ?_) (fun c5 => ?_)
    · have hD := ite_p hD c5
      refine lv_aload_n hx hb d_MD_place_44 rfl (lv_at hl 0 rfl) ?_
      refine lv_iload_n hx hb d_MD_place_45 rfl (lv_at hl 1 rfl) ?_
      refine lv_iload_n hx hb d_MD_place_46 rfl (lv_at hl 2 rfl) ?_
      obtain ⟨x6, hcx6, hD⟩ := bd_s hD
      try dsimp only [nm2] at hD
      refine call_Vi cx wo (k_MD_placeOf l E ad n L (fun a h => hL a ((by decide : ∀ a ∈ ([20, 21, 22, 23, 24, 25, 26] : List Nat), a ∈ ([20, 21, 22, 23, 24, 25, 26] : List Nat)) a h)) F σ4  p1 p2 x6 hcx6) m20 (cel_20 E ad n σ4) rfl rfl mw_MD_placeOf wm_MD_84 ⟨by decide, by decide⟩ ⟨by decide, by decide⟩ hl.1 rfl (Nat.le_of_ble_eq_true rfl) d_MD_place_47 (fun H locs wo => ?_)
      cases hD
      exact t_ireti cx wo rfl rfl d_MD_place_50
    · have hD := ite_n hD c5
      refine lv_iconst (v := 0) hx hb d_MD_place_42 (by decide) ?_
      cases hD
      exact t_ireti cx wo rfl rfl d_MD_place_43
  refine lv_if_lt (tgt := 30) hx hb d_MD_place_2 (by decide) (fun c7 => ?_) (fun c7 => ?_)
  · have hD := ite_p hD c7
    refine lv_iconst (v := 1) hx hb d_MD_place_30 (by decide) ?_
    refine lv_goto (tgt := 35) hx hb d_MD_place_31 (by decide) ?_
    exact j1_ok (1 : Int32) _ _ _ hD wo (lv_sub hl [0, 1, 2] rfl)
  · have hD := ite_n hD c7
    refine lv_iload_n hx hb d_MD_place_5 rfl (lv_at hl 1 rfl) ?_
    refine lv_aload_n hx hb d_MD_place_6 rfl (lv_at hl 0 rfl) ?_
    refine g_get cx wo m20 (cel_20 E ad n σ) rfl in_MD 3 (by decide) wf_MD_58 rfl d_MD_place_7 ?_
    refine lv_icmp_ge (tgt := 30) hx hb d_MD_place_10 (by decide) (fun c8 => ?_) (fun c8 => ?_)
    · have hD := ite_p hD c8
      refine lv_iconst (v := 1) hx hb d_MD_place_30 (by decide) ?_
      refine lv_goto (tgt := 35) hx hb d_MD_place_31 (by decide) ?_
      exact j1_ok (1 : Int32) _ _ _ hD wo (lv_sub hl [0, 1, 2] rfl)
    · have hD := ite_n hD c8
      refine lv_iload_n hx hb d_MD_place_13 rfl (lv_at hl 2 rfl) ?_
      refine lv_if_lt (tgt := 30) hx hb d_MD_place_14 (by decide) (fun c9 => ?_) (fun c9 => ?_)
      · have hD := ite_p hD c9
        refine lv_iconst (v := 1) hx hb d_MD_place_30 (by decide) ?_
        refine lv_goto (tgt := 35) hx hb d_MD_place_31 (by decide) ?_
        exact j1_ok (1 : Int32) _ _ _ hD wo (lv_sub hl [0, 1, 2] rfl)
      · have hD := ite_n hD c9
        refine lv_iload_n hx hb d_MD_place_17 rfl (lv_at hl 2 rfl) ?_
        refine lv_aload_n hx hb d_MD_place_18 rfl (lv_at hl 0 rfl) ?_
        refine g_get cx wo m20 (cel_20 E ad n σ) rfl in_MD 2 (by decide) wf_MD_55 rfl d_MD_place_19 ?_
        refine lv_aload_n hx hb d_MD_place_22 rfl (lv_at hl 0 rfl) ?_
        refine g_get cx wo m20 (cel_20 E ad n σ) rfl in_MD 4 (by decide) wf_MD_61 rfl d_MD_place_23 ?_
        refine lv_imul hx hb d_MD_place_26 ?_
        refine lv_icmp_lt (tgt := 34) hx hb d_MD_place_27 (by decide) (fun c10 => ?_) (fun c10 => ?_)
        · have hD := ite_p hD c10
          refine lv_iconst (v := 0) hx hb d_MD_place_34 (by decide) ?_
          exact j1_ok (0 : Int32) _ _ _ hD wo (lv_sub hl [0, 1, 2] rfl)
        · have hD := ite_n hD c10
          refine lv_iconst (v := 1) hx hb d_MD_place_30 (by decide) ?_
          refine lv_goto (tgt := 35) hx hb d_MD_place_31 (by decide) ?_
          exact j1_ok (1 : Int32) _ _ _ hD wo (lv_sub hl [0, 1, 2] rfl)
