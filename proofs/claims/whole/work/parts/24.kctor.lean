def D_LA_haveNoDivisorInCommon_L2 (F : Nat) (n : Nat → Nat) (p0 : Int32) (p1 : Int32) : Nat → Int32 → Option ((Unit) ⊕ (Int32))
  | 0, _ => none
  | k2 + 1, x3 =>
      (if p0 < x3 then
        some (Sum.inl ())
      else
        grd (decide (¬ x3 = 0)) (
        (if (p0 - p0 / x3 * x3) = 0 then
          grd (decide (¬ x3 = 0)) (
          (if (p1 - p1 / x3 * x3) = 0 then
            some (Sum.inr (0 : Int32))
          else
            nm (x3 + (1 : Int32)) (fun x10 =>
            D_LA_haveNoDivisorInCommon_L2 F n p0 p1 k2 x10)))
        else
          nm (x3 + (1 : Int32)) (fun x7 =>
          D_LA_haveNoDivisorInCommon_L2 F n p0 p1 k2 x7))))
def D_LA_haveNoDivisorInCommon (F : Nat) (n : Nat → Nat) (σ : HS) (p0 : Int32) (p1 : Int32) : Option (Int32) :=
(D_LA_haveNoDivisorInCommon_L2 F n p0 p1 F (2 : Int32)).bind (fun q14 => match q14 with
    | Sum.inl _ =>
      some (1 : Int32)
    | Sum.inr z => some z)
set_option maxRecDepth 100000 in
set_option maxHeartbeats 4000000 in
theorem k_LA_haveNoDivisorInCommon (l : Launch) (E : EV) (ad n : Nat → Nat) (L : List Nat) (hL : ∀ a ∈ ([] : List Nat), a ∈ L) (F : Nat) (σ  : HS) (p0 : Int32) (p1 : Int32) (r : Int32) (hD : D_LA_haveNoDivisorInCommon F n σ p0 p1 = some r) : CtI l E y_LA_haveNoDivisorInCommon c_LA_haveNoDivisorInCommon 3 (some FieldType.boolean) ({ frames := 0, cells := 0, slots := 0, locals := 0 }) [.int p0, .int p1] (wl E ad n L σ) r (wl E ad n L σ) := by
  refine fun sz => ent (by decide) (Nat.le_of_ble_eq_true rfl) ?_
  intro p e s m below meth c hsz cx wo ls hl
  have hx := cx.1.1
  have hb := cx.1.2.1
  have hown := cx.1.2.2.2.1
  have hts := cx.1.2.2.2.2
  have hl : lv_has ls 3 [(0, .int p0), (1, .int p1)] := hl
  rw [D_LA_haveNoDivisorInCommon] at hD
  refine lv_iconst (v := 2) hx hb d_LA_haveNoDivisorInCommon_0 (by decide) ?_
  refine lv_istore_n (lv' := [(2, .int (2 : Int32)), (0, .int p0), (1, .int p1)]) hx hb d_LA_haveNoDivisorInCommon_1 rfl hl (by decide) rfl (fun ls hl => ?_)
  have lp11 : ∀ (k2 : Nat) (x3 : Int32) (H : Heap) (locs : List Loc) (ls : Array Slot) (res1 : (Unit) ⊕ (Int32)), D_LA_haveNoDivisorInCommon_L2 F n p0 p1 k2 x3 = some res1 → (∀ z, res1 = Sum.inr z → r = z) → (∀  (H : Heap) (locs : List Loc) (ls : Array Slot), res1 = Sum.inl () → Wo E (va_A (wl E ad n L σ) sz) s.heap (wl E ad n L σ) H locs → lv_has ls 3 [] → W p l e ({ frames := 0, cells := 0, slots := 0, locals := 0 }) s m ([.int p0, .int p1] : List Value).toArray below meth c H locs 0 0 (MQ below (va_Qi (fun (x : Int32) (_ : Unit) => x = r) (fun _ t => va_P E.1 cls6 (wl E ad n L σ) t.heap ∧ va_D (va_A (wl E ad n L σ) sz) (wl E ad n L σ)) (va_A (wl E ad n L σ) sz)) ([.int p0, .int p1] : List Value).toArray s 0 0 (va_A (wl E ad n L σ) sz)) (F0 m 27 ls [])) → Wo E (va_A (wl E ad n L σ) sz) s.heap (wl E ad n L σ) H locs → lv_has ls 3 [(2, .int x3), (0, .int p0), (1, .int p1)] → W p l e ({ frames := 0, cells := 0, slots := 0, locals := 0 }) s m ([.int p0, .int p1] : List Value).toArray below meth c H locs 0 0 (MQ below (va_Qi (fun (x : Int32) (_ : Unit) => x = r) (fun _ t => va_P E.1 cls6 (wl E ad n L σ) t.heap ∧ va_D (va_A (wl E ad n L σ) sz) (wl E ad n L σ)) (va_A (wl E ad n L σ) sz)) ([.int p0, .int p1] : List Value).toArray s 0 0 (va_A (wl E ad n L σ) sz)) (F0 m 2 ls []) := by
    intro k2
    induction k2 with
    | zero =>
      intro x3 H locs ls res1 hD
      rw [D_LA_haveNoDivisorInCommon_L2.eq_1] at hD
      cases hD
    | succ k2 ih =>
      intro x3 H locs ls res1 hD hret hex wo hl
      rw [D_LA_haveNoDivisorInCommon_L2.eq_2] at hD
      refine lv_iload_n hx hb d_LA_haveNoDivisorInCommon_2 rfl (lv_at hl 0 rfl) ?_
      refine lv_iload_n hx hb d_LA_haveNoDivisorInCommon_3 rfl (lv_at hl 1 rfl) ?_
      refine lv_icmp_gt (tgt := 27) hx hb d_LA_haveNoDivisorInCommon_4 (by decide) (fun c4 => ?_) (fun c4 => ?_)
      · have hD := ite_p hD c4
        exact hex  _ _ _ (Option.some.inj hD).symm wo (lv_sub hl [] rfl)
      · have hD := ite_n hD c4
        refine lv_iload_n hx hb d_LA_haveNoDivisorInCommon_7 rfl (lv_at hl 1 rfl) ?_
        refine lv_iload_n hx hb d_LA_haveNoDivisorInCommon_8 rfl (lv_at hl 0 rfl) ?_
        obtain ⟨g5, hD⟩ := grd_s hD
        refine lv_irem hx hb d_LA_haveNoDivisorInCommon_9 (of_decide_eq_true g5) ?_
        refine lv_if_ne (tgt := 21) hx hb d_LA_haveNoDivisorInCommon_10 (by decide) (fun c6 => ?_) (fun c6 => ?_)
        · have hD := ite_n hD c6
          obtain ⟨x7, ex7⟩ : ∃ y : Int32, y = x3 + (1 : Int32) := ⟨_, rfl⟩
          have hD := nm_at hD ex7
          try dsimp only at hD
          refine lv_iinc (v := x7) (lv' := [(2, .int x7), (0, .int p0), (1, .int p1)]) hx hb d_LA_haveNoDivisorInCommon_21 hl (k := 0) rfl (by rw [ex7]; rfl) (by decide) rfl (fun ls hl => ?_)
          refine lv_goto (tgt := 2) hx hb d_LA_haveNoDivisorInCommon_24 (by decide) ?_
          exact ih x7 _ _ _ _ hD hret hex wo (lv_sub hl [0, 1, 2] rfl)
        · have hD := ite_p hD c6
          refine lv_iload_n hx hb d_LA_haveNoDivisorInCommon_13 rfl (lv_at hl 2 rfl) ?_
          refine lv_iload_n hx hb d_LA_haveNoDivisorInCommon_14 rfl (lv_at hl 0 rfl) ?_
          obtain ⟨g8, hD⟩ := grd_s hD
          refine lv_irem hx hb d_LA_haveNoDivisorInCommon_15 (of_decide_eq_true g8) ?_
          refine lv_if_ne (tgt := 21) hx hb d_LA_haveNoDivisorInCommon_16 (by decide) (fun c9 => ?_) (fun c9 => ?_)
          · have hD := ite_n hD c9
            obtain ⟨x10, ex10⟩ : ∃ y : Int32, y = x3 + (1 : Int32) := ⟨_, rfl⟩
            have hD := nm_at hD ex10
            try dsimp only at hD
            refine lv_iinc (v := x10) (lv' := [(2, .int x10), (0, .int p0), (1, .int p1)]) hx hb d_LA_haveNoDivisorInCommon_21 hl (k := 0) rfl (by rw [ex10]; rfl) (by decide) rfl (fun ls hl => ?_)
            refine lv_goto (tgt := 2) hx hb d_LA_haveNoDivisorInCommon_24 (by decide) ?_
            exact ih x10 _ _ _ _ hD hret hex wo (lv_sub hl [0, 1, 2] rfl)
          · have hD := ite_p hD c9
            refine lv_iconst (v := 0) hx hb d_LA_haveNoDivisorInCommon_19 (by decide) ?_
            have hz := hret _ (Option.some.inj hD).symm
            cases hz
            exact t_ireti cx wo rfl rfl d_LA_haveNoDivisorInCommon_20
  obtain ⟨res12, hr13, hD⟩ := bd_s hD
  refine lp11 F (2 : Int32) _ _ _ _ hr13 (fun z hz => by subst hz; exact (Option.some.inj hD).symm) (fun  H locs ls hz wo hl => ?_) wo (lv_sub hl [0, 1, 2] rfl)
  subst hz
  try dsimp only at hD
  refine lv_iconst (v := 1) hx hb d_LA_haveNoDivisorInCommon_27 (by decide) ?_
  cases hD
  exact t_ireti cx wo rfl rfl d_LA_haveNoDivisorInCommon_28
def D_RK_store_17_L15 (F : Nat) (n : Nat → Nat) (x2 : Int32) : Nat → HS → Int32 → Option (HS)
  | 0, _, _ => none
  | k5 + 1, σ3, x6 =>
      (if (8 : Int32) ≤ x6 then
          some σ3
        else
          grd (inb x6 (n 17)) (
          grd (inb (x2 + x6) (n 11)) (
          nm (stL σ3 11 ((x2 + x6)).toNatClampNeg (σ3.2 17 (x6).toNatClampNeg)) (fun σ10 =>
          grd (inb (x2 + x6) (n 12)) (
          nm (stL σ10 12 ((x2 + x6)).toNatClampNeg (0 : Int64)) (fun σ12 =>
          nm (x6 + (1 : Int32)) (fun x13 =>
          D_RK_store_17_L15 F n x2 k5 σ12 x13)))))))
def D_RK_store_17 (F : Nat) (n : Nat → Nat) (σ : HS) (p1 : Int32) (p3 : Int32) : Option (HS) :=
(if p1 = (-1 : Int32) then
    some σ
  else
    nm (p1 * (9 : Int32)) (fun x2 =>
    (D_RK_store_17_L15 F n x2 F σ (0 : Int32)).bind (fun (σ14 : HS) =>
    nm (x2 + (8 : Int32)) (fun x18 =>
      grd (inb x18 (n 12)) (
      nm (stL σ14 12 (x18).toNatClampNeg (0 : Int64)) (fun σ20 =>
      grd (inb x18 (n 11)) (
      nm (stL σ20 11 (x18).toNatClampNeg (p3).toInt64) (fun σ22 =>
      grd (inb x18 (n 11)) (
      (D_RK_checkOf F n σ22 p1).bind (fun (x24 : Int32) =>
      grd (inb x18 (n 11)) (
      nm (stL σ22 11 (x18).toNatClampNeg ((σ22.2 11 (x18).toNatClampNeg) ||| (((x24).toInt64 &&& (4294967295 : Int64)) <<< (((16 : Int32)).toInt64 &&& 63)))) (fun σ26 =>
      grd (inb p1 (n 13)) (
      nm (stI σ26 13 (p1).toNatClampNeg (vp_nar .boolean (1 : Int32))) (fun σ28 =>
      grd (inb p1 (n 14)) (
      nm (stI σ28 14 (p1).toNatClampNeg (vp_nar .boolean (1 : Int32))) (fun σ30 =>
      some σ30))))))))))))))))
set_option maxRecDepth 100000 in
set_option maxHeartbeats 4000000 in
theorem k_RK_store_17 (l : Launch) (E : EV) (ad n : Nat → Nat) (L : List Nat) (hL : ∀ a ∈ ([2, 11, 12, 13, 14, 17] : List Nat), a ∈ L) (F : Nat) (σ σo : HS) (p1 : Int32) (p3 : Int32)  (hD : D_RK_store_17 F n σ p1 p3 = some σo) : CtV l E y_RK_store c_RK_store 6 none ({ frames := 1, cells := 0, slots := 0, locals := 24 }) [.ref (ad 2), .int p1, .ref (ad 17), .int p3] (wl E ad n L σ) (wl E ad n L σo) := by
  refine fun sz => ent (by decide) (Nat.le_of_ble_eq_true rfl) ?_
  intro p e s m below meth c hsz cx wo ls hl
  have hx := cx.1.1
  have hb := cx.1.2.1
  have hown := cx.1.2.2.2.1
  have hts := cx.1.2.2.2.2
  have hl : lv_has ls 6 [(0, .ref (ad 2)), (1, .int p1), (2, .ref (ad 17)), (3, .int p3)] := hl
  have m2 : 2 ∈ L := hL 2 (by decide)
  have m11 : 11 ∈ L := hL 11 (by decide)
  have m12 : 12 ∈ L := hL 12 (by decide)
  have m13 : 13 ∈ L := hL 13 (by decide)
  have m14 : 14 ∈ L := hL 14 (by decide)
  have m17 : 17 ∈ L := hL 17 (by decide)
  rw [D_RK_store_17] at hD
  refine lv_iload_n hx hb d_RK_store_0 rfl (lv_at hl 1 rfl) ?_
  refine lv_iconst (v := -1) hx hb d_RK_store_1 (by decide) ?_
  refine lv_icmp_ne (tgt := 6) hx hb d_RK_store_2 (by decide) (fun c1 => ?_) (fun c1 => ?_)
  · have hD := ite_n hD c1
    refine lv_iload_n hx hb d_RK_store_6 rfl (lv_at hl 1 rfl) ?_
    refine lv_bipush (v := 9) hx hb d_RK_store_7 (by decide) ?_
    refine lv_imul hx hb d_RK_store_9 ?_
    refine lv_topi (fun x2 ex2 => ?_)
    have hD := nm_at hD ex2
    try dsimp only at hD
    refine lv_istore (lv' := [(4, .int x2), (0, .ref (ad 2)), (1, .int p1), (2, .ref (ad 17)), (3, .int p3)]) hx hb d_RK_store_10 hl (by decide) rfl (fun ls hl => ?_)
    refine lv_iconst (v := 0) hx hb d_RK_store_12 (by decide) ?_
    refine lv_istore (lv' := [(5, .int (0 : Int32)), (4, .int x2), (0, .ref (ad 2)), (1, .int p1), (2, .ref (ad 17)), (3, .int p3)]) hx hb d_RK_store_13 hl (by decide) rfl (fun ls hl => ?_)
    have lp15 : ∀ (k5 : Nat) (σ3 : HS) (x6 : Int32) (H : Heap) (locs : List Loc) (ls : Array Slot) (res4 : HS), D_RK_store_17_L15 F n x2 k5 σ3 x6 = some res4 → (∀ (σ14 : HS) (H : Heap) (locs : List Loc) (ls : Array Slot), res4 = σ14 → Wo E (va_A (wl E ad n L σ) sz) s.heap (wl E ad n L σ14) H locs → lv_has ls 6 [(4, .int x2), (0, .ref (ad 2)), (1, .int p1), (3, .int p3)] → W p l e ({ frames := 1, cells := 0, slots := 0, locals := 24 }) s m ([.ref (ad 2), .int p1, .ref (ad 17), .int p3] : List Value).toArray below meth c H locs 0 0 (MQ below (va_Qv (fun (_ : Unit) => True) (fun _ t => va_P E.1 cls6 (wl E ad n L σo) t.heap ∧ va_D (va_A (wl E ad n L σ) sz) (wl E ad n L σo)) (va_A (wl E ad n L σ) sz)) ([.ref (ad 2), .int p1, .ref (ad 17), .int p3] : List Value).toArray s 0 0 (va_A (wl E ad n L σ) sz)) (F0 m 53 ls [])) → Wo E (va_A (wl E ad n L σ) sz) s.heap (wl E ad n L σ3) H locs → lv_has ls 6 [(5, .int x6), (4, .int x2), (0, .ref (ad 2)), (1, .int p1), (2, .ref (ad 17)), (3, .int p3)] → W p l e ({ frames := 1, cells := 0, slots := 0, locals := 24 }) s m ([.ref (ad 2), .int p1, .ref (ad 17), .int p3] : List Value).toArray below meth c H locs 0 0 (MQ below (va_Qv (fun (_ : Unit) => True) (fun _ t => va_P E.1 cls6 (wl E ad n L σo) t.heap ∧ va_D (va_A (wl E ad n L σ) sz) (wl E ad n L σo)) (va_A (wl E ad n L σ) sz)) ([.ref (ad 2), .int p1, .ref (ad 17), .int p3] : List Value).toArray s 0 0 (va_A (wl E ad n L σ) sz)) (F0 m 15 ls []) := by
      intro k5
      induction k5 with
      | zero =>
        intro σ3 x6 H locs ls res4 hD
        rw [D_RK_store_17_L15.eq_1] at hD
        cases hD
      | succ k5 ih =>
        intro σ3 x6 H locs ls res4 hD hex wo hl
        rw [D_RK_store_17_L15.eq_2] at hD
        refine lv_iload hx hb d_RK_store_15 (lv_at hl 0 rfl) ?_
        refine lv_bipush (v := 8) hx hb d_RK_store_17 (by decide) ?_
        refine lv_icmp_ge (tgt := 53) hx hb d_RK_store_19 (by decide) (fun c7 => ?_) (fun c7 => ?_)
        · have hD := ite_p hD c7
          exact hex σ3 _ _ _ (Option.some.inj hD).symm wo (lv_sub hl [1, 2, 3, 5] rfl)
        · have hD := ite_n hD c7
          refine lv_aload_n hx hb d_RK_store_22 rfl (lv_at hl 2 rfl) ?_
          refine g_get cx wo m2 (cel_2 E ad n σ3) rfl in_RK 2 (by decide) wf_RK_28 rfl d_RK_store_23 ?_
          refine lv_iload hx hb d_RK_store_26 (lv_at hl 1 rfl) ?_
          refine lv_iload hx hb d_RK_store_28 (lv_at hl 0 rfl) ?_
          refine lv_iadd hx hb d_RK_store_30 ?_
          refine lv_aload_n hx hb d_RK_store_31 rfl (lv_at hl 4 rfl) ?_
          refine lv_iload hx hb d_RK_store_32 (lv_at hl 0 rfl) ?_
          obtain ⟨g8, hD⟩ := grd_s hD
          refine g_lald cx wo m17 (cel_17 E ad n σ3) g8 d_RK_store_34 ?_
          obtain ⟨g9, hD⟩ := grd_s hD
          refine g_last cx wo m11 (cel_11 E ad n) g9 d_RK_store_35 (fun H locs wo => ?_)
          obtain ⟨σ10, eσ10⟩ : ∃ z, z = stL σ3 11 ((x2 + x6)).toNatClampNeg (σ3.2 17 (x6).toNatClampNeg) := ⟨_, rfl⟩
          rw [← eσ10] at wo
          have hD := nm_at hD eσ10
          try dsimp only at hD
          refine lv_aload_n hx hb d_RK_store_36 rfl (lv_at hl 2 rfl) ?_
          refine g_get cx wo m2 (cel_2 E ad n σ10) rfl in_RK 3 (by decide) wf_RK_32 rfl d_RK_store_37 ?_
          refine lv_iload hx hb d_RK_store_40 (lv_at hl 1 rfl) ?_
          refine lv_iload hx hb d_RK_store_42 (lv_at hl 0 rfl) ?_
          refine lv_iadd hx hb d_RK_store_44 ?_
          refine lv_lconst (v := 0) hx hb d_RK_store_45 (by decide) ?_
          obtain ⟨g11, hD⟩ := grd_s hD
          refine g_last cx wo m12 (cel_12 E ad n) g11 d_RK_store_46 (fun H locs wo => ?_)
          obtain ⟨σ12, eσ12⟩ : ∃ z, z = stL σ10 12 ((x2 + x6)).toNatClampNeg (0 : Int64) := ⟨_, rfl⟩
          rw [← eσ12] at wo
          have hD := nm_at hD eσ12
          try dsimp only at hD
          obtain ⟨x13, ex13⟩ : ∃ y : Int32, y = x6 + (1 : Int32) := ⟨_, rfl⟩
          have hD := nm_at hD ex13
          try dsimp only at hD
          refine lv_iinc (v := x13) (lv' := [(5, .int x13), (4, .int x2), (0, .ref (ad 2)), (1, .int p1), (2, .ref (ad 17)), (3, .int p3)]) hx hb d_RK_store_47 hl (k := 0) rfl (by rw [ex13]; rfl) (by decide) rfl (fun ls hl => ?_)
          refine lv_goto (tgt := 15) hx hb d_RK_store_50 (by decide) ?_
          exact ih σ12 x13 _ _ _ _ hD hex wo (lv_sub hl [0, 1, 2, 3, 4, 5] rfl)
    obtain ⟨res16, hr17, hD⟩ := bd_s hD
    refine lp15 F σ (0 : Int32) _ _ _ _ hr17 (fun σ14 H locs ls hz wo hl => ?_) wo (lv_sub hl [0, 1, 2, 3, 4, 5] rfl)
    have hz := hz.symm
    subst hz
    try dsimp only at hD
    refine lv_iload hx hb d_RK_store_53 (lv_at hl 0 rfl) ?_
    refine lv_bipush (v := 8) hx hb d_RK_store_55 (by decide) ?_
    refine lv_iadd hx hb d_RK_store_57 ?_
    refine lv_topi (fun x18 ex18 => ?_)
    have hD := nm_at hD ex18
    try dsimp only at hD
    refine lv_istore (lv' := [(5, .int x18), (4, .int x2), (0, .ref (ad 2)), (1, .int p1), (3, .int p3)]) hx hb d_RK_store_58 hl (by decide) rfl (fun ls hl => ?_)
    refine lv_aload_n hx hb d_RK_store_60 rfl (lv_at hl 2 rfl) ?_
    refine g_get cx wo m2 (cel_2 E ad n σ14) rfl in_RK 3 (by decide) wf_RK_32 rfl d_RK_store_61 ?_
    refine lv_iload hx hb d_RK_store_64 (lv_at hl 0 rfl) ?_
    refine lv_lconst (v := 0) hx hb d_RK_store_66 (by decide) ?_
    obtain ⟨g19, hD⟩ := grd_s hD
    refine g_last cx wo m12 (cel_12 E ad n) g19 d_RK_store_67 (fun H locs wo => ?_)
    obtain ⟨σ20, eσ20⟩ : ∃ z, z = stL σ14 12 (x18).toNatClampNeg (0 : Int64) := ⟨_, rfl⟩
    rw [← eσ20] at wo
    have hD := nm_at hD eσ20
    try dsimp only at hD
    refine lv_aload_n hx hb d_RK_store_68 rfl (lv_at hl 2 rfl) ?_
    refine g_get cx wo m2 (cel_2 E ad n σ20) rfl in_RK 2 (by decide) wf_RK_28 rfl d_RK_store_69 ?_
    refine lv_iload hx hb d_RK_store_72 (lv_at hl 0 rfl) ?_
    refine lv_iload_n hx hb d_RK_store_74 rfl (lv_at hl 4 rfl) ?_
    refine lv_i2l hx hb d_RK_store_75 rfl ?_
    obtain ⟨g21, hD⟩ := grd_s hD
    refine g_last cx wo m11 (cel_11 E ad n) g21 d_RK_store_76 (fun H locs wo => ?_)
    obtain ⟨σ22, eσ22⟩ : ∃ z, z = stL σ20 11 (x18).toNatClampNeg (p3).toInt64 := ⟨_, rfl⟩
    rw [← eσ22] at wo
    have hD := nm_at hD eσ22
    try dsimp only at hD
    refine lv_aload_n hx hb d_RK_store_77 rfl (lv_at hl 2 rfl) ?_
    refine g_get cx wo m2 (cel_2 E ad n σ22) rfl in_RK 2 (by decide) wf_RK_28 rfl d_RK_store_78 ?_
    refine lv_iload hx hb d_RK_store_81 (lv_at hl 0 rfl) ?_
    refine lv_dup2_11 hx hb d_RK_store_83 rfl rfl ?_
    obtain ⟨g23, hD⟩ := grd_s hD
    refine g_lald cx wo m11 (cel_11 E ad n σ22) g23 d_RK_store_84 ?_
    refine lv_aload_n hx hb d_RK_store_85 rfl (lv_at hl 2 rfl) ?_
    refine lv_iload_n hx hb d_RK_store_86 rfl (lv_at hl 3 rfl) ?_
    obtain ⟨x24, hcx24, hD⟩ := bd_s hD
    try dsimp only [nm2] at hD
    refine call_Vi cx wo (k_RK_checkOf l E ad n L (fun a h => hL a ((by decide : ∀ a ∈ ([2, 11] : List Nat), a ∈ ([2, 11, 12, 13, 14, 17] : List Nat)) a h)) F σ22  p1 x24 hcx24) m2 (cel_2 E ad n σ22) rfl rfl mw_RK_checkOf wm_RK_76 ⟨by decide, by decide⟩ ⟨by decide, by decide⟩ hl.1 rfl (Nat.le_of_ble_eq_true rfl) d_RK_store_87 (fun H locs wo => ?_)
    refine lv_i2l hx hb d_RK_store_90 rfl ?_
    refine lv_ldc2 hx hb hown (hts _ wj_RK_79) d_RK_store_91 ?_
    refine lv_land hx hb d_RK_store_94 ?_
    refine lv_bipush (v := 16) hx hb d_RK_store_95 (by decide) ?_
    refine lv_lshl hx hb d_RK_store_97 rfl ?_
    refine lv_lor hx hb d_RK_store_98 ?_
    obtain ⟨g25, hD⟩ := grd_s hD
    refine g_last cx wo m11 (cel_11 E ad n) g25 d_RK_store_99 (fun H locs wo => ?_)
    obtain ⟨σ26, eσ26⟩ : ∃ z, z = stL σ22 11 (x18).toNatClampNeg ((σ22.2 11 (x18).toNatClampNeg) ||| (((x24).toInt64 &&& (4294967295 : Int64)) <<< (((16 : Int32)).toInt64 &&& 63))) := ⟨_, rfl⟩
    rw [← eσ26] at wo
    have hD := nm_at hD eσ26
    try dsimp only at hD
    refine lv_aload_n hx hb d_RK_store_100 rfl (lv_at hl 2 rfl) ?_
    refine g_get cx wo m2 (cel_2 E ad n σ26) rfl in_RK 4 (by decide) wf_RK_35 rfl d_RK_store_101 ?_
    refine lv_iload_n hx hb d_RK_store_104 rfl (lv_at hl 3 rfl) ?_
    refine lv_iconst (v := 1) hx hb d_RK_store_105 (by decide) ?_
    obtain ⟨g27, hD⟩ := grd_s hD
    refine g_zast cx wo m13 (cel_13 E ad n) g27 d_RK_store_106 (fun H locs wo => ?_)
    obtain ⟨σ28, eσ28⟩ : ∃ z, z = stI σ26 13 (p1).toNatClampNeg (vp_nar .boolean (1 : Int32)) := ⟨_, rfl⟩
    rw [← eσ28] at wo
    have hD := nm_at hD eσ28
    try dsimp only at hD
    refine lv_aload_n hx hb d_RK_store_107 rfl (lv_at hl 2 rfl) ?_
    refine g_get cx wo m2 (cel_2 E ad n σ28) rfl in_RK 5 (by decide) wf_RK_38 rfl d_RK_store_108 ?_
    refine lv_iload_n hx hb d_RK_store_111 rfl (lv_at hl 3 rfl) ?_
    refine lv_iconst (v := 1) hx hb d_RK_store_112 (by decide) ?_
    obtain ⟨g29, hD⟩ := grd_s hD
    refine g_zast cx wo m14 (cel_14 E ad n) g29 d_RK_store_113 (fun H locs wo => ?_)
    obtain ⟨σ30, eσ30⟩ : ∃ z, z = stI σ28 14 (p1).toNatClampNeg (vp_nar .boolean (1 : Int32)) := ⟨_, rfl⟩
    rw [← eσ30] at wo
    have hD := nm_at hD eσ30
    try dsimp only at hD
    cases hD
    exact t_vret cx wo d_RK_store_114
  · have hD := ite_p hD c1
    cases hD
    exact t_vret cx wo d_RK_store_5
def D_AR_copyOf (F : Nat) (n : Nat → Nat) (σ : HS) (p1 : Int32) : Option ((Nat → Nat) × HS) :=
(if p1 = (nI (n 18)) then
    none
  else
    grd (okN p1 16) (
    nm (setA n 19 (p1).toNatClampNeg) (fun n =>
    nm (zC σ 19) (fun σ3 =>
    nm (if p1 < (nI (n 18)) then p1 else (nI (n 18))) (fun x4 =>
    grd (cpok (0 : Int32) (0 : Int32) x4 (n 18) (n 19)) (
    nm (cpI σ3 18 ((0 : Int32)).toNatClampNeg 19 ((0 : Int32)).toNatClampNeg (x4).toNatClampNeg) (fun σ6 =>
    some (n, σ6))))))))
set_option maxRecDepth 100000 in
set_option maxHeartbeats 8000000 in
theorem k_AR_copyOf (l : Launch) (E : EV) (ad n : Nat → Nat) (F : Nat) (σ : HS) (p1 : Int32) (no : Nat → Nat) (σo : HS) (hD : D_AR_copyOf F n σ p1 = some (no, σo)) : CtNr l E y_AR_copyOf c_AR_copyOf 3 (some (FieldType.array FieldType.int)) ({ frames := 1, cells := 1, slots := 16, locals := 48 }) [.ref (ad 18), .int p1] (wl E ad n [18] σ) 19 (fun u => (∀ b ∈ ([18] : List Nat), u b = ad b) ∧ True) (fun u => wl E u no [18, 19] σo) := by
  refine fun sz => ent (by decide) (Nat.le_of_ble_eq_true rfl) ?_
  intro p e s m below meth c hsz cx wo ls hl
  have hx := cx.1.1
  have hb := cx.1.2.1
  have hown := cx.1.2.2.2.1
  have hts := cx.1.2.2.2.2
  obtain ⟨A0, hA0⟩ : ∃ z, z = va_A (wl E ad n [18] σ) sz := ⟨_, rfl⟩
  rw [← hA0] at wo
  refine W_gen (fun QQ hQQ => ?_)
  obtain ⟨aa, haa⟩ : ∃ z, z = ([.ref (ad 18), .int p1] : List Value).toArray := ⟨_, rfl⟩
  rw [← haa] at cx hQQ hts ⊢
  obtain ⟨q18, o18⟩ : ∃ z, ad 18 = z := ⟨_, rfl⟩
  have a18 := o18
  have hl : lv_has ls 3 [(0, .ref q18), (1, .int p1)] := by rw [← o18]; exact hl
  rw [D_AR_copyOf] at hD
  refine lv_iload_n hx hb d_AR_copyOf_0 rfl (lv_at hl 1 rfl) ?_
  refine lv_aload_n hx hb d_AR_copyOf_1 rfl (lv_at hl 0 rfl) ?_
  refine g_alenQ cx wo a18 (by decide) 0 (cel_18 E ad n σ) rfl rfl d_AR_copyOf_2 ?_
  refine lv_icmp_ne (tgt := 14) hx hb d_AR_copyOf_3 (by decide) (fun c1 => ?_) (fun c1 => ?_)
  · have hD := ite_n hD c1
    refine lv_iload_n hx hb d_AR_copyOf_14 rfl (lv_at hl 1 rfl) ?_
    obtain ⟨g2, hD⟩ := grd_s hD
    obtain ⟨g2a, g2b⟩ := of_decide_eq_true g2
    refine c_newa cx wo .int .int rfl wa_int rfl 0 rfl (a0 := ((p1).toNatClampNeg, .inl (fun _ => 0))) (fun _ => rfl) g2a rfl g2b (by decide) (by decide) (by decide) (by decide) d_AR_copyOf_15 (fun q19 H wo => ?_)
    obtain ⟨n, en⟩ : ∃ z, z = setA n 19 (p1).toNatClampNeg := ⟨_, rfl⟩
    have hD := nm_at hD en
    try dsimp only at hD
    obtain ⟨σ3, eσ3⟩ : ∃ z, z = zC σ 19 := ⟨_, rfl⟩
    have hD := nm_at hD eσ3
    try dsimp only at hD
    obtain ⟨ad, ead⟩ : ∃ z, z = setA ad 19 q19 := ⟨_, rfl⟩
    rw [wl_grow (L := [18]) (ad1 := ad) (n1 := n) (σ1 := σ3) (a := 19) (by decide) (by rw [ead]; exact setA_s _ _ _) (fun b hb => by rw [ead]; exact setA_n _ _ hb) (fun b hb => by rw [en]; exact setA_n _ _ hb) (fun b hb => by rw [eσ3]; exact zC_1 b hb) (fun b hb => by rw [eσ3]; exact zC_2 b hb) (by rw [cel_19, en, eσ3, setA_s]; rfl)] at wo
    try dsimp only [List.append, List.cons_append, List.nil_append] at wo
    have a18 : ad 18 = q18 := by rw [ead]; exact (setA_n _ _ (by decide)).trans a18
    have a19 : ad 19 = q19 := by rw [ead]; exact setA_s _ _ _
    refine lv_astore_n (lv' := [(2, .ref q19), (0, .ref q18), (1, .int p1)]) hx hb d_AR_copyOf_17 rfl hl (by decide) rfl (fun ls hl => ?_)
    refine lv_aload_n hx hb d_AR_copyOf_18 rfl (lv_at hl 1 rfl) ?_
    refine lv_iconst (v := 0) hx hb d_AR_copyOf_19 (by decide) ?_
    refine lv_aload_n hx hb d_AR_copyOf_20 rfl (lv_at hl 0 rfl) ?_
    refine lv_iconst (v := 0) hx hb d_AR_copyOf_21 (by decide) ?_
    refine lv_aload_n hx hb d_AR_copyOf_22 rfl (lv_at hl 1 rfl) ?_
    refine g_alenQ cx wo a18 (by decide) 0 (cel_18 E ad n σ3) rfl rfl d_AR_copyOf_23 ?_
    refine lv_iload_n hx hb d_AR_copyOf_24 rfl (lv_at hl 2 rfl) ?_
    refine va_mmin hx hb (cx.1.2.2.1.trans hl.1.symm) hown (hts _ wm_AR_304) (hts _ ws_MA_min) (hts _ wn_MA) (hts _ wo_MA_min) (by decide) (Nat.le_of_ble_eq_true rfl) (by decide) (by decide) d_AR_copyOf_25 ?_
    refine lv_topi (fun x4 ex4 => ?_)
    have hD := nm_at hD ex4
    try dsimp only at hD
    obtain ⟨g5, hD⟩ := grd_s hD
    refine g_cpI cx wo a18 a19 (by decide) (by decide) (cel_18 E ad n) (cel_19 E ad n) g5 wm_AR_150 hl.1 (by decide) (Nat.le_of_ble_eq_true rfl) d_AR_copyOf_28 (fun H locs wo => ?_)
    obtain ⟨σ6, eσ6⟩ : ∃ z, z = cpI σ3 18 ((0 : Int32)).toNatClampNeg 19 ((0 : Int32)).toNatClampNeg (x4).toNatClampNeg := ⟨_, rfl⟩
    rw [← eσ6] at wo
    have hD := nm_at hD eσ6
    try dsimp only at hD
    refine lv_aload_n hx hb d_AR_copyOf_31 rfl (lv_at hl 0 rfl) ?_
    cases hD
    rw [hA0] at wo
    rw [hQQ]
    exact tN_r ad cx wo ⟨(by intro b hb; simp only [List.mem_cons, List.not_mem_nil, or_false] at hb; rcases hb with rfl <;> first | exact a18.trans o18.symm), trivial⟩ a19 d_AR_copyOf_32
  · have hD := ite_p hD c1
    cases hD
def D_LA_stepsOf_L8 (F : Nat) (n : Nat → Nat) (p0 : Int32) : Nat → HS → Int32 → Int32 → Option (HS × Int32)
  | 0, _, _, _ => none
  | k5 + 1, σ3, x6, x7 =>
      (if p0 ≤ x6 then
        some (σ3, x7)
      else
        (D_LA_haveNoDivisorInCommon F n σ3 x6 p0).bind (fun (x9 : Int32) =>
        (if x9 = 0 then
          nm (x6 + (1 : Int32)) (fun x11 =>
          D_LA_stepsOf_L8 F n p0 k5 σ3 x11 x7)
        else
          grd (inb x7 (n 18)) (
          nm (stI σ3 18 (x7).toNatClampNeg x6) (fun σ13 =>
          nm (x7 + (1 : Int32)) (fun x14 =>
          nm (x6 + (1 : Int32)) (fun x15 =>
          D_LA_stepsOf_L8 F n p0 k5 σ13 x15 x14)))))))
def D_LA_stepsOf (F : Nat) (n : Nat → Nat) (σ : HS) (p0 : Int32) : Option ((Nat → Nat) × HS) :=
grd (okN p0 16) (
  nm (setA n 18 (p0).toNatClampNeg) (fun n =>
  nm (zC σ 18) (fun σ2 =>
  (D_LA_stepsOf_L8 F n p0 F σ2 (1 : Int32) (0 : Int32)).bind (fun q24 => match q24 with
    | (σ16, x17) =>
    (D_AR_copyOf F n σ16 x17).bind (fun (qkc21 : (Nat → Nat) × HS) => nm2 qkc21 (fun (n : Nat → Nat) (σ23 : HS) =>
    some (n, σ23)))))))
set_option maxRecDepth 100000 in
set_option maxHeartbeats 8000000 in
theorem k_LA_stepsOf (l : Launch) (E : EV) (ad n : Nat → Nat) (F : Nat) (σ : HS) (p0 : Int32) (no : Nat → Nat) (σo : HS) (hD : D_LA_stepsOf F n σ p0 = some (no, σo)) : CtNr l E y_LA_stepsOf c_LA_stepsOf 4 (some (FieldType.array FieldType.int)) ({ frames := 2, cells := 2, slots := 32, locals := 70 }) [.int p0] (wl E ad n [] σ) 19 (fun u => (∀ b ∈ ([] : List Nat), u b = ad b) ∧ True) (fun u => wl E u no [18, 19] σo) := by
  refine fun sz => ent (by decide) (Nat.le_of_ble_eq_true rfl) ?_
  intro p e s m below meth c hsz cx wo ls hl
  have hx := cx.1.1
  have hb := cx.1.2.1
  have hown := cx.1.2.2.2.1
  have hts := cx.1.2.2.2.2
  obtain ⟨A0, hA0⟩ : ∃ z, z = va_A (wl E ad n [] σ) sz := ⟨_, rfl⟩
  rw [← hA0] at wo
  refine W_gen (fun QQ hQQ => ?_)
  obtain ⟨aa, haa⟩ : ∃ z, z = ([.int p0] : List Value).toArray := ⟨_, rfl⟩
  rw [← haa] at cx hQQ hts ⊢
  have hl : lv_has ls 4 [(0, .int p0)] := hl
  rw [D_LA_stepsOf] at hD
  refine lv_iload_n hx hb d_LA_stepsOf_0 rfl (lv_at hl 0 rfl) ?_
  obtain ⟨g1, hD⟩ := grd_s hD
  obtain ⟨g1a, g1b⟩ := of_decide_eq_true g1
  refine c_newa cx wo .int .int rfl wa_int rfl 0 rfl (a0 := ((p0).toNatClampNeg, .inl (fun _ => 0))) (fun _ => rfl) g1a rfl g1b (by decide) (by decide) (by decide) (by decide) d_LA_stepsOf_1 (fun q18 H wo => ?_)
  obtain ⟨n, en⟩ : ∃ z, z = setA n 18 (p0).toNatClampNeg := ⟨_, rfl⟩
  have hD := nm_at hD en
  try dsimp only at hD
  obtain ⟨σ2, eσ2⟩ : ∃ z, z = zC σ 18 := ⟨_, rfl⟩
  have hD := nm_at hD eσ2
  try dsimp only at hD
  obtain ⟨ad, ead⟩ : ∃ z, z = setA ad 18 q18 := ⟨_, rfl⟩
  rw [wl_grow (L := []) (ad1 := ad) (n1 := n) (σ1 := σ2) (a := 18) (by decide) (by rw [ead]; exact setA_s _ _ _) (fun b hb => by rw [ead]; exact setA_n _ _ hb) (fun b hb => by rw [en]; exact setA_n _ _ hb) (fun b hb => by rw [eσ2]; exact zC_1 b hb) (fun b hb => by rw [eσ2]; exact zC_2 b hb) (by rw [cel_18, en, eσ2, setA_s]; rfl)] at wo
  try dsimp only [List.append, List.cons_append, List.nil_append] at wo
  have a18 : ad 18 = q18 := by rw [ead]; exact setA_s _ _ _
  refine lv_astore_n (lv' := [(1, .ref q18), (0, .int p0)]) hx hb d_LA_stepsOf_3 rfl hl (by decide) rfl (fun ls hl => ?_)
  refine lv_iconst (v := 0) hx hb d_LA_stepsOf_4 (by decide) ?_
  refine lv_istore_n (lv' := [(2, .int (0 : Int32)), (1, .ref q18), (0, .int p0)]) hx hb d_LA_stepsOf_5 rfl hl (by decide) rfl (fun ls hl => ?_)
  refine lv_iconst (v := 1) hx hb d_LA_stepsOf_6 (by decide) ?_
  refine lv_istore_n (lv' := [(3, .int (1 : Int32)), (2, .int (0 : Int32)), (1, .ref q18), (0, .int p0)]) hx hb d_LA_stepsOf_7 rfl hl (by decide) rfl (fun ls hl => ?_)
  have lp18 : ∀ (k5 : Nat) (σ3 : HS) (x6 : Int32) (x7 : Int32) (H : Heap) (locs : List Loc) (ls : Array Slot) (res4 : HS × Int32), D_LA_stepsOf_L8 F n p0 k5 σ3 x6 x7 = some res4 → (∀ (σ16 : HS) (x17 : Int32) (H : Heap) (locs : List Loc) (ls : Array Slot), res4 = (σ16, x17) → Wo E A0 s.heap (wl E ad n [18] σ16) H locs → lv_has ls 4 [(2, .int x17), (1, .ref q18)] → W p l e ({ frames := 2, cells := 2, slots := 32, locals := 70 }) s m aa below meth c H locs 1 16 QQ (F0 m 34 ls [])) → Wo E A0 s.heap (wl E ad n [18] σ3) H locs → lv_has ls 4 [(3, .int x6), (2, .int x7), (1, .ref q18), (0, .int p0)] → W p l e ({ frames := 2, cells := 2, slots := 32, locals := 70 }) s m aa below meth c H locs 1 16 QQ (F0 m 8 ls []) := by
    intro k5
    induction k5 with
    | zero =>
      intro σ3 x6 x7 H locs ls res4 hD
      rw [D_LA_stepsOf_L8.eq_1] at hD
      cases hD
    | succ k5 ih =>
      intro σ3 x6 x7 H locs ls res4 hD hex wo hl
      rw [D_LA_stepsOf_L8.eq_2] at hD
      refine lv_iload_n hx hb d_LA_stepsOf_8 rfl (lv_at hl 0 rfl) ?_
      refine lv_iload_n hx hb d_LA_stepsOf_9 rfl (lv_at hl 3 rfl) ?_
      refine lv_icmp_ge (tgt := 34) hx hb d_LA_stepsOf_10 (by decide) (fun c8 => ?_) (fun c8 => ?_)
      · have hD := ite_p hD c8
        exact hex σ3 x7 _ _ _ (Option.some.inj hD).symm wo (lv_sub hl [1, 2] rfl)
      · have hD := ite_n hD c8
        refine lv_iload_n hx hb d_LA_stepsOf_13 rfl (lv_at hl 0 rfl) ?_
        refine lv_iload_n hx hb d_LA_stepsOf_14 rfl (lv_at hl 3 rfl) ?_
        obtain ⟨x9, hcx9, hD⟩ := bd_s hD
        try dsimp only [nm2] at hD
        refine call_Si cx wo (k_LA_haveNoDivisorInCommon l E ad n [18] (by decide) F σ3  x6 p0 x9 hcx9) mw_LA_haveNoDivisorInCommon wm_LA_49 ⟨by decide, by decide⟩ ⟨by decide, by decide⟩ hl.1 rfl (Nat.le_of_ble_eq_true rfl) d_LA_stepsOf_15 (fun H locs wo => ?_)
        refine lv_if_eq (tgt := 28) hx hb d_LA_stepsOf_18 (by decide) (fun c10 => ?_) (fun c10 => ?_)
        · have hD := ite_p hD c10
          obtain ⟨x11, ex11⟩ : ∃ y : Int32, y = x6 + (1 : Int32) := ⟨_, rfl⟩
          have hD := nm_at hD ex11
          try dsimp only at hD
          refine lv_iinc (v := x11) (lv' := [(3, .int x11), (2, .int x7), (1, .ref q18), (0, .int p0)]) hx hb d_LA_stepsOf_28 hl (k := 0) rfl (by rw [ex11]; rfl) (by decide) rfl (fun ls hl => ?_)
          refine lv_goto (tgt := 8) hx hb d_LA_stepsOf_31 (by decide) ?_
          exact ih σ3 x11 x7 _ _ _ _ hD hex wo (lv_sub hl [0, 1, 2, 3] rfl)
        · have hD := ite_n hD c10
          refine lv_aload_n hx hb d_LA_stepsOf_21 rfl (lv_at hl 2 rfl) ?_
          refine lv_iload_n hx hb d_LA_stepsOf_22 rfl (lv_at hl 1 rfl) ?_
          refine lv_iload_n hx hb d_LA_stepsOf_23 rfl (lv_at hl 0 rfl) ?_
          obtain ⟨g12, hD⟩ := grd_s hD
          refine g_iastQ cx wo a18 (by decide) (cel_18 E ad n) g12 d_LA_stepsOf_24 (fun H locs wo => ?_)
          obtain ⟨σ13, eσ13⟩ : ∃ z, z = stI σ3 18 (x7).toNatClampNeg x6 := ⟨_, rfl⟩
          rw [← eσ13] at wo
          have hD := nm_at hD eσ13
          try dsimp only at hD
          obtain ⟨x14, ex14⟩ : ∃ y : Int32, y = x7 + (1 : Int32) := ⟨_, rfl⟩
          have hD := nm_at hD ex14
          try dsimp only at hD
          refine lv_iinc (v := x14) (lv' := [(2, .int x14), (3, .int x6), (1, .ref q18), (0, .int p0)]) hx hb d_LA_stepsOf_25 hl (k := 1) rfl (by rw [ex14]; rfl) (by decide) rfl (fun ls hl => ?_)
          obtain ⟨x15, ex15⟩ : ∃ y : Int32, y = x6 + (1 : Int32) := ⟨_, rfl⟩
          have hD := nm_at hD ex15
          try dsimp only at hD
          refine lv_iinc (v := x15) (lv' := [(3, .int x15), (2, .int x14), (1, .ref q18), (0, .int p0)]) hx hb d_LA_stepsOf_28 hl (k := 1) rfl (by rw [ex15]; rfl) (by decide) rfl (fun ls hl => ?_)
          refine lv_goto (tgt := 8) hx hb d_LA_stepsOf_31 (by decide) ?_
          exact ih σ13 x15 x14 _ _ _ _ hD hex wo (lv_sub hl [0, 1, 2, 3] rfl)
  obtain ⟨res19, hr20, hD⟩ := bd_s hD
  refine lp18 F σ2 (1 : Int32) (0 : Int32) _ _ _ _ hr20 (fun σ16 x17 H locs ls hz wo hl => ?_) wo (lv_sub hl [0, 1, 2, 3] rfl)
  subst hz
  try dsimp only at hD
  refine lv_aload_n hx hb d_LA_stepsOf_34 rfl (lv_at hl 1 rfl) ?_
  refine lv_iload_n hx hb d_LA_stepsOf_35 rfl (lv_at hl 0 rfl) ?_
  have kc21 := k_AR_copyOf l E ad n F σ16 x17
  obtain ⟨⟨n, σ23⟩, hc22, hD⟩ := bd_s hD
  try dsimp only [nm2] at hD
  refine callN_S (wr := []) cx wo (kc21 n σ23 hc22) mw_AR_copyOf wm_LA_53 (fun k => ([0] : List Nat).getD k 0) (ix_g (is := [0]) rfl) (ix_i (is := [0]) ⟨by decide, rfl⟩) (fun k => ([] : List Nat).getD k 0) (ix_g (is := []) rfl) (ix_i (is := []) ⟨by decide, rfl⟩) (ix_d (is := [0]) (js := []) ⟨by decide, rfl, rfl⟩) ⟨by decide, by decide⟩ ⟨by decide, by decide⟩ hl.1 (by rw [← a18]; rfl) (Nat.le_of_ble_eq_true rfl) d_LA_stepsOf_36 (fun ad H locs hK wo => ?_)
  try dsimp only [List.append, List.cons_append, List.nil_append] at wo
  have a18 : ad 18 = q18 := (hK.1 18 (by decide)).trans a18
  obtain ⟨q19, a19⟩ : ∃ z, ad 19 = z := ⟨_, rfl⟩
  rw [a19]
  cases hD
  rw [hA0] at wo
  rw [hQQ]
  exact tN_r ad cx wo ⟨(fun b hb => absurd hb List.not_mem_nil), trivial⟩ a19 d_LA_stepsOf_39
def D_LA_homes_L32 (F : Nat) (n : Nat → Nat) (x13 : Int32) (x9 : Int32) (p0 : Int32) (p1 : Int32) : Nat → HS → Int32 → Option (HS)
  | 0, _, _ => none
  | k16 + 1, σ14, x17 =>
      (if p0 ≤ x17 then
              some σ14
            else
              grd (decide (¬ p0 = 0)) (
              nm ((x9 + (x17 * x13)) - (x9 + (x17 * x13)) / p0 * p0) (fun x20 =>
              grd (inb ((x9 * p0) + x17) (n 9)) (
              nm (stI σ14 9 (((x9 * p0) + x17)).toNatClampNeg ((x20 * (p1 + (1 : Int32))) + x9)) (fun σ22 =>
              nm (x17 + (1 : Int32)) (fun x23 =>
              D_LA_homes_L32 F n x13 x9 p0 p1 k16 σ22 x23))))))
def D_LA_homes_L14 (F : Nat) (n : Nat → Nat) (p0 : Int32) (p1 : Int32) : Nat → HS → Int32 → Option (HS)
  | 0, _, _ => none
  | k8 + 1, σ6, x9 =>
      (if p1 ≤ x9 then
        some σ6
      else
        grd (decide (¬ (nI (n 19)) = 0)) (
        grd (inb (x9 - x9 / (nI (n 19)) * (nI (n 19))) (n 19)) (
        nm (σ6.1 19 ((x9 - x9 / (nI (n 19)) * (nI (n 19)))).toNatClampNeg) (fun x13 =>
        (D_LA_homes_L32 F n x13 x9 p0 p1 F σ6 (0 : Int32)).bind (fun (σ24 : HS) =>
        nm (x9 + (1 : Int32)) (fun x28 =>
          D_LA_homes_L14 F n p0 p1 k8 σ24 x28))))))
def D_LA_homes (F : Nat) (n : Nat → Nat) (σ : HS) (p0 : Int32) (p1 : Int32) : Option ((Nat → Nat) × HS) :=
(D_LA_stepsOf F n σ p0).bind (fun (qkc1 : (Nat → Nat) × HS) => nm2 qkc1 (fun (n : Nat → Nat) (σ3 : HS) =>
  grd (okN (p1 * p0) 1024) (
  nm (setA n 9 ((p1 * p0)).toNatClampNeg) (fun n =>
  nm (zC σ3 9) (fun σ5 =>
  (D_LA_homes_L14 F n p0 p1 F σ5 (0 : Int32)).bind (fun (σ29 : HS) =>
  some (n, σ29)))))))
set_option maxRecDepth 100000 in
set_option maxHeartbeats 8000000 in
theorem k_LA_homes (l : Launch) (E : EV) (ad n : Nat → Nat) (F : Nat) (σ : HS) (p0 : Int32) (p1 : Int32) (no : Nat → Nat) (σo : HS) (hD : D_LA_homes F n σ p0 p1 = some (no, σo)) : CtNr l E y_LA_homes c_LA_homes 8 (some (FieldType.array FieldType.int)) ({ frames := 3, cells := 3, slots := 1056, locals := 93 }) [.int p0, .int p1] (wl E ad n [] σ) 9 (fun u => (∀ b ∈ ([] : List Nat), u b = ad b) ∧ True) (fun u => wl E u no [18, 19, 9] σo) := by
  refine fun sz => ent (by decide) (Nat.le_of_ble_eq_true rfl) ?_
  intro p e s m below meth c hsz cx wo ls hl
  have hx := cx.1.1
  have hb := cx.1.2.1
  have hown := cx.1.2.2.2.1
  have hts := cx.1.2.2.2.2
  obtain ⟨A0, hA0⟩ : ∃ z, z = va_A (wl E ad n [] σ) sz := ⟨_, rfl⟩
  rw [← hA0] at wo
  refine W_gen (fun QQ hQQ => ?_)
  obtain ⟨aa, haa⟩ : ∃ z, z = ([.int p0, .int p1] : List Value).toArray := ⟨_, rfl⟩
  rw [← haa] at cx hQQ hts ⊢
  have hl : lv_has ls 8 [(0, .int p0), (1, .int p1)] := hl
  rw [D_LA_homes] at hD
  refine lv_iload_n hx hb d_LA_homes_0 rfl (lv_at hl 0 rfl) ?_
  have kc1 := k_LA_stepsOf l E ad n F σ p0
  obtain ⟨⟨n, σ3⟩, hc2, hD⟩ := bd_s hD
  try dsimp only [nm2] at hD
  refine callN_S (wr := []) cx wo (kc1 n σ3 hc2) mw_LA_stepsOf wm_LA_45 (fun k => ([] : List Nat).getD k 0) (ix_g (is := []) rfl) (ix_i (is := []) ⟨by decide, rfl⟩) (fun k => ([] : List Nat).getD k 0) (ix_g (is := []) rfl) (ix_i (is := []) ⟨by decide, rfl⟩) (ix_d (is := []) (js := []) ⟨by decide, rfl, rfl⟩) ⟨by decide, by decide⟩ ⟨by decide, by decide⟩ hl.1 rfl (Nat.le_of_ble_eq_true rfl) d_LA_homes_1 (fun ad H locs hK wo => ?_)
  try dsimp only [List.append, List.cons_append, List.nil_append] at wo
  obtain ⟨q18, a18⟩ : ∃ z, ad 18 = z := ⟨_, rfl⟩
  obtain ⟨q19, a19⟩ : ∃ z, ad 19 = z := ⟨_, rfl⟩
  rw [a19]
  refine lv_astore_n (lv' := [(2, .ref q19), (0, .int p0), (1, .int p1)]) hx hb d_LA_homes_4 rfl hl (by decide) rfl (fun ls hl => ?_)
  refine lv_iload_n hx hb d_LA_homes_5 rfl (lv_at hl 2 rfl) ?_
  refine lv_iload_n hx hb d_LA_homes_6 rfl (lv_at hl 1 rfl) ?_
  refine lv_imul hx hb d_LA_homes_7 ?_
  obtain ⟨g4, hD⟩ := grd_s hD
  obtain ⟨g4a, g4b⟩ := of_decide_eq_true g4
  refine c_newa cx wo .int .int rfl wa_int rfl 0 rfl (a0 := (((p1 * p0)).toNatClampNeg, .inl (fun _ => 0))) (fun _ => rfl) g4a rfl g4b (by decide) (by decide) (by decide) (by decide) d_LA_homes_8 (fun q9 H wo => ?_)
  obtain ⟨n, en⟩ : ∃ z, z = setA n 9 ((p1 * p0)).toNatClampNeg := ⟨_, rfl⟩
  have hD := nm_at hD en
  try dsimp only at hD
  obtain ⟨σ5, eσ5⟩ : ∃ z, z = zC σ3 9 := ⟨_, rfl⟩
  have hD := nm_at hD eσ5
  try dsimp only at hD
  obtain ⟨ad, ead⟩ : ∃ z, z = setA ad 9 q9 := ⟨_, rfl⟩
  rw [wl_grow (L := [18, 19]) (ad1 := ad) (n1 := n) (σ1 := σ5) (a := 9) (by decide) (by rw [ead]; exact setA_s _ _ _) (fun b hb => by rw [ead]; exact setA_n _ _ hb) (fun b hb => by rw [en]; exact setA_n _ _ hb) (fun b hb => by rw [eσ5]; exact zC_1 b hb) (fun b hb => by rw [eσ5]; exact zC_2 b hb) (by rw [cel_9, en, eσ5, setA_s]; rfl)] at wo
  try dsimp only [List.append, List.cons_append, List.nil_append] at wo
  have a18 : ad 18 = q18 := by rw [ead]; exact (setA_n _ _ (by decide)).trans a18
  have a19 : ad 19 = q19 := by rw [ead]; exact (setA_n _ _ (by decide)).trans a19
  have a9 : ad 9 = q9 := by rw [ead]; exact setA_s _ _ _
  refine lv_astore_n (lv' := [(3, .ref q9), (2, .ref q19), (0, .int p0), (1, .int p1)]) hx hb d_LA_homes_10 rfl hl (by decide) rfl (fun ls hl => ?_)
  refine lv_iconst (v := 0) hx hb d_LA_homes_11 (by decide) ?_
  refine lv_istore (lv' := [(4, .int (0 : Int32)), (3, .ref q9), (2, .ref q19), (0, .int p0), (1, .int p1)]) hx hb d_LA_homes_12 hl (by decide) rfl (fun ls hl => ?_)
  have lp30 : ∀ (k8 : Nat) (σ6 : HS) (x9 : Int32) (H : Heap) (locs : List Loc) (ls : Array Slot) (res7 : HS), D_LA_homes_L14 F n p0 p1 k8 σ6 x9 = some res7 → (∀ (σ29 : HS) (H : Heap) (locs : List Loc) (ls : Array Slot), res7 = σ29 → Wo E A0 s.heap (wl E ad n [18, 19, 9] σ29) H locs → lv_has ls 8 [(3, .ref q9)] → W p l e ({ frames := 3, cells := 3, slots := 1056, locals := 93 }) s m aa below meth c H locs 3 1056 QQ (F0 m 80 ls [])) → Wo E A0 s.heap (wl E ad n [18, 19, 9] σ6) H locs → lv_has ls 8 [(4, .int x9), (3, .ref q9), (2, .ref q19), (0, .int p0), (1, .int p1)] → W p l e ({ frames := 3, cells := 3, slots := 1056, locals := 93 }) s m aa below meth c H locs 3 1056 QQ (F0 m 14 ls []) := by
    intro k8
    induction k8 with
    | zero =>
      intro σ6 x9 H locs ls res7 hD
      rw [D_LA_homes_L14.eq_1] at hD
      cases hD
    | succ k8 ih =>
      intro σ6 x9 H locs ls res7 hD hex wo hl
      rw [D_LA_homes_L14.eq_2] at hD
      refine lv_iload hx hb d_LA_homes_14 (lv_at hl 0 rfl) ?_
      refine lv_iload_n hx hb d_LA_homes_16 rfl (lv_at hl 4 rfl) ?_
      refine lv_icmp_ge (tgt := 80) hx hb d_LA_homes_17 (by decide) (fun c10 => ?_) (fun c10 => ?_)
      · have hD := ite_p hD c10
        exact hex σ6 _ _ _ (Option.some.inj hD).symm wo (lv_sub hl [1] rfl)
      · have hD := ite_n hD c10
        refine lv_aload_n hx hb d_LA_homes_20 rfl (lv_at hl 2 rfl) ?_
        refine lv_iload hx hb d_LA_homes_21 (lv_at hl 0 rfl) ?_
        refine lv_aload_n hx hb d_LA_homes_23 rfl (lv_at hl 2 rfl) ?_
        refine g_alenQ cx wo a19 (by decide) 0 (cel_19 E ad n σ6) rfl rfl d_LA_homes_24 ?_
        obtain ⟨g11, hD⟩ := grd_s hD
        refine lv_irem hx hb d_LA_homes_25 (of_decide_eq_true g11) ?_
        obtain ⟨g12, hD⟩ := grd_s hD
        refine g_ialdQ cx wo a19 (by decide) (cel_19 E ad n σ6) g12 d_LA_homes_26 ?_
        refine lv_topi (fun x13 ex13 => ?_)
        have hD := nm_at hD ex13
        try dsimp only at hD
        refine lv_istore (lv' := [(5, .int x13), (4, .int x9), (3, .ref q9), (2, .ref q19), (0, .int p0), (1, .int p1)]) hx hb d_LA_homes_27 hl (by decide) rfl (fun ls hl => ?_)
        refine lv_iconst (v := 0) hx hb d_LA_homes_29 (by decide) ?_
        refine lv_istore (lv' := [(6, .int (0 : Int32)), (5, .int x13), (4, .int x9), (3, .ref q9), (2, .ref q19), (0, .int p0), (1, .int p1)]) hx hb d_LA_homes_30 hl (by decide) rfl (fun ls hl => ?_)
        have lp25 : ∀ (k16 : Nat) (σ14 : HS) (x17 : Int32) (H : Heap) (locs : List Loc) (ls : Array Slot) (res15 : HS), D_LA_homes_L32 F n x13 x9 p0 p1 k16 σ14 x17 = some res15 → (∀ (σ24 : HS) (H : Heap) (locs : List Loc) (ls : Array Slot), res15 = σ24 → Wo E A0 s.heap (wl E ad n [18, 19, 9] σ24) H locs → lv_has ls 8 [(4, .int x9), (3, .ref q9), (2, .ref q19), (0, .int p0), (1, .int p1)] → W p l e ({ frames := 3, cells := 3, slots := 1056, locals := 93 }) s m aa below meth c H locs 3 1056 QQ (F0 m 74 ls [])) → Wo E A0 s.heap (wl E ad n [18, 19, 9] σ14) H locs → lv_has ls 8 [(6, .int x17), (5, .int x13), (4, .int x9), (3, .ref q9), (2, .ref q19), (0, .int p0), (1, .int p1)] → W p l e ({ frames := 3, cells := 3, slots := 1056, locals := 93 }) s m aa below meth c H locs 3 1056 QQ (F0 m 32 ls []) := by
          intro k16
          induction k16 with
          | zero =>
            intro σ14 x17 H locs ls res15 hD
            rw [D_LA_homes_L32.eq_1] at hD
            cases hD
          | succ k16 ih =>
            intro σ14 x17 H locs ls res15 hD hex wo hl
            rw [D_LA_homes_L32.eq_2] at hD
            refine lv_iload hx hb d_LA_homes_32 (lv_at hl 0 rfl) ?_
            refine lv_iload_n hx hb d_LA_homes_34 rfl (lv_at hl 5 rfl) ?_
            refine lv_icmp_ge (tgt := 74) hx hb d_LA_homes_35 (by decide) (fun c18 => ?_) (fun c18 => ?_)
            · have hD := ite_p hD c18
              exact hex σ14 _ _ _ (Option.some.inj hD).symm wo (lv_sub hl [2, 3, 4, 5, 6] rfl)
            · have hD := ite_n hD c18
              refine lv_iload hx hb d_LA_homes_38 (lv_at hl 2 rfl) ?_
              refine lv_iload hx hb d_LA_homes_40 (lv_at hl 0 rfl) ?_
              refine lv_iload hx hb d_LA_homes_42 (lv_at hl 1 rfl) ?_
              refine lv_imul hx hb d_LA_homes_44 ?_
              refine lv_iadd hx hb d_LA_homes_45 ?_
              refine lv_iload_n hx hb d_LA_homes_46 rfl (lv_at hl 5 rfl) ?_
              obtain ⟨g19, hD⟩ := grd_s hD
              refine lv_irem hx hb d_LA_homes_47 (of_decide_eq_true g19) ?_
              refine lv_topi (fun x20 ex20 => ?_)
              have hD := nm_at hD ex20
              try dsimp only at hD
              refine lv_istore (lv' := [(7, .int x20), (6, .int x17), (5, .int x13), (4, .int x9), (3, .ref q9), (2, .ref q19), (0, .int p0), (1, .int p1)]) hx hb d_LA_homes_48 hl (by decide) rfl (fun ls hl => ?_)
              refine lv_aload_n hx hb d_LA_homes_50 rfl (lv_at hl 4 rfl) ?_
              refine lv_iload hx hb d_LA_homes_51 (lv_at hl 3 rfl) ?_
              refine lv_iload_n hx hb d_LA_homes_53 rfl (lv_at hl 6 rfl) ?_
              refine lv_imul hx hb d_LA_homes_54 ?_
              refine lv_iload hx hb d_LA_homes_55 (lv_at hl 1 rfl) ?_
              refine lv_iadd hx hb d_LA_homes_57 ?_
              refine lv_iload hx hb d_LA_homes_58 (lv_at hl 0 rfl) ?_
              refine lv_iload_n hx hb d_LA_homes_60 rfl (lv_at hl 7 rfl) ?_
              refine lv_iconst (v := 1) hx hb d_LA_homes_61 (by decide) ?_
              refine lv_iadd hx hb d_LA_homes_62 ?_
              refine lv_imul hx hb d_LA_homes_63 ?_
              refine lv_iload hx hb d_LA_homes_64 (lv_at hl 3 rfl) ?_
              refine lv_iadd hx hb d_LA_homes_66 ?_
              obtain ⟨g21, hD⟩ := grd_s hD
              refine g_iastQ cx wo a9 (by decide) (cel_9 E ad n) g21 d_LA_homes_67 (fun H locs wo => ?_)
              obtain ⟨σ22, eσ22⟩ : ∃ z, z = stI σ14 9 (((x9 * p0) + x17)).toNatClampNeg ((x20 * (p1 + (1 : Int32))) + x9) := ⟨_, rfl⟩
              rw [← eσ22] at wo
              have hD := nm_at hD eσ22
              try dsimp only at hD
              obtain ⟨x23, ex23⟩ : ∃ y : Int32, y = x17 + (1 : Int32) := ⟨_, rfl⟩
              have hD := nm_at hD ex23
              try dsimp only at hD
              refine lv_iinc (v := x23) (lv' := [(6, .int x23), (7, .int x20), (5, .int x13), (4, .int x9), (3, .ref q9), (2, .ref q19), (0, .int p0), (1, .int p1)]) hx hb d_LA_homes_68 hl (k := 1) rfl (by rw [ex23]; rfl) (by decide) rfl (fun ls hl => ?_)
              refine lv_goto (tgt := 32) hx hb d_LA_homes_71 (by decide) ?_
              exact ih σ22 x23 _ _ _ _ hD hex wo (lv_sub hl [0, 2, 3, 4, 5, 6, 7] rfl)
        obtain ⟨res26, hr27, hD⟩ := bd_s hD
        refine lp25 F σ6 (0 : Int32) _ _ _ _ hr27 (fun σ24 H locs ls hz wo hl => ?_) wo (lv_sub hl [0, 1, 2, 3, 4, 5, 6] rfl)
        have hz := hz.symm
        subst hz
        try dsimp only at hD
        obtain ⟨x28, ex28⟩ : ∃ y : Int32, y = x9 + (1 : Int32) := ⟨_, rfl⟩
        have hD := nm_at hD ex28
        try dsimp only at hD
        refine lv_iinc (v := x28) (lv' := [(4, .int x28), (3, .ref q9), (2, .ref q19), (0, .int p0), (1, .int p1)]) hx hb d_LA_homes_74 hl (k := 0) rfl (by rw [ex28]; rfl) (by decide) rfl (fun ls hl => ?_)
        refine lv_goto (tgt := 14) hx hb d_LA_homes_77 (by decide) ?_
        exact ih σ24 x28 _ _ _ _ hD hex wo (lv_sub hl [0, 1, 2, 3, 4] rfl)
  obtain ⟨res31, hr32, hD⟩ := bd_s hD
  refine lp30 F σ5 (0 : Int32) _ _ _ _ hr32 (fun σ29 H locs ls hz wo hl => ?_) wo (lv_sub hl [0, 1, 2, 3, 4] rfl)
  have hz := hz.symm
  subst hz
  try dsimp only at hD
  refine lv_aload_n hx hb d_LA_homes_80 rfl (lv_at hl 0 rfl) ?_
  cases hD
  rw [hA0] at wo
  rw [hQQ]
  exact tN_r ad cx wo ⟨(fun b hb => absurd hb List.not_mem_nil), trivial⟩ a9 d_LA_homes_81
def D_LA_init (F : Nat) (n : Nat → Nat) (σ : HS) (p1 : Int32) (p2 : Int32) (p3 : Int32) : Option ((Nat → Nat) × HS) :=
jn (fun (x2 : Int32) =>
    jn (fun (x4 : Int32) =>
      jn (fun (x6 : Int32) =>
        grd (decide (¬ x4 = 0)) (
        nm ((x2 - (1 : Int32)) / x4) (fun x8 =>
        nm (x6 * x8) (fun x9 =>
        nm (x4 - (1 : Int32)) (fun x10 =>
        nm (x9 * x10) (fun x11 =>
        nm (x4 * x8) (fun x12 =>
        nm (x2 * (x6 + (1 : Int32))) (fun x13 =>
        (D_LA_homes F n σ x2 x6).bind (fun (qkc14 : (Nat → Nat) × HS) => nm2 qkc14 (fun (n : Nat → Nat) (σ16 : HS) =>
        nm (stC σ16 1 (fun (j : Nat) => (cond (Nat.beq j 0) (x2) (cond (Nat.beq j 1) (x4) (cond (Nat.beq j 2) (x6) (cond (Nat.beq j 3) (x8) (cond (Nat.beq j 4) (x9) (cond (Nat.beq j 5) (x11) (cond (Nat.beq j 6) (x12) (cond (Nat.beq j 7) (x10) (cond (Nat.beq j 8) (x13) (cond (Nat.beq j 9) (0) (0)))))))))) : Int32))) (fun σ17 =>
        some (n, σ17))))))))))))
      (fun j5 =>
      (if p3 < (48 : Int32) then
        j5 (48 : Int32)
      else
        (if (64 : Int32) < p3 then
          j5 (48 : Int32)
        else
          j5 p3))))
    (fun j3 =>
    (if p2 < (3 : Int32) then
      j3 (3 : Int32)
    else
      (if (8 : Int32) < p2 then
        j3 (3 : Int32)
      else
        (if x2 ≤ p2 then
          j3 (3 : Int32)
        else
          j3 p2)))))
  (fun j1 =>
  (if p1 < (6 : Int32) then
    j1 (8 : Int32)
  else
    (if (16 : Int32) < p1 then
      j1 (8 : Int32)
    else
      j1 p1)))
set_option maxRecDepth 100000 in
set_option maxHeartbeats 8000000 in
theorem k_LA_init (l : Launch) (E : EV) (ad n : Nat → Nat) (F : Nat) (σ : HS) (qP : Nat) (p1 : Int32) (p2 : Int32) (p3 : Int32) (no : Nat → Nat) (σo : HS) (hD : D_LA_init F n σ p1 p2 p3 = some (no, σo)) : CtN l E y_LA_init c_LA_init 4 none ({ frames := 4, cells := 3, slots := 1056, locals := 120 }) [.ref qP, .int p1, .int p2, .int p3] ((qP, .inr (0, [.int 0, .int 0, .int 0, .int 0, .int 0, .int 0, .int 0, .int 0, .int 0, .null])) :: wl E ad n [] σ) (fun u => (∀ b ∈ ([] : List Nat), u b = ad b) ∧ u 1 = qP) (fun u => wl E u no [1, 9] σo) := by
  refine fun sz => entC (by decide) rfl (Nat.le_of_ble_eq_true rfl) ?_
  intro p e s m below meth c hsz cx wo ls hl
  obtain ⟨cx, hin⟩ := cx
  have hx := cx.1.1
  have hb := cx.1.2.1
  have hown := cx.1.2.2.2.1
  have hts := cx.1.2.2.2.2
  obtain ⟨A0, hA0⟩ : ∃ z, z = va_A ((qP, .inr (0, [.int 0, .int 0, .int 0, .int 0, .int 0, .int 0, .int 0, .int 0, .int 0, .null])) :: wl E ad n [] σ) sz := ⟨_, rfl⟩
  rw [← hA0] at wo
  refine W_gen (fun QQ hQQ => ?_)
  obtain ⟨aa, haa⟩ : ∃ z, z = ([.ref qP, .int p1, .int p2, .int p3] : List Value).toArray := ⟨_, rfl⟩
  rw [← haa] at cx hQQ hts ⊢
  have hl : lv_has ls 4 [(0, .ref qP), (1, .int p1), (2, .int p2), (3, .int p3)] := hl
  rw [D_LA_init] at hD
  refine lv_aload_n hx hb d_LA_init_0 rfl (lv_at hl 0 rfl) ?_
  refine c_obj cx wm_LA_1 hl.1 ⟨by decide, by decide⟩ (Nat.le_of_ble_eq_true rfl) d_LA_init_1 ?_
  refine lv_aload_n hx hb d_LA_init_4 rfl (lv_at hl 0 rfl) ?_
  refine lv_iload_n hx hb d_LA_init_5 rfl (lv_at hl 1 rfl) ?_
  refine lv_bipush (v := 6) hx hb d_LA_init_6 (by decide) ?_
  obtain ⟨j1, hj1, hD⟩ := jn_s hD
  try dsimp only at hD
  have j1_ok : ∀ (x2 : Int32) (H : Heap) (locs : List Loc) (ls : Array Slot), j1 x2 = some (no, σo) → Wo E A0 s.heap ((qP, .inr (0, [.int 0, .int 0, .int 0, .int 0, .int 0, .int 0, .int 0, .int 0, .int 0, .null])) :: wl E ad n [] σ) H locs → lv_has ls 4 [(0, .ref qP), (2, .int p2), (3, .int p3)] → W p l e ({ frames := 4, cells := 3, slots := 1056, locals := 120 }) s m aa below meth c H locs 0 0 QQ (F0 m 23 ls [.int x2, .ref qP]) := by
    intro x2 H locs ls hD wo hl
    rw [hj1] at hD
    try dsimp only at hD
    refine r_putF cx hin wo 0 (w' := ((qP, .inr (0, [.int x2, .int 0, .int 0, .int 0, .int 0, .int 0, .int 0, .int 0, .int 0, .null])) :: wl E ad n [] σ)) rfl rfl in_LA t_LA tok_LA n_LA 0 (by decide) wf_LA_7 rfl rfl rfl rfl (Nat.le_of_ble_eq_true rfl) rfl d_LA_init_23 (fun H locs wo => ?_)
    refine lv_aload_n hx hb d_LA_init_26 rfl (lv_at hl 0 rfl) ?_
    refine lv_iload_n hx hb d_LA_init_27 rfl (lv_at hl 1 rfl) ?_
    refine lv_iconst (v := 3) hx hb d_LA_init_28 (by decide) ?_
    obtain ⟨j3, hj3, hD⟩ := jn_s hD
    try dsimp only at hD
    have j3_ok : ∀ (x4 : Int32) (H : Heap) (locs : List Loc) (ls : Array Slot), j3 x4 = some (no, σo) → Wo E A0 s.heap ((qP, .inr (0, [.int x2, .int 0, .int 0, .int 0, .int 0, .int 0, .int 0, .int 0, .int 0, .null])) :: wl E ad n [] σ) H locs → lv_has ls 4 [(0, .ref qP), (3, .int p3)] → W p l e ({ frames := 4, cells := 3, slots := 1056, locals := 120 }) s m aa below meth c H locs 0 0 QQ (F0 m 51 ls [.int x4, .ref qP]) := by
      intro x4 H locs ls hD wo hl
      rw [hj3] at hD
      try dsimp only at hD
      refine r_putF cx hin wo 0 (w' := ((qP, .inr (0, [.int x2, .int x4, .int 0, .int 0, .int 0, .int 0, .int 0, .int 0, .int 0, .null])) :: wl E ad n [] σ)) rfl rfl in_LA t_LA tok_LA n_LA 1 (by decide) wf_LA_13 rfl rfl rfl rfl (Nat.le_of_ble_eq_true rfl) rfl d_LA_init_51 (fun H locs wo => ?_)
      refine lv_aload_n hx hb d_LA_init_54 rfl (lv_at hl 0 rfl) ?_
      refine lv_iload_n hx hb d_LA_init_55 rfl (lv_at hl 1 rfl) ?_
      refine lv_bipush (v := 48) hx hb d_LA_init_56 (by decide) ?_
      obtain ⟨j5, hj5, hD⟩ := jn_s hD
      try dsimp only at hD
      have j5_ok : ∀ (x6 : Int32) (H : Heap) (locs : List Loc) (ls : Array Slot), j5 x6 = some (no, σo) → Wo E A0 s.heap ((qP, .inr (0, [.int x2, .int x4, .int 0, .int 0, .int 0, .int 0, .int 0, .int 0, .int 0, .null])) :: wl E ad n [] σ) H locs → lv_has ls 4 [(0, .ref qP)] → W p l e ({ frames := 4, cells := 3, slots := 1056, locals := 120 }) s m aa below meth c H locs 0 0 QQ (F0 m 73 ls [.int x6, .ref qP]) := by
        intro x6 H locs ls hD wo hl
        rw [hj5] at hD
        try dsimp only at hD
        refine r_putF cx hin wo 0 (w' := ((qP, .inr (0, [.int x2, .int x4, .int x6, .int 0, .int 0, .int 0, .int 0, .int 0, .int 0, .null])) :: wl E ad n [] σ)) rfl rfl in_LA t_LA tok_LA n_LA 2 (by decide) wf_LA_16 rfl rfl rfl rfl (Nat.le_of_ble_eq_true rfl) rfl d_LA_init_73 (fun H locs wo => ?_)
        refine lv_aload_n hx hb d_LA_init_76 rfl (lv_at hl 0 rfl) ?_
        refine lv_aload_n hx hb d_LA_init_77 rfl (lv_at hl 0 rfl) ?_
        refine r_get cx wo 0 rfl rfl in_LA 0 (by decide) wf_LA_7 rfl d_LA_init_78 ?_
        refine lv_iconst (v := 1) hx hb d_LA_init_81 (by decide) ?_
        refine lv_isub hx hb d_LA_init_82 ?_
        refine lv_aload_n hx hb d_LA_init_83 rfl (lv_at hl 0 rfl) ?_
        refine r_get cx wo 0 rfl rfl in_LA 1 (by decide) wf_LA_13 rfl d_LA_init_84 ?_
        obtain ⟨g7, hD⟩ := grd_s hD
        refine lv_idiv hx hb d_LA_init_87 (of_decide_eq_true g7) ?_
        refine lv_topi (fun x8 ex8 => ?_)
        have hD := nm_at hD ex8
        try dsimp only at hD
        refine r_putF cx hin wo 0 (w' := ((qP, .inr (0, [.int x2, .int x4, .int x6, .int x8, .int 0, .int 0, .int 0, .int 0, .int 0, .null])) :: wl E ad n [] σ)) rfl rfl in_LA t_LA tok_LA n_LA 3 (by decide) wf_LA_19 rfl rfl rfl rfl (Nat.le_of_ble_eq_true rfl) rfl d_LA_init_88 (fun H locs wo => ?_)
        refine lv_aload_n hx hb d_LA_init_91 rfl (lv_at hl 0 rfl) ?_
        refine lv_aload_n hx hb d_LA_init_92 rfl (lv_at hl 0 rfl) ?_
        refine r_get cx wo 0 rfl rfl in_LA 2 (by decide) wf_LA_16 rfl d_LA_init_93 ?_
        refine lv_aload_n hx hb d_LA_init_96 rfl (lv_at hl 0 rfl) ?_
        refine r_get cx wo 0 rfl rfl in_LA 3 (by decide) wf_LA_19 rfl d_LA_init_97 ?_
        refine lv_imul hx hb d_LA_init_100 ?_
        refine lv_topi (fun x9 ex9 => ?_)
        have hD := nm_at hD ex9
        try dsimp only at hD
        refine r_putF cx hin wo 0 (w' := ((qP, .inr (0, [.int x2, .int x4, .int x6, .int x8, .int x9, .int 0, .int 0, .int 0, .int 0, .null])) :: wl E ad n [] σ)) rfl rfl in_LA t_LA tok_LA n_LA 4 (by decide) wf_LA_22 rfl rfl rfl rfl (Nat.le_of_ble_eq_true rfl) rfl d_LA_init_101 (fun H locs wo => ?_)
        refine lv_aload_n hx hb d_LA_init_104 rfl (lv_at hl 0 rfl) ?_
        refine lv_aload_n hx hb d_LA_init_105 rfl (lv_at hl 0 rfl) ?_
        refine r_get cx wo 0 rfl rfl in_LA 1 (by decide) wf_LA_13 rfl d_LA_init_106 ?_
        refine lv_iconst (v := 1) hx hb d_LA_init_109 (by decide) ?_
        refine lv_isub hx hb d_LA_init_110 ?_
        refine lv_topi (fun x10 ex10 => ?_)
        have hD := nm_at hD ex10
        try dsimp only at hD
        refine r_putF cx hin wo 0 (w' := ((qP, .inr (0, [.int x2, .int x4, .int x6, .int x8, .int x9, .int 0, .int 0, .int x10, .int 0, .null])) :: wl E ad n [] σ)) rfl rfl in_LA t_LA tok_LA n_LA 7 (by decide) wf_LA_25 rfl rfl rfl rfl (Nat.le_of_ble_eq_true rfl) rfl d_LA_init_111 (fun H locs wo => ?_)
        refine lv_aload_n hx hb d_LA_init_114 rfl (lv_at hl 0 rfl) ?_
        refine lv_aload_n hx hb d_LA_init_115 rfl (lv_at hl 0 rfl) ?_
        refine r_get cx wo 0 rfl rfl in_LA 4 (by decide) wf_LA_22 rfl d_LA_init_116 ?_
        refine lv_aload_n hx hb d_LA_init_119 rfl (lv_at hl 0 rfl) ?_
        refine r_get cx wo 0 rfl rfl in_LA 7 (by decide) wf_LA_25 rfl d_LA_init_120 ?_
        refine lv_imul hx hb d_LA_init_123 ?_
        refine lv_topi (fun x11 ex11 => ?_)
        have hD := nm_at hD ex11
        try dsimp only at hD
        refine r_putF cx hin wo 0 (w' := ((qP, .inr (0, [.int x2, .int x4, .int x6, .int x8, .int x9, .int x11, .int 0, .int x10, .int 0, .null])) :: wl E ad n [] σ)) rfl rfl in_LA t_LA tok_LA n_LA 5 (by decide) wf_LA_28 rfl rfl rfl rfl (Nat.le_of_ble_eq_true rfl) rfl d_LA_init_124 (fun H locs wo => ?_)
        refine lv_aload_n hx hb d_LA_init_127 rfl (lv_at hl 0 rfl) ?_
        refine lv_aload_n hx hb d_LA_init_128 rfl (lv_at hl 0 rfl) ?_
        refine r_get cx wo 0 rfl rfl in_LA 1 (by decide) wf_LA_13 rfl d_LA_init_129 ?_
        refine lv_aload_n hx hb d_LA_init_132 rfl (lv_at hl 0 rfl) ?_
        refine r_get cx wo 0 rfl rfl in_LA 3 (by decide) wf_LA_19 rfl d_LA_init_133 ?_
        refine lv_imul hx hb d_LA_init_136 ?_
        refine lv_topi (fun x12 ex12 => ?_)
        have hD := nm_at hD ex12
        try dsimp only at hD
        refine r_putF cx hin wo 0 (w' := ((qP, .inr (0, [.int x2, .int x4, .int x6, .int x8, .int x9, .int x11, .int x12, .int x10, .int 0, .null])) :: wl E ad n [] σ)) rfl rfl in_LA t_LA tok_LA n_LA 6 (by decide) wf_LA_31 rfl rfl rfl rfl (Nat.le_of_ble_eq_true rfl) rfl d_LA_init_137 (fun H locs wo => ?_)
        refine lv_aload_n hx hb d_LA_init_140 rfl (lv_at hl 0 rfl) ?_
        refine lv_aload_n hx hb d_LA_init_141 rfl (lv_at hl 0 rfl) ?_
        refine r_get cx wo 0 rfl rfl in_LA 0 (by decide) wf_LA_7 rfl d_LA_init_142 ?_
        refine lv_aload_n hx hb d_LA_init_145 rfl (lv_at hl 0 rfl) ?_
        refine r_get cx wo 0 rfl rfl in_LA 2 (by decide) wf_LA_16 rfl d_LA_init_146 ?_
        refine lv_iconst (v := 1) hx hb d_LA_init_149 (by decide) ?_
        refine lv_iadd hx hb d_LA_init_150 ?_
        refine lv_imul hx hb d_LA_init_151 ?_
        refine lv_topi (fun x13 ex13 => ?_)
        have hD := nm_at hD ex13
        try dsimp only at hD
        refine r_putF cx hin wo 0 (w' := ((qP, .inr (0, [.int x2, .int x4, .int x6, .int x8, .int x9, .int x11, .int x12, .int x10, .int x13, .null])) :: wl E ad n [] σ)) rfl rfl in_LA t_LA tok_LA n_LA 8 (by decide) wf_LA_34 rfl rfl rfl rfl (Nat.le_of_ble_eq_true rfl) rfl d_LA_init_152 (fun H locs wo => ?_)
        refine lv_aload_n hx hb d_LA_init_155 rfl (lv_at hl 0 rfl) ?_
        refine lv_aload_n hx hb d_LA_init_156 rfl (lv_at hl 0 rfl) ?_
        refine r_get cx wo 0 rfl rfl in_LA 0 (by decide) wf_LA_7 rfl d_LA_init_157 ?_
        refine lv_aload_n hx hb d_LA_init_160 rfl (lv_at hl 0 rfl) ?_
        refine r_get cx wo 0 rfl rfl in_LA 2 (by decide) wf_LA_16 rfl d_LA_init_161 ?_
        have kc14 := k_LA_homes l E ad n F σ x2 x6
        obtain ⟨⟨n, σ16⟩, hc15, hD⟩ := bd_s hD
        try dsimp only [nm2] at hD
        refine callN_S (wr := [(qP, .inr (0, [.int x2, .int x4, .int x6, .int x8, .int x9, .int x11, .int x12, .int x10, .int x13, .null]))]) cx wo (kc14 n σ16 hc15) mw_LA_homes wm_LA_37 (fun k => ([] : List Nat).getD k 0) (ix_g (is := []) rfl) (ix_i (is := []) ⟨by decide, rfl⟩) (fun k => ([0] : List Nat).getD k 0) (ix_g (is := [0]) rfl) (ix_i (is := [0]) ⟨by decide, rfl⟩) (ix_d (is := []) (js := [0]) ⟨by decide, rfl, rfl⟩) ⟨by decide, by decide⟩ ⟨by decide, by decide⟩ hl.1 rfl (Nat.le_of_ble_eq_true rfl) d_LA_init_164 (fun ad H locs hK wo => ?_)
        try dsimp only [List.append, List.cons_append, List.nil_append] at wo
        obtain ⟨q18, a18⟩ : ∃ z, ad 18 = z := ⟨_, rfl⟩
        obtain ⟨q19, a19⟩ : ∃ z, ad 19 = z := ⟨_, rfl⟩
        obtain ⟨q9, a9⟩ : ∃ z, ad 9 = z := ⟨_, rfl⟩
        rw [a9]
        refine r_putF cx hin wo 0 (w' := ((qP, .inr (0, [.int x2, .int x4, .int x6, .int x8, .int x9, .int x11, .int x12, .int x10, .int x13, .ref q9])) :: wl E ad n [18, 19, 9] σ16)) rfl rfl in_LA t_LA tok_LA n_LA 9 (by decide) wf_LA_41 rfl rfl rfl rfl (Nat.le_of_ble_eq_true rfl) rfl d_LA_init_167 (fun H locs wo => ?_)
        obtain ⟨σ17, eσ17⟩ : ∃ z, z = stC σ16 1 (fun (j : Nat) => (cond (Nat.beq j 0) (x2) (cond (Nat.beq j 1) (x4) (cond (Nat.beq j 2) (x6) (cond (Nat.beq j 3) (x8) (cond (Nat.beq j 4) (x9) (cond (Nat.beq j 5) (x11) (cond (Nat.beq j 6) (x12) (cond (Nat.beq j 7) (x10) (cond (Nat.beq j 8) (x13) (cond (Nat.beq j 9) (0) (0)))))))))) : Int32)) := ⟨_, rfl⟩
        have hD := nm_at hD eσ17
        try dsimp only at hD
        obtain ⟨ad, ead⟩ : ∃ z, z = setA ad 1 qP := ⟨_, rfl⟩
        rw [wl_cons (L := [18, 19, 9]) (ad1 := ad) (n1 := n) (σ1 := σ17) (a := 1) (by decide) (by rw [ead]; exact setA_s _ _ _) (fun b hb => by rw [ead]; exact setA_n _ _ hb) (fun b hb => rfl) (fun b hb => by rw [eσ17]; exact stC_1 b hb) (fun b hb => by rw [eσ17]; rfl) (by rw [cel_1, ead, eσ17, setA_n _ _ (show (9 : Nat) ≠ 1 by decide), a9]; try rfl)] at wo
        have a18 : ad 18 = q18 := by rw [ead]; exact (setA_n _ _ (by decide)).trans a18
        have a19 : ad 19 = q19 := by rw [ead]; exact (setA_n _ _ (by decide)).trans a19
        have a9 : ad 9 = q9 := by rw [ead]; exact (setA_n _ _ (by decide)).trans a9
        have a1 : ad 1 = qP := by rw [ead]; exact setA_s _ _ _
        obtain ⟨q1, hq1⟩ : ∃ z, z = qP := ⟨_, rfl⟩
        rw [← hq1] at hl
        have a1 : ad 1 = q1 := a1.trans hq1.symm
        have wo := wo.sub (is := [0, 3]) (w' := wl E ad n [1, 9] σ17) (by decide) rfl
        cases hD
        rw [hA0] at wo
        rw [hQQ]
        exact tN_v ad cx wo ⟨(fun b hb => absurd hb List.not_mem_nil), (a1.trans hq1)⟩ d_LA_init_170
      refine lv_icmp_lt (tgt := 71) hx hb d_LA_init_58 (by decide) (fun c18 => ?_) (fun c18 => ?_)
      · have hD := ite_p hD c18
        refine lv_bipush (v := 48) hx hb d_LA_init_71 (by decide) ?_
        exact j5_ok (48 : Int32) _ _ _ hD wo (lv_sub hl [0] rfl)
      · have hD := ite_n hD c18
        refine lv_iload_n hx hb d_LA_init_61 rfl (lv_at hl 1 rfl) ?_
        refine lv_bipush (v := 64) hx hb d_LA_init_62 (by decide) ?_
        refine lv_icmp_gt (tgt := 71) hx hb d_LA_init_64 (by decide) (fun c19 => ?_) (fun c19 => ?_)
        · have hD := ite_p hD c19
          refine lv_bipush (v := 48) hx hb d_LA_init_71 (by decide) ?_
          exact j5_ok (48 : Int32) _ _ _ hD wo (lv_sub hl [0] rfl)
        · have hD := ite_n hD c19
          refine lv_iload_n hx hb d_LA_init_67 rfl (lv_at hl 1 rfl) ?_
          refine lv_goto (tgt := 73) hx hb d_LA_init_68 (by decide) ?_
          exact j5_ok p3 _ _ _ hD wo (lv_sub hl [0] rfl)
    refine lv_icmp_lt (tgt := 50) hx hb d_LA_init_29 (by decide) (fun c20 => ?_) (fun c20 => ?_)
    · have hD := ite_p hD c20
      refine lv_iconst (v := 3) hx hb d_LA_init_50 (by decide) ?_
      exact j3_ok (3 : Int32) _ _ _ hD wo (lv_sub hl [0, 2] rfl)
    · have hD := ite_n hD c20
      refine lv_iload_n hx hb d_LA_init_32 rfl (lv_at hl 1 rfl) ?_
      refine lv_bipush (v := 8) hx hb d_LA_init_33 (by decide) ?_
      refine lv_icmp_gt (tgt := 50) hx hb d_LA_init_35 (by decide) (fun c21 => ?_) (fun c21 => ?_)
      · have hD := ite_p hD c21
        refine lv_iconst (v := 3) hx hb d_LA_init_50 (by decide) ?_
        exact j3_ok (3 : Int32) _ _ _ hD wo (lv_sub hl [0, 2] rfl)
      · have hD := ite_n hD c21
        refine lv_iload_n hx hb d_LA_init_38 rfl (lv_at hl 1 rfl) ?_
        refine lv_aload_n hx hb d_LA_init_39 rfl (lv_at hl 0 rfl) ?_
        refine r_get cx wo 0 rfl rfl in_LA 0 (by decide) wf_LA_7 rfl d_LA_init_40 ?_
        refine lv_icmp_ge (tgt := 50) hx hb d_LA_init_43 (by decide) (fun c22 => ?_) (fun c22 => ?_)
        · have hD := ite_p hD c22
          refine lv_iconst (v := 3) hx hb d_LA_init_50 (by decide) ?_
          exact j3_ok (3 : Int32) _ _ _ hD wo (lv_sub hl [0, 2] rfl)
        · have hD := ite_n hD c22
          refine lv_iload_n hx hb d_LA_init_46 rfl (lv_at hl 1 rfl) ?_
          refine lv_goto (tgt := 51) hx hb d_LA_init_47 (by decide) ?_
          exact j3_ok p2 _ _ _ hD wo (lv_sub hl [0, 2] rfl)
  refine lv_icmp_lt (tgt := 21) hx hb d_LA_init_8 (by decide) (fun c23 => ?_) (fun c23 => ?_)
  · have hD := ite_p hD c23
    refine lv_bipush (v := 8) hx hb d_LA_init_21 (by decide) ?_
    exact j1_ok (8 : Int32) _ _ _ hD wo (lv_sub hl [0, 2, 3] rfl)
  · have hD := ite_n hD c23
    refine lv_iload_n hx hb d_LA_init_11 rfl (lv_at hl 1 rfl) ?_
    refine lv_bipush (v := 16) hx hb d_LA_init_12 (by decide) ?_
    refine lv_icmp_gt (tgt := 21) hx hb d_LA_init_14 (by decide) (fun c24 => ?_) (fun c24 => ?_)
    · have hD := ite_p hD c24
      refine lv_bipush (v := 8) hx hb d_LA_init_21 (by decide) ?_
      exact j1_ok (8 : Int32) _ _ _ hD wo (lv_sub hl [0, 2, 3] rfl)
    · have hD := ite_n hD c24
      refine lv_iload_n hx hb d_LA_init_17 rfl (lv_at hl 1 rfl) ?_
      refine lv_goto (tgt := 23) hx hb d_LA_init_18 (by decide) ?_
      exact j1_ok p1 _ _ _ hD wo (lv_sub hl [0, 2, 3] rfl)
def D_RK_writeAll_L55 (F : Nat) (n : Nat → Nat) (x9 : Int32) (x6 : Int32) : Nat → HS → Int32 → Option (HS)
  | 0, _, _ => none
  | k16 + 1, σ14, x17 =>
      (if (σ14.1 1 2) ≤ x17 then
                some σ14
              else
                (D_LA_slot F n σ14 x17 x6).bind (fun (x19 : Int32) =>
                grd (inb x19 (n 9)) (
                (D_RK_storeLike F n σ14 x9 (σ14.1 9 (x19).toNatClampNeg)).bind (fun (σ22 : HS) =>
                nm (x17 + (1 : Int32)) (fun x23 =>
                D_RK_writeAll_L55 F n x9 x6 k16 σ22 x23)))))
def D_RK_writeAll_L7 (F : Nat) (n : Nat → Nat)  : Nat → HS → Int32 → Option (HS)
  | 0, _, _ => none
  | k5 + 1, σ3, x6 =>
      (if (σ3.1 1 0) ≤ x6 then
        some σ3
      else
        grd (inb x6 (n 9)) (
        nm (σ3.1 9 (x6).toNatClampNeg) (fun x9 =>
        jn (fun (x11 : Int32) =>
          (D_RK_store_17 F n σ3 x9 x11).bind (fun (σ13 : HS) =>
          (D_RK_writeAll_L55 F n x9 x6 F σ13 (1 : Int32)).bind (fun (σ24 : HS) =>
          nm (x6 + (1 : Int32)) (fun x28 =>
            D_RK_writeAll_L7 F n  k5 σ24 x28))))
        (fun j10 =>
        (if (σ3.1 1 6) ≤ x6 then
          j10 (0 : Int32)
        else
          j10 (x6 + (1 : Int32)))))))
def D_RK_writeAll_L118 (F : Nat) (n : Nat → Nat)  : Nat → HS → Int32 → Option (HS)
  | 0, _, _ => none
  | k39 + 1, σ37, x40 =>
      (if (σ37.1 1 0) ≤ x40 then
          some σ37
        else
          (D_LA_logOf F n σ37 (0 : Int32)).bind (fun (x42 : Int32) =>
          (D_LA_logOf F n σ37 x40).bind (fun (x43 : Int32) =>
          (D_RK_storeLike F n σ37 x42 x43).bind (fun (σ45 : HS) =>
          nm (x40 + (1 : Int32)) (fun x46 =>
          D_RK_writeAll_L118 F n  k39 σ45 x46)))))
def D_RK_writeAll (F : Nat) (n : Nat → Nat) (σ : HS)  : Option ((Nat → Nat) × HS) :=
grd (okN (8 : Int32) 8) (
  nm (setA n 17 ((8 : Int32)).toNatClampNeg) (fun n =>
  nm (zC σ 17) (fun σ2 =>
  (D_RK_writeAll_L7 F n  F σ2 (0 : Int32)).bind (fun (σ30 : HS) =>
  (D_LA_logOf F n σ30 (0 : Int32)).bind (fun (x34 : Int32) =>
    (D_RK_store_17 F n σ30 x34 (0 : Int32)).bind (fun (σ36 : HS) =>
    (D_RK_writeAll_L118 F n  F σ36 (1 : Int32)).bind (fun (σ47 : HS) =>
    some (n, σ47))))))))
set_option maxRecDepth 100000 in
set_option maxHeartbeats 8000000 in
theorem k_RK_writeAll (l : Launch) (E : EV) (ad n : Nat → Nat) (F : Nat) (σ : HS)  (no : Nat → Nat) (σo : HS) (hD : D_RK_writeAll F n σ  = some (no, σo)) : CtN l E y_RK_writeAll c_RK_writeAll 5 none ({ frames := 2, cells := 1, slots := 8, locals := 70 }) [.ref (ad 2)] (wl E ad n [2, 1, 9, 10, 11, 12, 13, 14] σ) (fun u => (∀ b ∈ ([2, 1, 9, 10, 11, 12, 13, 14] : List Nat), u b = ad b) ∧ True) (fun u => wl E u no [2, 1, 9, 10, 11, 12, 13, 14] σo) := by
  refine fun sz => ent (by decide) (Nat.le_of_ble_eq_true rfl) ?_
  intro p e s m below meth c hsz cx wo ls hl
  have hx := cx.1.1
  have hb := cx.1.2.1
  have hown := cx.1.2.2.2.1
  have hts := cx.1.2.2.2.2
  obtain ⟨A0, hA0⟩ : ∃ z, z = va_A (wl E ad n [2, 1, 9, 10, 11, 12, 13, 14] σ) sz := ⟨_, rfl⟩
  rw [← hA0] at wo
  refine W_gen (fun QQ hQQ => ?_)
  obtain ⟨aa, haa⟩ : ∃ z, z = ([.ref (ad 2)] : List Value).toArray := ⟨_, rfl⟩
  rw [← haa] at cx hQQ hts ⊢
  obtain ⟨q2, o2⟩ : ∃ z, ad 2 = z := ⟨_, rfl⟩
  have a2 := o2
  obtain ⟨q1, o1⟩ : ∃ z, ad 1 = z := ⟨_, rfl⟩
  have a1 := o1
  obtain ⟨q9, o9⟩ : ∃ z, ad 9 = z := ⟨_, rfl⟩
  have a9 := o9
  obtain ⟨q10, o10⟩ : ∃ z, ad 10 = z := ⟨_, rfl⟩
  have a10 := o10
  obtain ⟨q11, o11⟩ : ∃ z, ad 11 = z := ⟨_, rfl⟩
  have a11 := o11
  obtain ⟨q12, o12⟩ : ∃ z, ad 12 = z := ⟨_, rfl⟩
  have a12 := o12
  obtain ⟨q13, o13⟩ : ∃ z, ad 13 = z := ⟨_, rfl⟩
  have a13 := o13
  obtain ⟨q14, o14⟩ : ∃ z, ad 14 = z := ⟨_, rfl⟩
  have a14 := o14
  have hl : lv_has ls 5 [(0, .ref q2)] := by rw [← o2]; exact hl
  rw [D_RK_writeAll] at hD
  refine lv_bipush (v := 8) hx hb d_RK_writeAll_0 (by decide) ?_
  obtain ⟨g1, hD⟩ := grd_s hD
  obtain ⟨g1a, g1b⟩ := of_decide_eq_true g1
  refine c_newa cx wo .long .long rfl wa_long rfl 1 rfl (a0 := (((8 : Int32)).toNatClampNeg, .inr (.inl (fun _ => 0)))) (fun _ => rfl) g1a rfl g1b (by decide) (by decide) (by decide) (by decide) d_RK_writeAll_2 (fun q17 H wo => ?_)
  obtain ⟨n, en⟩ : ∃ z, z = setA n 17 ((8 : Int32)).toNatClampNeg := ⟨_, rfl⟩
  have hD := nm_at hD en
  try dsimp only at hD
  obtain ⟨σ2, eσ2⟩ : ∃ z, z = zC σ 17 := ⟨_, rfl⟩
  have hD := nm_at hD eσ2
  try dsimp only at hD
  obtain ⟨ad, ead⟩ : ∃ z, z = setA ad 17 q17 := ⟨_, rfl⟩
  rw [wl_grow (L := [2, 1, 9, 10, 11, 12, 13, 14]) (ad1 := ad) (n1 := n) (σ1 := σ2) (a := 17) (by decide) (by rw [ead]; exact setA_s _ _ _) (fun b hb => by rw [ead]; exact setA_n _ _ hb) (fun b hb => by rw [en]; exact setA_n _ _ hb) (fun b hb => by rw [eσ2]; exact zC_1 b hb) (fun b hb => by rw [eσ2]; exact zC_2 b hb) (by rw [cel_17, en, eσ2, setA_s]; rfl)] at wo
  try dsimp only [List.append, List.cons_append, List.nil_append] at wo
  have a2 : ad 2 = q2 := by rw [ead]; exact (setA_n _ _ (by decide)).trans a2
  have a1 : ad 1 = q1 := by rw [ead]; exact (setA_n _ _ (by decide)).trans a1
  have a9 : ad 9 = q9 := by rw [ead]; exact (setA_n _ _ (by decide)).trans a9
  have a10 : ad 10 = q10 := by rw [ead]; exact (setA_n _ _ (by decide)).trans a10
  have a11 : ad 11 = q11 := by rw [ead]; exact (setA_n _ _ (by decide)).trans a11
  have a12 : ad 12 = q12 := by rw [ead]; exact (setA_n _ _ (by decide)).trans a12
  have a13 : ad 13 = q13 := by rw [ead]; exact (setA_n _ _ (by decide)).trans a13
  have a14 : ad 14 = q14 := by rw [ead]; exact (setA_n _ _ (by decide)).trans a14
  have a17 : ad 17 = q17 := by rw [ead]; exact setA_s _ _ _
  refine lv_astore_n (lv' := [(1, .ref q17), (0, .ref q2)]) hx hb d_RK_writeAll_4 rfl hl (by decide) rfl (fun ls hl => ?_)
  refine lv_iconst (v := 0) hx hb d_RK_writeAll_5 (by decide) ?_
  refine lv_istore_n (lv' := [(2, .int (0 : Int32)), (1, .ref q17), (0, .ref q2)]) hx hb d_RK_writeAll_6 rfl hl (by decide) rfl (fun ls hl => ?_)
  have lp31 : ∀ (k5 : Nat) (σ3 : HS) (x6 : Int32) (H : Heap) (locs : List Loc) (ls : Array Slot) (res4 : HS), D_RK_writeAll_L7 F n  k5 σ3 x6 = some res4 → (∀ (σ30 : HS) (H : Heap) (locs : List Loc) (ls : Array Slot), res4 = σ30 → Wo E A0 s.heap (wl E ad n [2, 1, 9, 10, 11, 12, 13, 14, 17] σ30) H locs → lv_has ls 5 [(1, .ref q17), (0, .ref q2)] → W p l e ({ frames := 2, cells := 1, slots := 8, locals := 70 }) s m aa below meth c H locs 1 8 QQ (F0 m 102 ls [])) → Wo E A0 s.heap (wl E ad n [2, 1, 9, 10, 11, 12, 13, 14, 17] σ3) H locs → lv_has ls 5 [(2, .int x6), (1, .ref q17), (0, .ref q2)] → W p l e ({ frames := 2, cells := 1, slots := 8, locals := 70 }) s m aa below meth c H locs 1 8 QQ (F0 m 7 ls []) := by
    intro k5
    induction k5 with
    | zero =>
      intro σ3 x6 H locs ls res4 hD
      rw [D_RK_writeAll_L7.eq_1] at hD
      cases hD
    | succ k5 ih =>
      intro σ3 x6 H locs ls res4 hD hex wo hl
      rw [D_RK_writeAll_L7.eq_2] at hD
      refine lv_iload_n hx hb d_RK_writeAll_7 rfl (lv_at hl 0 rfl) ?_
      refine lv_aload_n hx hb d_RK_writeAll_8 rfl (lv_at hl 2 rfl) ?_
      refine g_getQ cx wo a2 (by decide) (cel_2 E ad n σ3) rfl in_RK 1 (by decide) wf_RK_9 rfl d_RK_writeAll_9 ?_
      rw [a1]
      refine g_getQ cx wo a1 (by decide) (cel_1 E ad n σ3) rfl in_LA 0 (by decide) wf_RK_15 rfl d_RK_writeAll_12 ?_
      refine lv_icmp_ge (tgt := 102) hx hb d_RK_writeAll_15 (by decide) (fun c7 => ?_) (fun c7 => ?_)
      · have hD := ite_p hD c7
        exact hex σ3 _ _ _ (Option.some.inj hD).symm wo (lv_sub hl [1, 2] rfl)
      · have hD := ite_n hD c7
        refine lv_aload_n hx hb d_RK_writeAll_18 rfl (lv_at hl 2 rfl) ?_
        refine g_getQ cx wo a2 (by decide) (cel_2 E ad n σ3) rfl in_RK 1 (by decide) wf_RK_9 rfl d_RK_writeAll_19 ?_
        rw [a1]
        refine g_getQ cx wo a1 (by decide) (cel_1 E ad n σ3) rfl in_LA 9 (by decide) wf_RK_44 rfl d_RK_writeAll_22 ?_
        rw [a9]
        refine lv_iload_n hx hb d_RK_writeAll_25 rfl (lv_at hl 0 rfl) ?_
        obtain ⟨g8, hD⟩ := grd_s hD
        refine g_ialdQ cx wo a9 (by decide) (cel_9 E ad n σ3) g8 d_RK_writeAll_26 ?_
        refine lv_topi (fun x9 ex9 => ?_)
        have hD := nm_at hD ex9
        try dsimp only at hD
        refine lv_istore_n (lv' := [(3, .int x9), (2, .int x6), (1, .ref q17), (0, .ref q2)]) hx hb d_RK_writeAll_27 rfl hl (by decide) rfl (fun ls hl => ?_)
        refine lv_aload_n hx hb d_RK_writeAll_28 rfl (lv_at hl 3 rfl) ?_
        refine lv_iload_n hx hb d_RK_writeAll_29 rfl (lv_at hl 0 rfl) ?_
        refine lv_aload_n hx hb d_RK_writeAll_30 rfl (lv_at hl 2 rfl) ?_
        refine lv_iload_n hx hb d_RK_writeAll_31 rfl (lv_at hl 1 rfl) ?_
        refine lv_aload_n hx hb d_RK_writeAll_32 rfl (lv_at hl 3 rfl) ?_
        refine g_getQ cx wo a2 (by decide) (cel_2 E ad n σ3) rfl in_RK 1 (by decide) wf_RK_9 rfl d_RK_writeAll_33 ?_
        rw [a1]
        refine g_getQ cx wo a1 (by decide) (cel_1 E ad n σ3) rfl in_LA 6 (by decide) wf_RK_48 rfl d_RK_writeAll_36 ?_
        obtain ⟨j10, hj10, hD⟩ := jn_s hD
        try dsimp only at hD
        have j10_ok : ∀ (x11 : Int32) (H : Heap) (locs : List Loc) (ls : Array Slot), j10 x11 = some res4 → Wo E A0 s.heap (wl E ad n [2, 1, 9, 10, 11, 12, 13, 14, 17] σ3) H locs → lv_has ls 5 [(3, .int x9), (2, .int x6), (1, .ref q17), (0, .ref q2)] → W p l e ({ frames := 2, cells := 1, slots := 8, locals := 70 }) s m aa below meth c H locs 1 8 QQ (F0 m 49 ls [.int x11, .ref q17, .int x9, .ref q2]) := by
          intro x11 H locs ls hD wo hl
          rw [hj10] at hD
          try dsimp only at hD
          obtain ⟨σ13, hcx12, hD⟩ := bd_s hD
          try dsimp only [nm2] at hD
          refine call_Vv cx wo (k_RK_store_17 l E ad n [2, 1, 9, 10, 11, 12, 13, 14, 17] (by decide) F σ3 σ13 x9 x11 hcx12) (by decide) (cel_2 E ad n σ3) rfl rfl mw_RK_store wm_RK_51 ⟨by decide, by decide⟩ ⟨by decide, by decide⟩ hl.1 (by rw [← a2, ← a17]; rfl) (Nat.le_of_ble_eq_true rfl) d_RK_writeAll_49 (fun H locs wo => ?_)
          refine lv_iconst (v := 1) hx hb d_RK_writeAll_52 (by decide) ?_
          refine lv_istore (lv' := [(4, .int (1 : Int32)), (3, .int x9), (2, .int x6), (1, .ref q17), (0, .ref q2)]) hx hb d_RK_writeAll_53 hl (by decide) rfl (fun ls hl => ?_)
          have lp25 : ∀ (k16 : Nat) (σ14 : HS) (x17 : Int32) (H : Heap) (locs : List Loc) (ls : Array Slot) (res15 : HS), D_RK_writeAll_L55 F n x9 x6 k16 σ14 x17 = some res15 → (∀ (σ24 : HS) (H : Heap) (locs : List Loc) (ls : Array Slot), res15 = σ24 → Wo E A0 s.heap (wl E ad n [2, 1, 9, 10, 11, 12, 13, 14, 17] σ24) H locs → lv_has ls 5 [(2, .int x6), (1, .ref q17), (0, .ref q2)] → W p l e ({ frames := 2, cells := 1, slots := 8, locals := 70 }) s m aa below meth c H locs 1 8 QQ (F0 m 96 ls [])) → Wo E A0 s.heap (wl E ad n [2, 1, 9, 10, 11, 12, 13, 14, 17] σ14) H locs → lv_has ls 5 [(4, .int x17), (3, .int x9), (2, .int x6), (1, .ref q17), (0, .ref q2)] → W p l e ({ frames := 2, cells := 1, slots := 8, locals := 70 }) s m aa below meth c H locs 1 8 QQ (F0 m 55 ls []) := by
            intro k16
            induction k16 with
            | zero =>
              intro σ14 x17 H locs ls res15 hD
              rw [D_RK_writeAll_L55.eq_1] at hD
              cases hD
            | succ k16 ih =>
              intro σ14 x17 H locs ls res15 hD hex wo hl
              rw [D_RK_writeAll_L55.eq_2] at hD
              refine lv_iload hx hb d_RK_writeAll_55 (lv_at hl 0 rfl) ?_
              refine lv_aload_n hx hb d_RK_writeAll_57 rfl (lv_at hl 4 rfl) ?_
              refine g_getQ cx wo a2 (by decide) (cel_2 E ad n σ14) rfl in_RK 1 (by decide) wf_RK_9 rfl d_RK_writeAll_58 ?_
              rw [a1]
              refine g_getQ cx wo a1 (by decide) (cel_1 E ad n σ14) rfl in_LA 2 (by decide) wf_RK_55 rfl d_RK_writeAll_61 ?_
              refine lv_icmp_ge (tgt := 96) hx hb d_RK_writeAll_64 (by decide) (fun c18 => ?_) (fun c18 => ?_)
              · have hD := ite_p hD c18
                exact hex σ14 _ _ _ (Option.some.inj hD).symm wo (lv_sub hl [2, 3, 4] rfl)
              · have hD := ite_n hD c18
                refine lv_aload_n hx hb d_RK_writeAll_67 rfl (lv_at hl 4 rfl) ?_
                refine lv_iload_n hx hb d_RK_writeAll_68 rfl (lv_at hl 1 rfl) ?_
                refine lv_aload_n hx hb d_RK_writeAll_69 rfl (lv_at hl 4 rfl) ?_
                refine g_getQ cx wo a2 (by decide) (cel_2 E ad n σ14) rfl in_RK 1 (by decide) wf_RK_9 rfl d_RK_writeAll_70 ?_
                rw [a1]
                refine g_getQ cx wo a1 (by decide) (cel_1 E ad n σ14) rfl in_LA 9 (by decide) wf_RK_44 rfl d_RK_writeAll_73 ?_
                rw [a9]
                refine lv_aload_n hx hb d_RK_writeAll_76 rfl (lv_at hl 4 rfl) ?_
                refine g_getQ cx wo a2 (by decide) (cel_2 E ad n σ14) rfl in_RK 1 (by decide) wf_RK_9 rfl d_RK_writeAll_77 ?_
                rw [a1]
                refine lv_iload hx hb d_RK_writeAll_80 (lv_at hl 0 rfl) ?_
                refine lv_iload_n hx hb d_RK_writeAll_82 rfl (lv_at hl 2 rfl) ?_
                obtain ⟨x19, hcx19, hD⟩ := bd_s hD
                try dsimp only [nm2] at hD
                refine call_Vi cx wo (k_LA_slot l E ad n [2, 1, 9, 10, 11, 12, 13, 14, 17] (by decide) F σ14  x17 x6 x19 hcx19) (by decide) (cel_1 E ad n σ14) rfl rfl mw_LA_slot wm_RK_58 ⟨by decide, by decide⟩ ⟨by decide, by decide⟩ hl.1 (by rw [← a1]; rfl) (Nat.le_of_ble_eq_true rfl) d_RK_writeAll_83 (fun H locs wo => ?_)
                obtain ⟨g20, hD⟩ := grd_s hD
                refine g_ialdQ cx wo a9 (by decide) (cel_9 E ad n σ14) g20 d_RK_writeAll_86 ?_
                obtain ⟨σ22, hcx21, hD⟩ := bd_s hD
                try dsimp only [nm2] at hD
                refine call_Vv cx wo (k_RK_storeLike l E ad n [2, 1, 9, 10, 11, 12, 13, 14, 17] (by decide) F σ14 σ22 x9 (σ14.1 9 (x19).toNatClampNeg) hcx21) (by decide) (cel_2 E ad n σ14) rfl rfl mw_RK_storeLike wm_RK_62 ⟨by decide, by decide⟩ ⟨by decide, by decide⟩ hl.1 (by rw [← a2]; rfl) (Nat.le_of_ble_eq_true rfl) d_RK_writeAll_87 (fun H locs wo => ?_)
                obtain ⟨x23, ex23⟩ : ∃ y : Int32, y = x17 + (1 : Int32) := ⟨_, rfl⟩
                have hD := nm_at hD ex23
                try dsimp only at hD
                refine lv_iinc (v := x23) (lv' := [(4, .int x23), (3, .int x9), (2, .int x6), (1, .ref q17), (0, .ref q2)]) hx hb d_RK_writeAll_90 hl (k := 0) rfl (by rw [ex23]; rfl) (by decide) rfl (fun ls hl => ?_)
                refine lv_goto (tgt := 55) hx hb d_RK_writeAll_93 (by decide) ?_
                exact ih σ22 x23 _ _ _ _ hD hex wo (lv_sub hl [0, 1, 2, 3, 4] rfl)
          obtain ⟨res26, hr27, hD⟩ := bd_s hD
          refine lp25 F σ13 (1 : Int32) _ _ _ _ hr27 (fun σ24 H locs ls hz wo hl => ?_) wo (lv_sub hl [0, 1, 2, 3, 4] rfl)
          have hz := hz.symm
          subst hz
          try dsimp only at hD
          obtain ⟨x28, ex28⟩ : ∃ y : Int32, y = x6 + (1 : Int32) := ⟨_, rfl⟩
          have hD := nm_at hD ex28
          try dsimp only at hD
          refine lv_iinc (v := x28) (lv' := [(2, .int x28), (1, .ref q17), (0, .ref q2)]) hx hb d_RK_writeAll_96 hl (k := 0) rfl (by rw [ex28]; rfl) (by decide) rfl (fun ls hl => ?_)
          refine lv_goto (tgt := 7) hx hb d_RK_writeAll_99 (by decide) ?_
          exact ih σ24 x28 _ _ _ _ hD hex wo (lv_sub hl [0, 1, 2] rfl)
        refine lv_icmp_ge (tgt := 48) hx hb d_RK_writeAll_39 (by decide) (fun c29 => ?_) (fun c29 => ?_)
        · have hD := ite_p hD c29
          refine lv_iconst (v := 0) hx hb d_RK_writeAll_48 (by decide) ?_
          exact j10_ok (0 : Int32) _ _ _ hD wo (lv_sub hl [0, 1, 2, 3] rfl)
        · have hD := ite_n hD c29
          refine lv_iload_n hx hb d_RK_writeAll_42 rfl (lv_at hl 1 rfl) ?_
          refine lv_iconst (v := 1) hx hb d_RK_writeAll_43 (by decide) ?_
          refine lv_iadd hx hb d_RK_writeAll_44 ?_
          refine lv_goto (tgt := 49) hx hb d_RK_writeAll_45 (by decide) ?_
          exact j10_ok (x6 + (1 : Int32)) _ _ _ hD wo (lv_sub hl [0, 1, 2, 3] rfl)
  obtain ⟨res32, hr33, hD⟩ := bd_s hD
  refine lp31 F σ2 (0 : Int32) _ _ _ _ hr33 (fun σ30 H locs ls hz wo hl => ?_) wo (lv_sub hl [0, 1, 2] rfl)
  have hz := hz.symm
  subst hz
  try dsimp only at hD
  refine lv_aload_n hx hb d_RK_writeAll_102 rfl (lv_at hl 1 rfl) ?_
  refine lv_aload_n hx hb d_RK_writeAll_103 rfl (lv_at hl 1 rfl) ?_
  refine g_getQ cx wo a2 (by decide) (cel_2 E ad n σ30) rfl in_RK 1 (by decide) wf_RK_9 rfl d_RK_writeAll_104 ?_
  rw [a1]
  refine lv_iconst (v := 0) hx hb d_RK_writeAll_107 (by decide) ?_
  obtain ⟨x34, hcx34, hD⟩ := bd_s hD
  try dsimp only [nm2] at hD
  refine call_Vi cx wo (k_LA_logOf l E ad n [2, 1, 9, 10, 11, 12, 13, 14, 17] (by decide) F σ30  (0 : Int32) x34 hcx34) (by decide) (cel_1 E ad n σ30) rfl rfl mw_LA_logOf wm_RK_66 ⟨by decide, by decide⟩ ⟨by decide, by decide⟩ hl.1 (by rw [← a1]; rfl) (Nat.le_of_ble_eq_true rfl) d_RK_writeAll_108 (fun H locs wo => ?_)
  refine lv_aload_n hx hb d_RK_writeAll_111 rfl (lv_at hl 0 rfl) ?_
  refine lv_iconst (v := 0) hx hb d_RK_writeAll_112 (by decide) ?_
  obtain ⟨σ36, hcx35, hD⟩ := bd_s hD
  try dsimp only [nm2] at hD
  refine call_Vv cx wo (k_RK_store_17 l E ad n [2, 1, 9, 10, 11, 12, 13, 14, 17] (by decide) F σ30 σ36 x34 (0 : Int32) hcx35) (by decide) (cel_2 E ad n σ30) rfl rfl mw_RK_store wm_RK_51 ⟨by decide, by decide⟩ ⟨by decide, by decide⟩ hl.1 (by rw [← a2, ← a17]; rfl) (Nat.le_of_ble_eq_true rfl) d_RK_writeAll_113 (fun H locs wo => ?_)
  refine lv_iconst (v := 1) hx hb d_RK_writeAll_116 (by decide) ?_
  refine lv_istore_n (lv' := [(2, .int (1 : Int32)), (1, .ref q17), (0, .ref q2)]) hx hb d_RK_writeAll_117 rfl hl (by decide) rfl (fun ls hl => ?_)
  have lp48 : ∀ (k39 : Nat) (σ37 : HS) (x40 : Int32) (H : Heap) (locs : List Loc) (ls : Array Slot) (res38 : HS), D_RK_writeAll_L118 F n  k39 σ37 x40 = some res38 → (∀ (σ47 : HS) (H : Heap) (locs : List Loc) (ls : Array Slot), res38 = σ47 → Wo E A0 s.heap (wl E ad n [2, 1, 9, 10, 11, 12, 13, 14, 17] σ47) H locs → lv_has ls 5 [] → W p l e ({ frames := 2, cells := 1, slots := 8, locals := 70 }) s m aa below meth c H locs 1 8 QQ (F0 m 155 ls [])) → Wo E A0 s.heap (wl E ad n [2, 1, 9, 10, 11, 12, 13, 14, 17] σ37) H locs → lv_has ls 5 [(2, .int x40), (0, .ref q2)] → W p l e ({ frames := 2, cells := 1, slots := 8, locals := 70 }) s m aa below meth c H locs 1 8 QQ (F0 m 118 ls []) := by
    intro k39
    induction k39 with
    | zero =>
      intro σ37 x40 H locs ls res38 hD
      rw [D_RK_writeAll_L118.eq_1] at hD
      cases hD
    | succ k39 ih =>
      intro σ37 x40 H locs ls res38 hD hex wo hl
      rw [D_RK_writeAll_L118.eq_2] at hD
      refine lv_iload_n hx hb d_RK_writeAll_118 rfl (lv_at hl 0 rfl) ?_
      refine lv_aload_n hx hb d_RK_writeAll_119 rfl (lv_at hl 1 rfl) ?_
      refine g_getQ cx wo a2 (by decide) (cel_2 E ad n σ37) rfl in_RK 1 (by decide) wf_RK_9 rfl d_RK_writeAll_120 ?_
      rw [a1]
      refine g_getQ cx wo a1 (by decide) (cel_1 E ad n σ37) rfl in_LA 0 (by decide) wf_RK_15 rfl d_RK_writeAll_123 ?_
      refine lv_icmp_ge (tgt := 155) hx hb d_RK_writeAll_126 (by decide) (fun c41 => ?_) (fun c41 => ?_)
      · have hD := ite_p hD c41
        exact hex σ37 _ _ _ (Option.some.inj hD).symm wo (lv_sub hl [] rfl)
      · have hD := ite_n hD c41
        refine lv_aload_n hx hb d_RK_writeAll_129 rfl (lv_at hl 1 rfl) ?_
        refine lv_aload_n hx hb d_RK_writeAll_130 rfl (lv_at hl 1 rfl) ?_
        refine g_getQ cx wo a2 (by decide) (cel_2 E ad n σ37) rfl in_RK 1 (by decide) wf_RK_9 rfl d_RK_writeAll_131 ?_
        rw [a1]
        refine lv_iconst (v := 0) hx hb d_RK_writeAll_134 (by decide) ?_
        obtain ⟨x42, hcx42, hD⟩ := bd_s hD
        try dsimp only [nm2] at hD
        refine call_Vi cx wo (k_LA_logOf l E ad n [2, 1, 9, 10, 11, 12, 13, 14, 17] (by decide) F σ37  (0 : Int32) x42 hcx42) (by decide) (cel_1 E ad n σ37) rfl rfl mw_LA_logOf wm_RK_66 ⟨by decide, by decide⟩ ⟨by decide, by decide⟩ hl.1 (by rw [← a1]; rfl) (Nat.le_of_ble_eq_true rfl) d_RK_writeAll_135 (fun H locs wo => ?_)
        refine lv_aload_n hx hb d_RK_writeAll_138 rfl (lv_at hl 1 rfl) ?_
        refine g_getQ cx wo a2 (by decide) (cel_2 E ad n σ37) rfl in_RK 1 (by decide) wf_RK_9 rfl d_RK_writeAll_139 ?_
        rw [a1]
        refine lv_iload_n hx hb d_RK_writeAll_142 rfl (lv_at hl 0 rfl) ?_
        obtain ⟨x43, hcx43, hD⟩ := bd_s hD
        try dsimp only [nm2] at hD
        refine call_Vi cx wo (k_LA_logOf l E ad n [2, 1, 9, 10, 11, 12, 13, 14, 17] (by decide) F σ37  x40 x43 hcx43) (by decide) (cel_1 E ad n σ37) rfl rfl mw_LA_logOf wm_RK_66 ⟨by decide, by decide⟩ ⟨by decide, by decide⟩ hl.1 (by rw [← a1]; rfl) (Nat.le_of_ble_eq_true rfl) d_RK_writeAll_143 (fun H locs wo => ?_)
        obtain ⟨σ45, hcx44, hD⟩ := bd_s hD
        try dsimp only [nm2] at hD
        refine call_Vv cx wo (k_RK_storeLike l E ad n [2, 1, 9, 10, 11, 12, 13, 14, 17] (by decide) F σ37 σ45 x42 x43 hcx44) (by decide) (cel_2 E ad n σ37) rfl rfl mw_RK_storeLike wm_RK_62 ⟨by decide, by decide⟩ ⟨by decide, by decide⟩ hl.1 (by rw [← a2]; rfl) (Nat.le_of_ble_eq_true rfl) d_RK_writeAll_146 (fun H locs wo => ?_)
        obtain ⟨x46, ex46⟩ : ∃ y : Int32, y = x40 + (1 : Int32) := ⟨_, rfl⟩
        have hD := nm_at hD ex46
        try dsimp only at hD
        refine lv_iinc (v := x46) (lv' := [(2, .int x46), (0, .ref q2)]) hx hb d_RK_writeAll_149 hl (k := 0) rfl (by rw [ex46]; rfl) (by decide) rfl (fun ls hl => ?_)
        refine lv_goto (tgt := 118) hx hb d_RK_writeAll_152 (by decide) ?_
        exact ih σ45 x46 _ _ _ _ hD hex wo (lv_sub hl [0, 1] rfl)
  obtain ⟨res49, hr50, hD⟩ := bd_s hD
  refine lp48 F σ36 (1 : Int32) _ _ _ _ hr50 (fun σ47 H locs ls hz wo hl => ?_) wo (lv_sub hl [0, 2] rfl)
  have hz := hz.symm
  subst hz
  try dsimp only at hD
  have wo := wo.sub (is := [0, 1, 2, 3, 4, 5, 6, 7]) (w' := wl E ad n [2, 1, 9, 10, 11, 12, 13, 14] σ47) (by decide) rfl
  cases hD
  rw [hA0] at wo
  rw [hQQ]
  exact tN_v ad cx wo ⟨(by intro b hb; simp only [List.mem_cons, List.not_mem_nil, or_false] at hb; rcases hb with rfl | rfl | rfl | rfl | rfl | rfl | rfl | rfl <;> first | exact a2.trans o2.symm | exact a1.trans o1.symm | exact a9.trans o9.symm | exact a10.trans o10.symm | exact a11.trans o11.symm | exact a12.trans o12.symm | exact a13.trans o13.symm | exact a14.trans o14.symm), trivial⟩ d_RK_writeAll_155
def D_RK_init_L67 (F : Nat) (n : Nat → Nat)  : Nat → HS → Int32 → Option (HS)
  | 0, _, _ => none
  | k14 + 1, σ12, x15 =>
      (if (σ12.1 1 0) ≤ x15 then
        some σ12
      else
        grd (inb x15 (n 10)) (
        nm (stI σ12 10 (x15).toNatClampNeg (vp_nar .boolean (1 : Int32))) (fun σ18 =>
        nm (x15 + (1 : Int32)) (fun x19 =>
        D_RK_init_L67 F n  k14 σ18 x19))))
def D_RK_init (F : Nat) (n : Nat → Nat) (σ : HS)  : Option ((Nat → Nat) × HS) :=
grd (okN (σ.1 1 0) 16) (
  nm (setA n 10 ((σ.1 1 0)).toNatClampNeg) (fun n =>
  nm (zC σ 10) (fun σ2 =>
  grd (okN ((σ2.1 1 8) * (9 : Int32)) 9360) (
  nm (setA n 11 (((σ2.1 1 8) * (9 : Int32))).toNatClampNeg) (fun n =>
  nm (zC σ2 11) (fun σ4 =>
  grd (okN ((σ4.1 1 8) * (9 : Int32)) 9360) (
  nm (setA n 12 (((σ4.1 1 8) * (9 : Int32))).toNatClampNeg) (fun n =>
  nm (zC σ4 12) (fun σ6 =>
  grd (okN (σ6.1 1 8) 1040) (
  nm (setA n 13 ((σ6.1 1 8)).toNatClampNeg) (fun n =>
  nm (zC σ6 13) (fun σ8 =>
  grd (okN (σ8.1 1 8) 1040) (
  nm (setA n 14 ((σ8.1 1 8)).toNatClampNeg) (fun n =>
  nm (zC σ8 14) (fun σ10 =>
  nm (stC σ10 2 (fun (j : Nat) => (cond (Nat.beq j 0) (0) (cond (Nat.beq j 1) (0) (cond (Nat.beq j 2) (0) (cond (Nat.beq j 3) (0) (cond (Nat.beq j 4) (0) (cond (Nat.beq j 5) (0) (0)))))) : Int32))) (fun σ11 =>
  (D_RK_init_L67 F n  F σ11 (0 : Int32)).bind (fun (σ20 : HS) =>
  (D_RK_writeAll F n σ20 ).bind (fun (qkc24 : (Nat → Nat) × HS) => nm2 qkc24 (fun (n : Nat → Nat) (σ26 : HS) =>
    some (n, σ26))))))))))))))))))))
set_option maxRecDepth 100000 in
set_option maxHeartbeats 8000000 in
theorem k_RK_init (l : Launch) (E : EV) (ad n : Nat → Nat) (F : Nat) (σ : HS) (qP : Nat)  (no : Nat → Nat) (σo : HS) (hD : D_RK_init F n σ  = some (no, σo)) : CtN l E y_RK_init c_RK_init 3 none ({ frames := 3, cells := 6, slots := 20824, locals := 94 }) [.ref qP, .ref (ad 1)] ((qP, .inr (3, [.null, .null, .null, .null, .null, .null])) :: wl E ad n [1, 9] σ) (fun u => (∀ b ∈ ([1, 9] : List Nat), u b = ad b) ∧ u 2 = qP) (fun u => wl E u no [2, 1, 9, 10, 11, 12, 13, 14] σo) := by
  refine fun sz => entC (by decide) rfl (Nat.le_of_ble_eq_true rfl) ?_
  intro p e s m below meth c hsz cx wo ls hl
  obtain ⟨cx, hin⟩ := cx
  have hx := cx.1.1
  have hb := cx.1.2.1
  have hown := cx.1.2.2.2.1
  have hts := cx.1.2.2.2.2
  obtain ⟨A0, hA0⟩ : ∃ z, z = va_A ((qP, .inr (3, [.null, .null, .null, .null, .null, .null])) :: wl E ad n [1, 9] σ) sz := ⟨_, rfl⟩
  rw [← hA0] at wo
  refine W_gen (fun QQ hQQ => ?_)
  obtain ⟨aa, haa⟩ : ∃ z, z = ([.ref qP, .ref (ad 1)] : List Value).toArray := ⟨_, rfl⟩
  rw [← haa] at cx hQQ hts ⊢
  obtain ⟨q1, o1⟩ : ∃ z, ad 1 = z := ⟨_, rfl⟩
  have a1 := o1
  obtain ⟨q9, o9⟩ : ∃ z, ad 9 = z := ⟨_, rfl⟩
  have a9 := o9
  have hl : lv_has ls 3 [(0, .ref qP), (1, .ref q1)] := by rw [← o1]; exact hl
  rw [D_RK_init] at hD
  refine lv_aload_n hx hb d_RK_init_0 rfl (lv_at hl 0 rfl) ?_
  refine c_obj cx wm_RK_3 hl.1 ⟨by decide, by decide⟩ (Nat.le_of_ble_eq_true rfl) d_RK_init_1 ?_
  refine lv_aload_n hx hb d_RK_init_4 rfl (lv_at hl 0 rfl) ?_
  refine lv_aload_n hx hb d_RK_init_5 rfl (lv_at hl 1 rfl) ?_
  refine r_putF cx hin wo 0 (w' := ((qP, .inr (3, [.null, .ref q1, .null, .null, .null, .null])) :: wl E ad n [1, 9] σ)) rfl rfl in_RK t_RK tok_RK n_RK 1 (by decide) wf_RK_9 rfl rfl rfl rfl (Nat.le_of_ble_eq_true rfl) rfl d_RK_init_6 (fun H locs wo => ?_)
  refine lv_aload_n hx hb d_RK_init_9 rfl (lv_at hl 0 rfl) ?_
  refine lv_aload_n hx hb d_RK_init_10 rfl (lv_at hl 1 rfl) ?_
  refine g_getP cx wo a1 (by decide) (cel_1 E ad n σ) rfl in_LA 0 (by decide) wf_RK_15 rfl d_RK_init_11 ?_
  obtain ⟨g1, hD⟩ := grd_s hD
  obtain ⟨g1a, g1b⟩ := of_decide_eq_true g1
  refine c_newa cx wo .boolean .boolean rfl wa_boolean rfl 2 rfl (a0 := (((σ.1 1 0)).toNatClampNeg, .inl (fun _ => 0))) (fun _ => rfl) g1a rfl g1b (by decide) (by decide) (by decide) (by decide) d_RK_init_14 (fun q10 H wo => ?_)
  obtain ⟨n, en⟩ : ∃ z, z = setA n 10 ((σ.1 1 0)).toNatClampNeg := ⟨_, rfl⟩
  have hD := nm_at hD en
  try dsimp only at hD
  obtain ⟨σ2, eσ2⟩ : ∃ z, z = zC σ 10 := ⟨_, rfl⟩
  have hD := nm_at hD eσ2
  try dsimp only at hD
  obtain ⟨ad, ead⟩ : ∃ z, z = setA ad 10 q10 := ⟨_, rfl⟩
  rw [List.cons_append, wl_grow (L := [1, 9]) (ad1 := ad) (n1 := n) (σ1 := σ2) (a := 10) (by decide) (by rw [ead]; exact setA_s _ _ _) (fun b hb => by rw [ead]; exact setA_n _ _ hb) (fun b hb => by rw [en]; exact setA_n _ _ hb) (fun b hb => by rw [eσ2]; exact zC_1 b hb) (fun b hb => by rw [eσ2]; exact zC_2 b hb) (by rw [cel_10, en, eσ2, setA_s]; rfl)] at wo
  try dsimp only [List.append, List.cons_append, List.nil_append] at wo
  have a1 : ad 1 = q1 := by rw [ead]; exact (setA_n _ _ (by decide)).trans a1
  have a9 : ad 9 = q9 := by rw [ead]; exact (setA_n _ _ (by decide)).trans a9
  have a10 : ad 10 = q10 := by rw [ead]; exact setA_s _ _ _
  refine r_putF cx hin wo 0 (w' := ((qP, .inr (3, [.ref q10, .ref q1, .null, .null, .null, .null])) :: wl E ad n [1, 9, 10] σ2)) rfl rfl in_RK t_RK tok_RK n_RK 0 (by decide) wf_RK_21 rfl rfl rfl rfl (Nat.le_of_ble_eq_true rfl) rfl d_RK_init_16 (fun H locs wo => ?_)
  refine lv_aload_n hx hb d_RK_init_19 rfl (lv_at hl 0 rfl) ?_
  refine lv_aload_n hx hb d_RK_init_20 rfl (lv_at hl 1 rfl) ?_
  refine g_getP cx wo a1 (by decide) (cel_1 E ad n σ2) rfl in_LA 8 (by decide) wf_RK_25 rfl d_RK_init_21 ?_
  refine lv_bipush (v := 9) hx hb d_RK_init_24 (by decide) ?_
  refine lv_imul hx hb d_RK_init_26 ?_
  obtain ⟨g3, hD⟩ := grd_s hD
  obtain ⟨g3a, g3b⟩ := of_decide_eq_true g3
  refine c_newa cx wo .long .long rfl wa_long rfl 1 rfl (a0 := ((((σ2.1 1 8) * (9 : Int32))).toNatClampNeg, .inr (.inl (fun _ => 0)))) (fun _ => rfl) g3a rfl g3b (by decide) (by decide) (by decide) (by decide) d_RK_init_27 (fun q11 H wo => ?_)
  obtain ⟨n, en⟩ : ∃ z, z = setA n 11 (((σ2.1 1 8) * (9 : Int32))).toNatClampNeg := ⟨_, rfl⟩
  have hD := nm_at hD en
  try dsimp only at hD
  obtain ⟨σ4, eσ4⟩ : ∃ z, z = zC σ2 11 := ⟨_, rfl⟩
  have hD := nm_at hD eσ4
  try dsimp only at hD
  obtain ⟨ad, ead⟩ : ∃ z, z = setA ad 11 q11 := ⟨_, rfl⟩
  rw [List.cons_append, wl_grow (L := [1, 9, 10]) (ad1 := ad) (n1 := n) (σ1 := σ4) (a := 11) (by decide) (by rw [ead]; exact setA_s _ _ _) (fun b hb => by rw [ead]; exact setA_n _ _ hb) (fun b hb => by rw [en]; exact setA_n _ _ hb) (fun b hb => by rw [eσ4]; exact zC_1 b hb) (fun b hb => by rw [eσ4]; exact zC_2 b hb) (by rw [cel_11, en, eσ4, setA_s]; rfl)] at wo
  try dsimp only [List.append, List.cons_append, List.nil_append] at wo
  have a1 : ad 1 = q1 := by rw [ead]; exact (setA_n _ _ (by decide)).trans a1
  have a9 : ad 9 = q9 := by rw [ead]; exact (setA_n _ _ (by decide)).trans a9
  have a10 : ad 10 = q10 := by rw [ead]; exact (setA_n _ _ (by decide)).trans a10
  have a11 : ad 11 = q11 := by rw [ead]; exact setA_s _ _ _
  refine r_putF cx hin wo 0 (w' := ((qP, .inr (3, [.ref q10, .ref q1, .ref q11, .null, .null, .null])) :: wl E ad n [1, 9, 10, 11] σ4)) rfl rfl in_RK t_RK tok_RK n_RK 2 (by decide) wf_RK_28 rfl rfl rfl rfl (Nat.le_of_ble_eq_true rfl) rfl d_RK_init_29 (fun H locs wo => ?_)
  refine lv_aload_n hx hb d_RK_init_32 rfl (lv_at hl 0 rfl) ?_
  refine lv_aload_n hx hb d_RK_init_33 rfl (lv_at hl 1 rfl) ?_
  refine g_getP cx wo a1 (by decide) (cel_1 E ad n σ4) rfl in_LA 8 (by decide) wf_RK_25 rfl d_RK_init_34 ?_
  refine lv_bipush (v := 9) hx hb d_RK_init_37 (by decide) ?_
  refine lv_imul hx hb d_RK_init_39 ?_
  obtain ⟨g5, hD⟩ := grd_s hD
  obtain ⟨g5a, g5b⟩ := of_decide_eq_true g5
  refine c_newa cx wo .long .long rfl wa_long rfl 1 rfl (a0 := ((((σ4.1 1 8) * (9 : Int32))).toNatClampNeg, .inr (.inl (fun _ => 0)))) (fun _ => rfl) g5a rfl g5b (by decide) (by decide) (by decide) (by decide) d_RK_init_40 (fun q12 H wo => ?_)
  obtain ⟨n, en⟩ : ∃ z, z = setA n 12 (((σ4.1 1 8) * (9 : Int32))).toNatClampNeg := ⟨_, rfl⟩
  have hD := nm_at hD en
  try dsimp only at hD
  obtain ⟨σ6, eσ6⟩ : ∃ z, z = zC σ4 12 := ⟨_, rfl⟩
  have hD := nm_at hD eσ6
  try dsimp only at hD
  obtain ⟨ad, ead⟩ : ∃ z, z = setA ad 12 q12 := ⟨_, rfl⟩
  rw [List.cons_append, wl_grow (L := [1, 9, 10, 11]) (ad1 := ad) (n1 := n) (σ1 := σ6) (a := 12) (by decide) (by rw [ead]; exact setA_s _ _ _) (fun b hb => by rw [ead]; exact setA_n _ _ hb) (fun b hb => by rw [en]; exact setA_n _ _ hb) (fun b hb => by rw [eσ6]; exact zC_1 b hb) (fun b hb => by rw [eσ6]; exact zC_2 b hb) (by rw [cel_12, en, eσ6, setA_s]; rfl)] at wo
  try dsimp only [List.append, List.cons_append, List.nil_append] at wo
  have a1 : ad 1 = q1 := by rw [ead]; exact (setA_n _ _ (by decide)).trans a1
  have a9 : ad 9 = q9 := by rw [ead]; exact (setA_n _ _ (by decide)).trans a9
  have a10 : ad 10 = q10 := by rw [ead]; exact (setA_n _ _ (by decide)).trans a10
  have a11 : ad 11 = q11 := by rw [ead]; exact (setA_n _ _ (by decide)).trans a11
  have a12 : ad 12 = q12 := by rw [ead]; exact setA_s _ _ _
  refine r_putF cx hin wo 0 (w' := ((qP, .inr (3, [.ref q10, .ref q1, .ref q11, .ref q12, .null, .null])) :: wl E ad n [1, 9, 10, 11, 12] σ6)) rfl rfl in_RK t_RK tok_RK n_RK 3 (by decide) wf_RK_32 rfl rfl rfl rfl (Nat.le_of_ble_eq_true rfl) rfl d_RK_init_42 (fun H locs wo => ?_)
  refine lv_aload_n hx hb d_RK_init_45 rfl (lv_at hl 0 rfl) ?_
  refine lv_aload_n hx hb d_RK_init_46 rfl (lv_at hl 1 rfl) ?_
  refine g_getP cx wo a1 (by decide) (cel_1 E ad n σ6) rfl in_LA 8 (by decide) wf_RK_25 rfl d_RK_init_47 ?_
  obtain ⟨g7, hD⟩ := grd_s hD
  obtain ⟨g7a, g7b⟩ := of_decide_eq_true g7
  refine c_newa cx wo .boolean .boolean rfl wa_boolean rfl 2 rfl (a0 := (((σ6.1 1 8)).toNatClampNeg, .inl (fun _ => 0))) (fun _ => rfl) g7a rfl g7b (by decide) (by decide) (by decide) (by decide) d_RK_init_50 (fun q13 H wo => ?_)
  obtain ⟨n, en⟩ : ∃ z, z = setA n 13 ((σ6.1 1 8)).toNatClampNeg := ⟨_, rfl⟩
  have hD := nm_at hD en
  try dsimp only at hD
  obtain ⟨σ8, eσ8⟩ : ∃ z, z = zC σ6 13 := ⟨_, rfl⟩
  have hD := nm_at hD eσ8
  try dsimp only at hD
  obtain ⟨ad, ead⟩ : ∃ z, z = setA ad 13 q13 := ⟨_, rfl⟩
  rw [List.cons_append, wl_grow (L := [1, 9, 10, 11, 12]) (ad1 := ad) (n1 := n) (σ1 := σ8) (a := 13) (by decide) (by rw [ead]; exact setA_s _ _ _) (fun b hb => by rw [ead]; exact setA_n _ _ hb) (fun b hb => by rw [en]; exact setA_n _ _ hb) (fun b hb => by rw [eσ8]; exact zC_1 b hb) (fun b hb => by rw [eσ8]; exact zC_2 b hb) (by rw [cel_13, en, eσ8, setA_s]; rfl)] at wo
  try dsimp only [List.append, List.cons_append, List.nil_append] at wo
  have a1 : ad 1 = q1 := by rw [ead]; exact (setA_n _ _ (by decide)).trans a1
  have a9 : ad 9 = q9 := by rw [ead]; exact (setA_n _ _ (by decide)).trans a9
  have a10 : ad 10 = q10 := by rw [ead]; exact (setA_n _ _ (by decide)).trans a10
  have a11 : ad 11 = q11 := by rw [ead]; exact (setA_n _ _ (by decide)).trans a11
  have a12 : ad 12 = q12 := by rw [ead]; exact (setA_n _ _ (by decide)).trans a12
  have a13 : ad 13 = q13 := by rw [ead]; exact setA_s _ _ _
  refine r_putF cx hin wo 0 (w' := ((qP, .inr (3, [.ref q10, .ref q1, .ref q11, .ref q12, .ref q13, .null])) :: wl E ad n [1, 9, 10, 11, 12, 13] σ8)) rfl rfl in_RK t_RK tok_RK n_RK 4 (by decide) wf_RK_35 rfl rfl rfl rfl (Nat.le_of_ble_eq_true rfl) rfl d_RK_init_52 (fun H locs wo => ?_)
  refine lv_aload_n hx hb d_RK_init_55 rfl (lv_at hl 0 rfl) ?_
  refine lv_aload_n hx hb d_RK_init_56 rfl (lv_at hl 1 rfl) ?_
  refine g_getP cx wo a1 (by decide) (cel_1 E ad n σ8) rfl in_LA 8 (by decide) wf_RK_25 rfl d_RK_init_57 ?_
  obtain ⟨g9, hD⟩ := grd_s hD
  obtain ⟨g9a, g9b⟩ := of_decide_eq_true g9
  refine c_newa cx wo .boolean .boolean rfl wa_boolean rfl 2 rfl (a0 := (((σ8.1 1 8)).toNatClampNeg, .inl (fun _ => 0))) (fun _ => rfl) g9a rfl g9b (by decide) (by decide) (by decide) (by decide) d_RK_init_60 (fun q14 H wo => ?_)
  obtain ⟨n, en⟩ : ∃ z, z = setA n 14 ((σ8.1 1 8)).toNatClampNeg := ⟨_, rfl⟩
  have hD := nm_at hD en
  try dsimp only at hD
  obtain ⟨σ10, eσ10⟩ : ∃ z, z = zC σ8 14 := ⟨_, rfl⟩
  have hD := nm_at hD eσ10
  try dsimp only at hD
  obtain ⟨ad, ead⟩ : ∃ z, z = setA ad 14 q14 := ⟨_, rfl⟩
  rw [List.cons_append, wl_grow (L := [1, 9, 10, 11, 12, 13]) (ad1 := ad) (n1 := n) (σ1 := σ10) (a := 14) (by decide) (by rw [ead]; exact setA_s _ _ _) (fun b hb => by rw [ead]; exact setA_n _ _ hb) (fun b hb => by rw [en]; exact setA_n _ _ hb) (fun b hb => by rw [eσ10]; exact zC_1 b hb) (fun b hb => by rw [eσ10]; exact zC_2 b hb) (by rw [cel_14, en, eσ10, setA_s]; rfl)] at wo
  try dsimp only [List.append, List.cons_append, List.nil_append] at wo
  have a1 : ad 1 = q1 := by rw [ead]; exact (setA_n _ _ (by decide)).trans a1
  have a9 : ad 9 = q9 := by rw [ead]; exact (setA_n _ _ (by decide)).trans a9
  have a10 : ad 10 = q10 := by rw [ead]; exact (setA_n _ _ (by decide)).trans a10
  have a11 : ad 11 = q11 := by rw [ead]; exact (setA_n _ _ (by decide)).trans a11
  have a12 : ad 12 = q12 := by rw [ead]; exact (setA_n _ _ (by decide)).trans a12
  have a13 : ad 13 = q13 := by rw [ead]; exact (setA_n _ _ (by decide)).trans a13
  have a14 : ad 14 = q14 := by rw [ead]; exact setA_s _ _ _
  refine r_putF cx hin wo 0 (w' := ((qP, .inr (3, [.ref q10, .ref q1, .ref q11, .ref q12, .ref q13, .ref q14])) :: wl E ad n [1, 9, 10, 11, 12, 13, 14] σ10)) rfl rfl in_RK t_RK tok_RK n_RK 5 (by decide) wf_RK_38 rfl rfl rfl rfl (Nat.le_of_ble_eq_true rfl) rfl d_RK_init_62 (fun H locs wo => ?_)
  obtain ⟨σ11, eσ11⟩ : ∃ z, z = stC σ10 2 (fun (j : Nat) => (cond (Nat.beq j 0) (0) (cond (Nat.beq j 1) (0) (cond (Nat.beq j 2) (0) (cond (Nat.beq j 3) (0) (cond (Nat.beq j 4) (0) (cond (Nat.beq j 5) (0) (0)))))) : Int32)) := ⟨_, rfl⟩
  have hD := nm_at hD eσ11
  try dsimp only at hD
  obtain ⟨ad, ead⟩ : ∃ z, z = setA ad 2 qP := ⟨_, rfl⟩
  rw [wl_cons (L := [1, 9, 10, 11, 12, 13, 14]) (ad1 := ad) (n1 := n) (σ1 := σ11) (a := 2) (by decide) (by rw [ead]; exact setA_s _ _ _) (fun b hb => by rw [ead]; exact setA_n _ _ hb) (fun b hb => rfl) (fun b hb => by rw [eσ11]; exact stC_1 b hb) (fun b hb => by rw [eσ11]; rfl) (by rw [cel_2, ead, setA_n _ _ (show (1 : Nat) ≠ 2 by decide), a1, setA_n _ _ (show (10 : Nat) ≠ 2 by decide), a10, setA_n _ _ (show (11 : Nat) ≠ 2 by decide), a11, setA_n _ _ (show (12 : Nat) ≠ 2 by decide), a12, setA_n _ _ (show (13 : Nat) ≠ 2 by decide), a13, setA_n _ _ (show (14 : Nat) ≠ 2 by decide), a14]; try rfl)] at wo
  have a1 : ad 1 = q1 := by rw [ead]; exact (setA_n _ _ (by decide)).trans a1
  have a9 : ad 9 = q9 := by rw [ead]; exact (setA_n _ _ (by decide)).trans a9
  have a10 : ad 10 = q10 := by rw [ead]; exact (setA_n _ _ (by decide)).trans a10
  have a11 : ad 11 = q11 := by rw [ead]; exact (setA_n _ _ (by decide)).trans a11
  have a12 : ad 12 = q12 := by rw [ead]; exact (setA_n _ _ (by decide)).trans a12
  have a13 : ad 13 = q13 := by rw [ead]; exact (setA_n _ _ (by decide)).trans a13
  have a14 : ad 14 = q14 := by rw [ead]; exact (setA_n _ _ (by decide)).trans a14
  have a2 : ad 2 = qP := by rw [ead]; exact setA_s _ _ _
  obtain ⟨q2, hq2⟩ : ∃ z, z = qP := ⟨_, rfl⟩
  rw [← hq2] at hl
  have a2 : ad 2 = q2 := a2.trans hq2.symm
  refine lv_iconst (v := 0) hx hb d_RK_init_65 (by decide) ?_
  refine lv_istore_n (lv' := [(2, .int (0 : Int32)), (0, .ref q2), (1, .ref q1)]) hx hb d_RK_init_66 rfl hl (by decide) rfl (fun ls hl => ?_)
  have lp21 : ∀ (k14 : Nat) (σ12 : HS) (x15 : Int32) (H : Heap) (locs : List Loc) (ls : Array Slot) (res13 : HS), D_RK_init_L67 F n  k14 σ12 x15 = some res13 → (∀ (σ20 : HS) (H : Heap) (locs : List Loc) (ls : Array Slot), res13 = σ20 → Wo E A0 s.heap (wl E ad n [2, 1, 9, 10, 11, 12, 13, 14] σ20) H locs → lv_has ls 3 [(0, .ref q2)] → W p l e ({ frames := 3, cells := 6, slots := 20824, locals := 94 }) s m aa below meth c H locs 5 20816 QQ (F0 m 88 ls [])) → Wo E A0 s.heap (wl E ad n [2, 1, 9, 10, 11, 12, 13, 14] σ12) H locs → lv_has ls 3 [(2, .int x15), (0, .ref q2), (1, .ref q1)] → W p l e ({ frames := 3, cells := 6, slots := 20824, locals := 94 }) s m aa below meth c H locs 5 20816 QQ (F0 m 67 ls []) := by
    intro k14
    induction k14 with
    | zero =>
      intro σ12 x15 H locs ls res13 hD
      rw [D_RK_init_L67.eq_1] at hD
      cases hD
    | succ k14 ih =>
      intro σ12 x15 H locs ls res13 hD hex wo hl
      rw [D_RK_init_L67.eq_2] at hD
      refine lv_iload_n hx hb d_RK_init_67 rfl (lv_at hl 0 rfl) ?_
      refine lv_aload_n hx hb d_RK_init_68 rfl (lv_at hl 2 rfl) ?_
      refine g_getQ cx wo a1 (by decide) (cel_1 E ad n σ12) rfl in_LA 0 (by decide) wf_RK_15 rfl d_RK_init_69 ?_
      refine lv_icmp_ge (tgt := 88) hx hb d_RK_init_72 (by decide) (fun c16 => ?_) (fun c16 => ?_)
      · have hD := ite_p hD c16
        exact hex σ12 _ _ _ (Option.some.inj hD).symm wo (lv_sub hl [1] rfl)
      · have hD := ite_n hD c16
        refine lv_aload_n hx hb d_RK_init_75 rfl (lv_at hl 1 rfl) ?_
        refine g_getQ cx wo a2 (by decide) (cel_2 E ad n σ12) rfl in_RK 0 (by decide) wf_RK_21 rfl d_RK_init_76 ?_
        rw [a10]
        refine lv_iload_n hx hb d_RK_init_79 rfl (lv_at hl 0 rfl) ?_
        refine lv_iconst (v := 1) hx hb d_RK_init_80 (by decide) ?_
        obtain ⟨g17, hD⟩ := grd_s hD
        refine g_zastQ cx wo a10 (by decide) (cel_10 E ad n) g17 d_RK_init_81 (fun H locs wo => ?_)
        obtain ⟨σ18, eσ18⟩ : ∃ z, z = stI σ12 10 (x15).toNatClampNeg (vp_nar .boolean (1 : Int32)) := ⟨_, rfl⟩
        rw [← eσ18] at wo
        have hD := nm_at hD eσ18
        try dsimp only at hD
        obtain ⟨x19, ex19⟩ : ∃ y : Int32, y = x15 + (1 : Int32) := ⟨_, rfl⟩
        have hD := nm_at hD ex19
        try dsimp only at hD
        refine lv_iinc (v := x19) (lv' := [(2, .int x19), (0, .ref q2), (1, .ref q1)]) hx hb d_RK_init_82 hl (k := 0) rfl (by rw [ex19]; rfl) (by decide) rfl (fun ls hl => ?_)
        refine lv_goto (tgt := 67) hx hb d_RK_init_85 (by decide) ?_
        exact ih σ18 x19 _ _ _ _ hD hex wo (lv_sub hl [0, 1, 2] rfl)
  obtain ⟨res22, hr23, hD⟩ := bd_s hD
  refine lp21 F σ11 (0 : Int32) _ _ _ _ hr23 (fun σ20 H locs ls hz wo hl => ?_) wo (lv_sub hl [0, 1, 2] rfl)
  have hz := hz.symm
  subst hz
  try dsimp only at hD
  refine lv_aload_n hx hb d_RK_init_88 rfl (lv_at hl 0 rfl) ?_
  have kc24 := k_RK_writeAll l E ad n F σ20 
  obtain ⟨⟨n, σ26⟩, hc25, hD⟩ := bd_s hD
  try dsimp only [nm2] at hD
  refine callN_V cx wo (kc24 n σ26 hc25) (by decide) (cel_2 E ad _ _) rfl rfl mw_RK_writeAll wm_RK_41 ⟨by decide, by decide⟩ ⟨by decide, by decide⟩ hl.1 (by rw [← a2]; rfl) (Nat.le_of_ble_eq_true rfl) d_RK_init_89 (fun ad H locs hK wo => ?_)
  try dsimp only [List.append, List.cons_append, List.nil_append] at wo
  have a1 : ad 1 = q1 := (hK.1 1 (by decide)).trans a1
  have a9 : ad 9 = q9 := (hK.1 9 (by decide)).trans a9
  have a10 : ad 10 = q10 := (hK.1 10 (by decide)).trans a10
  have a11 : ad 11 = q11 := (hK.1 11 (by decide)).trans a11
  have a12 : ad 12 = q12 := (hK.1 12 (by decide)).trans a12
  have a13 : ad 13 = q13 := (hK.1 13 (by decide)).trans a13
  have a14 : ad 14 = q14 := (hK.1 14 (by decide)).trans a14
  have a2 : ad 2 = q2 := (hK.1 2 (by decide)).trans a2
  cases hD
  rw [hA0] at wo
  rw [hQQ]
  exact tN_v ad cx wo ⟨(by intro b hb; simp only [List.mem_cons, List.not_mem_nil, or_false] at hb; rcases hb with rfl | rfl <;> first | exact a1.trans o1.symm | exact a9.trans o9.symm), (a2.trans hq2)⟩ d_RK_init_92
def D_PL_init (F : Nat) (n : Nat → Nat) (σ : HS)  : Option ((Nat → Nat) × HS) :=
grd (okN ((σ.1 1 2) * (σ.1 1 0)) 1024) (
  nm (setA n 15 (((σ.1 1 2) * (σ.1 1 0))).toNatClampNeg) (fun n =>
  nm (zC σ 15) (fun σ2 =>
  grd (okN (σ2.1 1 8) 1040) (
  nm (setA n 16 ((σ2.1 1 8)).toNatClampNeg) (fun n =>
  nm (zC σ2 16) (fun σ4 =>
  nm (stC σ4 3 (fun (j : Nat) => (cond (Nat.beq j 0) (0) (cond (Nat.beq j 1) (0) (cond (Nat.beq j 2) (0) (cond (Nat.beq j 3) (0) (0)))) : Int32))) (fun σ5 =>
  (D_PL_find F n σ5 ).bind (fun (σ7 : HS) =>
  some (n, σ7)))))))))
set_option maxRecDepth 100000 in
set_option maxHeartbeats 8000000 in
theorem k_PL_init (l : Launch) (E : EV) (ad n : Nat → Nat) (F : Nat) (σ : HS) (qP : Nat)  (no : Nat → Nat) (σo : HS) (hD : D_PL_init F n σ  = some (no, σo)) : CtN l E y_PL_init c_PL_init 3 none ({ frames := 3, cells := 2, slots := 2064, locals := 69 }) [.ref qP, .ref (ad 1), .ref (ad 2)] ((qP, .inr (1, [.null, .null, .null, .null])) :: wl E ad n [2, 1, 9, 10, 11, 12, 13, 14] σ) (fun u => (∀ b ∈ ([2, 1, 9, 10, 11, 12, 13, 14] : List Nat), u b = ad b) ∧ u 3 = qP) (fun u => wl E u no [3, 2, 1, 9, 10, 11, 12, 13, 14, 15, 16] σo) := by
  refine fun sz => entC (by decide) rfl (Nat.le_of_ble_eq_true rfl) ?_
  intro p e s m below meth c hsz cx wo ls hl
  obtain ⟨cx, hin⟩ := cx
  have hx := cx.1.1
  have hb := cx.1.2.1
  have hown := cx.1.2.2.2.1
  have hts := cx.1.2.2.2.2
  obtain ⟨A0, hA0⟩ : ∃ z, z = va_A ((qP, .inr (1, [.null, .null, .null, .null])) :: wl E ad n [2, 1, 9, 10, 11, 12, 13, 14] σ) sz := ⟨_, rfl⟩
  rw [← hA0] at wo
  refine W_gen (fun QQ hQQ => ?_)
  obtain ⟨aa, haa⟩ : ∃ z, z = ([.ref qP, .ref (ad 1), .ref (ad 2)] : List Value).toArray := ⟨_, rfl⟩
  rw [← haa] at cx hQQ hts ⊢
  obtain ⟨q2, o2⟩ : ∃ z, ad 2 = z := ⟨_, rfl⟩
  have a2 := o2
  obtain ⟨q1, o1⟩ : ∃ z, ad 1 = z := ⟨_, rfl⟩
  have a1 := o1
  obtain ⟨q9, o9⟩ : ∃ z, ad 9 = z := ⟨_, rfl⟩
  have a9 := o9
  obtain ⟨q10, o10⟩ : ∃ z, ad 10 = z := ⟨_, rfl⟩
  have a10 := o10
  obtain ⟨q11, o11⟩ : ∃ z, ad 11 = z := ⟨_, rfl⟩
  have a11 := o11
  obtain ⟨q12, o12⟩ : ∃ z, ad 12 = z := ⟨_, rfl⟩
  have a12 := o12
  obtain ⟨q13, o13⟩ : ∃ z, ad 13 = z := ⟨_, rfl⟩
  have a13 := o13
  obtain ⟨q14, o14⟩ : ∃ z, ad 14 = z := ⟨_, rfl⟩
  have a14 := o14
  have hl : lv_has ls 3 [(0, .ref qP), (1, .ref q1), (2, .ref q2)] := by rw [← o1, ← o2]; exact hl
  rw [D_PL_init] at hD
  refine lv_aload_n hx hb d_PL_init_0 rfl (lv_at hl 0 rfl) ?_
  refine c_obj cx wm_PL_3 hl.1 ⟨by decide, by decide⟩ (Nat.le_of_ble_eq_true rfl) d_PL_init_1 ?_
  refine lv_aload_n hx hb d_PL_init_4 rfl (lv_at hl 0 rfl) ?_
  refine lv_aload_n hx hb d_PL_init_5 rfl (lv_at hl 1 rfl) ?_
  refine r_putF cx hin wo 0 (w' := ((qP, .inr (1, [.null, .null, .ref q1, .null])) :: wl E ad n [2, 1, 9, 10, 11, 12, 13, 14] σ)) rfl rfl in_PL t_PL tok_PL n_PL 2 (by decide) wf_PL_9 rfl rfl rfl rfl (Nat.le_of_ble_eq_true rfl) rfl d_PL_init_6 (fun H locs wo => ?_)
  refine lv_aload_n hx hb d_PL_init_9 rfl (lv_at hl 0 rfl) ?_
  refine lv_aload_n hx hb d_PL_init_10 rfl (lv_at hl 2 rfl) ?_
  refine r_putF cx hin wo 0 (w' := ((qP, .inr (1, [.null, .null, .ref q1, .ref q2])) :: wl E ad n [2, 1, 9, 10, 11, 12, 13, 14] σ)) rfl rfl in_PL t_PL tok_PL n_PL 3 (by decide) wf_PL_15 rfl rfl rfl rfl (Nat.le_of_ble_eq_true rfl) rfl d_PL_init_11 (fun H locs wo => ?_)
  refine lv_aload_n hx hb d_PL_init_14 rfl (lv_at hl 0 rfl) ?_
  refine lv_aload_n hx hb d_PL_init_15 rfl (lv_at hl 1 rfl) ?_
  refine g_getP cx wo a1 (by decide) (cel_1 E ad n σ) rfl in_LA 2 (by decide) wf_PL_19 rfl d_PL_init_16 ?_
  refine lv_aload_n hx hb d_PL_init_19 rfl (lv_at hl 1 rfl) ?_
  refine g_getP cx wo a1 (by decide) (cel_1 E ad n σ) rfl in_LA 0 (by decide) wf_PL_25 rfl d_PL_init_20 ?_
  refine lv_imul hx hb d_PL_init_23 ?_
  obtain ⟨g1, hD⟩ := grd_s hD
  obtain ⟨g1a, g1b⟩ := of_decide_eq_true g1
  refine c_newa cx wo .int .int rfl wa_int rfl 0 rfl (a0 := ((((σ.1 1 2) * (σ.1 1 0))).toNatClampNeg, .inl (fun _ => 0))) (fun _ => rfl) g1a rfl g1b (by decide) (by decide) (by decide) (by decide) d_PL_init_24 (fun q15 H wo => ?_)
  obtain ⟨n, en⟩ : ∃ z, z = setA n 15 (((σ.1 1 2) * (σ.1 1 0))).toNatClampNeg := ⟨_, rfl⟩
  have hD := nm_at hD en
  try dsimp only at hD
  obtain ⟨σ2, eσ2⟩ : ∃ z, z = zC σ 15 := ⟨_, rfl⟩
  have hD := nm_at hD eσ2
  try dsimp only at hD
  obtain ⟨ad, ead⟩ : ∃ z, z = setA ad 15 q15 := ⟨_, rfl⟩
  rw [List.cons_append, wl_grow (L := [2, 1, 9, 10, 11, 12, 13, 14]) (ad1 := ad) (n1 := n) (σ1 := σ2) (a := 15) (by decide) (by rw [ead]; exact setA_s _ _ _) (fun b hb => by rw [ead]; exact setA_n _ _ hb) (fun b hb => by rw [en]; exact setA_n _ _ hb) (fun b hb => by rw [eσ2]; exact zC_1 b hb) (fun b hb => by rw [eσ2]; exact zC_2 b hb) (by rw [cel_15, en, eσ2, setA_s]; rfl)] at wo
  try dsimp only [List.append, List.cons_append, List.nil_append] at wo
  have a2 : ad 2 = q2 := by rw [ead]; exact (setA_n _ _ (by decide)).trans a2
  have a1 : ad 1 = q1 := by rw [ead]; exact (setA_n _ _ (by decide)).trans a1
  have a9 : ad 9 = q9 := by rw [ead]; exact (setA_n _ _ (by decide)).trans a9
  have a10 : ad 10 = q10 := by rw [ead]; exact (setA_n _ _ (by decide)).trans a10
  have a11 : ad 11 = q11 := by rw [ead]; exact (setA_n _ _ (by decide)).trans a11
  have a12 : ad 12 = q12 := by rw [ead]; exact (setA_n _ _ (by decide)).trans a12
  have a13 : ad 13 = q13 := by rw [ead]; exact (setA_n _ _ (by decide)).trans a13
  have a14 : ad 14 = q14 := by rw [ead]; exact (setA_n _ _ (by decide)).trans a14
  have a15 : ad 15 = q15 := by rw [ead]; exact setA_s _ _ _
  refine r_putF cx hin wo 0 (w' := ((qP, .inr (1, [.ref q15, .null, .ref q1, .ref q2])) :: wl E ad n [2, 1, 9, 10, 11, 12, 13, 14, 15] σ2)) rfl rfl in_PL t_PL tok_PL n_PL 0 (by decide) wf_PL_28 rfl rfl rfl rfl (Nat.le_of_ble_eq_true rfl) rfl d_PL_init_26 (fun H locs wo => ?_)
  refine lv_aload_n hx hb d_PL_init_29 rfl (lv_at hl 0 rfl) ?_
  refine lv_aload_n hx hb d_PL_init_30 rfl (lv_at hl 1 rfl) ?_
  refine g_getP cx wo a1 (by decide) (cel_1 E ad n σ2) rfl in_LA 8 (by decide) wf_PL_32 rfl d_PL_init_31 ?_
  obtain ⟨g3, hD⟩ := grd_s hD
  obtain ⟨g3a, g3b⟩ := of_decide_eq_true g3
  refine c_newa cx wo .int .int rfl wa_int rfl 0 rfl (a0 := (((σ2.1 1 8)).toNatClampNeg, .inl (fun _ => 0))) (fun _ => rfl) g3a rfl g3b (by decide) (by decide) (by decide) (by decide) d_PL_init_34 (fun q16 H wo => ?_)
  obtain ⟨n, en⟩ : ∃ z, z = setA n 16 ((σ2.1 1 8)).toNatClampNeg := ⟨_, rfl⟩
  have hD := nm_at hD en
  try dsimp only at hD
  obtain ⟨σ4, eσ4⟩ : ∃ z, z = zC σ2 16 := ⟨_, rfl⟩
  have hD := nm_at hD eσ4
  try dsimp only at hD
  obtain ⟨ad, ead⟩ : ∃ z, z = setA ad 16 q16 := ⟨_, rfl⟩
  rw [List.cons_append, wl_grow (L := [2, 1, 9, 10, 11, 12, 13, 14, 15]) (ad1 := ad) (n1 := n) (σ1 := σ4) (a := 16) (by decide) (by rw [ead]; exact setA_s _ _ _) (fun b hb => by rw [ead]; exact setA_n _ _ hb) (fun b hb => by rw [en]; exact setA_n _ _ hb) (fun b hb => by rw [eσ4]; exact zC_1 b hb) (fun b hb => by rw [eσ4]; exact zC_2 b hb) (by rw [cel_16, en, eσ4, setA_s]; rfl)] at wo
  try dsimp only [List.append, List.cons_append, List.nil_append] at wo
  have a2 : ad 2 = q2 := by rw [ead]; exact (setA_n _ _ (by decide)).trans a2
  have a1 : ad 1 = q1 := by rw [ead]; exact (setA_n _ _ (by decide)).trans a1
  have a9 : ad 9 = q9 := by rw [ead]; exact (setA_n _ _ (by decide)).trans a9
  have a10 : ad 10 = q10 := by rw [ead]; exact (setA_n _ _ (by decide)).trans a10
  have a11 : ad 11 = q11 := by rw [ead]; exact (setA_n _ _ (by decide)).trans a11
  have a12 : ad 12 = q12 := by rw [ead]; exact (setA_n _ _ (by decide)).trans a12
  have a13 : ad 13 = q13 := by rw [ead]; exact (setA_n _ _ (by decide)).trans a13
  have a14 : ad 14 = q14 := by rw [ead]; exact (setA_n _ _ (by decide)).trans a14
  have a15 : ad 15 = q15 := by rw [ead]; exact (setA_n _ _ (by decide)).trans a15
  have a16 : ad 16 = q16 := by rw [ead]; exact setA_s _ _ _
  refine r_putF cx hin wo 0 (w' := ((qP, .inr (1, [.ref q15, .ref q16, .ref q1, .ref q2])) :: wl E ad n [2, 1, 9, 10, 11, 12, 13, 14, 15, 16] σ4)) rfl rfl in_PL t_PL tok_PL n_PL 1 (by decide) wf_PL_35 rfl rfl rfl rfl (Nat.le_of_ble_eq_true rfl) rfl d_PL_init_36 (fun H locs wo => ?_)
  obtain ⟨σ5, eσ5⟩ : ∃ z, z = stC σ4 3 (fun (j : Nat) => (cond (Nat.beq j 0) (0) (cond (Nat.beq j 1) (0) (cond (Nat.beq j 2) (0) (cond (Nat.beq j 3) (0) (0)))) : Int32)) := ⟨_, rfl⟩
  have hD := nm_at hD eσ5
  try dsimp only at hD
  obtain ⟨ad, ead⟩ : ∃ z, z = setA ad 3 qP := ⟨_, rfl⟩
  rw [wl_cons (L := [2, 1, 9, 10, 11, 12, 13, 14, 15, 16]) (ad1 := ad) (n1 := n) (σ1 := σ5) (a := 3) (by decide) (by rw [ead]; exact setA_s _ _ _) (fun b hb => by rw [ead]; exact setA_n _ _ hb) (fun b hb => rfl) (fun b hb => by rw [eσ5]; exact stC_1 b hb) (fun b hb => by rw [eσ5]; rfl) (by rw [cel_3, ead, setA_n _ _ (show (1 : Nat) ≠ 3 by decide), a1, setA_n _ _ (show (2 : Nat) ≠ 3 by decide), a2, setA_n _ _ (show (15 : Nat) ≠ 3 by decide), a15, setA_n _ _ (show (16 : Nat) ≠ 3 by decide), a16]; try rfl)] at wo
  have a2 : ad 2 = q2 := by rw [ead]; exact (setA_n _ _ (by decide)).trans a2
  have a1 : ad 1 = q1 := by rw [ead]; exact (setA_n _ _ (by decide)).trans a1
  have a9 : ad 9 = q9 := by rw [ead]; exact (setA_n _ _ (by decide)).trans a9
  have a10 : ad 10 = q10 := by rw [ead]; exact (setA_n _ _ (by decide)).trans a10
  have a11 : ad 11 = q11 := by rw [ead]; exact (setA_n _ _ (by decide)).trans a11
  have a12 : ad 12 = q12 := by rw [ead]; exact (setA_n _ _ (by decide)).trans a12
  have a13 : ad 13 = q13 := by rw [ead]; exact (setA_n _ _ (by decide)).trans a13
  have a14 : ad 14 = q14 := by rw [ead]; exact (setA_n _ _ (by decide)).trans a14
  have a15 : ad 15 = q15 := by rw [ead]; exact (setA_n _ _ (by decide)).trans a15
  have a16 : ad 16 = q16 := by rw [ead]; exact (setA_n _ _ (by decide)).trans a16
  have a3 : ad 3 = qP := by rw [ead]; exact setA_s _ _ _
  obtain ⟨q3, hq3⟩ : ∃ z, z = qP := ⟨_, rfl⟩
  rw [← hq3] at hl
  have a3 : ad 3 = q3 := a3.trans hq3.symm
  refine lv_aload_n hx hb d_PL_init_39 rfl (lv_at hl 0 rfl) ?_
  obtain ⟨σ7, hcx6, hD⟩ := bd_s hD
  try dsimp only [nm2] at hD
  refine call_Vv cx wo (k_PL_find l E ad n [3, 2, 1, 9, 10, 11, 12, 13, 14, 15, 16] (by decide) F σ5 σ7  hcx6) (by decide) (cel_3 E ad n σ5) rfl rfl mw_PL_find wm_PL_38 ⟨by decide, by decide⟩ ⟨by decide, by decide⟩ hl.1 (by rw [← a3]; rfl) (Nat.le_of_ble_eq_true rfl) d_PL_init_40 (fun H locs wo => ?_)
  cases hD
  rw [hA0] at wo
  rw [hQQ]
  exact tN_v ad cx wo ⟨(by intro b hb; simp only [List.mem_cons, List.not_mem_nil, or_false] at hb; rcases hb with rfl | rfl | rfl | rfl | rfl | rfl | rfl | rfl <;> first | exact a2.trans o2.symm | exact a1.trans o1.symm | exact a9.trans o9.symm | exact a10.trans o10.symm | exact a11.trans o11.symm | exact a12.trans o12.symm | exact a13.trans o13.symm | exact a14.trans o14.symm), (a3.trans hq3)⟩ d_PL_init_43
def D_PW_init (F : Nat) (n : Nat → Nat) (σ : HS)  : Option ((Nat → Nat) × HS) :=
nm (stC σ 4 (fun (j : Nat) => (cond (Nat.beq j 0) ((1 : Int32)) (cond (Nat.beq j 1) (0) (cond (Nat.beq j 2) (0) (0))) : Int32))) (fun σ1 =>
  some (n, σ1))
set_option maxRecDepth 100000 in
set_option maxHeartbeats 8000000 in
theorem k_PW_init (l : Launch) (E : EV) (ad n : Nat → Nat) (F : Nat) (σ : HS) (qP : Nat)  (no : Nat → Nat) (σo : HS) (hD : D_PW_init F n σ  = some (no, σo)) : CtN l E y_PW_init c_PW_init 1 none ({ frames := 1, cells := 0, slots := 0, locals := 20 }) [.ref qP] ((qP, .inr (2, [.int 0, .int 0, .int 0])) :: wl E ad n [] σ) (fun u => (∀ b ∈ ([] : List Nat), u b = ad b) ∧ u 4 = qP) (fun u => wl E u no [4] σo) := by
  refine fun sz => entC (by decide) rfl (Nat.le_of_ble_eq_true rfl) ?_
  intro p e s m below meth c hsz cx wo ls hl
  obtain ⟨cx, hin⟩ := cx
  have hx := cx.1.1
  have hb := cx.1.2.1
  have hown := cx.1.2.2.2.1
  have hts := cx.1.2.2.2.2
  obtain ⟨A0, hA0⟩ : ∃ z, z = va_A ((qP, .inr (2, [.int 0, .int 0, .int 0])) :: wl E ad n [] σ) sz := ⟨_, rfl⟩
  rw [← hA0] at wo
  refine W_gen (fun QQ hQQ => ?_)
  obtain ⟨aa, haa⟩ : ∃ z, z = ([.ref qP] : List Value).toArray := ⟨_, rfl⟩
  rw [← haa] at cx hQQ hts ⊢
  have hl : lv_has ls 1 [(0, .ref qP)] := hl
  rw [D_PW_init] at hD
  refine lv_aload_n hx hb d_PW_init_0 rfl (lv_at hl 0 rfl) ?_
  refine c_obj cx wm_PW_1 hl.1 ⟨by decide, by decide⟩ (Nat.le_of_ble_eq_true rfl) d_PW_init_1 ?_
  refine lv_aload_n hx hb d_PW_init_4 rfl (lv_at hl 0 rfl) ?_
  refine lv_iconst (v := 1) hx hb d_PW_init_5 (by decide) ?_
  refine r_put cx wo 0 (w' := ((qP, .inr (2, [.int (1 : Int32), .int 0, .int 0])) :: wl E ad n [] σ)) rfl rfl in_PW t_PW tok_PW n_PW 0 (by decide) wf_PW_7 rfl rfl rfl (Nat.le_of_ble_eq_true rfl) rfl d_PW_init_6 (fun H locs wo => ?_)
  obtain ⟨σ1, eσ1⟩ : ∃ z, z = stC σ 4 (fun (j : Nat) => (cond (Nat.beq j 0) ((1 : Int32)) (cond (Nat.beq j 1) (0) (cond (Nat.beq j 2) (0) (0))) : Int32)) := ⟨_, rfl⟩
  have hD := nm_at hD eσ1
  try dsimp only at hD
  obtain ⟨ad, ead⟩ : ∃ z, z = setA ad 4 qP := ⟨_, rfl⟩
  rw [wl_cons (L := []) (ad1 := ad) (n1 := n) (σ1 := σ1) (a := 4) (by decide) (by rw [ead]; exact setA_s _ _ _) (fun b hb => by rw [ead]; exact setA_n _ _ hb) (fun b hb => rfl) (fun b hb => by rw [eσ1]; exact stC_1 b hb) (fun b hb => by rw [eσ1]; rfl) (by rw [cel_4, eσ1]; try rfl)] at wo
  have a4 : ad 4 = qP := by rw [ead]; exact setA_s _ _ _
  obtain ⟨q4, hq4⟩ : ∃ z, z = qP := ⟨_, rfl⟩
  rw [← hq4] at hl
  have a4 : ad 4 = q4 := a4.trans hq4.symm
  cases hD
  rw [hA0] at wo
  rw [hQQ]
  exact tN_v ad cx wo ⟨(fun b hb => absurd hb List.not_mem_nil), (a4.trans hq4)⟩ d_PW_init_9
