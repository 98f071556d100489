def D_SF_init (F : Nat) (n : Nat → Nat) (σ : HS) (p1 : Int32) (p2 : Int32) (p3 : Int32) : Option ((Nat → Nat) × HS) :=
(D_LA_init F n σ p1 p2 p3).bind (fun (qkc1 : (Nat → Nat) × HS) => nm2 qkc1 (fun (n : Nat → Nat) (σ3 : HS) =>
  (D_RK_init F n σ3 ).bind (fun (qkc4 : (Nat → Nat) × HS) => nm2 qkc4 (fun (n : Nat → Nat) (σ6 : HS) =>
  (D_PL_init F n σ6 ).bind (fun (qkc7 : (Nat → Nat) × HS) => nm2 qkc7 (fun (n : Nat → Nat) (σ9 : HS) =>
  nm (stC σ9 4 (fun (j : Nat) => (cond (Nat.beq j 0) ((1 : Int32)) (cond (Nat.beq j 1) (0) (cond (Nat.beq j 2) (0) (0))) : Int32))) (fun σ10 =>
  grd (okN (8 : Int32) 8) (
  nm (setA n 5 ((8 : Int32)).toNatClampNeg) (fun n =>
  nm (zC σ10 5) (fun σ12 =>
  grd (okN (8 : Int32) 8) (
  nm (setA n 6 ((8 : Int32)).toNatClampNeg) (fun n =>
  nm (zC σ12 6) (fun σ14 =>
  grd (okN (8 : Int32) 8) (
  nm (setA n 7 ((8 : Int32)).toNatClampNeg) (fun n =>
  nm (zC σ14 7) (fun σ16 =>
  grd (okN (8 : Int32) 8) (
  nm (setA n 8 ((8 : Int32)).toNatClampNeg) (fun n =>
  nm (zC σ16 8) (fun σ18 =>
  nm (stC σ18 0 (fun (j : Nat) => (cond (Nat.beq j 0) (0) (cond (Nat.beq j 1) (0) (cond (Nat.beq j 2) (0) (cond (Nat.beq j 3) (0) (cond (Nat.beq j 4) (0) (cond (Nat.beq j 5) (0) (cond (Nat.beq j 6) (0) (cond (Nat.beq j 7) (0) (cond (Nat.beq j 8) (0) (cond (Nat.beq j 9) (0) (cond (Nat.beq j 10) (0) (0))))))))))) : Int32))) (fun σ19 =>
  some (n, σ19)))))))))))))))))))))
set_option maxRecDepth 100000 in
set_option maxHeartbeats 8000000 in
theorem k_SF_init (l : Launch) (E : EV) (ad n : Nat → Nat) (F : Nat) (σ : HS) (qP : Nat) (p1 : Int32) (p2 : Int32) (p3 : Int32) (no : Nat → Nat) (σo : HS) (hD : D_SF_init F n σ p1 p2 p3 = some (no, σo)) : CtN l E y_SF_init c_SF_init 4 none ({ frames := 5, cells := 19, slots := 23999, locals := 143 }) [.ref qP, .int p1, .int p2, .int p3] ((qP, .inr (4, [.null, .null, .null, .null, .null, .int 0, .int 0, .int 0, .null, .null, .null])) :: wl E ad n [] σ) (fun u => (∀ b ∈ ([] : List Nat), u b = ad b) ∧ u 0 = qP) (fun u => wl E u no [0, 3, 2, 1, 9, 10, 11, 12, 13, 14, 15, 16, 4, 5, 6, 7, 8] σo) := by
  refine fun sz => entC (by decide) rfl (Nat.le_of_ble_eq_true rfl) ?_
  intro p e s m below meth c hsz cx wo ls hl
  obtain ⟨cx, hin⟩ := cx
  have hx := cx.1.1
  have hb := cx.1.2.1
  have hown := cx.1.2.2.2.1
  have hts := cx.1.2.2.2.2
  obtain ⟨A0, hA0⟩ : ∃ z, z = va_A ((qP, .inr (4, [.null, .null, .null, .null, .null, .int 0, .int 0, .int 0, .null, .null, .null])) :: wl E ad n [] σ) sz := ⟨_, rfl⟩
  rw [← hA0] at wo
  refine W_gen (fun QQ hQQ => ?_)
  obtain ⟨aa, haa⟩ : ∃ z, z = ([.ref qP, .int p1, .int p2, .int p3] : List Value).toArray := ⟨_, rfl⟩
  rw [← haa] at cx hQQ hts ⊢
  have hl : lv_has ls 4 [(0, .ref qP), (1, .int p1), (2, .int p2), (3, .int p3)] := hl
  rw [D_SF_init] at hD
  refine lv_aload_n hx hb d_SF_init_0 rfl (lv_at hl 0 rfl) ?_
  refine c_obj cx wm_SF_1 hl.1 ⟨by decide, by decide⟩ (Nat.le_of_ble_eq_true rfl) d_SF_init_1 ?_
  refine lv_aload_n hx hb d_SF_init_4 rfl (lv_at hl 0 rfl) ?_
  refine c_new (ci := 0) cx wo in_LA t_LA tok_LA wk_SF_7 wp_LA wn_LA rfl (fs := [.int 0, .int 0, .int 0, .int 0, .int 0, .int 0, .int 0, .int 0, .int 0, .null]) (fun j hj => by rcases (show j = 0 ∨ j = 1 ∨ j = 2 ∨ j = 3 ∨ j = 4 ∨ j = 5 ∨ j = 6 ∨ j = 7 ∨ j = 8 ∨ j = 9 by omega) with rfl | rfl | rfl | rfl | rfl | rfl | rfl | rfl | rfl | rfl <;> rfl) (by decide) (by decide) d_SF_init_5 (fun r1 H wo => ?_)
  refine lv_dup hx hb d_SF_init_8 rfl ?_
  refine lv_iload_n hx hb d_SF_init_9 rfl (lv_at hl 1 rfl) ?_
  refine lv_iload_n hx hb d_SF_init_10 rfl (lv_at hl 2 rfl) ?_
  refine lv_iload_n hx hb d_SF_init_11 rfl (lv_at hl 3 rfl) ?_
  have kc1 := k_LA_init l E ad n F σ r1 p1 p2 p3
  obtain ⟨⟨n, σ3⟩, hc2, hD⟩ := bd_s hD
  try dsimp only [nm2] at hD
  refine callN_I (wr := [(qP, .inr (4, [.null, .null, .null, .null, .null, .int 0, .int 0, .int 0, .null, .null, .null]))]) cx wo (kc1 n σ3 hc2) mi_LA_init wm_SF_9 (fun k => ([1] : List Nat).getD k 0) (ix_g (is := [1]) rfl) (ix_i (is := [1]) ⟨by decide, rfl⟩) (fun k => ([0] : List Nat).getD k 0) (ix_g (is := [0]) rfl) (ix_i (is := [0]) ⟨by decide, rfl⟩) (ix_d (is := [1]) (js := [0]) ⟨by decide, rfl, rfl⟩) ⟨by decide, by decide⟩ ⟨by decide, by decide⟩ hl.1 rfl (Nat.le_of_ble_eq_true rfl) d_SF_init_12 (fun ad H locs hK wo => ?_)
  try dsimp only [List.append, List.cons_append, List.nil_append] at wo
  obtain ⟨q1, hq1⟩ : ∃ z, z = r1 := ⟨_, rfl⟩
  have a1 : ad 1 = q1 := hK.2.trans hq1.symm
  rw [← hq1]
  obtain ⟨q9, a9⟩ : ∃ z, ad 9 = z := ⟨_, rfl⟩
  refine r_putF cx hin wo 0 (w' := ((qP, .inr (4, [.ref q1, .null, .null, .null, .null, .int 0, .int 0, .int 0, .null, .null, .null])) :: wl E ad n [1, 9] σ3)) rfl rfl in_SF t_SF tok_SF n_SF 0 (by decide) wf_SF_12 rfl rfl rfl rfl (Nat.le_of_ble_eq_true rfl) rfl d_SF_init_15 (fun H locs wo => ?_)
  refine lv_aload_n hx hb d_SF_init_18 rfl (lv_at hl 0 rfl) ?_
  refine c_new (ci := 3) cx wo in_RK t_RK tok_RK wk_SF_18 wp_RK wn_RK rfl (fs := [.null, .null, .null, .null, .null, .null]) (fun j hj => by rcases (show j = 0 ∨ j = 1 ∨ j = 2 ∨ j = 3 ∨ j = 4 ∨ j = 5 by omega) with rfl | rfl | rfl | rfl | rfl | rfl <;> rfl) (by decide) (by decide) d_SF_init_19 (fun r2 H wo => ?_)
  refine lv_dup hx hb d_SF_init_22 rfl ?_
  refine lv_aload_n hx hb d_SF_init_23 rfl (lv_at hl 0 rfl) ?_
  refine r_get cx wo 0 rfl rfl in_SF 0 (by decide) wf_SF_12 rfl d_SF_init_24 ?_
  have kc4 := k_RK_init l E ad n F σ3 r2 
  obtain ⟨⟨n, σ6⟩, hc5, hD⟩ := bd_s hD
  try dsimp only [nm2] at hD
  refine callN_I (wr := [(qP, .inr (4, [.ref q1, .null, .null, .null, .null, .int 0, .int 0, .int 0, .null, .null, .null]))]) cx wo (kc4 n σ6 hc5) mi_RK_init wm_SF_20 (fun k => ([3, 1, 2] : List Nat).getD k 0) (ix_g (is := [3, 1, 2]) rfl) (ix_i (is := [3, 1, 2]) ⟨by decide, rfl⟩) (fun k => ([0] : List Nat).getD k 0) (ix_g (is := [0]) rfl) (ix_i (is := [0]) ⟨by decide, rfl⟩) (ix_d (is := [3, 1, 2]) (js := [0]) ⟨by decide, rfl, rfl⟩) ⟨by decide, by decide⟩ ⟨by decide, by decide⟩ hl.1 (by rw [← a1]; rfl) (Nat.le_of_ble_eq_true rfl) d_SF_init_27 (fun ad H locs hK wo => ?_)
  try dsimp only [List.append, List.cons_append, List.nil_append] at wo
  have a1 : ad 1 = q1 := (hK.1 1 (by decide)).trans a1
  have a9 : ad 9 = q9 := (hK.1 9 (by decide)).trans a9
  obtain ⟨q2, hq2⟩ : ∃ z, z = r2 := ⟨_, rfl⟩
  have a2 : ad 2 = q2 := hK.2.trans hq2.symm
  rw [← hq2]
  obtain ⟨q10, a10⟩ : ∃ z, ad 10 = z := ⟨_, rfl⟩
  obtain ⟨q11, a11⟩ : ∃ z, ad 11 = z := ⟨_, rfl⟩
  obtain ⟨q12, a12⟩ : ∃ z, ad 12 = z := ⟨_, rfl⟩
  obtain ⟨q13, a13⟩ : ∃ z, ad 13 = z := ⟨_, rfl⟩
  obtain ⟨q14, a14⟩ : ∃ z, ad 14 = z := ⟨_, rfl⟩
  refine r_putF cx hin wo 0 (w' := ((qP, .inr (4, [.ref q1, .ref q2, .null, .null, .null, .int 0, .int 0, .int 0, .null, .null, .null])) :: wl E ad n [2, 1, 9, 10, 11, 12, 13, 14] σ6)) rfl rfl in_SF t_SF tok_SF n_SF 1 (by decide) wf_SF_23 rfl rfl rfl rfl (Nat.le_of_ble_eq_true rfl) rfl d_SF_init_30 (fun H locs wo => ?_)
  refine lv_aload_n hx hb d_SF_init_33 rfl (lv_at hl 0 rfl) ?_
  refine c_new (ci := 1) cx wo in_PL t_PL tok_PL wk_SF_27 wp_PL wn_PL rfl (fs := [.null, .null, .null, .null]) (fun j hj => by rcases (show j = 0 ∨ j = 1 ∨ j = 2 ∨ j = 3 by omega) with rfl | rfl | rfl | rfl <;> rfl) (by decide) (by decide) d_SF_init_34 (fun r3 H wo => ?_)
  refine lv_dup hx hb d_SF_init_37 rfl ?_
  refine lv_aload_n hx hb d_SF_init_38 rfl (lv_at hl 0 rfl) ?_
  refine r_get cx wo 0 rfl rfl in_SF 0 (by decide) wf_SF_12 rfl d_SF_init_39 ?_
  refine lv_aload_n hx hb d_SF_init_42 rfl (lv_at hl 0 rfl) ?_
  refine r_get cx wo 0 rfl rfl in_SF 1 (by decide) wf_SF_23 rfl d_SF_init_43 ?_
  have kc7 := k_PL_init l E ad n F σ6 r3 
  obtain ⟨⟨n, σ9⟩, hc8, hD⟩ := bd_s hD
  try dsimp only [nm2] at hD
  refine callN_I (wr := [(qP, .inr (4, [.ref q1, .ref q2, .null, .null, .null, .int 0, .int 0, .int 0, .null, .null, .null]))]) cx wo (kc7 n σ9 hc8) mi_PL_init wm_SF_29 (fun k => ([9, 1, 2, 3, 4, 5, 6, 7, 8] : List Nat).getD k 0) (ix_g (is := [9, 1, 2, 3, 4, 5, 6, 7, 8]) rfl) (ix_i (is := [9, 1, 2, 3, 4, 5, 6, 7, 8]) ⟨by decide, rfl⟩) (fun k => ([0] : List Nat).getD k 0) (ix_g (is := [0]) rfl) (ix_i (is := [0]) ⟨by decide, rfl⟩) (ix_d (is := [9, 1, 2, 3, 4, 5, 6, 7, 8]) (js := [0]) ⟨by decide, rfl, rfl⟩) ⟨by decide, by decide⟩ ⟨by decide, by decide⟩ hl.1 (by rw [← a1, ← a2]; rfl) (Nat.le_of_ble_eq_true rfl) d_SF_init_46 (fun ad H locs hK wo => ?_)
  try dsimp only [List.append, List.cons_append, List.nil_append] at wo
  have a2 : ad 2 = q2 := (hK.1 2 (by decide)).trans a2
  have a1 : ad 1 = q1 := (hK.1 1 (by decide)).trans a1
  have a9 : ad 9 = q9 := (hK.1 9 (by decide)).trans a9
  have a10 : ad 10 = q10 := (hK.1 10 (by decide)).trans a10
  have a11 : ad 11 = q11 := (hK.1 11 (by decide)).trans a11
  have a12 : ad 12 = q12 := (hK.1 12 (by decide)).trans a12
  have a13 : ad 13 = q13 := (hK.1 13 (by decide)).trans a13
  have a14 : ad 14 = q14 := (hK.1 14 (by decide)).trans a14
  obtain ⟨q3, hq3⟩ : ∃ z, z = r3 := ⟨_, rfl⟩
  have a3 : ad 3 = q3 := hK.2.trans hq3.symm
  rw [← hq3]
  obtain ⟨q15, a15⟩ : ∃ z, ad 15 = z := ⟨_, rfl⟩
  obtain ⟨q16, a16⟩ : ∃ z, ad 16 = z := ⟨_, rfl⟩
  refine r_putF cx hin wo 0 (w' := ((qP, .inr (4, [.ref q1, .ref q2, .ref q3, .null, .null, .int 0, .int 0, .int 0, .null, .null, .null])) :: wl E ad n [3, 2, 1, 9, 10, 11, 12, 13, 14, 15, 16] σ9)) rfl rfl in_SF t_SF tok_SF n_SF 2 (by decide) wf_SF_32 rfl rfl rfl rfl (Nat.le_of_ble_eq_true rfl) rfl d_SF_init_49 (fun H locs wo => ?_)
  refine lv_aload_n hx hb d_SF_init_52 rfl (lv_at hl 0 rfl) ?_
  refine c_new (ci := 2) cx wo in_PW t_PW tok_PW wk_SF_36 wp_PW wn_PW rfl (fs := [.int 0, .int 0, .int 0]) (fun j hj => by rcases (show j = 0 ∨ j = 1 ∨ j = 2 by omega) with rfl | rfl | rfl <;> rfl) (by decide) (by decide) d_SF_init_53 (fun r4 H wo => ?_)
  refine lv_dup hx hb d_SF_init_56 rfl ?_
  obtain ⟨σ10, eσ10⟩ : ∃ z, z = stC σ9 4 (fun (j : Nat) => (cond (Nat.beq j 0) ((1 : Int32)) (cond (Nat.beq j 1) (0) (cond (Nat.beq j 2) (0) (0))) : Int32)) := ⟨_, rfl⟩
  have hD := nm_at hD eσ10
  try dsimp only at hD
  have hcw : D_PW_init F n σ9 = some (n, σ10) := by rw [eσ10]; rfl
  refine callN_IN (wr := (qP, .inr (4, [.ref q1, .ref q2, .ref q3, .null, .null, .int 0, .int 0, .int 0, .null, .null, .null])) :: wl E ad n [3, 2, 1, 9, 10, 11, 12, 13, 14, 15, 16] σ9) cx wo (k_PW_init l E ad n F σ9 r4 n σ10 hcw) mi_PW_init cx.2.2.2.2.1 (fun k => ([12] : List Nat).getD k 0) (ix_g (is := [12]) rfl) (ix_i (is := [12]) ⟨by decide, rfl⟩) (fun k => ([0, 1, 2, 3, 4, 5, 6, 7, 8, 9, 10, 11] : List Nat).getD k 0) (ix_g (is := [0, 1, 2, 3, 4, 5, 6, 7, 8, 9, 10, 11]) rfl) (ix_i (is := [0, 1, 2, 3, 4, 5, 6, 7, 8, 9, 10, 11]) ⟨by decide, rfl⟩) (ix_d (is := [12]) (js := [0, 1, 2, 3, 4, 5, 6, 7, 8, 9, 10, 11]) ⟨by decide, rfl, rfl⟩) ⟨by decide, by decide⟩ ⟨by decide, by decide⟩ hl.1 rfl (Nat.le_of_ble_eq_true rfl) d_SF_init_57 (fun u H locs hK wo => ?_)
  obtain ⟨ad, ead⟩ : ∃ z, z = setA ad 4 (u 4) := ⟨_, rfl⟩
  have wo : Wo E A0 s.heap ((qP, .inr (4, [.ref q1, .ref q2, .ref q3, .null, .null, .int 0, .int 0, .int 0, .null, .null, .null])) :: (wl E _ n [3, 2, 1, 9, 10, 11, 12, 13, 14, 15, 16] σ9 ++ [(u 4, cel E u n 4 σ10)])) H locs := wo
  rw [wl_grow (L := [3, 2, 1, 9, 10, 11, 12, 13, 14, 15, 16]) (ad1 := ad) (n1 := n) (σ1 := σ10) (a := 4) (e := cel E u n 4 σ10) (by decide) (by rw [ead]; exact setA_s _ _ _) (fun b hb => by rw [ead]; exact setA_n _ _ hb) (fun b hb => rfl) (fun b hb => by rw [eσ10]; exact stC_1 b hb) (fun b hb => by rw [eσ10]; rfl) rfl] at wo
  try dsimp only [List.append, List.cons_append, List.nil_append] at wo
  have a3 : ad 3 = q3 := by rw [ead]; exact (setA_n _ _ (by decide)).trans a3
  have a2 : ad 2 = q2 := by rw [ead]; exact (setA_n _ _ (by decide)).trans a2
  have a1 : ad 1 = q1 := by rw [ead]; exact (setA_n _ _ (by decide)).trans a1
  have a9 : ad 9 = q9 := by rw [ead]; exact (setA_n _ _ (by decide)).trans a9
  have a10 : ad 10 = q10 := by rw [ead]; exact (setA_n _ _ (by decide)).trans a10
  have a11 : ad 11 = q11 := by rw [ead]; exact (setA_n _ _ (by decide)).trans a11
  have a12 : ad 12 = q12 := by rw [ead]; exact (setA_n _ _ (by decide)).trans a12
  have a13 : ad 13 = q13 := by rw [ead]; exact (setA_n _ _ (by decide)).trans a13
  have a14 : ad 14 = q14 := by rw [ead]; exact (setA_n _ _ (by decide)).trans a14
  have a15 : ad 15 = q15 := by rw [ead]; exact (setA_n _ _ (by decide)).trans a15
  have a16 : ad 16 = q16 := by rw [ead]; exact (setA_n _ _ (by decide)).trans a16
  obtain ⟨q4, hq4⟩ : ∃ z, z = r4 := ⟨_, rfl⟩
  have a4 : ad 4 = q4 := by rw [ead, setA_s]; exact hK.2.trans hq4.symm
  rw [← hq4]
  refine r_putF cx hin wo 0 (w' := ((qP, .inr (4, [.ref q1, .ref q2, .ref q3, .ref q4, .null, .int 0, .int 0, .int 0, .null, .null, .null])) :: wl E ad n [3, 2, 1, 9, 10, 11, 12, 13, 14, 15, 16, 4] σ10)) rfl rfl in_SF t_SF tok_SF n_SF 3 (by decide) wf_SF_39 rfl rfl rfl rfl (Nat.le_of_ble_eq_true rfl) rfl d_SF_init_60 (fun H locs wo => ?_)
  refine lv_aload_n hx hb d_SF_init_63 rfl (lv_at hl 0 rfl) ?_
  refine lv_bipush (v := 8) hx hb d_SF_init_64 (by decide) ?_
  obtain ⟨g11, hD⟩ := grd_s hD
  obtain ⟨g11a, g11b⟩ := of_decide_eq_true g11
  refine c_newa cx wo .long .long rfl wa_long rfl 1 rfl (a0 := (((8 : Int32)).toNatClampNeg, .inr (.inl (fun _ => 0)))) (fun _ => rfl) g11a rfl g11b (by decide) (by decide) (by decide) (by decide) d_SF_init_66 (fun q5 H wo => ?_)
  obtain ⟨n, en⟩ : ∃ z, z = setA n 5 ((8 : Int32)).toNatClampNeg := ⟨_, rfl⟩
  have hD := nm_at hD en
  try dsimp only at hD
  obtain ⟨σ12, eσ12⟩ : ∃ z, z = zC σ10 5 := ⟨_, rfl⟩
  have hD := nm_at hD eσ12
  try dsimp only at hD
  obtain ⟨ad, ead⟩ : ∃ z, z = setA ad 5 q5 := ⟨_, rfl⟩
  rw [List.cons_append, wl_grow (L := [3, 2, 1, 9, 10, 11, 12, 13, 14, 15, 16, 4]) (ad1 := ad) (n1 := n) (σ1 := σ12) (a := 5) (by decide) (by rw [ead]; exact setA_s _ _ _) (fun b hb => by rw [ead]; exact setA_n _ _ hb) (fun b hb => by rw [en]; exact setA_n _ _ hb) (fun b hb => by rw [eσ12]; exact zC_1 b hb) (fun b hb => by rw [eσ12]; exact zC_2 b hb) (by rw [cel_5, en, eσ12, setA_s]; rfl)] at wo
  try dsimp only [List.append, List.cons_append, List.nil_append] at wo
  have a3 : ad 3 = q3 := by rw [ead]; exact (setA_n _ _ (by decide)).trans a3
  have a2 : ad 2 = q2 := by rw [ead]; exact (setA_n _ _ (by decide)).trans a2
  have a1 : ad 1 = q1 := by rw [ead]; exact (setA_n _ _ (by decide)).trans a1
  have a9 : ad 9 = q9 := by rw [ead]; exact (setA_n _ _ (by decide)).trans a9
  have a10 : ad 10 = q10 := by rw [ead]; exact (setA_n _ _ (by decide)).trans a10
  have a11 : ad 11 = q11 := by rw [ead]; exact (setA_n _ _ (by decide)).trans a11
  have a12 : ad 12 = q12 := by rw [ead]; exact (setA_n _ _ (by decide)).trans a12
  have a13 : ad 13 = q13 := by rw [ead]; exact (setA_n _ _ (by decide)).trans a13
  have a14 : ad 14 = q14 := by rw [ead]; exact (setA_n _ _ (by decide)).trans a14
  have a15 : ad 15 = q15 := by rw [ead]; exact (setA_n _ _ (by decide)).trans a15
  have a16 : ad 16 = q16 := by rw [ead]; exact (setA_n _ _ (by decide)).trans a16
  have a4 : ad 4 = q4 := by rw [ead]; exact (setA_n _ _ (by decide)).trans a4
  have a5 : ad 5 = q5 := by rw [ead]; exact setA_s _ _ _
  refine r_putF cx hin wo 0 (w' := ((qP, .inr (4, [.ref q1, .ref q2, .ref q3, .ref q4, .ref q5, .int 0, .int 0, .int 0, .null, .null, .null])) :: wl E ad n [3, 2, 1, 9, 10, 11, 12, 13, 14, 15, 16, 4, 5] σ12)) rfl rfl in_SF t_SF tok_SF n_SF 4 (by decide) wf_SF_43 rfl rfl rfl rfl (Nat.le_of_ble_eq_true rfl) rfl d_SF_init_68 (fun H locs wo => ?_)
  refine lv_aload_n hx hb d_SF_init_71 rfl (lv_at hl 0 rfl) ?_
  refine lv_bipush (v := 8) hx hb d_SF_init_72 (by decide) ?_
  obtain ⟨g13, hD⟩ := grd_s hD
  obtain ⟨g13a, g13b⟩ := of_decide_eq_true g13
  refine c_newa cx wo .long .long rfl wa_long rfl 1 rfl (a0 := (((8 : Int32)).toNatClampNeg, .inr (.inl (fun _ => 0)))) (fun _ => rfl) g13a rfl g13b (by decide) (by decide) (by decide) (by decide) d_SF_init_74 (fun q6 H wo => ?_)
  obtain ⟨n, en⟩ : ∃ z, z = setA n 6 ((8 : Int32)).toNatClampNeg := ⟨_, rfl⟩
  have hD := nm_at hD en
  try dsimp only at hD
  obtain ⟨σ14, eσ14⟩ : ∃ z, z = zC σ12 6 := ⟨_, rfl⟩
  have hD := nm_at hD eσ14
  try dsimp only at hD
  obtain ⟨ad, ead⟩ : ∃ z, z = setA ad 6 q6 := ⟨_, rfl⟩
  rw [List.cons_append, wl_grow (L := [3, 2, 1, 9, 10, 11, 12, 13, 14, 15, 16, 4, 5]) (ad1 := ad) (n1 := n) (σ1 := σ14) (a := 6) (by decide) (by rw [ead]; exact setA_s _ _ _) (fun b hb => by rw [ead]; exact setA_n _ _ hb) (fun b hb => by rw [en]; exact setA_n _ _ hb) (fun b hb => by rw [eσ14]; exact zC_1 b hb) (fun b hb => by rw [eσ14]; exact zC_2 b hb) (by rw [cel_6, en, eσ14, setA_s]; rfl)] at wo
  try dsimp only [List.append, List.cons_append, List.nil_append] at wo
  have a3 : ad 3 = q3 := by rw [ead]; exact (setA_n _ _ (by decide)).trans a3
  have a2 : ad 2 = q2 := by rw [ead]; exact (setA_n _ _ (by decide)).trans a2
  have a1 : ad 1 = q1 := by rw [ead]; exact (setA_n _ _ (by decide)).trans a1
  have a9 : ad 9 = q9 := by rw [ead]; exact (setA_n _ _ (by decide)).trans a9
  have a10 : ad 10 = q10 := by rw [ead]; exact (setA_n _ _ (by decide)).trans a10
  have a11 : ad 11 = q11 := by rw [ead]; exact (setA_n _ _ (by decide)).trans a11
  have a12 : ad 12 = q12 := by rw [ead]; exact (setA_n _ _ (by decide)).trans a12
  have a13 : ad 13 = q13 := by rw [ead]; exact (setA_n _ _ (by decide)).trans a13
  have a14 : ad 14 = q14 := by rw [ead]; exact (setA_n _ _ (by decide)).trans a14
  have a15 : ad 15 = q15 := by rw [ead]; exact (setA_n _ _ (by decide)).trans a15
  have a16 : ad 16 = q16 := by rw [ead]; exact (setA_n _ _ (by decide)).trans a16
  have a4 : ad 4 = q4 := by rw [ead]; exact (setA_n _ _ (by decide)).trans a4
  have a5 : ad 5 = q5 := by rw [ead]; exact (setA_n _ _ (by decide)).trans a5
  have a6 : ad 6 = q6 := by rw [ead]; exact setA_s _ _ _
  refine r_putF cx hin wo 0 (w' := ((qP, .inr (4, [.ref q1, .ref q2, .ref q3, .ref q4, .ref q5, .int 0, .int 0, .int 0, .ref q6, .null, .null])) :: wl E ad n [3, 2, 1, 9, 10, 11, 12, 13, 14, 15, 16, 4, 5, 6] σ14)) rfl rfl in_SF t_SF tok_SF n_SF 8 (by decide) wf_SF_47 rfl rfl rfl rfl (Nat.le_of_ble_eq_true rfl) rfl d_SF_init_76 (fun H locs wo => ?_)
  refine lv_aload_n hx hb d_SF_init_79 rfl (lv_at hl 0 rfl) ?_
  refine lv_bipush (v := 8) hx hb d_SF_init_80 (by decide) ?_
  obtain ⟨g15, hD⟩ := grd_s hD
  obtain ⟨g15a, g15b⟩ := of_decide_eq_true g15
  refine c_newa cx wo .long .long rfl wa_long rfl 1 rfl (a0 := (((8 : Int32)).toNatClampNeg, .inr (.inl (fun _ => 0)))) (fun _ => rfl) g15a rfl g15b (by decide) (by decide) (by decide) (by decide) d_SF_init_82 (fun q7 H wo => ?_)
  obtain ⟨n, en⟩ : ∃ z, z = setA n 7 ((8 : Int32)).toNatClampNeg := ⟨_, rfl⟩
  have hD := nm_at hD en
  try dsimp only at hD
  obtain ⟨σ16, eσ16⟩ : ∃ z, z = zC σ14 7 := ⟨_, rfl⟩
  have hD := nm_at hD eσ16
  try dsimp only at hD
  obtain ⟨ad, ead⟩ : ∃ z, z = setA ad 7 q7 := ⟨_, rfl⟩
  rw [List.cons_append, wl_grow (L := [3, 2, 1, 9, 10, 11, 12, 13, 14, 15, 16, 4, 5, 6]) (ad1 := ad) (n1 := n) (σ1 := σ16) (a := 7) (by decide) (by rw [ead]; exact setA_s _ _ _) (fun b hb => by rw [ead]; exact setA_n _ _ hb) (fun b hb => by rw [en]; exact setA_n _ _ hb) (fun b hb => by rw [eσ16]; exact zC_1 b hb) (fun b hb => by rw [eσ16]; exact zC_2 b hb) (by rw [cel_7, en, eσ16, setA_s]; rfl)] at wo
  try dsimp only [List.append, List.cons_append, List.nil_append] at wo
  have a3 : ad 3 = q3 := by rw [ead]; exact (setA_n _ _ (by decide)).trans a3
  have a2 : ad 2 = q2 := by rw [ead]; exact (setA_n _ _ (by decide)).trans a2
  have a1 : ad 1 = q1 := by rw [ead]; exact (setA_n _ _ (by decide)).trans a1
  have a9 : ad 9 = q9 := by rw [ead]; exact (setA_n _ _ (by decide)).trans a9
  have a10 : ad 10 = q10 := by rw [ead]; exact (setA_n _ _ (by decide)).trans a10
  have a11 : ad 11 = q11 := by rw [ead]; exact (setA_n _ _ (by decide)).trans a11
  have a12 : ad 12 = q12 := by rw [ead]; exact (setA_n _ _ (by decide)).trans a12
  have a13 : ad 13 = q13 := by rw [ead]; exact (setA_n _ _ (by decide)).trans a13
  have a14 : ad 14 = q14 := by rw [ead]; exact (setA_n _ _ (by decide)).trans a14
  have a15 : ad 15 = q15 := by rw [ead]; exact (setA_n _ _ (by decide)).trans a15
  have a16 : ad 16 = q16 := by rw [ead]; exact (setA_n _ _ (by decide)).trans a16
  have a4 : ad 4 = q4 := by rw [ead]; exact (setA_n _ _ (by decide)).trans a4
  have a5 : ad 5 = q5 := by rw [ead]; exact (setA_n _ _ (by decide)).trans a5
  have a6 : ad 6 = q6 := by rw [ead]; exact (setA_n _ _ (by decide)).trans a6
  have a7 : ad 7 = q7 := by rw [ead]; exact setA_s _ _ _
  refine r_putF cx hin wo 0 (w' := ((qP, .inr (4, [.ref q1, .ref q2, .ref q3, .ref q4, .ref q5, .int 0, .int 0, .int 0, .ref q6, .ref q7, .null])) :: wl E ad n [3, 2, 1, 9, 10, 11, 12, 13, 14, 15, 16, 4, 5, 6, 7] σ16)) rfl rfl in_SF t_SF tok_SF n_SF 9 (by decide) wf_SF_50 rfl rfl rfl rfl (Nat.le_of_ble_eq_true rfl) rfl d_SF_init_84 (fun H locs wo => ?_)
  refine lv_aload_n hx hb d_SF_init_87 rfl (lv_at hl 0 rfl) ?_
  refine lv_bipush (v := 8) hx hb d_SF_init_88 (by decide) ?_
  obtain ⟨g17, hD⟩ := grd_s hD
  obtain ⟨g17a, g17b⟩ := of_decide_eq_true g17
  refine c_newa cx wo .long .long rfl wa_long rfl 1 rfl (a0 := (((8 : Int32)).toNatClampNeg, .inr (.inl (fun _ => 0)))) (fun _ => rfl) g17a rfl g17b (by decide) (by decide) (by decide) (by decide) d_SF_init_90 (fun q8 H wo => ?_)
  obtain ⟨n, en⟩ : ∃ z, z = setA n 8 ((8 : Int32)).toNatClampNeg := ⟨_, rfl⟩
  have hD := nm_at hD en
  try dsimp only at hD
  obtain ⟨σ18, eσ18⟩ : ∃ z, z = zC σ16 8 := ⟨_, rfl⟩
  have hD := nm_at hD eσ18
  try dsimp only at hD
  obtain ⟨ad, ead⟩ : ∃ z, z = setA ad 8 q8 := ⟨_, rfl⟩
  rw [List.cons_append, wl_grow (L := [3, 2, 1, 9, 10, 11, 12, 13, 14, 15, 16, 4, 5, 6, 7]) (ad1 := ad) (n1 := n) (σ1 := σ18) (a := 8) (by decide) (by rw [ead]; exact setA_s _ _ _) (fun b hb => by rw [ead]; exact setA_n _ _ hb) (fun b hb => by rw [en]; exact setA_n _ _ hb) (fun b hb => by rw [eσ18]; exact zC_1 b hb) (fun b hb => by rw [eσ18]; exact zC_2 b hb) (by rw [cel_8, en, eσ18, setA_s]; rfl)] at wo
  try dsimp only [List.append, List.cons_append, List.nil_append] at wo
  have a3 : ad 3 = q3 := by rw [ead]; exact (setA_n _ _ (by decide)).trans a3
  have a2 : ad 2 = q2 := by rw [ead]; exact (setA_n _ _ (by decide)).trans a2
  have a1 : ad 1 = q1 := by rw [ead]; exact (setA_n _ _ (by decide)).trans a1
  have a9 : ad 9 = q9 := by rw [ead]; exact (setA_n _ _ (by decide)).trans a9
  have a10 : ad 10 = q10 := by rw [ead]; exact (setA_n _ _ (by decide)).trans a10
  have a11 : ad 11 = q11 := by rw [ead]; exact (setA_n _ _ (by decide)).trans a11
  have a12 : ad 12 = q12 := by rw [ead]; exact (setA_n _ _ (by decide)).trans a12
  have a13 : ad 13 = q13 := by rw [ead]; exact (setA_n _ _ (by decide)).trans a13
  have a14 : ad 14 = q14 := by rw [ead]; exact (setA_n _ _ (by decide)).trans a14
  have a15 : ad 15 = q15 := by rw [ead]; exact (setA_n _ _ (by decide)).trans a15
  have a16 : ad 16 = q16 := by rw [ead]; exact (setA_n _ _ (by decide)).trans a16
  have a4 : ad 4 = q4 := by rw [ead]; exact (setA_n _ _ (by decide)).trans a4
  have a5 : ad 5 = q5 := by rw [ead]; exact (setA_n _ _ (by decide)).trans a5
  have a6 : ad 6 = q6 := by rw [ead]; exact (setA_n _ _ (by decide)).trans a6
  have a7 : ad 7 = q7 := by rw [ead]; exact (setA_n _ _ (by decide)).trans a7
  have a8 : ad 8 = q8 := by rw [ead]; exact setA_s _ _ _
  refine r_putF cx hin wo 0 (w' := ((qP, .inr (4, [.ref q1, .ref q2, .ref q3, .ref q4, .ref q5, .int 0, .int 0, .int 0, .ref q6, .ref q7, .ref q8])) :: wl E ad n [3, 2, 1, 9, 10, 11, 12, 13, 14, 15, 16, 4, 5, 6, 7, 8] σ18)) rfl rfl in_SF t_SF tok_SF n_SF 10 (by decide) wf_SF_53 rfl rfl rfl rfl (Nat.le_of_ble_eq_true rfl) rfl d_SF_init_92 (fun H locs wo => ?_)
  obtain ⟨σ19, eσ19⟩ : ∃ z, z = stC σ18 0 (fun (j : Nat) => (cond (Nat.beq j 0) (0) (cond (Nat.beq j 1) (0) (cond (Nat.beq j 2) (0) (cond (Nat.beq j 3) (0) (cond (Nat.beq j 4) (0) (cond (Nat.beq j 5) (0) (cond (Nat.beq j 6) (0) (cond (Nat.beq j 7) (0) (cond (Nat.beq j 8) (0) (cond (Nat.beq j 9) (0) (cond (Nat.beq j 10) (0) (0))))))))))) : Int32)) := ⟨_, rfl⟩
  have hD := nm_at hD eσ19
  try dsimp only at hD
  obtain ⟨ad, ead⟩ : ∃ z, z = setA ad 0 qP := ⟨_, rfl⟩
  rw [wl_cons (L := [3, 2, 1, 9, 10, 11, 12, 13, 14, 15, 16, 4, 5, 6, 7, 8]) (ad1 := ad) (n1 := n) (σ1 := σ19) (a := 0) (by decide) (by rw [ead]; exact setA_s _ _ _) (fun b hb => by rw [ead]; exact setA_n _ _ hb) (fun b hb => rfl) (fun b hb => by rw [eσ19]; exact stC_1 b hb) (fun b hb => by rw [eσ19]; rfl) (by rw [cel_0, ead, eσ19, setA_n _ _ (show (1 : Nat) ≠ 0 by decide), a1, setA_n _ _ (show (2 : Nat) ≠ 0 by decide), a2, setA_n _ _ (show (3 : Nat) ≠ 0 by decide), a3, setA_n _ _ (show (4 : Nat) ≠ 0 by decide), a4, setA_n _ _ (show (5 : Nat) ≠ 0 by decide), a5, setA_n _ _ (show (6 : Nat) ≠ 0 by decide), a6, setA_n _ _ (show (7 : Nat) ≠ 0 by decide), a7, setA_n _ _ (show (8 : Nat) ≠ 0 by decide), a8]; try rfl)] at wo
  have a3 : ad 3 = q3 := by rw [ead]; exact (setA_n _ _ (by decide)).trans a3
  have a2 : ad 2 = q2 := by rw [ead]; exact (setA_n _ _ (by decide)).trans a2
  have a1 : ad 1 = q1 := by rw [ead]; exact (setA_n _ _ (by decide)).trans a1
  have a9 : ad 9 = q9 := by rw [ead]; exact (setA_n _ _ (by decide)).trans a9
  have a10 : ad 10 = q10 := by rw [ead]; exact (setA_n _ _ (by decide)).trans a10
  have a11 : ad 11 = q11 := by rw [ead]; exact (setA_n _ _ (by decide)).trans a11
  have a12 : ad 12 = q12 := by rw [ead]; exact (setA_n _ _ (by decide)).trans a12
  have a13 : ad 13 = q13 := by rw [ead]; exact (setA_n _ _ (by decide)).trans a13
  have a14 : ad 14 = q14 := by rw [ead]; exact (setA_n _ _ (by decide)).trans a14
  have a15 : ad 15 = q15 := by rw [ead]; exact (setA_n _ _ (by decide)).trans a15
  have a16 : ad 16 = q16 := by rw [ead]; exact (setA_n _ _ (by decide)).trans a16
  have a4 : ad 4 = q4 := by rw [ead]; exact (setA_n _ _ (by decide)).trans a4
  have a5 : ad 5 = q5 := by rw [ead]; exact (setA_n _ _ (by decide)).trans a5
  have a6 : ad 6 = q6 := by rw [ead]; exact (setA_n _ _ (by decide)).trans a6
  have a7 : ad 7 = q7 := by rw [ead]; exact (setA_n _ _ (by decide)).trans a7
  have a8 : ad 8 = q8 := by rw [ead]; exact (setA_n _ _ (by decide)).trans a8
  have a0 : ad 0 = qP := by rw [ead]; exact setA_s _ _ _
  obtain ⟨q0, hq0⟩ : ∃ z, z = qP := ⟨_, rfl⟩
  rw [← hq0] at hl
  have a0 : ad 0 = q0 := a0.trans hq0.symm
  cases hD
  rw [hA0] at wo
  rw [hQQ]
  exact tN_v ad cx wo ⟨(fun b hb => absurd hb List.not_mem_nil), (a0.trans hq0)⟩ d_SF_init_95
