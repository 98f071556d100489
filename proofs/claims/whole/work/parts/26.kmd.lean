def D_MD_init_L199 (F : Nat) (n : Nat → Nat) (σ28 : HS) (x31 : Int32) : Nat → Int32 → Int32 → Option (Int32)
  | 0, _, _ => none
  | k34 + 1, x35, x36 =>
      (if x31 < x35 then
                    some x36
                  else
                    (if x36 = 0 then
                      nm (x35 + (1 : Int32)) (fun x39 =>
                      D_MD_init_L199 F n σ28 x31 k34 x39 (0 : Int32))
                    else
                      grd (decide (¬ x35 = 0)) (
                      (if (x31 - x31 / x35 * x35) = 0 then
                        grd (decide (¬ x35 = 0)) (
                        (if ((σ28.1 20 1) - (σ28.1 20 1) / x35 * x35) = 0 then
                          nm (x35 + (1 : Int32)) (fun x45 =>
                          D_MD_init_L199 F n σ28 x31 k34 x45 (0 : Int32))
                        else
                          nm (x35 + (1 : Int32)) (fun x46 =>
                          D_MD_init_L199 F n σ28 x31 k34 x46 (1 : Int32))))
                      else
                        nm (x35 + (1 : Int32)) (fun x42 =>
                        D_MD_init_L199 F n σ28 x31 k34 x42 (1 : Int32))))))
def D_MD_init_L184 (F : Nat) (n : Nat → Nat)  : Nat → HS → Int32 → Option (HS)
  | 0, _, _ => none
  | k30 + 1, σ28, x31 =>
      (if (σ28.1 20 1) ≤ x31 then
              some σ28
            else
              (D_MD_init_L199 F n σ28 x31 F (2 : Int32) (1 : Int32)).bind (fun (x47 : Int32) =>
              (if x47 = 0 then
                  nm (x31 + (1 : Int32)) (fun x56 =>
                  D_MD_init_L184 F n  k30 σ28 x56)
                else
                  grd (inb (σ28.1 20 6) (n 21)) (
                  nm (stI σ28 21 ((σ28.1 20 6)).toNatClampNeg x31) (fun σ53 =>
                  nm (stF σ53 20 6 ((σ53.1 20 6) + (1 : Int32))) (fun σ54 =>
                  nm (x31 + (1 : Int32)) (fun x55 =>
                  D_MD_init_L184 F n  k30 σ54 x55)))))))
def D_MD_init_L300 (F : Nat) (n : Nat → Nat) (x64 : Int32) : Nat → HS → Int32 → Option (HS)
  | 0, _, _ => none
  | k70 + 1, σ68, x71 =>
      (if (σ68.1 20 3) < x71 then
                      some σ68
                    else
                      (D_MD_at F n σ68 x64 x71).bind (fun (x73 : Int32) =>
                      grd (inb x73 (n 23)) (
                      nm (stI σ68 23 (x73).toNatClampNeg (vp_nar .boolean (1 : Int32))) (fun σ75 =>
                      nm (x71 + (1 : Int32)) (fun x76 =>
                      D_MD_init_L300 F n x64 k70 σ75 x76)))))
def D_MD_init_L280 (F : Nat) (n : Nat → Nat)  : Nat → HS → Int32 → Option (HS)
  | 0, _, _ => none
  | k63 + 1, σ61, x64 =>
      (if (σ61.1 20 1) ≤ x64 then
                some σ61
              else
                grd (inb x64 (n 22)) (
                nm (stI σ61 22 (x64).toNatClampNeg (vp_nar .boolean (1 : Int32))) (fun σ67 =>
                (D_MD_init_L300 F n x64 F σ67 (0 : Int32)).bind (fun (σ77 : HS) =>
                nm (x64 + (1 : Int32)) (fun x81 =>
                  D_MD_init_L280 F n  k63 σ77 x81)))))
def D_MD_init_L349 (F : Nat) (n : Nat → Nat) (x89 : Int32) : Nat → HS → Int32 → Option (HS)
  | 0, _, _ => none
  | k93 + 1, σ91, x94 =>
      (if ((σ91.1 20 2) * (σ91.1 20 4)) ≤ x94 then
                        some σ91
                      else
                        (D_MD_diskOf F n σ91 x89 x94).bind (fun (x96 : Int32) =>
                        grd (inb (((16 : Int32) * x89) + x94) (n 26)) (
                        nm (stI σ91 26 ((((16 : Int32) * x89) + x94)).toNatClampNeg x96) (fun σ98 =>
                        (D_MD_diskOf F n σ98 x89 x94).bind (fun (x99 : Int32) =>
                        (D_MD_at F n σ98 x99 x89).bind (fun (x100 : Int32) =>
                        grd (inb x100 (n 24)) (
                        nm (stI σ98 24 (x100).toNatClampNeg (x94 + (1 : Int32))) (fun σ102 =>
                        nm (x94 + (1 : Int32)) (fun x103 =>
                        D_MD_init_L349 F n x89 k93 σ102 x103)))))))))
def D_MD_init_L337 (F : Nat) (n : Nat → Nat)  : Nat → HS → Int32 → Option (HS)
  | 0, _, _ => none
  | k88 + 1, σ86, x89 =>
      (if (σ86.1 20 3) ≤ x89 then
                  some σ86
                else
                  (D_MD_init_L349 F n x89 F σ86 (0 : Int32)).bind (fun (σ104 : HS) =>
                  nm (x89 + (1 : Int32)) (fun x108 =>
                    D_MD_init_L337 F n  k88 σ104 x108)))
def D_MD_init (F : Nat) (n : Nat → Nat) (σ : HS) (p1 : Int32) (p2 : Int32) (p3 : Int32) : Option ((Nat → Nat) × HS) :=
grd (okN (16 : Int32) 16) (
  nm (setA n 21 ((16 : Int32)).toNatClampNeg) (fun n =>
  nm (zC σ 21) (fun σ2 =>
  grd (okN (16 : Int32) 16) (
  nm (setA n 22 ((16 : Int32)).toNatClampNeg) (fun n =>
  nm (zC σ2 22) (fun σ4 =>
  grd (okN (1040 : Int32) 1040) (
  nm (setA n 23 ((1040 : Int32)).toNatClampNeg) (fun n =>
  nm (zC σ4 23) (fun σ6 =>
  grd (okN (1040 : Int32) 1040) (
  nm (setA n 24 ((1040 : Int32)).toNatClampNeg) (fun n =>
  nm (zC σ6 24) (fun σ8 =>
  grd (okN (72800 : Int32) 72800) (
  nm (setA n 25 ((72800 : Int32)).toNatClampNeg) (fun n =>
  nm (zC σ8 25) (fun σ10 =>
  grd (okN (1024 : Int32) 1024) (
  nm (setA n 26 ((1024 : Int32)).toNatClampNeg) (fun n =>
  nm (zC σ10 26) (fun σ12 =>
  grd (okN (64 : Int32) 64) (
  nm (setA n 27 ((64 : Int32)).toNatClampNeg) (fun n =>
  nm (zC σ12 27) (fun σ14 =>
  grd (okN (49152 : Int32) 49152) (
  nm (setA n 28 ((49152 : Int32)).toNatClampNeg) (fun n =>
  nm (zC σ14 28) (fun σ16 =>
  grd (okN (64 : Int32) 64) (
  nm (setA n 29 ((64 : Int32)).toNatClampNeg) (fun n =>
  nm (zC σ16 29) (fun σ18 =>
  jn (fun (x20 : Int32) =>
    jn (fun (x22 : Int32) =>
      jn (fun (x24 : Int32) =>
        grd (decide (¬ x22 = 0)) (
        nm ((x20 - (1 : Int32)) / x22) (fun x26 =>
        nm (stC σ18 20 (fun (j : Nat) => (cond (Nat.beq j 0) (0) (cond (Nat.beq j 1) (x20) (cond (Nat.beq j 2) (x22) (cond (Nat.beq j 3) (x24) (cond (Nat.beq j 4) (x26) (cond (Nat.beq j 5) (0) (cond (Nat.beq j 6) (0) (cond (Nat.beq j 7) (0) (cond (Nat.beq j 8) (0) (cond (Nat.beq j 9) (0) (cond (Nat.beq j 10) (0) (cond (Nat.beq j 11) (0) (cond (Nat.beq j 12) ((1 : Int32)) (cond (Nat.beq j 13) ((-1 : Int32)) (cond (Nat.beq j 14) (0) (cond (Nat.beq j 15) (0) (cond (Nat.beq j 16) (0) (cond (Nat.beq j 17) (0) (cond (Nat.beq j 18) (0) (cond (Nat.beq j 19) ((-1 : Int32)) (cond (Nat.beq j 20) (0) (cond (Nat.beq j 21) (0) (0)))))))))))))))))))))) : Int32))) (fun σ27 =>
        (D_MD_init_L184 F n  F σ27 (1 : Int32)).bind (fun (σ57 : HS) =>
        (D_MD_init_L280 F n  F σ57 (0 : Int32)).bind (fun (σ82 : HS) =>
          (D_MD_init_L337 F n  F σ82 (0 : Int32)).bind (fun (σ109 : HS) =>
            some (n, σ109))))))))
      (fun j23 =>
      (if p3 < (48 : Int32) then
        j23 (48 : Int32)
      else
        (if p3 ≤ (64 : Int32) then
          j23 p3
        else
          j23 (48 : Int32)))))
    (fun j21 =>
    (if p2 < (3 : Int32) then
      j21 (3 : Int32)
    else
      (if (8 : Int32) < p2 then
        j21 (3 : Int32)
      else
        (if p2 < x20 then
          j21 p2
        else
          j21 (3 : Int32))))))
  (fun j19 =>
  (if p1 < (6 : Int32) then
    j19 (8 : Int32)
  else
    (if p1 ≤ (16 : Int32) then
      j19 p1
    else
      j19 (8 : Int32)))))))))))))))))))))))))))))))
set_option maxRecDepth 100000 in
set_option maxHeartbeats 8000000 in
theorem k_MD_init (l : Launch) (E : EV) (ad n : Nat → Nat) (F : Nat) (σ : HS) (qP : Nat) (p1 : Int32) (p2 : Int32) (p3 : Int32) (no : Nat → Nat) (σo : HS) (hD : D_MD_init F n σ p1 p2 p3 = some (no, σo)) : CtN l E y_MD_init c_MD_init 7 none ({ frames := 1, cells := 9, slots := 125216, locals := 22 }) [.ref qP, .int p1, .int p2, .int p3] ((qP, .inr (5, [.int 0, .int 0, .int 0, .int 0, .int 0, .null, .int 0, .null, .null, .null, .null, .null, .int 0, .int 0, .int 0, .int 0, .null, .int 0, .null, .int 0, .int 0, .null])) :: wl E ad n [] σ) (fun u => (∀ b ∈ ([] : List Nat), u b = ad b) ∧ u 20 = qP) (fun u => wl E u no [20, 21, 22, 23, 24, 25, 26, 27, 28, 29] σo) := by
  refine fun sz => entC (by decide) rfl (Nat.le_of_ble_eq_true rfl) ?_
  intro p e s m below meth c hsz cx wo ls hl
  obtain ⟨cx, hin⟩ := cx
  have hx := cx.1.1
  have hb := cx.1.2.1
  have hown := cx.1.2.2.2.1
  have hts := cx.1.2.2.2.2
  obtain ⟨A0, hA0⟩ : ∃ z, z = va_A ((qP, .inr (5, [.int 0, .int 0, .int 0, .int 0, .int 0, .null, .int 0, .null, .null, .null, .null, .null, .int 0, .int 0, .int 0, .int 0, .null, .int 0, .null, .int 0, .int 0, .null])) :: wl E ad n [] σ) sz := ⟨_, rfl⟩
  rw [← hA0] at wo
  refine W_gen (fun QQ hQQ => ?_)
  obtain ⟨aa, haa⟩ : ∃ z, z = ([.ref qP, .int p1, .int p2, .int p3] : List Value).toArray := ⟨_, rfl⟩
  rw [← haa] at cx hQQ hts ⊢
  have hl : lv_has ls 7 [(0, .ref qP), (1, .int p1), (2, .int p2), (3, .int p3)] := hl
  rw [D_MD_init] at hD
  refine lv_aload_n hx hb d_MD_init_0 rfl (lv_at hl 0 rfl) ?_
  refine c_obj cx wm_MD_1 hl.1 ⟨by decide, by decide⟩ (Nat.le_of_ble_eq_true rfl) d_MD_init_1 ?_
  refine lv_aload_n hx hb d_MD_init_4 rfl (lv_at hl 0 rfl) ?_
  refine lv_bipush (v := 16) hx hb d_MD_init_5 (by decide) ?_
  obtain ⟨g1, hD⟩ := grd_s hD
  obtain ⟨g1a, g1b⟩ := of_decide_eq_true g1
  refine c_newa cx wo .int .int rfl wa_int rfl 0 rfl (a0 := (((16 : Int32)).toNatClampNeg, .inl (fun _ => 0))) (fun _ => rfl) g1a rfl g1b (by decide) (by decide) (by decide) (by decide) d_MD_init_7 (fun q21 H wo => ?_)
  obtain ⟨n, en⟩ : ∃ z, z = setA n 21 ((16 : Int32)).toNatClampNeg := ⟨_, rfl⟩
  have hD := nm_at hD en
  try dsimp only at hD
  obtain ⟨σ2, eσ2⟩ : ∃ z, z = zC σ 21 := ⟨_, rfl⟩
  have hD := nm_at hD eσ2
  try dsimp only at hD
  obtain ⟨ad, ead⟩ : ∃ z, z = setA ad 21 q21 := ⟨_, rfl⟩
  rw [List.cons_append, wl_grow (L := []) (ad1 := ad) (n1 := n) (σ1 := σ2) (a := 21) (by decide) (by rw [ead]; exact setA_s _ _ _) (fun b hb => by rw [ead]; exact setA_n _ _ hb) (fun b hb => by rw [en]; exact setA_n _ _ hb) (fun b hb => by rw [eσ2]; exact zC_1 b hb) (fun b hb => by rw [eσ2]; exact zC_2 b hb) (by rw [cel_21, en, eσ2, setA_s]; rfl)] at wo
  try dsimp only [List.append, List.cons_append, List.nil_append] at wo
  have a21 : ad 21 = q21 := by rw [ead]; exact setA_s _ _ _
  refine r_putF cx hin wo 0 (w' := ((qP, .inr (5, [.int 0, .int 0, .int 0, .int 0, .int 0, .ref q21, .int 0, .null, .null, .null, .null, .null, .int 0, .int 0, .int 0, .int 0, .null, .int 0, .null, .int 0, .int 0, .null])) :: wl E ad n [21] σ2)) rfl rfl in_MD t_MD tok_MD n_MD 5 (by decide) wf_MD_7 rfl rfl rfl rfl (Nat.le_of_ble_eq_true rfl) rfl d_MD_init_9 (fun H locs wo => ?_)
  refine lv_aload_n hx hb d_MD_init_12 rfl (lv_at hl 0 rfl) ?_
  refine lv_bipush (v := 16) hx hb d_MD_init_13 (by decide) ?_
  obtain ⟨g3, hD⟩ := grd_s hD
  obtain ⟨g3a, g3b⟩ := of_decide_eq_true g3
  refine c_newa cx wo .boolean .boolean rfl wa_boolean rfl 2 rfl (a0 := (((16 : Int32)).toNatClampNeg, .inl (fun _ => 0))) (fun _ => rfl) g3a rfl g3b (by decide) (by decide) (by decide) (by decide) d_MD_init_15 (fun q22 H wo => ?_)
  obtain ⟨n, en⟩ : ∃ z, z = setA n 22 ((16 : Int32)).toNatClampNeg := ⟨_, rfl⟩
  have hD := nm_at hD en
  try dsimp only at hD
  obtain ⟨σ4, eσ4⟩ : ∃ z, z = zC σ2 22 := ⟨_, rfl⟩
  have hD := nm_at hD eσ4
  try dsimp only at hD
  obtain ⟨ad, ead⟩ : ∃ z, z = setA ad 22 q22 := ⟨_, rfl⟩
  rw [List.cons_append, wl_grow (L := [21]) (ad1 := ad) (n1 := n) (σ1 := σ4) (a := 22) (by decide) (by rw [ead]; exact setA_s _ _ _) (fun b hb => by rw [ead]; exact setA_n _ _ hb) (fun b hb => by rw [en]; exact setA_n _ _ hb) (fun b hb => by rw [eσ4]; exact zC_1 b hb) (fun b hb => by rw [eσ4]; exact zC_2 b hb) (by rw [cel_22, en, eσ4, setA_s]; rfl)] at wo
  try dsimp only [List.append, List.cons_append, List.nil_append] at wo
  have a21 : ad 21 = q21 := by rw [ead]; exact (setA_n _ _ (by decide)).trans a21
  have a22 : ad 22 = q22 := by rw [ead]; exact setA_s _ _ _
  refine r_putF cx hin wo 0 (w' := ((qP, .inr (5, [.int 0, .int 0, .int 0, .int 0, .int 0, .ref q21, .int 0, .ref q22, .null, .null, .null, .null, .int 0, .int 0, .int 0, .int 0, .null, .int 0, .null, .int 0, .int 0, .null])) :: wl E ad n [21, 22] σ4)) rfl rfl in_MD t_MD tok_MD n_MD 7 (by decide) wf_MD_13 rfl rfl rfl rfl (Nat.le_of_ble_eq_true rfl) rfl d_MD_init_17 (fun H locs wo => ?_)
  refine lv_aload_n hx hb d_MD_init_20 rfl (lv_at hl 0 rfl) ?_
  refine lv_sipush (v := 1040) hx hb d_MD_init_21 (by decide) ?_
  obtain ⟨g5, hD⟩ := grd_s hD
  obtain ⟨g5a, g5b⟩ := of_decide_eq_true g5
  refine c_newa cx wo .boolean .boolean rfl wa_boolean rfl 2 rfl (a0 := (((1040 : Int32)).toNatClampNeg, .inl (fun _ => 0))) (fun _ => rfl) g5a rfl g5b (by decide) (by decide) (by decide) (by decide) d_MD_init_24 (fun q23 H wo => ?_)
  obtain ⟨n, en⟩ : ∃ z, z = setA n 23 ((1040 : Int32)).toNatClampNeg := ⟨_, rfl⟩
  have hD := nm_at hD en
  try dsimp only at hD
  obtain ⟨σ6, eσ6⟩ : ∃ z, z = zC σ4 23 := ⟨_, rfl⟩
  have hD := nm_at hD eσ6
  try dsimp only at hD
  obtain ⟨ad, ead⟩ : ∃ z, z = setA ad 23 q23 := ⟨_, rfl⟩
  rw [List.cons_append, wl_grow (L := [21, 22]) (ad1 := ad) (n1 := n) (σ1 := σ6) (a := 23) (by decide) (by rw [ead]; exact setA_s _ _ _) (fun b hb => by rw [ead]; exact setA_n _ _ hb) (fun b hb => by rw [en]; exact setA_n _ _ hb) (fun b hb => by rw [eσ6]; exact zC_1 b hb) (fun b hb => by rw [eσ6]; exact zC_2 b hb) (by rw [cel_23, en, eσ6, setA_s]; rfl)] at wo
  try dsimp only [List.append, List.cons_append, List.nil_append] at wo
  have a21 : ad 21 = q21 := by rw [ead]; exact (setA_n _ _ (by decide)).trans a21
  have a22 : ad 22 = q22 := by rw [ead]; exact (setA_n _ _ (by decide)).trans a22
  have a23 : ad 23 = q23 := by rw [ead]; exact setA_s _ _ _
  refine r_putF cx hin wo 0 (w' := ((qP, .inr (5, [.int 0, .int 0, .int 0, .int 0, .int 0, .ref q21, .int 0, .ref q22, .ref q23, .null, .null, .null, .int 0, .int 0, .int 0, .int 0, .null, .int 0, .null, .int 0, .int 0, .null])) :: wl E ad n [21, 22, 23] σ6)) rfl rfl in_MD t_MD tok_MD n_MD 8 (by decide) wf_MD_17 rfl rfl rfl rfl (Nat.le_of_ble_eq_true rfl) rfl d_MD_init_26 (fun H locs wo => ?_)
  refine lv_aload_n hx hb d_MD_init_29 rfl (lv_at hl 0 rfl) ?_
  refine lv_sipush (v := 1040) hx hb d_MD_init_30 (by decide) ?_
  obtain ⟨g7, hD⟩ := grd_s hD
  obtain ⟨g7a, g7b⟩ := of_decide_eq_true g7
  refine c_newa cx wo .int .int rfl wa_int rfl 0 rfl (a0 := (((1040 : Int32)).toNatClampNeg, .inl (fun _ => 0))) (fun _ => rfl) g7a rfl g7b (by decide) (by decide) (by decide) (by decide) d_MD_init_33 (fun q24 H wo => ?_)
  obtain ⟨n, en⟩ : ∃ z, z = setA n 24 ((1040 : Int32)).toNatClampNeg := ⟨_, rfl⟩
  have hD := nm_at hD en
  try dsimp only at hD
  obtain ⟨σ8, eσ8⟩ : ∃ z, z = zC σ6 24 := ⟨_, rfl⟩
  have hD := nm_at hD eσ8
  try dsimp only at hD
  obtain ⟨ad, ead⟩ : ∃ z, z = setA ad 24 q24 := ⟨_, rfl⟩
  rw [List.cons_append, wl_grow (L := [21, 22, 23]) (ad1 := ad) (n1 := n) (σ1 := σ8) (a := 24) (by decide) (by rw [ead]; exact setA_s _ _ _) (fun b hb => by rw [ead]; exact setA_n _ _ hb) (fun b hb => by rw [en]; exact setA_n _ _ hb) (fun b hb => by rw [eσ8]; exact zC_1 b hb) (fun b hb => by rw [eσ8]; exact zC_2 b hb) (by rw [cel_24, en, eσ8, setA_s]; rfl)] at wo
  try dsimp only [List.append, List.cons_append, List.nil_append] at wo
  have a21 : ad 21 = q21 := by rw [ead]; exact (setA_n _ _ (by decide)).trans a21
  have a22 : ad 22 = q22 := by rw [ead]; exact (setA_n _ _ (by decide)).trans a22
  have a23 : ad 23 = q23 := by rw [ead]; exact (setA_n _ _ (by decide)).trans a23
  have a24 : ad 24 = q24 := by rw [ead]; exact setA_s _ _ _
  refine r_putF cx hin wo 0 (w' := ((qP, .inr (5, [.int 0, .int 0, .int 0, .int 0, .int 0, .ref q21, .int 0, .ref q22, .ref q23, .ref q24, .null, .null, .int 0, .int 0, .int 0, .int 0, .null, .int 0, .null, .int 0, .int 0, .null])) :: wl E ad n [21, 22, 23, 24] σ8)) rfl rfl in_MD t_MD tok_MD n_MD 9 (by decide) wf_MD_20 rfl rfl rfl rfl (Nat.le_of_ble_eq_true rfl) rfl d_MD_init_35 (fun H locs wo => ?_)
  refine lv_aload_n hx hb d_MD_init_38 rfl (lv_at hl 0 rfl) ?_
  refine lv_ldc hx hb hown (hts _ wc_MD_23) d_MD_init_39 ?_
  obtain ⟨g9, hD⟩ := grd_s hD
  obtain ⟨g9a, g9b⟩ := of_decide_eq_true g9
  refine c_newa cx wo .byte .byte rfl wa_byte rfl 3 rfl (a0 := (((72800 : Int32)).toNatClampNeg, .inl (fun _ => 0))) (fun _ => rfl) g9a rfl g9b (by decide) (by decide) (by decide) (by decide) d_MD_init_41 (fun q25 H wo => ?_)
  obtain ⟨n, en⟩ : ∃ z, z = setA n 25 ((72800 : Int32)).toNatClampNeg := ⟨_, rfl⟩
  have hD := nm_at hD en
  try dsimp only at hD
  obtain ⟨σ10, eσ10⟩ : ∃ z, z = zC σ8 25 := ⟨_, rfl⟩
  have hD := nm_at hD eσ10
  try dsimp only at hD
  obtain ⟨ad, ead⟩ : ∃ z, z = setA ad 25 q25 := ⟨_, rfl⟩
  rw [List.cons_append, wl_grow (L := [21, 22, 23, 24]) (ad1 := ad) (n1 := n) (σ1 := σ10) (a := 25) (by decide) (by rw [ead]; exact setA_s _ _ _) (fun b hb => by rw [ead]; exact setA_n _ _ hb) (fun b hb => by rw [en]; exact setA_n _ _ hb) (fun b hb => by rw [eσ10]; exact zC_1 b hb) (fun b hb => by rw [eσ10]; exact zC_2 b hb) (by rw [cel_25, en, eσ10, setA_s]; rfl)] at wo
  try dsimp only [List.append, List.cons_append, List.nil_append] at wo
  have a21 : ad 21 = q21 := by rw [ead]; exact (setA_n _ _ (by decide)).trans a21
  have a22 : ad 22 = q22 := by rw [ead]; exact (setA_n _ _ (by decide)).trans a22
  have a23 : ad 23 = q23 := by rw [ead]; exact (setA_n _ _ (by decide)).trans a23
  have a24 : ad 24 = q24 := by rw [ead]; exact (setA_n _ _ (by decide)).trans a24
  have a25 : ad 25 = q25 := by rw [ead]; exact setA_s _ _ _
  refine r_putF cx hin wo 0 (w' := ((qP, .inr (5, [.int 0, .int 0, .int 0, .int 0, .int 0, .ref q21, .int 0, .ref q22, .ref q23, .ref q24, .ref q25, .null, .int 0, .int 0, .int 0, .int 0, .null, .int 0, .null, .int 0, .int 0, .null])) :: wl E ad n [21, 22, 23, 24, 25] σ10)) rfl rfl in_MD t_MD tok_MD n_MD 10 (by decide) wf_MD_24 rfl rfl rfl rfl (Nat.le_of_ble_eq_true rfl) rfl d_MD_init_43 (fun H locs wo => ?_)
  refine lv_aload_n hx hb d_MD_init_46 rfl (lv_at hl 0 rfl) ?_
  refine lv_sipush (v := 1024) hx hb d_MD_init_47 (by decide) ?_
  obtain ⟨g11, hD⟩ := grd_s hD
  obtain ⟨g11a, g11b⟩ := of_decide_eq_true g11
  refine c_newa cx wo .int .int rfl wa_int rfl 0 rfl (a0 := (((1024 : Int32)).toNatClampNeg, .inl (fun _ => 0))) (fun _ => rfl) g11a rfl g11b (by decide) (by decide) (by decide) (by decide) d_MD_init_50 (fun q26 H wo => ?_)
  obtain ⟨n, en⟩ : ∃ z, z = setA n 26 ((1024 : Int32)).toNatClampNeg := ⟨_, rfl⟩
  have hD := nm_at hD en
  try dsimp only at hD
  obtain ⟨σ12, eσ12⟩ : ∃ z, z = zC σ10 26 := ⟨_, rfl⟩
  have hD := nm_at hD eσ12
  try dsimp only at hD
  obtain ⟨ad, ead⟩ : ∃ z, z = setA ad 26 q26 := ⟨_, rfl⟩
  rw [List.cons_append, wl_grow (L := [21, 22, 23, 24, 25]) (ad1 := ad) (n1 := n) (σ1 := σ12) (a := 26) (by decide) (by rw [ead]; exact setA_s _ _ _) (fun b hb => by rw [ead]; exact setA_n _ _ hb) (fun b hb => by rw [en]; exact setA_n _ _ hb) (fun b hb => by rw [eσ12]; exact zC_1 b hb) (fun b hb => by rw [eσ12]; exact zC_2 b hb) (by rw [cel_26, en, eσ12, setA_s]; rfl)] at wo
  try dsimp only [List.append, List.cons_append, List.nil_append] at wo
  have a21 : ad 21 = q21 := by rw [ead]; exact (setA_n _ _ (by decide)).trans a21
  have a22 : ad 22 = q22 := by rw [ead]; exact (setA_n _ _ (by decide)).trans a22
  have a23 : ad 23 = q23 := by rw [ead]; exact (setA_n _ _ (by decide)).trans a23
  have a24 : ad 24 = q24 := by rw [ead]; exact (setA_n _ _ (by decide)).trans a24
  have a25 : ad 25 = q25 := by rw [ead]; exact (setA_n _ _ (by decide)).trans a25
  have a26 : ad 26 = q26 := by rw [ead]; exact setA_s _ _ _
  refine r_putF cx hin wo 0 (w' := ((qP, .inr (5, [.int 0, .int 0, .int 0, .int 0, .int 0, .ref q21, .int 0, .ref q22, .ref q23, .ref q24, .ref q25, .ref q26, .int 0, .int 0, .int 0, .int 0, .null, .int 0, .null, .int 0, .int 0, .null])) :: wl E ad n [21, 22, 23, 24, 25, 26] σ12)) rfl rfl in_MD t_MD tok_MD n_MD 11 (by decide) wf_MD_28 rfl rfl rfl rfl (Nat.le_of_ble_eq_true rfl) rfl d_MD_init_52 (fun H locs wo => ?_)
  refine lv_aload_n hx hb d_MD_init_55 rfl (lv_at hl 0 rfl) ?_
  refine lv_iconst (v := 1) hx hb d_MD_init_56 (by decide) ?_
  refine r_put cx wo 0 (w' := ((qP, .inr (5, [.int 0, .int 0, .int 0, .int 0, .int 0, .ref q21, .int 0, .ref q22, .ref q23, .ref q24, .ref q25, .ref q26, .int (1 : Int32), .int 0, .int 0, .int 0, .null, .int 0, .null, .int 0, .int 0, .null])) :: wl E ad n [21, 22, 23, 24, 25, 26] σ12)) rfl rfl in_MD t_MD tok_MD n_MD 12 (by decide) wf_MD_31 rfl rfl rfl (Nat.le_of_ble_eq_true rfl) rfl d_MD_init_57 (fun H locs wo => ?_)
  refine lv_aload_n hx hb d_MD_init_60 rfl (lv_at hl 0 rfl) ?_
  refine lv_iconst (v := -1) hx hb d_MD_init_61 (by decide) ?_
  refine r_put cx wo 0 (w' := ((qP, .inr (5, [.int 0, .int 0, .int 0, .int 0, .int 0, .ref q21, .int 0, .ref q22, .ref q23, .ref q24, .ref q25, .ref q26, .int (1 : Int32), .int (-1 : Int32), .int 0, .int 0, .null, .int 0, .null, .int 0, .int 0, .null])) :: wl E ad n [21, 22, 23, 24, 25, 26] σ12)) rfl rfl in_MD t_MD tok_MD n_MD 13 (by decide) wf_MD_35 rfl rfl rfl (Nat.le_of_ble_eq_true rfl) rfl d_MD_init_62 (fun H locs wo => ?_)
  refine lv_aload_n hx hb d_MD_init_65 rfl (lv_at hl 0 rfl) ?_
  refine lv_bipush (v := 64) hx hb d_MD_init_66 (by decide) ?_
  obtain ⟨g13, hD⟩ := grd_s hD
  obtain ⟨g13a, g13b⟩ := of_decide_eq_true g13
  refine c_newa cx wo .int .int rfl wa_int rfl 0 rfl (a0 := (((64 : Int32)).toNatClampNeg, .inl (fun _ => 0))) (fun _ => rfl) g13a rfl g13b (by decide) (by decide) (by decide) (by decide) d_MD_init_68 (fun q27 H wo => ?_)
  obtain ⟨n, en⟩ : ∃ z, z = setA n 27 ((64 : Int32)).toNatClampNeg := ⟨_, rfl⟩
  have hD := nm_at hD en
  try dsimp only at hD
  obtain ⟨σ14, eσ14⟩ : ∃ z, z = zC σ12 27 := ⟨_, rfl⟩
  have hD := nm_at hD eσ14
  try dsimp only at hD
  obtain ⟨ad, ead⟩ : ∃ z, z = setA ad 27 q27 := ⟨_, rfl⟩
  rw [List.cons_append, wl_grow (L := [21, 22, 23, 24, 25, 26]) (ad1 := ad) (n1 := n) (σ1 := σ14) (a := 27) (by decide) (by rw [ead]; exact setA_s _ _ _) (fun b hb => by rw [ead]; exact setA_n _ _ hb) (fun b hb => by rw [en]; exact setA_n _ _ hb) (fun b hb => by rw [eσ14]; exact zC_1 b hb) (fun b hb => by rw [eσ14]; exact zC_2 b hb) (by rw [cel_27, en, eσ14, setA_s]; rfl)] at wo
  try dsimp only [List.append, List.cons_append, List.nil_append] at wo
  have a21 : ad 21 = q21 := by rw [ead]; exact (setA_n _ _ (by decide)).trans a21
  have a22 : ad 22 = q22 := by rw [ead]; exact (setA_n _ _ (by decide)).trans a22
  have a23 : ad 23 = q23 := by rw [ead]; exact (setA_n _ _ (by decide)).trans a23
  have a24 : ad 24 = q24 := by rw [ead]; exact (setA_n _ _ (by decide)).trans a24
  have a25 : ad 25 = q25 := by rw [ead]; exact (setA_n _ _ (by decide)).trans a25
  have a26 : ad 26 = q26 := by rw [ead]; exact (setA_n _ _ (by decide)).trans a26
  have a27 : ad 27 = q27 := by rw [ead]; exact setA_s _ _ _
  refine r_putF cx hin wo 0 (w' := ((qP, .inr (5, [.int 0, .int 0, .int 0, .int 0, .int 0, .ref q21, .int 0, .ref q22, .ref q23, .ref q24, .ref q25, .ref q26, .int (1 : Int32), .int (-1 : Int32), .int 0, .int 0, .ref q27, .int 0, .null, .int 0, .int 0, .null])) :: wl E ad n [21, 22, 23, 24, 25, 26, 27] σ14)) rfl rfl in_MD t_MD tok_MD n_MD 16 (by decide) wf_MD_39 rfl rfl rfl rfl (Nat.le_of_ble_eq_true rfl) rfl d_MD_init_70 (fun H locs wo => ?_)
  refine lv_aload_n hx hb d_MD_init_73 rfl (lv_at hl 0 rfl) ?_
  refine lv_ldc hx hb hown (hts _ wc_MD_42) d_MD_init_74 ?_
  obtain ⟨g15, hD⟩ := grd_s hD
  obtain ⟨g15a, g15b⟩ := of_decide_eq_true g15
  refine c_newa cx wo .int .int rfl wa_int rfl 0 rfl (a0 := (((49152 : Int32)).toNatClampNeg, .inl (fun _ => 0))) (fun _ => rfl) g15a rfl g15b (by decide) (by decide) (by decide) (by decide) d_MD_init_76 (fun q28 H wo => ?_)
  obtain ⟨n, en⟩ : ∃ z, z = setA n 28 ((49152 : Int32)).toNatClampNeg := ⟨_, rfl⟩
  have hD := nm_at hD en
  try dsimp only at hD
  obtain ⟨σ16, eσ16⟩ : ∃ z, z = zC σ14 28 := ⟨_, rfl⟩
  have hD := nm_at hD eσ16
  try dsimp only at hD
  obtain ⟨ad, ead⟩ : ∃ z, z = setA ad 28 q28 := ⟨_, rfl⟩
  rw [List.cons_append, wl_grow (L := [21, 22, 23, 24, 25, 26, 27]) (ad1 := ad) (n1 := n) (σ1 := σ16) (a := 28) (by decide) (by rw [ead]; exact setA_s _ _ _) (fun b hb => by rw [ead]; exact setA_n _ _ hb) (fun b hb => by rw [en]; exact setA_n _ _ hb) (fun b hb => by rw [eσ16]; exact zC_1 b hb) (fun b hb => by rw [eσ16]; exact zC_2 b hb) (by rw [cel_28, en, eσ16, setA_s]; rfl)] at wo
  try dsimp only [List.append, List.cons_append, List.nil_append] at wo
  have a21 : ad 21 = q21 := by rw [ead]; exact (setA_n _ _ (by decide)).trans a21
  have a22 : ad 22 = q22 := by rw [ead]; exact (setA_n _ _ (by decide)).trans a22
  have a23 : ad 23 = q23 := by rw [ead]; exact (setA_n _ _ (by decide)).trans a23
  have a24 : ad 24 = q24 := by rw [ead]; exact (setA_n _ _ (by decide)).trans a24
  have a25 : ad 25 = q25 := by rw [ead]; exact (setA_n _ _ (by decide)).trans a25
  have a26 : ad 26 = q26 := by rw [ead]; exact (setA_n _ _ (by decide)).trans a26
  have a27 : ad 27 = q27 := by rw [ead]; exact (setA_n _ _ (by decide)).trans a27
  have a28 : ad 28 = q28 := by rw [ead]; exact setA_s _ _ _
  refine r_putF cx hin wo 0 (w' := ((qP, .inr (5, [.int 0, .int 0, .int 0, .int 0, .int 0, .ref q21, .int 0, .ref q22, .ref q23, .ref q24, .ref q25, .ref q26, .int (1 : Int32), .int (-1 : Int32), .int 0, .int 0, .ref q27, .int 0, .ref q28, .int 0, .int 0, .null])) :: wl E ad n [21, 22, 23, 24, 25, 26, 27, 28] σ16)) rfl rfl in_MD t_MD tok_MD n_MD 18 (by decide) wf_MD_43 rfl rfl rfl rfl (Nat.le_of_ble_eq_true rfl) rfl d_MD_init_78 (fun H locs wo => ?_)
  refine lv_aload_n hx hb d_MD_init_81 rfl (lv_at hl 0 rfl) ?_
  refine lv_iconst (v := -1) hx hb d_MD_init_82 (by decide) ?_
  refine r_put cx wo 0 (w' := ((qP, .inr (5, [.int 0, .int 0, .int 0, .int 0, .int 0, .ref q21, .int 0, .ref q22, .ref q23, .ref q24, .ref q25, .ref q26, .int (1 : Int32), .int (-1 : Int32), .int 0, .int 0, .ref q27, .int 0, .ref q28, .int (-1 : Int32), .int 0, .null])) :: wl E ad n [21, 22, 23, 24, 25, 26, 27, 28] σ16)) rfl rfl in_MD t_MD tok_MD n_MD 19 (by decide) wf_MD_46 rfl rfl rfl (Nat.le_of_ble_eq_true rfl) rfl d_MD_init_83 (fun H locs wo => ?_)
  refine lv_aload_n hx hb d_MD_init_86 rfl (lv_at hl 0 rfl) ?_
  refine lv_bipush (v := 64) hx hb d_MD_init_87 (by decide) ?_
  obtain ⟨g17, hD⟩ := grd_s hD
  obtain ⟨g17a, g17b⟩ := of_decide_eq_true g17
  refine c_newa cx wo .int .int rfl wa_int rfl 0 rfl (a0 := (((64 : Int32)).toNatClampNeg, .inl (fun _ => 0))) (fun _ => rfl) g17a rfl g17b (by decide) (by decide) (by decide) (by decide) d_MD_init_89 (fun q29 H wo => ?_)
  obtain ⟨n, en⟩ : ∃ z, z = setA n 29 ((64 : Int32)).toNatClampNeg := ⟨_, rfl⟩
  have hD := nm_at hD en
  try dsimp only at hD
  obtain ⟨σ18, eσ18⟩ : ∃ z, z = zC σ16 29 := ⟨_, rfl⟩
  have hD := nm_at hD eσ18
  try dsimp only at hD
  obtain ⟨ad, ead⟩ : ∃ z, z = setA ad 29 q29 := ⟨_, rfl⟩
  rw [List.cons_append, wl_grow (L := [21, 22, 23, 24, 25, 26, 27, 28]) (ad1 := ad) (n1 := n) (σ1 := σ18) (a := 29) (by decide) (by rw [ead]; exact setA_s _ _ _) (fun b hb => by rw [ead]; exact setA_n _ _ hb) (fun b hb => by rw [en]; exact setA_n _ _ hb) (fun b hb => by rw [eσ18]; exact zC_1 b hb) (fun b hb => by rw [eσ18]; exact zC_2 b hb) (by rw [cel_29, en, eσ18, setA_s]; rfl)] at wo
  try dsimp only [List.append, List.cons_append, List.nil_append] at wo
  have a21 : ad 21 = q21 := by rw [ead]; exact (setA_n _ _ (by decide)).trans a21
  have a22 : ad 22 = q22 := by rw [ead]; exact (setA_n _ _ (by decide)).trans a22
  have a23 : ad 23 = q23 := by rw [ead]; exact (setA_n _ _ (by decide)).trans a23
  have a24 : ad 24 = q24 := by rw [ead]; exact (setA_n _ _ (by decide)).trans a24
  have a25 : ad 25 = q25 := by rw [ead]; exact (setA_n _ _ (by decide)).trans a25
  have a26 : ad 26 = q26 := by rw [ead]; exact (setA_n _ _ (by decide)).trans a26
  have a27 : ad 27 = q27 := by rw [ead]; exact (setA_n _ _ (by decide)).trans a27
  have a28 : ad 28 = q28 := by rw [ead]; exact (setA_n _ _ (by decide)).trans a28
  have a29 : ad 29 = q29 := by rw [ead]; exact setA_s _ _ _
  refine r_putF cx hin wo 0 (w' := ((qP, .inr (5, [.int 0, .int 0, .int 0, .int 0, .int 0, .ref q21, .int 0, .ref q22, .ref q23, .ref q24, .ref q25, .ref q26, .int (1 : Int32), .int (-1 : Int32), .int 0, .int 0, .ref q27, .int 0, .ref q28, .int (-1 : Int32), .int 0, .ref q29])) :: wl E ad n [21, 22, 23, 24, 25, 26, 27, 28, 29] σ18)) rfl rfl in_MD t_MD tok_MD n_MD 21 (by decide) wf_MD_49 rfl rfl rfl rfl (Nat.le_of_ble_eq_true rfl) rfl d_MD_init_91 (fun H locs wo => ?_)
  refine lv_aload_n hx hb d_MD_init_94 rfl (lv_at hl 0 rfl) ?_
  refine lv_iload_n hx hb d_MD_init_95 rfl (lv_at hl 1 rfl) ?_
  refine lv_bipush (v := 6) hx hb d_MD_init_96 (by decide) ?_
  obtain ⟨j19, hj19, hD⟩ := jn_s hD
  try dsimp only at hD
  have j19_ok : ∀ (x20 : Int32) (H : Heap) (locs : List Loc) (ls : Array Slot), j19 x20 = some (no, σo) → Wo E A0 s.heap ((qP, .inr (5, [.int 0, .int 0, .int 0, .int 0, .int 0, .ref q21, .int 0, .ref q22, .ref q23, .ref q24, .ref q25, .ref q26, .int (1 : Int32), .int (-1 : Int32), .int 0, .int 0, .ref q27, .int 0, .ref q28, .int (-1 : Int32), .int 0, .ref q29])) :: wl E ad n [21, 22, 23, 24, 25, 26, 27, 28, 29] σ18) H locs → lv_has ls 7 [(0, .ref qP), (2, .int p2), (3, .int p3)] → W p l e ({ frames := 1, cells := 9, slots := 125216, locals := 22 }) s m aa below meth c H locs 9 125216 QQ (F0 m 113 ls [.int x20, .ref qP]) := by
    intro x20 H locs ls hD wo hl
    rw [hj19] at hD
    try dsimp only at hD
    refine r_putF cx hin wo 0 (w' := ((qP, .inr (5, [.int 0, .int x20, .int 0, .int 0, .int 0, .ref q21, .int 0, .ref q22, .ref q23, .ref q24, .ref q25, .ref q26, .int (1 : Int32), .int (-1 : Int32), .int 0, .int 0, .ref q27, .int 0, .ref q28, .int (-1 : Int32), .int 0, .ref q29])) :: wl E ad n [21, 22, 23, 24, 25, 26, 27, 28, 29] σ18)) rfl rfl in_MD t_MD tok_MD n_MD 1 (by decide) wf_MD_52 rfl rfl rfl rfl (Nat.le_of_ble_eq_true rfl) rfl d_MD_init_113 (fun H locs wo => ?_)
    refine lv_aload_n hx hb d_MD_init_116 rfl (lv_at hl 0 rfl) ?_
    refine lv_iload_n hx hb d_MD_init_117 rfl (lv_at hl 1 rfl) ?_
    refine lv_iconst (v := 3) hx hb d_MD_init_118 (by decide) ?_
    obtain ⟨j21, hj21, hD⟩ := jn_s hD
    try dsimp only at hD
    have j21_ok : ∀ (x22 : Int32) (H : Heap) (locs : List Loc) (ls : Array Slot), j21 x22 = some (no, σo) → Wo E A0 s.heap ((qP, .inr (5, [.int 0, .int x20, .int 0, .int 0, .int 0, .ref q21, .int 0, .ref q22, .ref q23, .ref q24, .ref q25, .ref q26, .int (1 : Int32), .int (-1 : Int32), .int 0, .int 0, .ref q27, .int 0, .ref q28, .int (-1 : Int32), .int 0, .ref q29])) :: wl E ad n [21, 22, 23, 24, 25, 26, 27, 28, 29] σ18) H locs → lv_has ls 7 [(0, .ref qP), (3, .int p3)] → W p l e ({ frames := 1, cells := 9, slots := 125216, locals := 22 }) s m aa below meth c H locs 9 125216 QQ (F0 m 141 ls [.int x22, .ref qP]) := by
      intro x22 H locs ls hD wo hl
      rw [hj21] at hD
      try dsimp only at hD
      refine r_putF cx hin wo 0 (w' := ((qP, .inr (5, [.int 0, .int x20, .int x22, .int 0, .int 0, .ref q21, .int 0, .ref q22, .ref q23, .ref q24, .ref q25, .ref q26, .int (1 : Int32), .int (-1 : Int32), .int 0, .int 0, .ref q27, .int 0, .ref q28, .int (-1 : Int32), .int 0, .ref q29])) :: wl E ad n [21, 22, 23, 24, 25, 26, 27, 28, 29] σ18)) rfl rfl in_MD t_MD tok_MD n_MD 2 (by decide) wf_MD_55 rfl rfl rfl rfl (Nat.le_of_ble_eq_true rfl) rfl d_MD_init_141 (fun H locs wo => ?_)
      refine lv_aload_n hx hb d_MD_init_144 rfl (lv_at hl 0 rfl) ?_
      refine lv_iload_n hx hb d_MD_init_145 rfl (lv_at hl 1 rfl) ?_
      refine lv_bipush (v := 48) hx hb d_MD_init_146 (by decide) ?_
      obtain ⟨j23, hj23, hD⟩ := jn_s hD
      try dsimp only at hD
      have j23_ok : ∀ (x24 : Int32) (H : Heap) (locs : List Loc) (ls : Array Slot), j23 x24 = some (no, σo) → Wo E A0 s.heap ((qP, .inr (5, [.int 0, .int x20, .int x22, .int 0, .int 0, .ref q21, .int 0, .ref q22, .ref q23, .ref q24, .ref q25, .ref q26, .int (1 : Int32), .int (-1 : Int32), .int 0, .int 0, .ref q27, .int 0, .ref q28, .int (-1 : Int32), .int 0, .ref q29])) :: wl E ad n [21, 22, 23, 24, 25, 26, 27, 28, 29] σ18) H locs → lv_has ls 7 [(0, .ref qP)] → W p l e ({ frames := 1, cells := 9, slots := 125216, locals := 22 }) s m aa below meth c H locs 9 125216 QQ (F0 m 163 ls [.int x24, .ref qP]) := by
        intro x24 H locs ls hD wo hl
        rw [hj23] at hD
        try dsimp only at hD
        refine r_putF cx hin wo 0 (w' := ((qP, .inr (5, [.int 0, .int x20, .int x22, .int x24, .int 0, .ref q21, .int 0, .ref q22, .ref q23, .ref q24, .ref q25, .ref q26, .int (1 : Int32), .int (-1 : Int32), .int 0, .int 0, .ref q27, .int 0, .ref q28, .int (-1 : Int32), .int 0, .ref q29])) :: wl E ad n [21, 22, 23, 24, 25, 26, 27, 28, 29] σ18)) rfl rfl in_MD t_MD tok_MD n_MD 3 (by decide) wf_MD_58 rfl rfl rfl rfl (Nat.le_of_ble_eq_true rfl) rfl d_MD_init_163 (fun H locs wo => ?_)
        refine lv_aload_n hx hb d_MD_init_166 rfl (lv_at hl 0 rfl) ?_
        refine lv_aload_n hx hb d_MD_init_167 rfl (lv_at hl 0 rfl) ?_
        refine r_get cx wo 0 rfl rfl in_MD 1 (by decide) wf_MD_52 rfl d_MD_init_168 ?_
        refine lv_iconst (v := 1) hx hb d_MD_init_171 (by decide) ?_
        refine lv_isub hx hb d_MD_init_172 ?_
        refine lv_aload_n hx hb d_MD_init_173 rfl (lv_at hl 0 rfl) ?_
        refine r_get cx wo 0 rfl rfl in_MD 2 (by decide) wf_MD_55 rfl d_MD_init_174 ?_
        obtain ⟨g25, hD⟩ := grd_s hD
        refine lv_idiv hx hb d_MD_init_177 (of_decide_eq_true g25) ?_
        refine lv_topi (fun x26 ex26 => ?_)
        have hD := nm_at hD ex26
        try dsimp only at hD
        refine r_putF cx hin wo 0 (w' := ((qP, .inr (5, [.int 0, .int x20, .int x22, .int x24, .int x26, .ref q21, .int 0, .ref q22, .ref q23, .ref q24, .ref q25, .ref q26, .int (1 : Int32), .int (-1 : Int32), .int 0, .int 0, .ref q27, .int 0, .ref q28, .int (-1 : Int32), .int 0, .ref q29])) :: wl E ad n [21, 22, 23, 24, 25, 26, 27, 28, 29] σ18)) rfl rfl in_MD t_MD tok_MD n_MD 4 (by decide) wf_MD_61 rfl rfl rfl rfl (Nat.le_of_ble_eq_true rfl) rfl d_MD_init_178 (fun H locs wo => ?_)
        obtain ⟨σ27, eσ27⟩ : ∃ z, z = stC σ18 20 (fun (j : Nat) => (cond (Nat.beq j 0) (0) (cond (Nat.beq j 1) (x20) (cond (Nat.beq j 2) (x22) (cond (Nat.beq j 3) (x24) (cond (Nat.beq j 4) (x26) (cond (Nat.beq j 5) (0) (cond (Nat.beq j 6) (0) (cond (Nat.beq j 7) (0) (cond (Nat.beq j 8) (0) (cond (Nat.beq j 9) (0) (cond (Nat.beq j 10) (0) (cond (Nat.beq j 11) (0) (cond (Nat.beq j 12) ((1 : Int32)) (cond (Nat.beq j 13) ((-1 : Int32)) (cond (Nat.beq j 14) (0) (cond (Nat.beq j 15) (0) (cond (Nat.beq j 16) (0) (cond (Nat.beq j 17) (0) (cond (Nat.beq j 18) (0) (cond (Nat.beq j 19) ((-1 : Int32)) (cond (Nat.beq j 20) (0) (cond (Nat.beq j 21) (0) (0)))))))))))))))))))))) : Int32)) := ⟨_, rfl⟩
        have hD := nm_at hD eσ27
        try dsimp only at hD
        obtain ⟨ad, ead⟩ : ∃ z, z = setA ad 20 qP := ⟨_, rfl⟩
        rw [wl_cons (L := [21, 22, 23, 24, 25, 26, 27, 28, 29]) (ad1 := ad) (n1 := n) (σ1 := σ27) (a := 20) (by decide) (by rw [ead]; exact setA_s _ _ _) (fun b hb => by rw [ead]; exact setA_n _ _ hb) (fun b hb => rfl) (fun b hb => by rw [eσ27]; exact stC_1 b hb) (fun b hb => by rw [eσ27]; rfl) (by rw [cel_20, ead, eσ27, setA_n _ _ (show (21 : Nat) ≠ 20 by decide), a21, setA_n _ _ (show (22 : Nat) ≠ 20 by decide), a22, setA_n _ _ (show (23 : Nat) ≠ 20 by decide), a23, setA_n _ _ (show (24 : Nat) ≠ 20 by decide), a24, setA_n _ _ (show (25 : Nat) ≠ 20 by decide), a25, setA_n _ _ (show (26 : Nat) ≠ 20 by decide), a26, setA_n _ _ (show (27 : Nat) ≠ 20 by decide), a27, setA_n _ _ (show (28 : Nat) ≠ 20 by decide), a28, setA_n _ _ (show (29 : Nat) ≠ 20 by decide), a29]; try rfl)] at wo
        have a21 : ad 21 = q21 := by rw [ead]; exact (setA_n _ _ (by decide)).trans a21
        have a22 : ad 22 = q22 := by rw [ead]; exact (setA_n _ _ (by decide)).trans a22
        have a23 : ad 23 = q23 := by rw [ead]; exact (setA_n _ _ (by decide)).trans a23
        have a24 : ad 24 = q24 := by rw [ead]; exact (setA_n _ _ (by decide)).trans a24
        have a25 : ad 25 = q25 := by rw [ead]; exact (setA_n _ _ (by decide)).trans a25
        have a26 : ad 26 = q26 := by rw [ead]; exact (setA_n _ _ (by decide)).trans a26
        have a27 : ad 27 = q27 := by rw [ead]; exact (setA_n _ _ (by decide)).trans a27
        have a28 : ad 28 = q28 := by rw [ead]; exact (setA_n _ _ (by decide)).trans a28
        have a29 : ad 29 = q29 := by rw [ead]; exact (setA_n _ _ (by decide)).trans a29
        have a20 : ad 20 = qP := by rw [ead]; exact setA_s _ _ _
        obtain ⟨q20, hq20⟩ : ∃ z, z = qP := ⟨_, rfl⟩
        rw [← hq20] at hl
        have a20 : ad 20 = q20 := a20.trans hq20.symm
        refine lv_iconst (v := 1) hx hb d_MD_init_181 (by decide) ?_
        refine lv_istore (lv' := [(4, .int (1 : Int32)), (0, .ref q20)]) hx hb d_MD_init_182 hl (by decide) rfl (fun ls hl => ?_)
        have lp58 : ∀ (k30 : Nat) (σ28 : HS) (x31 : Int32) (H : Heap) (locs : List Loc) (ls : Array Slot) (res29 : HS), D_MD_init_L184 F n  k30 σ28 x31 = some res29 → (∀ (σ57 : HS) (H : Heap) (locs : List Loc) (ls : Array Slot), res29 = σ57 → Wo E A0 s.heap (wl E ad n [20, 21, 22, 23, 24, 25, 26, 27, 28, 29] σ57) H locs → lv_has ls 7 [(0, .ref q20)] → W p l e ({ frames := 1, cells := 9, slots := 125216, locals := 22 }) s m aa below meth c H locs 9 125216 QQ (F0 m 277 ls [])) → Wo E A0 s.heap (wl E ad n [20, 21, 22, 23, 24, 25, 26, 27, 28, 29] σ28) H locs → lv_has ls 7 [(4, .int x31), (0, .ref q20)] → W p l e ({ frames := 1, cells := 9, slots := 125216, locals := 22 }) s m aa below meth c H locs 9 125216 QQ (F0 m 184 ls []) := by
          intro k30
          induction k30 with
          | zero =>
            intro σ28 x31 H locs ls res29 hD
            rw [D_MD_init_L184.eq_1] at hD
            cases hD
          | succ k30 ih =>
            intro σ28 x31 H locs ls res29 hD hex wo hl
            rw [D_MD_init_L184.eq_2] at hD
            refine lv_iload hx hb d_MD_init_184 (lv_at hl 0 rfl) ?_
            refine lv_aload_n hx hb d_MD_init_186 rfl (lv_at hl 1 rfl) ?_
            refine g_getQ cx wo a20 (by decide) (cel_20 E ad n σ28) rfl in_MD 1 (by decide) wf_MD_52 rfl d_MD_init_187 ?_
            refine lv_icmp_ge (tgt := 277) hx hb d_MD_init_190 (by decide) (fun c32 => ?_) (fun c32 => ?_)
            · have hD := ite_p hD c32
              exact hex σ28 _ _ _ (Option.some.inj hD).symm wo (lv_sub hl [1] rfl)
            · have hD := ite_n hD c32
              refine lv_iconst (v := 1) hx hb d_MD_init_193 (by decide) ?_
              refine lv_istore (lv' := [(5, .int (1 : Int32)), (4, .int x31), (0, .ref q20)]) hx hb d_MD_init_194 hl (by decide) rfl (fun ls hl => ?_)
              refine lv_iconst (v := 2) hx hb d_MD_init_196 (by decide) ?_
              refine lv_istore (lv' := [(6, .int (2 : Int32)), (5, .int (1 : Int32)), (4, .int x31), (0, .ref q20)]) hx hb d_MD_init_197 hl (by decide) rfl (fun ls hl => ?_)
              have lp48 : ∀ (k34 : Nat) (x35 : Int32) (x36 : Int32) (H : Heap) (locs : List Loc) (ls : Array Slot) (res33 : Int32), D_MD_init_L199 F n σ28 x31 k34 x35 x36 = some res33 → (∀ (x47 : Int32) (H : Heap) (locs : List Loc) (ls : Array Slot), res33 = x47 → Wo E A0 s.heap (wl E ad n [20, 21, 22, 23, 24, 25, 26, 27, 28, 29] σ28) H locs → lv_has ls 7 [(5, .int x47), (4, .int x31), (0, .ref q20)] → W p l e ({ frames := 1, cells := 9, slots := 125216, locals := 22 }) s m aa below meth c H locs 9 125216 QQ (F0 m 242 ls [])) → Wo E A0 s.heap (wl E ad n [20, 21, 22, 23, 24, 25, 26, 27, 28, 29] σ28) H locs → lv_has ls 7 [(6, .int x35), (5, .int x36), (4, .int x31), (0, .ref q20)] → W p l e ({ frames := 1, cells := 9, slots := 125216, locals := 22 }) s m aa below meth c H locs 9 125216 QQ (F0 m 199 ls []) := by
                intro k34
                induction k34 with
                | zero =>
                  intro x35 x36 H locs ls res33 hD
                  rw [D_MD_init_L199.eq_1] at hD
                  cases hD
                | succ k34 ih =>
                  intro x35 x36 H locs ls res33 hD hex wo hl
                  rw [D_MD_init_L199.eq_2] at hD
                  refine lv_iload hx hb d_MD_init_199 (lv_at hl 0 rfl) ?_
                  refine lv_iload hx hb d_MD_init_201 (lv_at hl 2 rfl) ?_
                  refine lv_icmp_gt (tgt := 242) hx hb d_MD_init_203 (by decide) (fun c37 => ?_) (fun c37 => ?_)
                  · have hD := ite_p hD c37
                    exact hex x36 _ _ _ (Option.some.inj hD).symm wo (lv_sub hl [1, 2, 3] rfl)
                  · have hD := ite_n hD c37
                    refine lv_iload hx hb d_MD_init_206 (lv_at hl 1 rfl) ?_
                    refine lv_if_eq (tgt := 233) hx hb d_MD_init_208 (by decide) (fun c38 => ?_) (fun c38 => ?_)
                    · have hD := ite_p hD c38
                      refine lv_iconst (v := 0) hx hb d_MD_init_233 (by decide) ?_
                      refine lv_istore (lv' := [(5, .int (0 : Int32)), (6, .int x35), (4, .int x31), (0, .ref q20)]) hx hb d_MD_init_234 hl (by decide) rfl (fun ls hl => ?_)
                      obtain ⟨x39, ex39⟩ : ∃ y : Int32, y = x35 + (1 : Int32) := ⟨_, rfl⟩
                      have hD := nm_at hD ex39
                      try dsimp only at hD
                      refine lv_iinc (v := x39) (lv' := [(6, .int x39), (5, .int (0 : Int32)), (4, .int x31), (0, .ref q20)]) hx hb d_MD_init_236 hl (k := 1) rfl (by rw [ex39]; rfl) (by decide) rfl (fun ls hl => ?_)
                      refine lv_goto (tgt := 199) hx hb d_MD_init_239 (by decide) ?_
                      exact ih x39 (0 : Int32) _ _ _ _ hD hex wo (lv_sub hl [0, 1, 2, 3] rfl)
                    · have hD := ite_n hD c38
                      refine lv_iload hx hb d_MD_init_211 (lv_at hl 2 rfl) ?_
                      refine lv_iload hx hb d_MD_init_213 (lv_at hl 0 rfl) ?_
                      obtain ⟨g40, hD⟩ := grd_s hD
                      refine lv_irem hx hb d_MD_init_215 (of_decide_eq_true g40) ?_
                      refine lv_if_ne (tgt := 229) hx hb d_MD_init_216 (by decide) (fun c41 => ?_) (fun c41 => ?_)
                      · have hD := ite_n hD c41
                        refine lv_iconst (v := 1) hx hb d_MD_init_229 (by decide) ?_
                        refine lv_goto (tgt := 234) hx hb d_MD_init_230 (by decide) ?_
                        refine lv_istore (lv' := [(5, .int (1 : Int32)), (6, .int x35), (4, .int x31), (0, .ref q20)]) hx hb d_MD_init_234 hl (by decide) rfl (fun ls hl => ?_)
                        obtain ⟨x42, ex42⟩ : ∃ y : Int32, y = x35 + (1 : Int32) := ⟨_, rfl⟩
                        have hD := nm_at hD ex42
                        try dsimp only at hD
                        refine lv_iinc (v := x42) (lv' := [(6, .int x42), (5, .int (1 : Int32)), (4, .int x31), (0, .ref q20)]) hx hb d_MD_init_236 hl (k := 1) rfl (by rw [ex42]; rfl) (by decide) rfl (fun ls hl => ?_)
                        refine lv_goto (tgt := 199) hx hb d_MD_init_239 (by decide) ?_
                        exact ih x42 (1 : Int32) _ _ _ _ hD hex wo (lv_sub hl [0, 1, 2, 3] rfl)
                      · have hD := ite_p hD c41
                        refine lv_aload_n hx hb d_MD_init_219 rfl (lv_at hl 3 rfl) ?_
                        refine g_getQ cx wo a20 (by decide) (cel_20 E ad n σ28) rfl in_MD 1 (by decide) wf_MD_52 rfl d_MD_init_220 ?_
                        refine lv_iload hx hb d_MD_init_223 (lv_at hl 0 rfl) ?_
                        obtain ⟨g43, hD⟩ := grd_s hD
                        refine lv_irem hx hb d_MD_init_225 (of_decide_eq_true g43) ?_
                        refine lv_if_eq (tgt := 233) hx hb d_MD_init_226 (by decide) (fun c44 => ?_) (fun c44 => ?_)
                        · have hD := ite_p hD c44
                          refine lv_iconst (v := 0) hx hb d_MD_init_233 (by decide) ?_
                          refine lv_istore (lv' := [(5, .int (0 : Int32)), (6, .int x35), (4, .int x31), (0, .ref q20)]) hx hb d_MD_init_234 hl (by decide) rfl (fun ls hl => ?_)
                          obtain ⟨x45, ex45⟩ : ∃ y : Int32, y = x35 + (1 : Int32) := ⟨_, rfl⟩
                          have hD := nm_at hD ex45
                          try dsimp only at hD
                          refine lv_iinc (v := x45) (lv' := [(6, .int x45), (5, .int (0 : Int32)), (4, .int x31), (0, .ref q20)]) hx hb d_MD_init_236 hl (k := 1) rfl (by rw [ex45]; rfl) (by decide) rfl (fun ls hl => ?_)
                          refine lv_goto (tgt := 199) hx hb d_MD_init_239 (by decide) ?_
                          exact ih x45 (0 : Int32) _ _ _ _ hD hex wo (lv_sub hl [0, 1, 2, 3] rfl)
                        · have hD := ite_n hD c44
                          refine lv_iconst (v := 1) hx hb d_MD_init_229 (by decide) ?_
                          refine lv_goto (tgt := 234) hx hb d_MD_init_230 (by decide) ?_
                          refine lv_istore (lv' := [(5, .int (1 : Int32)), (6, .int x35), (4, .int x31), (0, .ref q20)]) hx hb d_MD_init_234 hl (by decide) rfl (fun ls hl => ?_)
                          obtain ⟨x46, ex46⟩ : ∃ y : Int32, y = x35 + (1 : Int32) := ⟨_, rfl⟩
                          have hD := nm_at hD ex46
                          try dsimp only at hD
                          refine lv_iinc (v := x46) (lv' := [(6, .int x46), (5, .int (1 : Int32)), (4, .int x31), (0, .ref q20)]) hx hb d_MD_init_236 hl (k := 1) rfl (by rw [ex46]; rfl) (by decide) rfl (fun ls hl => ?_)
                          refine lv_goto (tgt := 199) hx hb d_MD_init_239 (by decide) ?_
                          exact ih x46 (1 : Int32) _ _ _ _ hD hex wo (lv_sub hl [0, 1, 2, 3] rfl)
              obtain ⟨res49, hr50, hD⟩ := bd_s hD
              refine lp48 F (2 : Int32) (1 : Int32) _ _ _ _ hr50 (fun x47 H locs ls hz wo hl => ?_) wo (lv_sub hl [0, 1, 2, 3] rfl)
              have hz := hz.symm
              subst hz
              try dsimp only at hD
              refine lv_iload hx hb d_MD_init_242 (lv_at hl 0 rfl) ?_
              refine lv_if_ne (tgt := 250) hx hb d_MD_init_244 (by decide) (fun c51 => ?_) (fun c51 => ?_)
              · have hD := ite_n hD c51
                refine lv_aload_n hx hb d_MD_init_250 rfl (lv_at hl 2 rfl) ?_
                refine g_getQ cx wo a20 (by decide) (cel_20 E ad n σ28) rfl in_MD 5 (by decide) wf_MD_7 rfl d_MD_init_251 ?_
                rw [a21]
                refine lv_aload_n hx hb d_MD_init_254 rfl (lv_at hl 2 rfl) ?_
                refine g_getQ cx wo a20 (by decide) (cel_20 E ad n σ28) rfl in_MD 6 (by decide) wf_MD_64 rfl d_MD_init_255 ?_
                refine lv_iload hx hb d_MD_init_258 (lv_at hl 1 rfl) ?_
                obtain ⟨g52, hD⟩ := grd_s hD
                refine g_iastQ cx wo a21 (by decide) (cel_21 E ad n) g52 d_MD_init_260 (fun H locs wo => ?_)
                obtain ⟨σ53, eσ53⟩ : ∃ z, z = stI σ28 21 ((σ28.1 20 6)).toNatClampNeg x31 := ⟨_, rfl⟩
                rw [← eσ53] at wo
                have hD := nm_at hD eσ53
                try dsimp only at hD
                refine lv_aload_n hx hb d_MD_init_261 rfl (lv_at hl 2 rfl) ?_
                refine lv_dup hx hb d_MD_init_262 rfl ?_
                refine g_getQ cx wo a20 (by decide) (cel_20 E ad n σ53) rfl in_MD 6 (by decide) wf_MD_64 rfl d_MD_init_263 ?_
                refine lv_iconst (v := 1) hx hb d_MD_init_266 (by decide) ?_
                refine lv_iadd hx hb d_MD_init_267 ?_
                refine g_putQ cx wo a20 (by decide) (cel_20 E ad n σ53) rfl in_MD t_MD tok_MD n_MD 6 (by decide) wf_MD_64 rfl rfl rfl (Nat.le_of_ble_eq_true rfl) rfl d_MD_init_268 (fun H locs wo => ?_)
                obtain ⟨σ54, eσ54⟩ : ∃ z, z = stF σ53 20 6 ((σ53.1 20 6) + (1 : Int32)) := ⟨_, rfl⟩
                rw [← eσ54] at wo
                have hD := nm_at hD eσ54
                try dsimp only at hD
                obtain ⟨x55, ex55⟩ : ∃ y : Int32, y = x31 + (1 : Int32) := ⟨_, rfl⟩
                have hD := nm_at hD ex55
                try dsimp only at hD
                refine lv_iinc (v := x55) (lv' := [(4, .int x55), (5, .int x47), (0, .ref q20)]) hx hb d_MD_init_271 hl (k := 1) rfl (by rw [ex55]; rfl) (by decide) rfl (fun ls hl => ?_)
                refine lv_goto (tgt := 184) hx hb d_MD_init_274 (by decide) ?_
                exact ih σ54 x55 _ _ _ _ hD hex wo (lv_sub hl [0, 2] rfl)
              · have hD := ite_p hD c51
                refine lv_goto (tgt := 271) hx hb d_MD_init_247 (by decide) ?_
                obtain ⟨x56, ex56⟩ : ∃ y : Int32, y = x31 + (1 : Int32) := ⟨_, rfl⟩
                have hD := nm_at hD ex56
                try dsimp only at hD
                refine lv_iinc (v := x56) (lv' := [(4, .int x56), (5, .int x47), (0, .ref q20)]) hx hb d_MD_init_271 hl (k := 1) rfl (by rw [ex56]; rfl) (by decide) rfl (fun ls hl => ?_)
                refine lv_goto (tgt := 184) hx hb d_MD_init_274 (by decide) ?_
                exact ih σ28 x56 _ _ _ _ hD hex wo (lv_sub hl [0, 2] rfl)
        obtain ⟨res59, hr60, hD⟩ := bd_s hD
        refine lp58 F σ27 (1 : Int32) _ _ _ _ hr60 (fun σ57 H locs ls hz wo hl => ?_) wo (lv_sub hl [0, 1] rfl)
        have hz := hz.symm
        subst hz
        try dsimp only at hD
        refine lv_iconst (v := 0) hx hb d_MD_init_277 (by decide) ?_
        refine lv_istore (lv' := [(4, .int (0 : Int32)), (0, .ref q20)]) hx hb d_MD_init_278 hl (by decide) rfl (fun ls hl => ?_)
        have lp83 : ∀ (k63 : Nat) (σ61 : HS) (x64 : Int32) (H : Heap) (locs : List Loc) (ls : Array Slot) (res62 : HS), D_MD_init_L280 F n  k63 σ61 x64 = some res62 → (∀ (σ82 : HS) (H : Heap) (locs : List Loc) (ls : Array Slot), res62 = σ82 → Wo E A0 s.heap (wl E ad n [20, 21, 22, 23, 24, 25, 26, 27, 28, 29] σ82) H locs → lv_has ls 7 [(0, .ref q20)] → W p l e ({ frames := 1, cells := 9, slots := 125216, locals := 22 }) s m aa below meth c H locs 9 125216 QQ (F0 m 334 ls [])) → Wo E A0 s.heap (wl E ad n [20, 21, 22, 23, 24, 25, 26, 27, 28, 29] σ61) H locs → lv_has ls 7 [(4, .int x64), (0, .ref q20)] → W p l e ({ frames := 1, cells := 9, slots := 125216, locals := 22 }) s m aa below meth c H locs 9 125216 QQ (F0 m 280 ls []) := by
          intro k63
          induction k63 with
          | zero =>
            intro σ61 x64 H locs ls res62 hD
            rw [D_MD_init_L280.eq_1] at hD
            cases hD
          | succ k63 ih =>
            intro σ61 x64 H locs ls res62 hD hex wo hl
            rw [D_MD_init_L280.eq_2] at hD
            refine lv_iload hx hb d_MD_init_280 (lv_at hl 0 rfl) ?_
            refine lv_aload_n hx hb d_MD_init_282 rfl (lv_at hl 1 rfl) ?_
            refine g_getQ cx wo a20 (by decide) (cel_20 E ad n σ61) rfl in_MD 1 (by decide) wf_MD_52 rfl d_MD_init_283 ?_
            refine lv_icmp_ge (tgt := 334) hx hb d_MD_init_286 (by decide) (fun c65 => ?_) (fun c65 => ?_)
            · have hD := ite_p hD c65
              exact hex σ61 _ _ _ (Option.some.inj hD).symm wo (lv_sub hl [1] rfl)
            · have hD := ite_n hD c65
              refine lv_aload_n hx hb d_MD_init_289 rfl (lv_at hl 1 rfl) ?_
              refine g_getQ cx wo a20 (by decide) (cel_20 E ad n σ61) rfl in_MD 7 (by decide) wf_MD_13 rfl d_MD_init_290 ?_
              rw [a22]
              refine lv_iload hx hb d_MD_init_293 (lv_at hl 0 rfl) ?_
              refine lv_iconst (v := 1) hx hb d_MD_init_295 (by decide) ?_
              obtain ⟨g66, hD⟩ := grd_s hD
              refine g_zastQ cx wo a22 (by decide) (cel_22 E ad n) g66 d_MD_init_296 (fun H locs wo => ?_)
              obtain ⟨σ67, eσ67⟩ : ∃ z, z = stI σ61 22 (x64).toNatClampNeg (vp_nar .boolean (1 : Int32)) := ⟨_, rfl⟩
              rw [← eσ67] at wo
              have hD := nm_at hD eσ67
              try dsimp only at hD
              refine lv_iconst (v := 0) hx hb d_MD_init_297 (by decide) ?_
              refine lv_istore (lv' := [(5, .int (0 : Int32)), (4, .int x64), (0, .ref q20)]) hx hb d_MD_init_298 hl (by decide) rfl (fun ls hl => ?_)
              have lp78 : ∀ (k70 : Nat) (σ68 : HS) (x71 : Int32) (H : Heap) (locs : List Loc) (ls : Array Slot) (res69 : HS), D_MD_init_L300 F n x64 k70 σ68 x71 = some res69 → (∀ (σ77 : HS) (H : Heap) (locs : List Loc) (ls : Array Slot), res69 = σ77 → Wo E A0 s.heap (wl E ad n [20, 21, 22, 23, 24, 25, 26, 27, 28, 29] σ77) H locs → lv_has ls 7 [(4, .int x64), (0, .ref q20)] → W p l e ({ frames := 1, cells := 9, slots := 125216, locals := 22 }) s m aa below meth c H locs 9 125216 QQ (F0 m 328 ls [])) → Wo E A0 s.heap (wl E ad n [20, 21, 22, 23, 24, 25, 26, 27, 28, 29] σ68) H locs → lv_has ls 7 [(5, .int x71), (4, .int x64), (0, .ref q20)] → W p l e ({ frames := 1, cells := 9, slots := 125216, locals := 22 }) s m aa below meth c H locs 9 125216 QQ (F0 m 300 ls []) := by
                intro k70
                induction k70 with
                | zero =>
                  intro σ68 x71 H locs ls res69 hD
                  rw [D_MD_init_L300.eq_1] at hD
                  cases hD
                | succ k70 ih =>
                  intro σ68 x71 H locs ls res69 hD hex wo hl
                  rw [D_MD_init_L300.eq_2] at hD
                  refine lv_iload hx hb d_MD_init_300 (lv_at hl 0 rfl) ?_
                  refine lv_aload_n hx hb d_MD_init_302 rfl (lv_at hl 2 rfl) ?_
                  refine g_getQ cx wo a20 (by decide) (cel_20 E ad n σ68) rfl in_MD 3 (by decide) wf_MD_58 rfl d_MD_init_303 ?_
                  refine lv_icmp_gt (tgt := 328) hx hb d_MD_init_306 (by decide) (fun c72 => ?_) (fun c72 => ?_)
                  · have hD := ite_p hD c72
                    exact hex σ68 _ _ _ (Option.some.inj hD).symm wo (lv_sub hl [1, 2] rfl)
                  · have hD := ite_n hD c72
                    refine lv_aload_n hx hb d_MD_init_309 rfl (lv_at hl 2 rfl) ?_
                    refine g_getQ cx wo a20 (by decide) (cel_20 E ad n σ68) rfl in_MD 8 (by decide) wf_MD_17 rfl d_MD_init_310 ?_
                    rw [a23]
                    refine lv_iload hx hb d_MD_init_313 (lv_at hl 1 rfl) ?_
                    refine lv_iload hx hb d_MD_init_315 (lv_at hl 0 rfl) ?_
                    obtain ⟨x73, hcx73, hD⟩ := bd_s hD
                    try dsimp only [nm2] at hD
                    refine call_Si cx wo (k_MD_at l E ad n [20, 21, 22, 23, 24, 25, 26, 27, 28, 29] (by decide) F σ68  x64 x71 x73 hcx73) mw_MD_at wm_MD_67 ⟨by decide, by decide⟩ ⟨by decide, by decide⟩ hl.1 rfl (Nat.le_of_ble_eq_true rfl) d_MD_init_317 (fun H locs wo => ?_)
                    refine lv_iconst (v := 1) hx hb d_MD_init_320 (by decide) ?_
                    obtain ⟨g74, hD⟩ := grd_s hD
                    refine g_zastQ cx wo a23 (by decide) (cel_23 E ad n) g74 d_MD_init_321 (fun H locs wo => ?_)
                    obtain ⟨σ75, eσ75⟩ : ∃ z, z = stI σ68 23 (x73).toNatClampNeg (vp_nar .boolean (1 : Int32)) := ⟨_, rfl⟩
                    rw [← eσ75] at wo
                    have hD := nm_at hD eσ75
                    try dsimp only at hD
                    obtain ⟨x76, ex76⟩ : ∃ y : Int32, y = x71 + (1 : Int32) := ⟨_, rfl⟩
                    have hD := nm_at hD ex76
                    try dsimp only at hD
                    refine lv_iinc (v := x76) (lv' := [(5, .int x76), (4, .int x64), (0, .ref q20)]) hx hb d_MD_init_322 hl (k := 0) rfl (by rw [ex76]; rfl) (by decide) rfl (fun ls hl => ?_)
                    refine lv_goto (tgt := 300) hx hb d_MD_init_325 (by decide) ?_
                    exact ih σ75 x76 _ _ _ _ hD hex wo (lv_sub hl [0, 1, 2] rfl)
              obtain ⟨res79, hr80, hD⟩ := bd_s hD
              refine lp78 F σ67 (0 : Int32) _ _ _ _ hr80 (fun σ77 H locs ls hz wo hl => ?_) wo (lv_sub hl [0, 1, 2] rfl)
              have hz := hz.symm
              subst hz
              try dsimp only at hD
              obtain ⟨x81, ex81⟩ : ∃ y : Int32, y = x64 + (1 : Int32) := ⟨_, rfl⟩
              have hD := nm_at hD ex81
              try dsimp only at hD
              refine lv_iinc (v := x81) (lv' := [(4, .int x81), (0, .ref q20)]) hx hb d_MD_init_328 hl (k := 0) rfl (by rw [ex81]; rfl) (by decide) rfl (fun ls hl => ?_)
              refine lv_goto (tgt := 280) hx hb d_MD_init_331 (by decide) ?_
              exact ih σ77 x81 _ _ _ _ hD hex wo (lv_sub hl [0, 1] rfl)
        obtain ⟨res84, hr85, hD⟩ := bd_s hD
        refine lp83 F σ57 (0 : Int32) _ _ _ _ hr85 (fun σ82 H locs ls hz wo hl => ?_) wo (lv_sub hl [0, 1] rfl)
        have hz := hz.symm
        subst hz
        try dsimp only at hD
        refine lv_iconst (v := 0) hx hb d_MD_init_334 (by decide) ?_
        refine lv_istore (lv' := [(4, .int (0 : Int32)), (0, .ref q20)]) hx hb d_MD_init_335 hl (by decide) rfl (fun ls hl => ?_)
        have lp110 : ∀ (k88 : Nat) (σ86 : HS) (x89 : Int32) (H : Heap) (locs : List Loc) (ls : Array Slot) (res87 : HS), D_MD_init_L337 F n  k88 σ86 x89 = some res87 → (∀ (σ109 : HS) (H : Heap) (locs : List Loc) (ls : Array Slot), res87 = σ109 → Wo E A0 s.heap (wl E ad n [20, 21, 22, 23, 24, 25, 26, 27, 28, 29] σ109) H locs → lv_has ls 7 [] → W p l e ({ frames := 1, cells := 9, slots := 125216, locals := 22 }) s m aa below meth c H locs 9 125216 QQ (F0 m 418 ls [])) → Wo E A0 s.heap (wl E ad n [20, 21, 22, 23, 24, 25, 26, 27, 28, 29] σ86) H locs → lv_has ls 7 [(4, .int x89), (0, .ref q20)] → W p l e ({ frames := 1, cells := 9, slots := 125216, locals := 22 }) s m aa below meth c H locs 9 125216 QQ (F0 m 337 ls []) := by
          intro k88
          induction k88 with
          | zero =>
            intro σ86 x89 H locs ls res87 hD
            rw [D_MD_init_L337.eq_1] at hD
            cases hD
          | succ k88 ih =>
            intro σ86 x89 H locs ls res87 hD hex wo hl
            rw [D_MD_init_L337.eq_2] at hD
            refine lv_iload hx hb d_MD_init_337 (lv_at hl 0 rfl) ?_
            refine lv_aload_n hx hb d_MD_init_339 rfl (lv_at hl 1 rfl) ?_
            refine g_getQ cx wo a20 (by decide) (cel_20 E ad n σ86) rfl in_MD 3 (by decide) wf_MD_58 rfl d_MD_init_340 ?_
            refine lv_icmp_ge (tgt := 418) hx hb d_MD_init_343 (by decide) (fun c90 => ?_) (fun c90 => ?_)
            · have hD := ite_p hD c90
              exact hex σ86 _ _ _ (Option.some.inj hD).symm wo (lv_sub hl [] rfl)
            · have hD := ite_n hD c90
              refine lv_iconst (v := 0) hx hb d_MD_init_346 (by decide) ?_
              refine lv_istore (lv' := [(5, .int (0 : Int32)), (4, .int x89), (0, .ref q20)]) hx hb d_MD_init_347 hl (by decide) rfl (fun ls hl => ?_)
              have lp105 : ∀ (k93 : Nat) (σ91 : HS) (x94 : Int32) (H : Heap) (locs : List Loc) (ls : Array Slot) (res92 : HS), D_MD_init_L349 F n x89 k93 σ91 x94 = some res92 → (∀ (σ104 : HS) (H : Heap) (locs : List Loc) (ls : Array Slot), res92 = σ104 → Wo E A0 s.heap (wl E ad n [20, 21, 22, 23, 24, 25, 26, 27, 28, 29] σ104) H locs → lv_has ls 7 [(4, .int x89), (0, .ref q20)] → W p l e ({ frames := 1, cells := 9, slots := 125216, locals := 22 }) s m aa below meth c H locs 9 125216 QQ (F0 m 412 ls [])) → Wo E A0 s.heap (wl E ad n [20, 21, 22, 23, 24, 25, 26, 27, 28, 29] σ91) H locs → lv_has ls 7 [(5, .int x94), (4, .int x89), (0, .ref q20)] → W p l e ({ frames := 1, cells := 9, slots := 125216, locals := 22 }) s m aa below meth c H locs 9 125216 QQ (F0 m 349 ls []) := by
                intro k93
                induction k93 with
                | zero =>
                  intro σ91 x94 H locs ls res92 hD
                  rw [D_MD_init_L349.eq_1] at hD
                  cases hD
                | succ k93 ih =>
                  intro σ91 x94 H locs ls res92 hD hex wo hl
                  rw [D_MD_init_L349.eq_2] at hD
                  refine lv_iload hx hb d_MD_init_349 (lv_at hl 0 rfl) ?_
                  refine lv_aload_n hx hb d_MD_init_351 rfl (lv_at hl 2 rfl) ?_
                  refine g_getQ cx wo a20 (by decide) (cel_20 E ad n σ91) rfl in_MD 2 (by decide) wf_MD_55 rfl d_MD_init_352 ?_
                  refine lv_aload_n hx hb d_MD_init_355 rfl (lv_at hl 2 rfl) ?_
                  refine g_getQ cx wo a20 (by decide) (cel_20 E ad n σ91) rfl in_MD 4 (by decide) wf_MD_61 rfl d_MD_init_356 ?_
                  refine lv_imul hx hb d_MD_init_359 ?_
                  refine lv_icmp_ge (tgt := 412) hx hb d_MD_init_360 (by decide) (fun c95 => ?_) (fun c95 => ?_)
                  · have hD := ite_p hD c95
                    exact hex σ91 _ _ _ (Option.some.inj hD).symm wo (lv_sub hl [1, 2] rfl)
                  · have hD := ite_n hD c95
                    refine lv_aload_n hx hb d_MD_init_363 rfl (lv_at hl 2 rfl) ?_
                    refine g_getQ cx wo a20 (by decide) (cel_20 E ad n σ91) rfl in_MD 11 (by decide) wf_MD_28 rfl d_MD_init_364 ?_
                    rw [a26]
                    refine lv_bipush (v := 16) hx hb d_MD_init_367 (by decide) ?_
                    refine lv_iload hx hb d_MD_init_369 (lv_at hl 1 rfl) ?_
                    refine lv_imul hx hb d_MD_init_371 ?_
                    refine lv_iload hx hb d_MD_init_372 (lv_at hl 0 rfl) ?_
                    refine lv_iadd hx hb d_MD_init_374 ?_
                    refine lv_aload_n hx hb d_MD_init_375 rfl (lv_at hl 2 rfl) ?_
                    refine lv_iload hx hb d_MD_init_376 (lv_at hl 1 rfl) ?_
                    refine lv_iload hx hb d_MD_init_378 (lv_at hl 0 rfl) ?_
                    obtain ⟨x96, hcx96, hD⟩ := bd_s hD
                    try dsimp only [nm2] at hD
                    refine call_Vi cx wo (k_MD_diskOf l E ad n [20, 21, 22, 23, 24, 25, 26, 27, 28, 29] (by decide) F σ91  x89 x94 x96 hcx96) (by decide) (cel_20 E ad n σ91) rfl rfl mw_MD_diskOf wm_MD_71 ⟨by decide, by decide⟩ ⟨by decide, by decide⟩ hl.1 (by rw [← a20]; rfl) (Nat.le_of_ble_eq_true rfl) d_MD_init_380 (fun H locs wo => ?_)
                    obtain ⟨g97, hD⟩ := grd_s hD
                    refine g_iastQ cx wo a26 (by decide) (cel_26 E ad n) g97 d_MD_init_383 (fun H locs wo => ?_)
                    obtain ⟨σ98, eσ98⟩ : ∃ z, z = stI σ91 26 ((((16 : Int32) * x89) + x94)).toNatClampNeg x96 := ⟨_, rfl⟩
                    rw [← eσ98] at wo
                    have hD := nm_at hD eσ98
                    try dsimp only at hD
                    refine lv_aload_n hx hb d_MD_init_384 rfl (lv_at hl 2 rfl) ?_
                    refine g_getQ cx wo a20 (by decide) (cel_20 E ad n σ98) rfl in_MD 9 (by decide) wf_MD_20 rfl d_MD_init_385 ?_
                    rw [a24]
                    refine lv_aload_n hx hb d_MD_init_388 rfl (lv_at hl 2 rfl) ?_
                    refine lv_iload hx hb d_MD_init_389 (lv_at hl 1 rfl) ?_
                    refine lv_iload hx hb d_MD_init_391 (lv_at hl 0 rfl) ?_
                    obtain ⟨x99, hcx99, hD⟩ := bd_s hD
                    try dsimp only [nm2] at hD
                    refine call_Vi cx wo (k_MD_diskOf l E ad n [20, 21, 22, 23, 24, 25, 26, 27, 28, 29] (by decide) F σ98  x89 x94 x99 hcx99) (by decide) (cel_20 E ad n σ98) rfl rfl mw_MD_diskOf wm_MD_71 ⟨by decide, by decide⟩ ⟨by decide, by decide⟩ hl.1 (by rw [← a20]; rfl) (Nat.le_of_ble_eq_true rfl) d_MD_init_393 (fun H locs wo => ?_)
                    refine lv_iload hx hb d_MD_init_396 (lv_at hl 1 rfl) ?_
                    obtain ⟨x100, hcx100, hD⟩ := bd_s hD
                    try dsimp only [nm2] at hD
                    refine call_Si cx wo (k_MD_at l E ad n [20, 21, 22, 23, 24, 25, 26, 27, 28, 29] (by decide) F σ98  x99 x89 x100 hcx100) mw_MD_at wm_MD_67 ⟨by decide, by decide⟩ ⟨by decide, by decide⟩ hl.1 rfl (Nat.le_of_ble_eq_true rfl) d_MD_init_398 (fun H locs wo => ?_)
                    refine lv_iload hx hb d_MD_init_401 (lv_at hl 0 rfl) ?_
                    refine lv_iconst (v := 1) hx hb d_MD_init_403 (by decide) ?_
                    refine lv_iadd hx hb d_MD_init_404 ?_
                    obtain ⟨g101, hD⟩ := grd_s hD
                    refine g_iastQ cx wo a24 (by decide) (cel_24 E ad n) g101 d_MD_init_405 (fun H locs wo => ?_)
                    obtain ⟨σ102, eσ102⟩ : ∃ z, z = stI σ98 24 (x100).toNatClampNeg (x94 + (1 : Int32)) := ⟨_, rfl⟩
                    rw [← eσ102] at wo
                    have hD := nm_at hD eσ102
                    try dsimp only at hD
                    obtain ⟨x103, ex103⟩ : ∃ y : Int32, y = x94 + (1 : Int32) := ⟨_, rfl⟩
                    have hD := nm_at hD ex103
                    try dsimp only at hD
                    refine lv_iinc (v := x103) (lv' := [(5, .int x103), (4, .int x89), (0, .ref q20)]) hx hb d_MD_init_406 hl (k := 0) rfl (by rw [ex103]; rfl) (by decide) rfl (fun ls hl => ?_)
                    refine lv_goto (tgt := 349) hx hb d_MD_init_409 (by decide) ?_
                    exact ih σ102 x103 _ _ _ _ hD hex wo (lv_sub hl [0, 1, 2] rfl)
              obtain ⟨res106, hr107, hD⟩ := bd_s hD
              refine lp105 F σ86 (0 : Int32) _ _ _ _ hr107 (fun σ104 H locs ls hz wo hl => ?_) wo (lv_sub hl [0, 1, 2] rfl)
              have hz := hz.symm
              subst hz
              try dsimp only at hD
              obtain ⟨x108, ex108⟩ : ∃ y : Int32, y = x89 + (1 : Int32) := ⟨_, rfl⟩
              have hD := nm_at hD ex108
              try dsimp only at hD
              refine lv_iinc (v := x108) (lv' := [(4, .int x108), (0, .ref q20)]) hx hb d_MD_init_412 hl (k := 0) rfl (by rw [ex108]; rfl) (by decide) rfl (fun ls hl => ?_)
              refine lv_goto (tgt := 337) hx hb d_MD_init_415 (by decide) ?_
              exact ih σ104 x108 _ _ _ _ hD hex wo (lv_sub hl [0, 1] rfl)
        obtain ⟨res111, hr112, hD⟩ := bd_s hD
        refine lp110 F σ82 (0 : Int32) _ _ _ _ hr112 (fun σ109 H locs ls hz wo hl => ?_) wo (lv_sub hl [0, 1] rfl)
        have hz := hz.symm
        subst hz
        try dsimp only at hD
        cases hD
        rw [hA0] at wo
        rw [hQQ]
        exact tN_v ad cx wo ⟨(fun b hb => absurd hb List.not_mem_nil), (a20.trans hq20)⟩ d_MD_init_418
      refine lv_icmp_lt (tgt := 157) hx hb d_MD_init_148 (by decide) (fun c113 => ?_) (fun c113 => ?_)
      · have hD := ite_p hD c113
        refine lv_bipush (v := 48) hx hb d_MD_init_157 (by decide) ?_
        refine lv_goto (tgt := 163) hx hb d_MD_init_159 (by decide) ?_
        exact j23_ok (48 : Int32) _ _ _ hD wo (lv_sub hl [0] rfl)
      · have hD := ite_n hD c113
        refine lv_iload_n hx hb d_MD_init_151 rfl (lv_at hl 1 rfl) ?_
        refine lv_bipush (v := 64) hx hb d_MD_init_152 (by decide) ?_
        refine lv_icmp_le (tgt := 162) hx hb d_MD_init_154 (by decide) (fun c114 => ?_) (fun c114 => ?_)
        · have hD := ite_p hD c114
          refine lv_iload_n hx hb d_MD_init_162 rfl (lv_at hl 1 rfl) ?_
          exact j23_ok p3 _ _ _ hD wo (lv_sub hl [0] rfl)
        · have hD := ite_n hD c114
          refine lv_bipush (v := 48) hx hb d_MD_init_157 (by decide) ?_
          refine lv_goto (tgt := 163) hx hb d_MD_init_159 (by decide) ?_
          exact j23_ok (48 : Int32) _ _ _ hD wo (lv_sub hl [0] rfl)
    refine lv_icmp_lt (tgt := 136) hx hb d_MD_init_119 (by decide) (fun c115 => ?_) (fun c115 => ?_)
    · have hD := ite_p hD c115
      refine lv_iconst (v := 3) hx hb d_MD_init_136 (by decide) ?_
      refine lv_goto (tgt := 141) hx hb d_MD_init_137 (by decide) ?_
      exact j21_ok (3 : Int32) _ _ _ hD wo (lv_sub hl [0, 2] rfl)
    · have hD := ite_n hD c115
      refine lv_iload_n hx hb d_MD_init_122 rfl (lv_at hl 1 rfl) ?_
      refine lv_bipush (v := 8) hx hb d_MD_init_123 (by decide) ?_
      refine lv_icmp_gt (tgt := 136) hx hb d_MD_init_125 (by decide) (fun c116 => ?_) (fun c116 => ?_)
      · have hD := ite_p hD c116
        refine lv_iconst (v := 3) hx hb d_MD_init_136 (by decide) ?_
        refine lv_goto (tgt := 141) hx hb d_MD_init_137 (by decide) ?_
        exact j21_ok (3 : Int32) _ _ _ hD wo (lv_sub hl [0, 2] rfl)
      · have hD := ite_n hD c116
        refine lv_iload_n hx hb d_MD_init_128 rfl (lv_at hl 1 rfl) ?_
        refine lv_aload_n hx hb d_MD_init_129 rfl (lv_at hl 0 rfl) ?_
        refine r_get cx wo 0 rfl rfl in_MD 1 (by decide) wf_MD_52 rfl d_MD_init_130 ?_
        refine lv_icmp_lt (tgt := 140) hx hb d_MD_init_133 (by decide) (fun c117 => ?_) (fun c117 => ?_)
        · have hD := ite_p hD c117
          refine lv_iload_n hx hb d_MD_init_140 rfl (lv_at hl 1 rfl) ?_
          exact j21_ok p2 _ _ _ hD wo (lv_sub hl [0, 2] rfl)
        · have hD := ite_n hD c117
          refine lv_iconst (v := 3) hx hb d_MD_init_136 (by decide) ?_
          refine lv_goto (tgt := 141) hx hb d_MD_init_137 (by decide) ?_
          exact j21_ok (3 : Int32) _ _ _ hD wo (lv_sub hl [0, 2] rfl)
  refine lv_icmp_lt (tgt := 107) hx hb d_MD_init_98 (by decide) (fun c118 => ?_) (fun c118 => ?_)
  · have hD := ite_p hD c118
    refine lv_bipush (v := 8) hx hb d_MD_init_107 (by decide) ?_
    refine lv_goto (tgt := 113) hx hb d_MD_init_109 (by decide) ?_
    exact j19_ok (8 : Int32) _ _ _ hD wo (lv_sub hl [0, 2, 3] rfl)
  · have hD := ite_n hD c118
    refine lv_iload_n hx hb d_MD_init_101 rfl (lv_at hl 1 rfl) ?_
    refine lv_bipush (v := 16) hx hb d_MD_init_102 (by decide) ?_
    refine lv_icmp_le (tgt := 112) hx hb d_MD_init_104 (by decide) (fun c119 => ?_) (fun c119 => ?_)
    · have hD := ite_p hD c119
      refine lv_iload_n hx hb d_MD_init_112 rfl (lv_at hl 1 rfl) ?_
      exact j19_ok p1 _ _ _ hD wo (lv_sub hl [0, 2, 3] rfl)
    · have hD := ite_n hD c119
      refine lv_bipush (v := 8) hx hb d_MD_init_107 (by decide) ?_
      refine lv_goto (tgt := 113) hx hb d_MD_init_109 (by decide) ?_
      exact j19_ok (8 : Int32) _ _ _ hD wo (lv_sub hl [0, 2, 3] rfl)
