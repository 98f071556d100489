def cl_ (L : Nat) (xs : Nat → Int32) (k : Int32) : Int32 := if nI L ≤ k then 0 else xs k.toNatClampNeg
def preC (E : EV) (b L : Nat) (xs : Nat → Int32) (sz : Nat) (U : State) : Prop := preW E [] sz U ∧ va_X b L xs U U.heap ∧ b < U.heap.size
theorem preC_blind (E : EV) (b L : Nat) (xs : Nat → Int32) (sz : Nat) (av : List Value) : FrameBlind (va_Pc av (preC E b L xs sz)) := by
  intro a U g mk q
  obtain ⟨q0, q1, q2, q3⟩ := q
  exact ⟨q0, (pre_blind E [] sz av a U g mk ⟨q0, q1⟩).2, va_X.moved (u := U) (U := U.calling g mk a) (Vm.Alike.refl U.vm) q2, q3⟩
set_option maxHeartbeats 1000000 in
theorem k_LW_cell (l : Launch) (E : EV) {b L : Nat} (hL : L ≤ 3587) (xs : Nat → Int32) (k : Int32) (hk : 0 ≤ k.toInt) (sz : Nat) : Met l y_LW_cell (.code y_LW_cell c_LW_cell 2 (some .int) :: ltb) { frames := 0, cells := 0, slots := 0, locals := 0 } (va_Pc [.ref b, .int k] (preC E b L xs sz)) (va_Qi (fun (x : Int32) (_ : Unit) => x = cl_ L xs k) (fun _ _ => True) (fun q => sz ≤ q)) 0 0 (fun q => sz ≤ q) := by
  refine Met.ofW (cc := c_LW_cell) (maxL := 2) (ret := some .int) (by decide) rfl ?_
  intro p e s m args below meth c s₁ B hml hv
  obtain ⟨rfl, ⟨hsz, hP, hK, hD0⟩, hX, hbl⟩ := hv
  rw [lg_entry_eq]
  have hl := lv_entry [.ref b, .int k] (n := 2) (Nat.le_of_ble_eq_true rfl)
  generalize (lg_sl ([.ref b, .int k]) ++ List.replicate (2 - (lg_sl ([.ref b, .int k])).length) Slot.unset).toArray = ls at hl ⊢
  have hl : lv_has ls 2 [(0, .ref b), (1, .int k)] := hl
  have hx := B.exec
  have hb := B.bytes
  have hlocks := B.notSynchronized
  have hr := B.returns
  have hbA : ¬ (fun q : Nat => sz ≤ q) b := by subst hsz; exact Nat.not_le.mpr hbl
  have hS : va_S (fun q => sz ≤ q) s.heap s.heap [] := va_S.rf
  have hLI : (nI L).toInt = (L : Int) := nI_toInt (by omega)
  refine lv_iload_n hx hb d_LW_cell_0 rfl (lv_at hl 1 rfl) ?_
  refine lv_aload_n hx hb d_LW_cell_1 rfl (lv_at hl 0 rfl) ?_
  refine va_slen hx hb hX hbl hbA hS d_LW_cell_2 ?_
  refine W.eq (g2 := F0 m 3 ls [.int (nI L), .int k]) rfl ?_
  refine lv_icmp_ge (tgt := 12) hx hb d_LW_cell_3 (by decide) (fun c1 => ?_) (fun c1 => ?_)
  · refine lv_iconst (v := 0) hx hb d_LW_cell_12 (by decide) ?_
    refine W.zret hx hb hr rfl (fun t ht hW => ⟨⟨_, (), rfl, ?_, trivial⟩, hS.F ht⟩) (fun q hq => by cases hq) d_LW_cell_13 hlocks
    rw [cl_, if_pos c1]
  · refine lv_aload_n hx hb d_LW_cell_6 rfl (lv_at hl 0 rfl) ?_
    refine lv_iload_n hx hb d_LW_cell_7 rfl (lv_at hl 1 rfl) ?_
    refine va_sld hx hb hX hbl hbA hS (vp_in_iff.mpr ⟨hk, ?_⟩) d_LW_cell_8 ?_
    · have h1 : ¬ (nI L).toInt ≤ k.toInt := fun h => c1 (Int32.le_iff_toInt_le.mpr h)
      omega
    refine lv_goto (tgt := 13) hx hb d_LW_cell_9 (by decide) ?_
    refine W.zret hx hb hr rfl (fun t ht hW => ⟨⟨_, (), rfl, ?_, trivial⟩, hS.F ht⟩) (fun q hq => by cases hq) d_LW_cell_13 hlocks
    rw [cl_, if_neg c1]
section CC
variable {p : Program} {l : Launch} {e : Env} {s : State} {m : MethodId} {below : List Frame} {meth : Method} {c : Code} {H : Heap} {locs : List Loc} {cells slots : Nat} {Q : State → Prop} {E : EV} {w : va_W} {b L : Nat} {xs : Nat → Int32} {pc : Nat} {ls : Array Slot} {rest : List Value} {k : Int32}
theorem call_cell (hL : L ≤ 3587) (cx : Cx E p s m #[Value.ref b] meth c code "StripeFieldLaw" ret 8) (hX : va_X b L xs s s.heap) (hbl : b < s.heap.size) (hk : 0 ≤ k.toInt) (wo : Wo E (fun q : Nat => s.heap.size ≤ q) s.heap w H locs) (hc : cells ≤ 601024 ∧ slots ≤ 7293000) (hsz : ls.size = 8) (hW : (rest.map fun v => v.category).sum ≤ 8) (hdg : decode code pc = .ok (.invokestatic 64, 3))
    (kk : ∀ (H1 : Heap) (locs1 : List Loc), Wo E (fun q : Nat => s.heap.size ≤ q) s.heap w H1 locs1 → W p l e room_1 s m #[Value.ref b] below meth c H1 locs1 cells slots Q (F0 m (pc + 3) ls (.int (cl_ L xs k) :: rest))) : W p l e room_1 s m #[Value.ref b] below meth c H locs cells slots Q (F0 m pc ls (.int k :: .ref b :: rest)) := by
  have ht := cx.1.2.2.2.2
  have mw := mw_LW_cell
  refine va_calli (va_runS (As := [.ref b, .int k]) (g := F0 m pc ls (.int k :: .ref b :: rest)) cx.1 (k_LW_cell l E hL xs k hk H.size) ⟨callB_of 2 ht (good_c mw.2.2.1) rfl rfl rfl (ht _ mw.2.1) (ht _ wm_LW_64) mw.2.2.2 ⟨by decide, by decide⟩, ht _ mw.1⟩ ⟨preC_blind E b L xs H.size _, fun U hU hW1 => ⟨rfl, ⟨by rw [hU], fun k q h => by simp at h, cx.2.2.2.warm hW1, ⟨fun i j p q h => by simp at h, fun k q h => by simp at h⟩⟩, ?_, ?_⟩⟩ rfl rfl hsz rfl (lv_room hW) hdg ⟨hc.1, hc.2⟩) wo.2.2.1 (fun q h1 h2 => absurd h1 (Nat.not_lt.mpr h2)) (fun q h => Nat.le_trans wo.2.2.1.1 h) (fun r u t H1 l1 ht hvm hw hB hz hk hS => ?_)
  · rw [hU]
    exact va_X.moved hW1.alike (hX.kept (wo.2.2.1.2.1 b hbl (Nat.not_le.mpr hbl)))
  · rw [hU]
    exact Nat.lt_of_lt_of_le hbl wo.2.2.1.1
  · subst hw
    refine kk H1 l1 ⟨wo.1.kept (fun k q hq => hk q.1 (wo.1 k q hq).lt (Nat.not_le.mpr (wo.1 k q hq).lt)), wo.2.1, hS, wo.2.2.2⟩
end CC
theorem wl_mix {E : EV} {ad ad1 n n1 : Nat → Nat} {L : List Nat} {σ σ1 : HS} (P : Nat → Bool) (hL : L.all (fun b => P b && (refs b).all P) = true) (ha : ∀ b, P b = true → ad1 b = ad b) (hn : ∀ b, P b = true → n1 b = n b) (h1 : ∀ b, P b = true → σ1.1 b = σ.1 b) (h2 : ∀ b, P b = true → σ1.2 b = σ.2 b) : wl E ad1 n1 L σ1 = wl E ad n L σ := by
  unfold wl
  refine List.map_congr_left (fun b hb => ?_)
  have g := List.all_eq_true.mp hL b hb
  rw [Bool.and_eq_true] at g
  rw [ha b g.1, cel_cong2 b (fun c hc => ha c (List.all_eq_true.mp g.2 c hc)) (hn b g.1) (h1 b g.1) (h2 b g.1)]
def mx {α : Type} (x y z : Nat → α) : Nat → α := fun b => cond (Nat.blt b 20) (x b) (cond (Nat.blt b 30) (y b) (z b))
theorem mx_1 {α : Type} {x y z : Nat → α} {b : Nat} (h : Nat.blt b 20 = true) : x b = mx x y z b := by rw [mx, h]; rfl
theorem mx_2 {α : Type} {x y z : Nat → α} {b : Nat} (h : (!(Nat.blt b 20) && Nat.blt b 30) = true) : y b = mx x y z b := by
  rw [Bool.and_eq_true, Bool.not_eq_true'] at h
  rw [mx, h.1, h.2]; rfl
def n0_ : Nat → Nat := fun _ => 0
def σ0_ : HS := (fun _ _ => 0, fun _ _ => 0)
def mxN (n1 n2 : Nat → Nat) : Nat → Nat := mx n1 n2 (fun _ => 1)
def mxS (σ1 σ2 : HS) : HS := (mx σ1.1 σ2.1 (fun _ _ => 0), mx σ1.2 σ2.2 (fun _ _ => 0))
/-- the pure statement -/
def PureOK : Prop := ∀ (L : Nat) (xs : Nat → Int32), L ≤ 3587 → ∃ (F : Nat) (n1 : Nat → Nat) (σ1 : HS) (n2 : Nat → Nat) (σ2 : HS), D_SF_init F n0_ σ0_ (cl_ L xs 0) (cl_ L xs 1) (cl_ L xs 2) = some (n1, σ1) ∧ D_MD_init F n0_ σ0_ (cl_ L xs 0) (cl_ L xs 1) (cl_ L xs 2) = some (n2, σ2) ∧ D_law F (mxN n1 n2) L xs 513 (mxS σ1 σ2) 3 = some ()
abbrev rawSF : List Value := [.null, .null, .null, .null, .null, .int 0, .int 0, .int 0, .null, .null, .null]
abbrev rawMD : List Value := [.int 0, .int 0, .int 0, .int 0, .int 0, .null, .int 0, .null, .null, .null, .null, .null, .int 0, .int 0, .int 0, .int 0, .null, .int 0, .null, .int 0, .int 0, .null]
abbrev L_SF : List Nat := [0, 3, 2, 1, 9, 10, 11, 12, 13, 14, 15, 16, 4, 5, 6, 7, 8]
abbrev L_MD : List Nat := [20, 21, 22, 23, 24, 25, 26, 27, 28, 29]
set_option maxRecDepth 20000 in
set_option maxHeartbeats 8000000 in
theorem whole_start_open (hp : PureOK) {p : Program} {e : Env} {s : State} {m : MethodId} {below : List Frame} {meth : Method} {c : Code} (l : Launch) (hfl : l.stackTraces = false) {b L : Nat} {xs : Nat → Int32} (hL : L ≤ 3587) (C0 : lw_At p s m meth c b L xs) : W p l e room_1 s m #[Value.ref b] below meth c s.heap [] 0 0 (lw_Z below #[Value.ref b] s) (entryFrame m ([Value.ref b] : List Value).toArray 8) := by
  obtain ⟨E, cx, kt, sx⟩ := law_env C0
  obtain ⟨hx, hb, hr, hml, hown, hts0, hX, hbl, hlocks, hgv⟩ := id C0
  obtain ⟨F, n1, σ1, n2, σ2, hD1, hD2, hD3⟩ := hp L xs hL
  have hl := lv_entry ([.ref b]) (n := 8) (Nat.le_of_ble_eq_true rfl)
  rw [lg_entry_eq]
  generalize (lg_sl ([.ref b]) ++ List.replicate (8 - (lg_sl ([.ref b])).length) Slot.unset).toArray = ls at hl ⊢
  have hl : lv_has ls 8 [(0, .ref b)] := hl
  refine W_gen (fun Q hQ => ?_)
  have wo : Wo E (fun q : Nat => s.heap.size ≤ q) s.heap [] s.heap [] := ⟨fun k q h => by simp at h, ⟨fun i j p q h => by simp at h, fun k q h => by simp at h⟩, va_S.rf, fun _ h => h⟩
  refine c_new (ci := 4) cx wo in_SF t_SF tok_SF wk_LW_8 wp_SF wn_SF rfl (fs := rawSF) (fun j hj => by rcases (show j = 0 ∨ j = 1 ∨ j = 2 ∨ j = 3 ∨ j = 4 ∨ j = 5 ∨ j = 6 ∨ j = 7 ∨ j = 8 ∨ j = 9 ∨ j = 10 by omega) with rfl | rfl | rfl | rfl | rfl | rfl | rfl | rfl | rfl | rfl | rfl <;> rfl) (by decide) (by decide) d_LW_law_0 (fun qS H wo => ?_)
  refine lv_dup hx hb d_LW_law_3 rfl ?_
  refine lv_aload_n hx hb d_LW_law_4 rfl (lv_at hl 0 rfl) ?_
  refine lv_iconst (v := 0) hx hb d_LW_law_5 (by decide) ?_
  refine call_cell hL cx hX hbl (by decide) wo (by decide) hl.1 (Nat.le_of_ble_eq_true rfl) d_LW_law_6 (fun H locs wo => ?_)
  refine lv_aload_n hx hb d_LW_law_9 rfl (lv_at hl 0 rfl) ?_
  refine lv_iconst (v := 1) hx hb d_LW_law_10 (by decide) ?_
  refine call_cell hL cx hX hbl (by decide) wo (by decide) hl.1 (Nat.le_of_ble_eq_true rfl) d_LW_law_11 (fun H locs wo => ?_)
  refine lv_aload_n hx hb d_LW_law_14 rfl (lv_at hl 0 rfl) ?_
  refine lv_iconst (v := 2) hx hb d_LW_law_15 (by decide) ?_
  refine call_cell hL cx hX hbl (by decide) wo (by decide) hl.1 (Nat.le_of_ble_eq_true rfl) d_LW_law_16 (fun H locs wo => ?_)
  refine callN_I (wr := []) cx wo (k_SF_init l E n0_ n0_ F σ0_ qS _ _ _ n1 σ1 hD1) mi_SF_init wm_LW_70 (fun k => ([0] : List Nat).getD k 0) (ix_g (is := [0]) rfl) (ix_i (is := [0]) ⟨by decide, rfl⟩) (fun k => ([] : List Nat).getD k 0) (ix_g (is := []) rfl) (ix_i (is := []) ⟨by decide, rfl⟩) (ix_d (is := [0]) (js := []) ⟨by decide, rfl, rfl⟩) ⟨by decide, by decide⟩ ⟨by decide, by decide⟩ hl.1 rfl (Nat.le_of_ble_eq_true rfl) d_LW_law_19 (fun u1 H locs hK1 wo => ?_)
  have wo : Wo E (fun q : Nat => s.heap.size ≤ q) s.heap (wl E u1 n1 L_SF σ1) H locs := wo
  obtain ⟨-, hq1⟩ := hK1
  refine lv_astore_n (lv' := [(1, .ref qS), (0, .ref b)]) hx hb d_LW_law_22 rfl hl (by decide) rfl (fun ls hl => ?_)
  refine c_new (ci := 5) cx wo in_MD t_MD tok_MD wk_LW_73 wp_MD wn_MD rfl (fs := rawMD) (fun j hj => by rcases (show j = 0 ∨ j = 1 ∨ j = 2 ∨ j = 3 ∨ j = 4 ∨ j = 5 ∨ j = 6 ∨ j = 7 ∨ j = 8 ∨ j = 9 ∨ j = 10 ∨ j = 11 ∨ j = 12 ∨ j = 13 ∨ j = 14 ∨ j = 15 ∨ j = 16 ∨ j = 17 ∨ j = 18 ∨ j = 19 ∨ j = 20 ∨ j = 21 by omega) with rfl | rfl | rfl | rfl | rfl | rfl | rfl | rfl | rfl | rfl | rfl | rfl | rfl | rfl | rfl | rfl | rfl | rfl | rfl | rfl | rfl | rfl <;> rfl) (by decide) (by decide) d_LW_law_23 (fun qM H wo => ?_)
  refine lv_dup hx hb d_LW_law_26 rfl ?_
  refine lv_aload_n hx hb d_LW_law_27 rfl (lv_at hl 1 rfl) ?_
  refine lv_iconst (v := 0) hx hb d_LW_law_28 (by decide) ?_
  refine call_cell hL cx hX hbl (by decide) wo (by decide) hl.1 (Nat.le_of_ble_eq_true rfl) d_LW_law_29 (fun H locs wo => ?_)
  refine lv_aload_n hx hb d_LW_law_32 rfl (lv_at hl 1 rfl) ?_
  refine lv_iconst (v := 1) hx hb d_LW_law_33 (by decide) ?_
  refine call_cell hL cx hX hbl (by decide) wo (by decide) hl.1 (Nat.le_of_ble_eq_true rfl) d_LW_law_34 (fun H locs wo => ?_)
  refine lv_aload_n hx hb d_LW_law_37 rfl (lv_at hl 1 rfl) ?_
  refine lv_iconst (v := 2) hx hb d_LW_law_38 (by decide) ?_
  refine call_cell hL cx hX hbl (by decide) wo (by decide) hl.1 (Nat.le_of_ble_eq_true rfl) d_LW_law_39 (fun H locs wo => ?_)
  refine callN_I (wr := wl E u1 n1 L_SF σ1) cx wo (k_MD_init l E n0_ n0_ F σ0_ qM _ _ _ n2 σ2 hD2) mi_MD_init wm_LW_75 (fun k => ([17] : List Nat).getD k 0) (ix_g (is := [17]) rfl) (ix_i (is := [17]) ⟨by decide, rfl⟩) (fun k => ([0, 1, 2, 3, 4, 5, 6, 7, 8, 9, 10, 11, 12, 13, 14, 15, 16] : List Nat).getD k 0) (ix_g (is := [0, 1, 2, 3, 4, 5, 6, 7, 8, 9, 10, 11, 12, 13, 14, 15, 16]) rfl) (ix_i (is := [0, 1, 2, 3, 4, 5, 6, 7, 8, 9, 10, 11, 12, 13, 14, 15, 16]) ⟨by decide, rfl⟩) (ix_d (is := [17]) (js := [0, 1, 2, 3, 4, 5, 6, 7, 8, 9, 10, 11, 12, 13, 14, 15, 16]) ⟨by decide, rfl, rfl⟩) ⟨by decide, by decide⟩ ⟨by decide, by decide⟩ hl.1 rfl (Nat.le_of_ble_eq_true rfl) d_LW_law_42 (fun u2 H locs hK2 wo => ?_)
  obtain ⟨-, hq2⟩ := hK2
  refine lv_astore_n (lv' := [(2, .ref qM), (1, .ref qS), (0, .ref b)]) hx hb d_LW_law_45 rfl hl (by decide) rfl (fun ls hl => ?_)
  refine lv_iconst (v := 1) hx hb d_LW_law_46 (by decide) ?_
  refine c_newa cx wo (B := 1) .long .long rfl wa_long rfl 1 rfl (a0 := (((1 : Int32)).toNatClampNeg, .inr (.inl (fun _ => 0)))) (fun _ => rfl) (by decide) rfl (by decide) (by decide) (by decide) (by decide) (by decide) d_LW_law_47 (fun qO H wo => ?_)
  refine lv_astore_n (lv' := [(3, .ref qO), (2, .ref qM), (1, .ref qS), (0, .ref b)]) hx hb d_LW_law_49 rfl hl (by decide) rfl (fun ls hl => ?_)
  refine lv_iconst (v := 3) hx hb d_LW_law_50 (by decide) ?_
  refine lv_istore (lv' := [(4, .int 3), (3, .ref qO), (2, .ref qM), (1, .ref qS), (0, .ref b)]) hx hb d_LW_law_51 hl (by decide) rfl (fun ls hl => ?_)
  have e1 : wl E u1 n1 L_SF σ1 = wl E (mx u1 u2 (fun _ => qO)) (mxN n1 n2) L_SF (mxS σ1 σ2) := wl_mix (fun b => Nat.blt b 20) (by decide) (fun b h => mx_1 h) (fun b h => mx_1 (x := n1) (y := n2) h) (fun b h => mx_1 (x := σ1.1) (y := σ2.1) (z := fun _ _ => 0) h) (fun b h => mx_1 (x := σ1.2) (y := σ2.2) (z := fun _ _ => 0) h)
  have e2 : wl E u2 n2 L_MD σ2 = wl E (mx u1 u2 (fun _ => qO)) (mxN n1 n2) L_MD (mxS σ1 σ2) := wl_mix (fun b => !(Nat.blt b 20) && Nat.blt b 30) (by decide) (fun b h => mx_2 h) (fun b h => mx_2 (x := n1) (y := n2) h) (fun b h => mx_2 (x := σ1.1) (y := σ2.1) (z := fun _ _ => 0) h) (fun b h => mx_2 (x := σ1.2) (y := σ2.2) (z := fun _ _ => 0) h)
  have e3 : [(qO, (Sum.inl (E.2 1, (((1 : Int32)).toNatClampNeg, .inr (.inl (fun _ => 0)))) : va_E))] = wl E (mx u1 u2 (fun _ => qO)) (mxN n1 n2) [30] (mxS σ1 σ2) := rfl
  have wo : Wo E (fun q : Nat => s.heap.size ≤ q) s.heap (wl E (mx u1 u2 (fun _ => qO)) (mxN n1 n2) (L_SF ++ L_MD ++ [30]) (mxS σ1 σ2)) H locs := by
    rw [e1, e2, e3] at wo
    unfold wl at wo ⊢
    rw [List.map_append, List.map_append]
    exact wo
  subst hQ
  have hl2 := lv_sub hl [4, 3, 2, 1, 0] rfl
  rw [← hq1, ← hq2] at hl2
  exact law_lp l hfl (ad := mx u1 u2 (fun _ => qO)) (L := L_SF ++ L_MD ++ [30]) (by decide) cx kt sx hX hbl F 513 (mxS σ1 σ2) 3 H locs ls _ _ hD3 (by decide) (by decide) wo hl2
