theorem env_arr {s : State} {args : Array Value} {ty : FieldType} (hp : refKind ty = false) (h : (Cond.arrayClass ty).before args s = true) : ∃ cA : ClassId, ArrOfT s cA ty ∧ va_RA s cA ty := by
  obtain ⟨c, k, comp, h1, h2, h3⟩ := Cond.arrayClass_spec h
  refine ⟨c, fun n z => ⟨fun k h => (by cases h), k, h2, comp, h3⟩, ?_⟩
  cases ty with
  | object C => cases hp
  | _ => exact h1
theorem env_str {s : State} {args : Array Value} {k : Nat} {tx : String} (h1 : (Cond.stringRef "StripeField" k tx).before args s = true) (h2 : (Cond.exactly (.string "StripeField" k) "java/lang/String").before args s = true) : ∃ a, vk_R "StripeField" k tx a s := by
  obtain ⟨a, c, cell, k1, e, -⟩ := Cond.exactly_spec h2
  exact ⟨a, vk_R.of h1 e⟩
theorem wr_58 : Cond.stringRef "StripeField" 58 "n is not 1 .. 8" ∈ lw_tbl := List.mem_of_getElem? (i := 365) (by decide +kernel)
theorem wr_69 : Cond.stringRef "StripeField" 69 "the tape would have more than 64 bytes" ∈ lw_tbl := List.mem_of_getElem? (i := 401) (by decide +kernel)
theorem wr_79 : Cond.stringRef "StripeField" 79 "there is no such block" ∈ lw_tbl := List.mem_of_getElem? (i := 419) (by decide +kernel)
theorem wr_85 : Cond.stringRef "StripeField" 85 "it is off" ∈ lw_tbl := List.mem_of_getElem? (i := 420) (by decide +kernel)
theorem wr_101 : Cond.stringRef "StripeField" 101 "k is not 0 .. 7" ∈ lw_tbl := List.mem_of_getElem? (i := 501) (by decide +kernel)
theorem wr_113 : Cond.stringRef "StripeField" 113 "n is below 0" ∈ lw_tbl := List.mem_of_getElem? (i := 509) (by decide +kernel)
theorem wr_121 : Cond.stringRef "StripeField" 121 "it is on" ∈ lw_tbl := List.mem_of_getElem? (i := 525) (by decide +kernel)
theorem wr_139 : Cond.stringRef "StripeField" 139 "there is no such disk" ∈ lw_tbl := List.mem_of_getElem? (i := 552) (by decide +kernel)
theorem wr_162 : Cond.stringRef "StripeField" 162 "offset is not 0 .. ROWS - 1" ∈ lw_tbl := List.mem_of_getElem? (i := 585) (by decide +kernel)
theorem wr_164 : Cond.stringRef "StripeField" 164 "at is not 0 .. 70 - n" ∈ lw_tbl := List.mem_of_getElem? (i := 586) (by decide +kernel)
theorem wr_170 : Cond.stringRef "StripeField" 170 "the bytes of mask are all 0" ∈ lw_tbl := List.mem_of_getElem? (i := 590) (by decide +kernel)
theorem wr_244 : Cond.stringRef "StripeField" 244 "what is not 0 .. 12" ∈ lw_tbl := List.mem_of_getElem? (i := 698) (by decide +kernel)
theorem wr_246 : Cond.stringRef "StripeField" 246 "there is no such row" ∈ lw_tbl := List.mem_of_getElem? (i := 706) (by decide +kernel)
theorem wr_251 : Cond.stringRef "StripeField" 251 "the position is none of a stripe" ∈ lw_tbl := List.mem_of_getElem? (i := 707) (by decide +kernel)
theorem wd_329 : Cond.declares ⟨"java/lang/RuntimeException", "<init>", "(Ljava/lang/String;)V"⟩ ∈ lw_tbl := List.mem_of_getElem? (i := 329) (by decide +kernel)
theorem wd_331 : Cond.declares ⟨"java/lang/Exception", "<init>", "(Ljava/lang/String;)V"⟩ ∈ lw_tbl := List.mem_of_getElem? (i := 331) (by decide +kernel)
theorem wd_333 : Cond.declares ⟨"java/lang/Throwable", "<init>", "(Ljava/lang/String;)V"⟩ ∈ lw_tbl := List.mem_of_getElem? (i := 333) (by decide +kernel)
theorem wd_327 : Cond.castable IAE IAE ∈ lw_tbl := List.mem_of_getElem? (i := 327) (by decide +kernel)
theorem wd_394 : Cond.castable ISE ISE ∈ lw_tbl := List.mem_of_getElem? (i := 394) (by decide +kernel)
theorem wd_352 : Cond.laysStatic thrT "UNASSIGNED_STACK" steT ∈ lw_tbl := List.mem_of_getElem? (i := 352) (by decide +kernel)
theorem wd_354 : Cond.laysStatic thrT "SUPPRESSED_SENTINEL" lstT ∈ lw_tbl := List.mem_of_getElem? (i := 354) (by decide +kernel)
theorem env_Kt {s : State} {args : Array Value} (hts : ∀ w ∈ lw_tbl, w.before args s = true) (hgv : (Jvm.Cond.and given_1 narrow_1).before args s = true) : Kt s := by
  have hs := flat_of_before _ hgv
  refine ⟨va_Nw.of rfl (hts _ wd_329), va_Nw.of rfl (hts _ wd_331), va_Nw.of rfl (hts _ wd_333), va_Nw.of rfl (hts _ wd_327), va_Nw.of rfl (hts _ wd_394), va_Nc.of (hs _ (by decide +kernel)), ?_⟩
  intro q hq
  simp only [xstr, List.mem_cons, List.not_mem_nil, or_false] at hq
  rcases hq with rfl | rfl | rfl | rfl | rfl | rfl | rfl | rfl | rfl | rfl | rfl | rfl | rfl | rfl
  · exact env_str (hts _ wr_58) (hs _ (by decide +kernel))
  · exact env_str (hts _ wr_69) (hs _ (by decide +kernel))
  · exact env_str (hts _ wr_79) (hs _ (by decide +kernel))
  · exact env_str (hts _ wr_85) (hs _ (by decide +kernel))
  · exact env_str (hts _ wr_101) (hs _ (by decide +kernel))
  · exact env_str (hts _ wr_113) (hs _ (by decide +kernel))
  · exact env_str (hts _ wr_121) (hs _ (by decide +kernel))
  · exact env_str (hts _ wr_139) (hs _ (by decide +kernel))
  · exact env_str (hts _ wr_162) (hs _ (by decide +kernel))
  · exact env_str (hts _ wr_164) (hs _ (by decide +kernel))
  · exact env_str (hts _ wr_170) (hs _ (by decide +kernel))
  · exact env_str (hts _ wr_244) (hs _ (by decide +kernel))
  · exact env_str (hts _ wr_246) (hs _ (by decide +kernel))
  · exact env_str (hts _ wr_251) (hs _ (by decide +kernel))
theorem env_Sx {s : State} {args : Array Value} (hts : ∀ w ∈ lw_tbl, w.before args s = true) (hgv : (Jvm.Cond.and given_1 narrow_1).before args s = true) : Sx (fun q : Nat => s.heap.size ≤ q) s s.heap := by
  have hs := flat_of_before _ hgv
  have hA : ∀ a : Nat, a < s.heap.size → ¬ (fun q : Nat => s.heap.size ≤ q) a := fun a h => Nat.not_le.mpr h
  have hi : (Cond.initialized thrT).before args s = true := hts _ (List.mem_filter.mp wn_TH).1
  exact ⟨⟨va_Zqof (hts _ wd_352) hi (hs _ (by decide +kernel)) hA, va_Zqof (hts _ wd_354) hi (hs _ (by decide +kernel)) hA⟩, Lx.of (hts _ wd_352) hA, Lx.of (hts _ wd_354) hA⟩
theorem law_env {p : Program} {s : State} {m : MethodId} {meth : Method} {c : Code} {b L : Nat} {xs : Nat → Int32} (C0 : lw_At p s m meth c b L xs) : ∃ E : EV, Cx E p s m #[Value.ref b] meth c code "StripeFieldLaw" ret 8 ∧ Kt s ∧ Sx (fun q : Nat => s.heap.size ≤ q) s s.heap := by
  obtain ⟨hx, hb, hr, hml, hown, hts0, hX, hbl, hlocks, hgv⟩ := C0
  have hts : ∀ w ∈ ltb, w.before #[Value.ref b] s = true := fun w h => hts0 w (List.mem_filter.mp h).1
  obtain ⟨c0, i0, k0⟩ := u_known (C := R_LA) (T := T_LA) (N := 10) (n := 10) hts in_LA (hts _ wp_LA)
  obtain ⟨c1, i1, k1⟩ := u_known (C := R_PL) (T := T_PL) (N := 4) (n := 4) hts in_PL (hts _ wp_PL)
  obtain ⟨c2, i2, k2⟩ := u_known (C := R_PW) (T := T_PW) (N := 3) (n := 3) hts in_PW (hts _ wp_PW)
  obtain ⟨c3, i3, k3⟩ := u_known (C := R_RK) (T := T_RK) (N := 6) (n := 6) hts in_RK (hts _ wp_RK)
  obtain ⟨c4, i4, k4⟩ := u_known (C := R_SF) (T := T_SF) (N := 11) (n := 11) hts in_SF (hts _ wp_SF)
  obtain ⟨c5, i5, k5⟩ := u_known (C := R_MD) (T := T_MD) (N := 22) (n := 22) hts in_MD (hts _ wp_MD)
  obtain ⟨a0, x0, y0⟩ := env_arr (ty := .int) rfl (hts _ wa_int)
  obtain ⟨a1, x1, y1⟩ := env_arr (ty := .long) rfl (hts _ wa_long)
  obtain ⟨a2, x2, y2⟩ := env_arr (ty := .boolean) rfl (hts _ wa_boolean)
  obtain ⟨a3, x3, y3⟩ := env_arr (ty := .byte) rfl (hts _ wa_byte)
  refine ⟨((fun k => match k with | 0 => c0 | 1 => c1 | 2 => c2 | 3 => c3 | 4 => c4 | _ => c5, fun k => match k with | 0 => i0 | 1 => i1 | 2 => i2 | 3 => i3 | 4 => i4 | _ => i5), fun k => match k with | 0 => a0 | 1 => a1 | 2 => a2 | _ => a3), ⟨⟨hx, hb, hml, hown, hts⟩, hr, hlocks, ⟨?_, ?_⟩, va_Nw.of rfl (hts0 _ wx_SF_38), va_Nw.of rfl (hts0 _ wx_RK_82)⟩, env_Kt hts0 hgv, env_Sx hts0 hgv⟩
  · intro k q hq
    match k, hq with
    | 0, hq => cases hq; exact k0
    | 1, hq => cases hq; exact k1
    | 2, hq => cases hq; exact k2
    | 3, hq => cases hq; exact k3
    | 4, hq => cases hq; exact k4
    | 5, hq => cases hq; exact k5
    | k + 6, hq => simp [cls6] at hq
  · intro k q hq
    match k, hq with
    | 0, hq => cases hq; exact ⟨x0, y0⟩
    | 1, hq => cases hq; exact ⟨x1, y1⟩
    | 2, hq => cases hq; exact ⟨x2, y2⟩
    | 3, hq => cases hq; exact ⟨x3, y3⟩
    | k + 4, hq => simp at hq
