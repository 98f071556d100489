section CU
variable {p : Program} {l : Launch} {e : Env} {R : Room} {s : State} {m : MethodId} {args : Array Value} {below : List Frame} {meth : Method} {c : Code} {T : State} {locs : List Loc} {cells slots : Nat}
/-- a call of a method with handlers, behind the invoking instruction's own step -/
theorem call_TW {hd : List (Nat × Nat × Nat × Nat)} {y : MethodName} {bytes : ByteArray} {maxL : Nat} {ret1 : Option FieldType} {rm : Room} {Pc : Array Value → State → Prop} {Qc : Array Value → State → Outcome → State → Prop} {free : Addr → Prop}
    (hM : MetT l y (.codeWith y bytes maxL ret1 hd :: ltb) rm Pc Qc rm.cells rm.slots free) (X : Stand p l e R s m args below meth c T locs cells slots) (hts : ∀ w ∈ ltb, w.before args s = true) (ho : Cond.codeWith y bytes maxL ret1 hd ∈ ltb) (hn : Cond.initialized y.cls ∈ ltb) (hb : FrameBlind Pc)
    {g : JFrame} (hg : g.method = m) (hsize : g.locals.size = c.maxLocals) {ig : Instr} (hdg : decode c.code g.pc = .ok (ig, 3)) (hW : 2 * g.monitorRoom + (g.stack.map fun v => v.category).sum ≤ 8) (hR : rm.frames + 1 ≤ R.frames ∧ 8 + (maxL + 11) + rm.locals ≤ R.locals) (hrm : cells + rm.cells ≤ R.cells ∧ slots + rm.slots ≤ R.slots) {mk : MethodId} (hmk : T.methodNamed? y = some mk) {a : Array Value} (hP : Pc a T) :
    ∃ (o : Outcome) (st t T' : State) (L : List Loc), st.heap = T.heap ∧ st.vm = T.vm ∧ T'.heap = t.heap ∧ T'.vm = t.vm ∧ Stand p l e R s m args below meth c T' (locs ++ L) (cells + rm.cells) (slots + rm.slots) ∧ (∀ q ∈ L, free q.base) ∧ Qc a st o t ∧
      (∀ v, o = .returned v → Steps p.tables e below (doInvoke e (T.setTop g) [] mk a).1 (T'.setTop { g with pc := g.pc + 3, stack := v.toList ++ g.stack })) ∧ (∀ x, o = .threw x → Steps p.tables e below (doInvoke e (T.setTop g) [] mk a).1 ((T'.setTop g).pushFrame (.throwing x))) := by
  have hall := pay_in hts (good_c ho)
  have h1 : (headSpec (.codeWith y bytes maxL ret1 hd :: ltb) rm).pre.before a T = true := atoms_intro fun w hw => hall w hw _ _ X.warmed
  have h2 : (Cond.codeWith y bytes maxL ret1 hd).before a T = true := hall _ List.mem_cons_self _ _ X.warmed
  have h3 : (Cond.initialized y.cls).before a T = true := hall _ (List.mem_cons_of_mem _ hn) _ _ X.warmed
  obtain ⟨mY, methY, cY, hmY0, hmY, hcY, -, hlY, -, -, -, -⟩ := Cond.codeWith_spec h2
  cases hmk.symm.trans hmY0
  obtain ⟨kY, hkY, -⟩ := className_of_methodNamed hmk
  have hinitY : kY.init = .initialized := Cond.initialized_spec (findClass_of_methodNamed hmk) hkY h3
  have h : At T g.method c below := by rw [hg]; exact X.here
  have happ : (headSpec (.codeWith y bytes maxL ret1 hd :: ltb) rm).appliesLoose y e.platform (T.calling g mk a) = true :=
    Spec.appliesLoose_calling (g := g) h hdg hmk hkY hinitY
      (X.room_calling (g := g) (R' := rm) hsize hmY hcY hR.1 (by rw [hlY]; omega) hrm.1 hrm.2) h1
  obtain ⟨mid, hmid⟩ := h.above
  have hfr : (T.setTop g).frames = (.java g :: mid) ++ below := by rw [State.frames_setTop' g h.top, hmid]; rfl
  obtain ⟨o, s₂, hsteps, -, hend, hq⟩ := Steps.callFree hM p X.admits X.cas X.clock (acts := []) hfr happ (hb _ _ g mk hP) trivial
  have hq' : Qc a (T.calling g mk a) o s₂ := hq.1
  rw [State.frames_setTop' g h.top] at hend
  obtain ⟨L, ⟨hW₂, e2, q2, q3, q4, q5, q6⟩, hL⟩ := hq.2
  have e3 : s₂ = ({ (T.calling g mk a).setFrames s₂.frames with heap := s₂.heap, slotsUsed := s₂.slotsUsed } : State).setVm s₂.vm := by
    have : s₂ = ({ s₂ with vm := (T.calling g mk a).vm } : State).setVm s₂.vm := rfl
    have e2' : ({ s₂ with vm := (T.calling g mk a).vm } : State) = _ := e2
    rw [e2'] at this
    exact this
  have hW' : T.WarmedH s₂.vm := hW₂
  obtain ⟨g₀, hg0⟩ := Option.isSome_iff_exists.mp h.top
  obtain ⟨r, hr⟩ := State.topJava?_eq_some.mp hg0
  have hsame : T.sameButNew ({ T with heap := s₂.heap, slotsUsed := s₂.slotsUsed } : State) L rm.cells rm.slots := by
    refine ⟨?_, q2, q3, q4, q5, q6⟩
    obtain ⟨t, ht, -⟩ := State.frames_cons hr
    show ({ T with heap := s₂.heap, slotsUsed := s₂.slotsUsed } : State) = { T.setFrames T.frames with heap := s₂.heap, slotsUsed := s₂.slotsUsed }
    rw [State.setFrames_self ht]
  have hr' : (({ T with heap := s₂.heap, slotsUsed := s₂.slotsUsed } : State).setVm s₂.vm).frames = .java g₀ :: r := hr
  refine ⟨o, T.calling g mk a, s₂, (({ T with heap := s₂.heap, slotsUsed := s₂.slotsUsed } : State).setVm s₂.vm), L, rfl, rfl, rfl, rfl,
    ⟨X.admits, X.cas, X.clock, X.frames, X.room, X.hears, X.method, X.code, (X.here.setHeapUsed s₂.heap s₂.slotsUsed).setVm hW'.alike, X.tail, State.WarmedH.trans X.warmed hW', X.limits, X.bytes, X.same.trans (hsame.setVm s.vm)⟩, hL, hq', ?_, ?_⟩
  · intro v hv
    subst hv
    obtain ⟨c₂, i₂, len₂, hc₂, hd₂, hf₂⟩ := hend
    have hcc : c₂ = c := by
      have h1 : s₂.code? g.method = T.code? g.method := by
        rw [State.code?_eq, State.code?_eq, hW'.alike.method?]
      exact Option.some.inj (hc₂.symm.trans (h1.trans h.code))
    subst hcc
    have hlen : len₂ = 3 := by rw [hdg] at hd₂; cases hd₂; rfl
    subst hlen
    have hs₂ : s₂ = (({ T with heap := s₂.heap, slotsUsed := s₂.slotsUsed } : State).setVm s₂.vm).setTop { g with pc := g.pc + 3, stack := v.toList ++ g.stack } := by
      refine e3.trans ?_
      rw [hf₂, State.calling_eq h.top, State.setFrames_setFrames, State.setTop_of_frames _ hr', hr]
      rfl
    rw [← hs₂]
    exact hsteps
  · intro x hv
    subst hv
    have hf₂ : s₂.frames = .throwing x :: .java g :: T.frames.tail := hend
    have hs₂ : s₂ = ((({ T with heap := s₂.heap, slotsUsed := s₂.slotsUsed } : State).setVm s₂.vm).setTop g).pushFrame (.throwing x) := by
      refine e3.trans ?_
      rw [hf₂, State.calling_eq h.top, State.setFrames_setFrames, State.pushFrame, State.frames_setTop _ hr', State.setTop_of_frames _ hr', State.setFrames_setFrames, hr]
      rfl
    rw [← hs₂]
    exact hsteps
end CU
theorem Met_T {l : Launch} {y : MethodName} {ws : List Cond} {rm : Room} {Pc : Array Value → State → Prop} {Qc : Array Value → State → Outcome → State → Prop} {mc ms : Nat} {free : Addr → Prop} (h : Met l y ws rm Pc Qc mc ms free) : MetT l y ws rm Pc Qc mc ms free := by
  intro p e ha hc hk s m args below hf happ hP hK
  obtain ⟨n, o, h1, h2, h3, h4, L, h5, h6⟩ := h p e ha hc hk s m args below hf happ hP hK
  exact ⟨n, o, h1, h2, h3, h4, L, h5.2, h6⟩
def MwW (y : MethodName) (bytes : ByteArray) (maxL : Nat) (ret1 : Option FieldType) (hd : List (Nat × Nat × Nat × Nat)) (k : Nat) : Prop := Cond.static y ∈ ltb ∧ Cond.initialized y.cls ∈ ltb ∧ Cond.codeWith y bytes maxL ret1 hd ∈ ltb ∧ (y.cls ≠ "java/lang/invoke/MethodHandle" ∧ y.cls ≠ "java/lang/invoke/VarHandle" ∧ (parseMethodDescriptor y.desc).map (fun d => d.parameters.length) = some k)
section WW
variable {p : Program} {l : Launch} {e : Env} {R : Room} {s : State} {m : MethodId} {args : Array Value} {below : List Frame} {meth : Method} {c : Code} {H : Heap} {locs : List Loc} {cells slots : Nat} {Q : State → Prop}
variable {E : EV} {ad n : Nat → Nat} {L : List Nat} {σ σ1 : HS} {A : Nat → Prop} {cc : ByteArray} {own : String} {ret : Option FieldType} {nL pc : Nat} {ls : Array Slot} {rest : List Value}
variable {y : MethodName} {bytes : ByteArray} {maxL index : Nat} {ret1 : Option FieldType} {hd : List (Nat × Nat × Nat × Nat)} {rm : Room} {As st0 : List Value} {r : Int32}
theorem call_Wi (cx : Cx E p s m args meth c cc own ret nL) (kt : Kt s) (sx : Sx A s s.heap) (wo : Wo E A s.heap (wl E ad n L σ) H locs) (ct : CtW l E y bytes maxL ret1 hd rm As (wl E ad n L σ) r (wl E ad n L σ1)) (mw : MwW y bytes maxL ret1 hd As.length) (hl : Cond.methodLink own index y ∈ ltb)
    (hR : rm.frames + 1 ≤ R.frames ∧ 8 + (maxL + 11) + rm.locals ≤ R.locals) (hrm : cells + rm.cells ≤ R.cells ∧ slots + rm.slots ≤ R.slots) (hsz : ls.size = nL) (hst : st0 = As.reverse ++ rest) (hW : (rest.map fun v => v.category).sum ≤ 8) (hdg : decode cc pc = .ok (.invokestatic index, 3))
    (kk : ∀ (H1 : Heap) (locs1 : List Loc), Wo E A s.heap (wl E ad n L σ1) H1 locs1 → W p l e R s m args below meth c H1 locs1 (cells + rm.cells) (slots + rm.slots) Q (F0 m (pc + 3) ls (.int r :: rest))) : W p l e R s m args below meth c H locs cells slots Q (F0 m pc ls st0) := by
  intro T hT X
  have hts := cx.1.2.2.2.2
  have hcode := hts _ mw.2.2.1
  obtain ⟨mk, methM, cM, hnamed, hmethM, -, -, -, -, -, -, hsigM⟩ := Cond.codeWith_spec hcode
  have hstatic : methM.isStatic = true := Cond.static_spec hnamed hmethM (hts _ mw.1)
  obtain ⟨kP, hkP, -⟩ := className_of_methodNamed hnamed
  have hinitP : kP.init = .initialized := Cond.initialized_spec (findClass_of_methodNamed hnamed) hkP (hts _ mw.2.1)
  have hy := mw.2.2.2
  have hlen : As.length = methM.sig.parameters.length := by
    have h2 := hy.2.2
    rw [hsigM] at h2
    exact (Option.some.inj h2).symm
  obtain ⟨vm₁, X₁, hstep₁⟩ := X.invokestatic cx.1.1 cx.1.2.2.2.1 (hts _ hl) hnamed hmethM hstatic hkP hinitP ⟨hy.1, hy.2.1⟩ (g := F0 m pc ls st0) rfl (argsL := As) (rest := rest) hlen hst (by rw [cx.1.2.1]; exact hdg)
  have hpre : va_Pc As (preT E (wl E ad n L σ) H.size) As.toArray (T.setVm vm₁) := ⟨rfl, ⟨by rw [← hT]; rfl, by rw [← hT] at wo; exact wo.1, cx.2.2.2.warm X₁.warmed, wo.DT⟩, kt.warm X₁.warmed, wo_Sx wo sx hT X₁.warmed⟩
  obtain ⟨o, st, t, T', L', hs1, hs2, ht1, ht2, X', hL', hQ, k1, k2⟩ := call_TW (Met_T (ct H.size)) X₁ hts mw.2.2.1 mw.2.1 (preT_blind E _ _ _) (g := F0 m pc ls rest) rfl (hsz.trans cx.1.2.2.1.symm) (by rw [cx.1.2.1]; exact hdg) (lv_room hW) hR hrm (X₁.named hnamed) hpre
  obtain ⟨⟨r1, u, ho, hr1, hP1, hD1⟩, hF1, hF2⟩ := hQ
  subst hr1
  have hst1 : st.heap = H := hs1.trans hT
  have wo' : Wo E A s.heap (wl E ad n L σ1) T'.heap (locs ++ L') := by
    refine ⟨by rw [ht1]; exact hP1, hD1.weaken (fun _ _ _ h => wo.free _ h), ⟨?_, ?_, ?_⟩, wo.2.2.2⟩
    · rw [ht1]; rw [hst1] at hF1; exact Nat.le_trans wo.2.2.1.1 hF1
    · intro z z1 z2
      rw [ht1, hF2 z (by rw [hst1]; exact Nat.lt_of_lt_of_le z1 wo.2.2.1.1) (fun h => z2 (wo.free z (by rw [hst1] at *; exact h))), hst1]
      exact wo.2.2.1.2.1 z z1 z2
    · intro z hz
      rcases List.mem_append.mp hz with h | h
      · exact wo.2.2.1.2.2 z h
      · exact wo.free _ (hL' z h)
  obtain ⟨t2, a1, b1⟩ := kk T'.heap _ wo' T' rfl X'
  exact ⟨t2, hstep₁ _ fun acts => by rw [doInvoke_state]; exact (k1 _ ho).trans a1, b1⟩
end WW
theorem wq_LW_feed : Cond.codeWith ⟨"StripeFieldLaw", "feed", "(LStripeField;IJ[J)I"⟩ method_3_code 6 (some FieldType.int) [(0, 11, 14, 13), (0, 11, 18, 15)] ∈ ltb := ltb_of 318 (by decide +kernel) (by decide +kernel)
theorem mv_LW_feed : MwW y_LW_feed c_LW_feed 6 (some FieldType.int) [(0, 11, 14, 13), (0, 11, 18, 15)] 4 := ⟨ws_LW_feed, wn_LW, wq_LW_feed, by decide +kernel⟩
theorem wq_LW_write : Cond.codeWith ⟨"StripeFieldLaw", "write", "(LStripeField;I[J)I"⟩ method_4_code 4 (some FieldType.int) [(0, 16, 19, 13), (0, 16, 22, 15)] ∈ ltb := ltb_of 414 (by decide +kernel) (by decide +kernel)
theorem mv_LW_write : MwW y_LW_write c_LW_write 4 (some FieldType.int) [(0, 16, 19, 13), (0, 16, 22, 15)] 3 := ⟨ws_LW_write, wn_LW, wq_LW_write, by decide +kernel⟩
theorem wq_LW_read : Cond.codeWith ⟨"StripeFieldLaw", "read", "(LStripeField;II[J)I"⟩ method_5_code 5 (some FieldType.int) [(0, 9, 12, 13), (0, 9, 16, 15)] ∈ ltb := ltb_of 496 (by decide +kernel) (by decide +kernel)
theorem mv_LW_read : MwW y_LW_read c_LW_read 5 (some FieldType.int) [(0, 9, 12, 13), (0, 9, 16, 15)] 4 := ⟨ws_LW_read, wn_LW, wq_LW_read, by decide +kernel⟩
theorem wq_LW_lose : Cond.codeWith ⟨"StripeFieldLaw", "lose", "(LStripeField;I)I"⟩ method_6_code 3 (some FieldType.int) [(0, 5, 8, 13)] ∈ ltb := ltb_of 504 (by decide +kernel) (by decide +kernel)
theorem mv_LW_lose : MwW y_LW_lose c_LW_lose 3 (some FieldType.int) [(0, 5, 8, 13)] 2 := ⟨ws_LW_lose, wn_LW, wq_LW_lose, by decide +kernel⟩
theorem wq_LW_off : Cond.codeWith ⟨"StripeFieldLaw", "off", "(LStripeField;)I"⟩ method_7_code 2 (some FieldType.int) [(0, 4, 7, 15)] ∈ ltb := ltb_of 512 (by decide +kernel) (by decide +kernel)
theorem mv_LW_off : MwW y_LW_off c_LW_off 2 (some FieldType.int) [(0, 4, 7, 15)] 1 := ⟨ws_LW_off, wn_LW, wq_LW_off, by decide +kernel⟩
theorem wq_LW_open : Cond.codeWith ⟨"StripeFieldLaw", "open", "(LStripeField;[J)I"⟩ method_8_code 3 (some FieldType.int) [(0, 15, 18, 15)] ∈ ltb := ltb_of 520 (by decide +kernel) (by decide +kernel)
theorem mv_LW_open : MwW y_LW_open c_LW_open 3 (some FieldType.int) [(0, 15, 18, 15)] 2 := ⟨ws_LW_open, wn_LW, wq_LW_open, by decide +kernel⟩
theorem wq_LW_fail : Cond.codeWith ⟨"StripeFieldLaw", "fail", "(LStripeField;I[J)I"⟩ method_9_code 4 (some FieldType.int) [(0, 16, 19, 13)] ∈ ltb := ltb_of 547 (by decide +kernel) (by decide +kernel)
theorem mv_LW_fail : MwW y_LW_fail c_LW_fail 4 (some FieldType.int) [(0, 16, 19, 13)] 3 := ⟨ws_LW_fail, wn_LW, wq_LW_fail, by decide +kernel⟩
theorem wq_LW_replace : Cond.codeWith ⟨"StripeFieldLaw", "replace", "(LStripeField;I[J)I"⟩ method_10_code 4 (some FieldType.int) [(0, 16, 19, 13)] ∈ ltb := ltb_of 573 (by decide +kernel) (by decide +kernel)
theorem mv_LW_replace : MwW y_LW_replace c_LW_replace 4 (some FieldType.int) [(0, 16, 19, 13)] 3 := ⟨ws_LW_replace, wn_LW, wq_LW_replace, by decide +kernel⟩
theorem wq_LW_spoil : Cond.codeWith ⟨"StripeFieldLaw", "spoil", "(LStripeField;IIIIJ[J)I"⟩ method_11_code 9 (some FieldType.int) [(0, 23, 26, 13)] ∈ ltb := ltb_of 580 (by decide +kernel) (by decide +kernel)
theorem mv_LW_spoil : MwW y_LW_spoil c_LW_spoil 9 (some FieldType.int) [(0, 23, 26, 13)] 7 := ⟨ws_LW_spoil, wn_LW, wq_LW_spoil, by decide +kernel⟩
theorem wq_LW_rebuild : Cond.codeWith ⟨"StripeFieldLaw", "rebuild", "(LStripeField;[J)I"⟩ method_12_code 3 (some FieldType.int) [(0, 8, 11, 15)] ∈ ltb := ltb_of 619 (by decide +kernel) (by decide +kernel)
theorem mv_LW_rebuild : MwW y_LW_rebuild c_LW_rebuild 3 (some FieldType.int) [(0, 8, 11, 15)] 2 := ⟨ws_LW_rebuild, wn_LW, wq_LW_rebuild, by decide +kernel⟩
theorem wq_LW_copyBack : Cond.codeWith ⟨"StripeFieldLaw", "copyBack", "(LStripeField;[J)I"⟩ method_13_code 3 (some FieldType.int) [(0, 8, 11, 15)] ∈ ltb := ltb_of 647 (by decide +kernel) (by decide +kernel)
theorem mv_LW_copyBack : MwW y_LW_copyBack c_LW_copyBack 3 (some FieldType.int) [(0, 8, 11, 15)] 2 := ⟨ws_LW_copyBack, wn_LW, wq_LW_copyBack, by decide +kernel⟩
theorem wq_LW_scrub : Cond.codeWith ⟨"StripeFieldLaw", "scrub", "(LStripeField;[J)I"⟩ method_14_code 3 (some FieldType.int) [(0, 8, 11, 15)] ∈ ltb := ltb_of 658 (by decide +kernel) (by decide +kernel)
theorem mv_LW_scrub : MwW y_LW_scrub c_LW_scrub 3 (some FieldType.int) [(0, 8, 11, 15)] 2 := ⟨ws_LW_scrub, wn_LW, wq_LW_scrub, by decide +kernel⟩
theorem wq_LW_look : Cond.codeWith ⟨"StripeFieldLaw", "look", "(LStripeField;I[J)I"⟩ method_15_code 4 (some FieldType.int) [(0, 9, 12, 13)] ∈ ltb := ltb_of 673 (by decide +kernel) (by decide +kernel)
theorem mv_LW_look : MwW y_LW_look c_LW_look 4 (some FieldType.int) [(0, 9, 12, 13)] 3 := ⟨ws_LW_look, wn_LW, wq_LW_look, by decide +kernel⟩
theorem wq_LW_place : Cond.codeWith ⟨"StripeFieldLaw", "place", "(LStripeField;II[J)I"⟩ method_16_code 5 (some FieldType.int) [(0, 10, 13, 13)] ∈ ltb := ltb_of 701 (by decide +kernel) (by decide +kernel)
theorem mv_LW_place : MwW y_LW_place c_LW_place 5 (some FieldType.int) [(0, 10, 13, 13)] 4 := ⟨ws_LW_place, wn_LW, wq_LW_place, by decide +kernel⟩
