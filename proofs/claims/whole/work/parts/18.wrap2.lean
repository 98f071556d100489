section CT
variable {p : Program} {l : Launch} {e : Env} {R : Room} {s : State} {m : MethodId} {args : Array Value} {below : List Frame} {meth : Method} {c : Code} {T : State} {locs : List Loc} {cells slots : Nat}
theorem note_of (X : Stand p l e R s m args below meth c T locs cells slots) {own name : String} {idx : Nat} (hown : s.vm.findClass own = some m.cls) (hlink : (Cond.classLink own idx name).before args s = true) {cT : ClassId} (hcT : s.vm.findClass name = some cT) :
    T.vm.ClassLinks e.platform m.cls idx cT ∧ s.WarmedH (T.vm.noted m.cls idx (.cls cT)) ∧ ∃ k, T.vm.classes[cT]? = some k := by
  have hpl : e.platform.magicAccessors = ({} : Platform).magicAccessors := by rw [X.admits.platform]
  obtain ⟨c', hc', hcl⟩ := Cond.classLink_spec hown hlink e.platform hpl
  cases hcT.symm.trans hc'
  obtain ⟨dk, _, _, kt, hd, _, _, _, _, hkt, _, hopen⟩ := hcl.here
  obtain ⟨kt', hkt', -⟩ := X.warmed.alike.2.2 _ _ hkt
  exact ⟨X.warmed.classLinks hcl, X.warmed.noted hd hopen (State.rightAt_cls hcl), kt', hkt'⟩
theorem catch_1 (X : Stand p l e R s m args below meth c T locs cells slots) (a : Addr) {g : JFrame} (hg : g.method = m) {own name : String} (hown : s.vm.findClass own = some m.cls)
    {x : ExceptionTableEntry} {rest : List ExceptionTableEntry} (hsplit : c.exceptionTable.toList = x :: rest) (hx : covers x g.pc = true) (h0 : x.catchType ≠ 0) (hlink : (Cond.classLink own x.catchType name).before args s = true)
    {cell : Cell} (hcell : T.heap[a]? = some cell) (hobj : cell.vm.isStatics = false) (hcT : s.vm.findClass name = some cell.cls) (hfit : s.vm.assignable cell.cls cell.cls = true) :
    ∃ vm', Stand p l e R s m args below meth c (T.setVm vm') locs cells slots ∧
      ∀ target, Steps p.tables e below ((T.setVm vm').setTop { g with pc := x.handlerPc, stack := [.ref a] }) target → Steps p.tables e below ((T.setTop g).pushFrame (.throwing a)) target := by
  obtain ⟨hl, hW', hk⟩ := note_of X hown hlink hcT
  have hal := X.warmed.alike
  have hfit' : T.vm.assignable cell.cls cell.cls = true := by rw [hal.assignable]; exact hfit
  refine ⟨_, X.noted hW', fun target hrest => ?_⟩
  subst hg
  refine st_caught X.here ?_ hrest
  intro Q Ec d acts
  rw [W.findHandler_eq (s := (T.setTop g).pushFrame (.throwing a)) (meth := meth) (code := c) X.method' X.code, hsplit]
  exact fh_hit (s := (T.setTop g).pushFrame (.throwing a)) hx h0 hl hcell (VmData.ne_statics_of hobj) hk hk hfit'
theorem catch_2 (X : Stand p l e R s m args below meth c T locs cells slots) (a : Addr) {g : JFrame} (hg : g.method = m) {own name name1 : String} (hown : s.vm.findClass own = some m.cls)
    {x y : ExceptionTableEntry} {rest : List ExceptionTableEntry} (hsplit : c.exceptionTable.toList = x :: y :: rest) (hx : covers x g.pc = true) (h0 : x.catchType ≠ 0) (hlink : (Cond.classLink own x.catchType name1).before args s = true) (hy : covers y g.pc = true) (h1 : y.catchType ≠ 0) (hlink1 : (Cond.classLink own y.catchType name).before args s = true)
    {cell : Cell} (hcell : T.heap[a]? = some cell) (hobj : cell.vm.isStatics = false) (hcT : s.vm.findClass name = some cell.cls) (hfit : s.vm.assignable cell.cls cell.cls = true) (hnc : va_Nc name name1 s) :
    ∃ vm', Stand p l e R s m args below meth c (T.setVm vm') locs cells slots ∧
      ∀ target, Steps p.tables e below ((T.setVm vm').setTop { g with pc := y.handlerPc, stack := [.ref a] }) target → Steps p.tables e below ((T.setTop g).pushFrame (.throwing a)) target := by
  obtain ⟨c1, t1, n1, n2, n3⟩ := hnc
  cases hcT.symm.trans n1
  obtain ⟨hl, hW', hk⟩ := note_of X hown hlink n2
  have X1 := X.noted hW'
  obtain ⟨hl1, hW1, hk1⟩ := note_of X1 hown hlink1 hcT
  have hal := X.warmed.alike
  have hal1 := X1.warmed.alike
  obtain ⟨hl0, -, hk0⟩ := note_of X hown hlink1 hcT
  have hfit' : T.vm.assignable cell.cls t1 = false := by rw [hal.assignable]; exact n3
  have hfit1 : (T.setVm (T.vm.noted m.cls x.catchType (.cls t1))).vm.assignable cell.cls cell.cls = true := by rw [hal1.assignable]; exact hfit
  refine ⟨_, X1.noted hW1, fun target hrest => ?_⟩
  subst hg
  refine st_caught X.here (vm' := (T.vm.noted g.method.cls x.catchType (.cls t1)).noted g.method.cls y.catchType (.cls cell.cls)) ?_ hrest
  intro Q Ec d acts
  rw [W.findHandler_eq (s := (T.setTop g).pushFrame (.throwing a)) (meth := meth) (code := c) X.method' X.code, hsplit]
  rw [fh_pass (s := (T.setTop g).pushFrame (.throwing a)) hx h0 hl hcell (VmData.ne_statics_of hobj) hk0 hk hfit']
  exact fh_hit (s := ((T.setTop g).pushFrame (.throwing a)).setVm (T.vm.noted g.method.cls x.catchType (.cls t1))) hy h1 hl1 hcell (VmData.ne_statics_of hobj) hk1 hk1 hfit1
/-- a call of a method that may throw, behind the invoking instruction's own step -/
theorem call_T {y : MethodName} {bytes : ByteArray} {maxL : Nat} {ret1 : Option FieldType} {rm : Room} {Pc : Array Value → State → Prop} {Qc : Array Value → State → Outcome → State → Prop} {free : Addr → Prop}
    (hM : MetT l y (.code y bytes maxL ret1 :: ltb) rm Pc Qc rm.cells rm.slots free) (X : Stand p l e R s m args below meth c T locs cells slots) (hts : ∀ w ∈ ltb, w.before args s = true) (ho : Cond.code y bytes maxL ret1 ∈ ltb) (hn : Cond.initialized y.cls ∈ ltb) (hb : FrameBlind Pc)
    {g : JFrame} (hg : g.method = m) (hsize : g.locals.size = c.maxLocals) {ig : Instr} (hdg : decode c.code g.pc = .ok (ig, 3)) (hW : 2 * g.monitorRoom + (g.stack.map fun v => v.category).sum ≤ 8) (hR : rm.frames + 1 ≤ R.frames ∧ 8 + (maxL + 11) + rm.locals ≤ R.locals) (hrm : cells + rm.cells ≤ R.cells ∧ slots + rm.slots ≤ R.slots) {mk : MethodId} (hmk : T.methodNamed? y = some mk) {a : Array Value} (hP : Pc a T) :
    ∃ (o : Outcome) (st t T' : State) (L : List Loc), st.heap = T.heap ∧ st.vm = T.vm ∧ T'.heap = t.heap ∧ T'.vm = t.vm ∧ Stand p l e R s m args below meth c T' (locs ++ L) (cells + rm.cells) (slots + rm.slots) ∧ (∀ q ∈ L, free q.base) ∧ Qc a st o t ∧
      (∀ v, o = .returned v → Steps p.tables e below (doInvoke e (T.setTop g) [] mk a).1 (T'.setTop { g with pc := g.pc + 3, stack := v.toList ++ g.stack })) ∧ (∀ x, o = .threw x → Steps p.tables e below (doInvoke e (T.setTop g) [] mk a).1 ((T'.setTop g).pushFrame (.throwing x))) := by
  have hall := pay_in hts (good_c ho)
  have h1 : (headSpec (.code y bytes maxL ret1 :: ltb) rm).pre.before a T = true := atoms_intro fun w hw => hall w hw _ _ X.warmed
  have h2 : (Cond.code y bytes maxL ret1).before a T = true := hall _ List.mem_cons_self _ _ X.warmed
  have h3 : (Cond.initialized y.cls).before a T = true := hall _ (List.mem_cons_of_mem _ hn) _ _ X.warmed
  obtain ⟨methY, cY, hmY, hcY, -, hlY, -, -, -, -⟩ := Cond.code_spec hmk h2
  obtain ⟨kY, hkY, -⟩ := className_of_methodNamed hmk
  have hinitY : kY.init = .initialized := Cond.initialized_spec (findClass_of_methodNamed hmk) hkY h3
  have h : At T g.method c below := by rw [hg]; exact X.here
  have happ : (headSpec (.code y bytes maxL ret1 :: ltb) rm).appliesLoose y e.platform (T.calling g mk a) = true :=
    Spec.appliesLoose_calling (g := g) h hdg hmk hkY hinitY
      (X.room_calling (g := g) (R' := rm) hsize hmY hcY hR.1 (by rw [hlY]; omega) hrm.1 hrm.2) h1
  obtain ⟨mid, hmid⟩ := h.above
  have hfr : (T.setTop g).frames = (.java g :: mid) ++ below := by rw [State.frames_setTop' g h.top, hmid]; rfl
  obtain ⟨o, s₂, hsteps, -, hend, hq⟩ := Steps.callFree hM p X.admits X.cas X.clock (acts := []) hfr happ (hb _ _ g mk hP) trivial
  have hq' : Qc a (T.calling g mk a) o s₂ := hq.1
  rw [State.frames_setTop' g h.top] at hend
  obtain ⟨L, ⟨hW₂, e2, q2, q3, q4, q5, q6⟩, hL⟩ := hq.2
  have e3 : s₂ = ({ (T.calling g mk a).setFrames s₂.frames with heap := s₂.heap, slotsUsed := s₂.slotsUsed } : State).setVm s₂.vm := by
    have : s₂ = ({ s₂ with vm := (T.calling g mk a).vm } : State).setVm s₂.vm := rfl
    have e2' : ({ s₂ with vm := (T.calling g mk a).vm } : State) = _ := e2
    rw [e2'] at this
    exact this
  have hW' : T.WarmedH s₂.vm := hW₂
  obtain ⟨g₀, hg0⟩ := Option.isSome_iff_exists.mp h.top
  obtain ⟨r, hr⟩ := State.topJava?_eq_some.mp hg0
  have hsame : T.sameButNew ({ T with heap := s₂.heap, slotsUsed := s₂.slotsUsed } : State) L rm.cells rm.slots := by
    refine ⟨?_, q2, q3, q4, q5, q6⟩
    obtain ⟨t, ht, -⟩ := State.frames_cons hr
    show ({ T with heap := s₂.heap, slotsUsed := s₂.slotsUsed } : State) = { T.setFrames T.frames with heap := s₂.heap, slotsUsed := s₂.slotsUsed }
    rw [State.setFrames_self ht]
  have hr' : (({ T with heap := s₂.heap, slotsUsed := s₂.slotsUsed } : State).setVm s₂.vm).frames = .java g₀ :: r := hr
  refine ⟨o, T.calling g mk a, s₂, (({ T with heap := s₂.heap, slotsUsed := s₂.slotsUsed } : State).setVm s₂.vm), L, rfl, rfl, rfl, rfl,
    ⟨X.admits, X.cas, X.clock, X.frames, X.room, X.hears, X.method, X.code, (X.here.setHeapUsed s₂.heap s₂.slotsUsed).setVm hW'.alike, X.tail, State.WarmedH.trans X.warmed hW', X.limits, X.bytes, X.same.trans (hsame.setVm s.vm)⟩, hL, hq', ?_, ?_⟩
  · intro v hv
    subst hv
    obtain ⟨c₂, i₂, len₂, hc₂, hd₂, hf₂⟩ := hend
    have hcc : c₂ = c := by
      have h1 : s₂.code? g.method = T.code? g.method := by
        rw [State.code?_eq, State.code?_eq, hW'.alike.method?]
      exact Option.some.inj (hc₂.symm.trans (h1.trans h.code))
    subst hcc
    have hlen : len₂ = 3 := by rw [hdg] at hd₂; cases hd₂; rfl
    subst hlen
    have hs₂ : s₂ = (({ T with heap := s₂.heap, slotsUsed := s₂.slotsUsed } : State).setVm s₂.vm).setTop { g with pc := g.pc + 3, stack := v.toList ++ g.stack } := by
      refine e3.trans ?_
      rw [hf₂, State.calling_eq h.top, State.setFrames_setFrames, State.setTop_of_frames _ hr', hr]
      rfl
    rw [← hs₂]
    exact hsteps
  · intro x hv
    subst hv
    have hf₂ : s₂.frames = .throwing x :: .java g :: T.frames.tail := hend
    have hs₂ : s₂ = ((({ T with heap := s₂.heap, slotsUsed := s₂.slotsUsed } : State).setVm s₂.vm).setTop g).pushFrame (.throwing x) := by
      refine e3.trans ?_
      rw [hf₂, State.calling_eq h.top, State.setFrames_setFrames, State.pushFrame, State.frames_setTop _ hr', State.setTop_of_frames _ hr', State.setFrames_setFrames, hr]
      rfl
    rw [← hs₂]
    exact hsteps
end CT
