abbrev IAE : String := "java/lang/IllegalArgumentException"
abbrev ISE : String := "java/lang/IllegalStateException"
def exn (k : Nat) : String := cond (Nat.beq k 1) IAE ISE
abbrev supX : List String := ["java/lang/RuntimeException", "java/lang/Exception"]
abbrev steT : String := "[Ljava/lang/StackTraceElement;"
abbrev lstT : String := "Ljava/util/List;"
abbrev thrT : String := "java/lang/Throwable"
def xstr : List (Nat × String) := [(58, "n is not 1 .. 8"), (69, "the tape would have more than 64 bytes"), (79, "there is no such block"), (85, "it is off"), (101, "k is not 0 .. 7"), (113, "n is below 0"), (121, "it is on"), (139, "there is no such disk"), (162, "offset is not 0 .. ROWS - 1"), (164, "at is not 0 .. 70 - n"), (170, "the bytes of mask are all 0"), (244, "what is not 0 .. 12"), (246, "there is no such row"), (251, "the position is none of a stripe")]
/-- what a throw needs of the tables beyond the good words -/
def Kt (U : State) : Prop := va_Nw (.declares ⟨"java/lang/RuntimeException", "<init>", "(Ljava/lang/String;)V"⟩) U ∧ va_Nw (.declares ⟨"java/lang/Exception", "<init>", "(Ljava/lang/String;)V"⟩) U ∧ va_Nw (.declares ⟨"java/lang/Throwable", "<init>", "(Ljava/lang/String;)V"⟩) U ∧ va_Nw (.castable IAE IAE) U ∧ va_Nw (.castable ISE ISE) U ∧ va_Nc ISE IAE U ∧ ∀ q ∈ xstr, ∃ a, vk_R "StripeField" q.1 q.2 a U
theorem Kt.warm {s U : State} (hW : s.WarmedH U.vm) (h : Kt s) : Kt U :=
  ⟨va_Nw.warmD hW h.1, va_Nw.warmD hW h.2.1, va_Nw.warmD hW h.2.2.1, va_Nw.warmC hW h.2.2.2.1, va_Nw.warmC hW h.2.2.2.2.1, va_Nc.moved hW.alike h.2.2.2.2.2.1, fun q hq => by obtain ⟨a, ha⟩ := h.2.2.2.2.2.2 q hq; exact ⟨a, vk_R.warm hW ha⟩⟩
theorem Kt.same {s U : State} (hv : s.vm = U.vm) (h : Kt s) : Kt U :=
  ⟨va_Nw.same rfl hv h.1, va_Nw.same rfl hv h.2.1, va_Nw.same rfl hv h.2.2.1, va_Nw.same rfl hv h.2.2.2.1, va_Nw.same rfl hv h.2.2.2.2.1, va_Nc.moved (by rw [hv]; exact Vm.Alike.refl _) h.2.2.2.2.2.1, fun q hq => by obtain ⟨a, ha⟩ := h.2.2.2.2.2.2 q hq; exact ⟨a, vk_R.same hv.symm ha⟩⟩
def Lx (C n d : String) (A : Nat → Prop) (U : State) (H : Heap) : Prop := ∃ (c : ClassId) (k : Class) (i : Nat) (f : Field) (a : Nat) (cell : Cell), U.vm.findClass C = some c ∧ U.fieldFound? C n d = some (c, k, i, f) ∧ f.isStatic = true ∧ k.statics = some a ∧ H[a]? = some cell ∧ cell.vm.isStatics = true ∧ cell.cls = c ∧ f.slot < cell.slots.size ∧ k.staticTypes[f.slot]? = some f.type ∧ ¬ A a
theorem Lx.moved {C n d : String} {A : Nat → Prop} {u U : State} {H : Heap} (hvm : u.vm.Alike U.vm) (h : Lx C n d A u H) : Lx C n d A U H := by
  obtain ⟨c, k, i, f, a, cell, h0, h1, h2, h3, h4, h5, h6, h7, h8, h9⟩ := h
  obtain ⟨k', hi', he⟩ := State.fieldFound?_setVm hvm h1
  exact ⟨c, k', i, f, a, cell, by rw [hvm.findClass]; exact h0, hi', h2, by rw [he]; exact h3, h4, h5, h6, h7, by rw [he]; exact h8, h9⟩
theorem Lx.kept {C n d : String} {A : Nat → Prop} {U : State} {H H1 : Heap} (h : Lx C n d A U H) (hq : ∀ a : Nat, a < H.size → ¬ A a → H1[a]? = H[a]?) : Lx C n d A U H1 := by
  obtain ⟨c, k, i, f, a, cell, h0, h1, h2, h3, h4, h5, h6, h7, h8, h9⟩ := h
  exact ⟨c, k, i, f, a, cell, h0, h1, h2, h3, by rw [hq a (Array.getElem?_eq_some_iff.mp h4).1 h9]; exact h4, h5, h6, h7, h8, h9⟩
theorem Lx.narrow {C n d : String} {A B : Nat → Prop} {U : State} {H : Heap} (h : Lx C n d A U H) (hAB : ∀ q, B q → A q) : Lx C n d B U H := by
  obtain ⟨c, k, i, f, a, cell, h0, h1, h2, h3, h4, h5, h6, h7, h8, h9⟩ := h
  exact ⟨c, k, i, f, a, cell, h0, h1, h2, h3, h4, h5, h6, h7, h8, fun z => h9 (hAB a z)⟩
theorem Lx.of {C n d : String} {A : Nat → Prop} {args : Array Value} {s : State} (h : (Cond.laysStatic C n d).before args s = true) (hA : ∀ a : Nat, a < s.heap.size → ¬ A a) : Lx C n d A s s.heap := by
  obtain ⟨c, k, i, f, a, cell, h0, h1, h2, h3, h4, h5, h6, h7, h8⟩ := Cond.laysStatic_spec h
  exact ⟨c, k, i, f, a, cell, h0, h1, h2, h3, h4, h5, h6, h7, h8, hA a (Array.getElem?_eq_some_iff.mp h4).1⟩
theorem Lx.use {C n d : String} {A : Nat → Prop} {args : Array Value} {s : State} (h : Lx C n d A s s.heap) : (Cond.laysStatic C n d).before args s = true := by
  obtain ⟨c, k, i, f, a, cell, h0, h1, h2, h3, h4, h5, h6, h7, h8, h9⟩ := h
  simp [Cond.before, Cond.holds, Cond.value, h0, h1, h2, h3, h4, h5, h6, h7, h8]
/-- the two statics of Throwable are references or null, in a cell that isn't in A -/
def Sx (A : Nat → Prop) (U : State) (H : Heap) : Prop := (va_Zq thrT "UNASSIGNED_STACK" steT A U H ∧ va_Zq thrT "SUPPRESSED_SENTINEL" lstT A U H) ∧ Lx thrT "UNASSIGNED_STACK" steT A U H ∧ Lx thrT "SUPPRESSED_SENTINEL" lstT A U H
theorem Sx.moved {A : Nat → Prop} {u U : State} {H : Heap} (hvm : u.vm.Alike U.vm) (h : Sx A u H) : Sx A U H := ⟨⟨h.1.1.moved hvm, h.1.2.moved hvm⟩, h.2.1.moved hvm, h.2.2.moved hvm⟩
theorem Sx.kept {A : Nat → Prop} {U : State} {H H1 : Heap} (h : Sx A U H) (hq : ∀ a : Nat, a < H.size → ¬ A a → H1[a]? = H[a]?) : Sx A U H1 := ⟨⟨h.1.1.kept hq, h.1.2.kept hq⟩, h.2.1.kept hq, h.2.2.kept hq⟩
theorem Sx.narrow {A B : Nat → Prop} {U : State} {H : Heap} (h : Sx A U H) (hAB : ∀ q, B q → A q) : Sx B U H := ⟨⟨h.1.1.narrow hAB, h.1.2.narrow hAB⟩, h.2.1.narrow hAB, h.2.2.narrow hAB⟩
theorem Zq_isRef {C n d : String} {A : Nat → Prop} {s : State} {args : Array Value} (h : va_Zq C n d A s s.heap) : (Cond.isRef (.static C n d)).before args s = true := by
  have key : ∀ v : Value, va_Z C n d v A s s.heap → (Term.static C n d).eval args s none [] s = some v := by
    intro v hv
    obtain ⟨cf, kf, fi, f, a, cell, h1, h2, h3, h4, h5, h6, h7, h8⟩ := hv
    simp [Term.eval, State.fieldNamed?, h1, h2, h4, h5, h6, h7]
  rcases h with h | ⟨t, h⟩
  · simp [Cond.before, Cond.holds, Cond.value, key _ h]
  · simp [Cond.before, Cond.holds, Cond.value, key _ h]
def preT (E : EV) (w : va_W) (sz : Nat) (U : State) : Prop := preW E w sz U ∧ Kt U ∧ Sx (va_A w sz) U U.heap
/-- a contract of a method that may throw -/
def MetT (l : Launch) (y : MethodName) (ws : List Cond) (rm : Room) (Pc : Array Value → State → Prop) (Qc : Array Value → State → Outcome → State → Prop) (mc ms : Nat) (free : Addr → Prop) : Prop :=
  MetFree l y (headSpec ws rm) Pc (fun _ _ _ _ _ => True) (fun a st o t => Qc a st o t ∧ ∃ L, (st.WarmedH t.vm ∧ st.sameButNew ({ t with vm := st.vm } : State) L mc ms) ∧ ∀ q ∈ L, free q.base)
def MQX (below : List Frame) (Qc : Array Value → State → Outcome → State → Prop) (a : Array Value) (s : State) (mc ms : Nat) (free : Addr → Prop) : State → Prop := fun t =>
  ∃ o, t.status = .running ∧ Ended t below o ∧ Qc a s o t ∧ ∃ L, (s.WarmedH t.vm ∧ s.sameButNew ({ t with vm := s.vm } : State) L mc ms) ∧ ∀ q ∈ L, free q.base
theorem MQ_X {below : List Frame} {Qc : Array Value → State → Outcome → State → Prop} {a : Array Value} {s : State} {mc ms : Nat} {free : Addr → Prop} {t : State} (h : MQ below Qc a s mc ms free t) : MQX below Qc a s mc ms free t := by
  obtain ⟨o, h1, h2, h3, L, h4, h5⟩ := h
  exact ⟨o, h1, h2, h3, L, h4.2, h5⟩
theorem W_mono {p : Program} {l : Launch} {e : Env} {R : Room} {s : State} {m : MethodId} {args : Array Value} {below : List Frame} {meth : Method} {c : Code} {H : Heap} {locs : List Loc} {cells slots : Nat} {Q Q1 : State → Prop} {g : JFrame} (h : ∀ t, Q t → Q1 t) (k : W p l e R s m args below meth c H locs cells slots Q g) : W p l e R s m args below meth c H locs cells slots Q1 g := by
  intro T hT X
  obtain ⟨t, a, b⟩ := k T hT X
  exact ⟨t, a, h t b⟩
/-- the thrown thing: a new cell of the class -/
def Thr (k a : Nat) (st t : State) : Prop := ∃ ce : Cell, t.heap[a]? = some ce ∧ ce.vm = .none ∧ st.vm.findClass (exn k) = some ce.cls ∧ st.heap.size ≤ a
def QX (E : EV) (w0 : va_W) (sz : Nat) (out : Option Value ⊕ Nat) (w1 : va_W) : Array Value → State → Outcome → State → Prop := fun _ st o t =>
  ((match out with | .inl v => o = .returned v | .inr k => ∃ a, o = .threw a ∧ Thr k a st t) ∧ va_P E.1 cls6 w1 t.heap ∧ va_D (va_A w0 sz) w1) ∧ va_F (va_A w0 sz) st t
def CtX (l : Launch) (E : EV) (y : MethodName) (cc : ByteArray) (maxL : Nat) (ret : Option FieldType) (rm : Room) (av : List Value) (w : va_W) (out : Option Value ⊕ Nat) (w1 : va_W) : Prop :=
  ∀ sz : Nat, MetT l y (.code y cc maxL ret :: ltb) rm (va_Pc av (preT E w sz)) (QX E w sz out w1) rm.cells rm.slots (va_A w sz)
set_option maxHeartbeats 1000000 in
theorem entX {l : Launch} {E : EV} {y : MethodName} {cc : ByteArray} {maxL : Nat} {ret : Option FieldType} {rm : Room} {av : List Value} {w : va_W} {Qc : Array Value → State → Outcome → State → Prop} {mc ms sz : Nat} (hy : plainName y.cls = true) (hlen : (lg_sl av).length ≤ maxL)
    (body : ∀ (p : Program) (e : Env) (s : State) (m : MethodId) (below : List Frame) (meth : Method) (c : Code), s.heap.size = sz → Cx E p s m av.toArray meth c cc y.cls ret maxL → c.exceptionTable.isEmpty = true → Kt s → Sx (va_A w sz) s s.heap → Wo E (va_A w sz) s.heap w s.heap [] → ∀ ls : Array Slot, lv_has ls maxL (lv_args 0 av) →
      W p l e rm s m av.toArray below meth c s.heap [] 0 0 (MQX below Qc av.toArray s mc ms (va_A w sz)) (F0 m 0 ls [])) : MetT l y (.code y cc maxL ret :: ltb) rm (va_Pc av (preT E w sz)) Qc mc ms (va_A w sz) := by
  refine MetFree.of_bodyS (code := cc) (maxLocals := maxL) (ret := ret) hy ?_ ?_
  · intro args s m h hn
    obtain ⟨meth, c, h1, h2, h3, h4, h5, h6, -, -⟩ := Cond.code_spec hn (atoms_spec (ws := .code y cc maxL ret :: ltb) h _ List.mem_cons_self)
    exact ⟨meth, c, h1, h2, h3, h4, h5, h6⟩
  · intro p e s m args below meth c s₁ B hml hv _
    obtain ⟨rfl, ⟨hsz, hP, hK, hD0⟩, hKt, hSx⟩ := hv
    have hts := atoms_spec (ws := .code y cc maxL ret :: ltb) B.pre
    have hown : s.vm.findClass y.cls = some m.cls := findClass_of_methodNamed B.named
    have hne : c.exceptionTable.isEmpty = true := B.noHandlers (hts _ List.mem_cons_self)
    have hh0 : s₁.heap = s.heap := by rw [B.state]; rfl
    have hl := lv_entry av hlen
    subst hsz
    have hW := body p e s m below meth c rfl ⟨⟨B.exec, B.bytes, hml, hown, fun w h => hts w (List.mem_cons_of_mem _ h)⟩, B.returns, B.notSynchronized, hK⟩ hne hKt hSx ⟨hP, hD0.self, va_S.rf, fun q h => Or.inr h⟩ _ hl
    rw [← lg_entry_eq] at hW
    obtain ⟨t, a1, o, b1, b2, b3⟩ := hW s₁ hh0 (Stand.of_body B)
    exact ⟨t, o, a1, b1, b2, b3⟩
