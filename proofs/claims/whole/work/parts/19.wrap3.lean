def xc {α β : Type} (r : α ⊕ Nat) (f : α → β) (g : Nat → β) : β := match r with
  | .inl v => f v
  | .inr k => g k
def ctk (k : Nat) : Nat := cond (Nat.beq k 1) 13 15
/-- the table of a method's handlers catches what is thrown at pc, of the kind k, at hpc -/
def Ctb (tb : List ExceptionTableEntry) (pc k hpc : Nat) : Prop :=
  (k = 1 ∨ k = 2) ∧ ((∃ x rest, tb = x :: rest ∧ covers x pc = true ∧ x.catchType = ctk k ∧ x.handlerPc = hpc) ∨ (k = 2 ∧ ∃ x y rest, tb = x :: y :: rest ∧ covers x pc = true ∧ x.catchType = 13 ∧ covers y pc = true ∧ y.catchType = 15 ∧ y.handlerPc = hpc))
abbrev htup (h : ExceptionTableEntry) : Nat × Nat × Nat × Nat := (h.startPc, h.endPc, h.handlerPc, h.catchType)
theorem ctb_1 {tb : List ExceptionTableEntry} {a b h pc k : Nat} {t : List (Nat × Nat × Nat × Nat)} (ht : tb.map htup = (a, b, h, ctk k) :: t) (hk : k = 1 ∨ k = 2) (h1 : a ≤ pc) (h2 : pc < b) : Ctb tb pc k h := by
  cases tb with
  | nil => cases ht
  | cons x rest =>
    simp only [List.map_cons, List.cons.injEq, htup, Prod.mk.injEq] at ht
    obtain ⟨⟨e1, e2, e3, e4⟩, -⟩ := ht
    exact ⟨hk, Or.inl ⟨x, rest, rfl, by simp [covers]; omega, e4, e3⟩⟩
theorem ctb_2 {tb : List ExceptionTableEntry} {a b h a1 b1 h1 pc : Nat} {t : List (Nat × Nat × Nat × Nat)} (ht : tb.map htup = (a, b, h, 13) :: (a1, b1, h1, 15) :: t) (k1 : a ≤ pc) (k2 : pc < b) (k3 : a1 ≤ pc) (k4 : pc < b1) : Ctb tb pc 2 h1 := by
  match tb, ht with
  | [x], ht => simp at ht
  | x :: y :: rest, ht =>
    simp only [List.map_cons, List.cons.injEq, htup, Prod.mk.injEq] at ht
    obtain ⟨⟨e1, e2, e3, e4⟩, ⟨f1, f2, f3, f4⟩, -⟩ := ht
    exact ⟨Or.inr rfl, Or.inr ⟨rfl, x, y, rest, rfl, by simp [covers]; omega, e4, by simp [covers]; omega, f4, f3⟩⟩
theorem preT_blind (E : EV) (w : va_W) (sz : Nat) (av : List Value) : FrameBlind (va_Pc av (preT E w sz)) := by
  intro a U g mk q
  obtain ⟨q0, q1, q2, q3⟩ := q
  exact ⟨q0, (pre_blind E w sz av a U g mk ⟨q0, q1⟩).2, q2.same (U := U.calling g mk a) rfl, q3.moved (U := U.calling g mk a) (Vm.Alike.refl U.vm)⟩
def CtW (l : Launch) (E : EV) (y : MethodName) (cc : ByteArray) (maxL : Nat) (ret : Option FieldType) (hd : List (Nat × Nat × Nat × Nat)) (rm : Room) (av : List Value) (w : va_W) (r : Int32) (w1 : va_W) : Prop :=
  ∀ sz : Nat, Met l y (.codeWith y cc maxL ret hd :: ltb) rm (va_Pc av (preT E w sz)) (va_Qi (fun (x : Int32) (_ : Unit) => x = r) (fun _ t => va_P E.1 cls6 w1 t.heap ∧ va_D (va_A w sz) w1) (va_A w sz)) rm.cells rm.slots (va_A w sz)
set_option maxHeartbeats 1000000 in
theorem entW {l : Launch} {E : EV} {y : MethodName} {cc : ByteArray} {maxL : Nat} {ret : Option FieldType} {hd : List (Nat × Nat × Nat × Nat)} {rm : Room} {av : List Value} {w : va_W} {Qc : Array Value → State → Outcome → State → Prop} {mc ms sz : Nat} (hy : plainName y.cls = true) (hlen : (lg_sl av).length ≤ maxL)
    (body : ∀ (p : Program) (e : Env) (s : State) (m : MethodId) (below : List Frame) (meth : Method) (c : Code), s.heap.size = sz → Cx E p s m av.toArray meth c cc y.cls ret maxL → c.exceptionTable.toList.map htup = hd → Kt s → Sx (va_A w sz) s s.heap → Wo E (va_A w sz) s.heap w s.heap [] → ∀ ls : Array Slot, lv_has ls maxL (lv_args 0 av) →
      W p l e rm s m av.toArray below meth c s.heap [] 0 0 (MQ below Qc av.toArray s mc ms (va_A w sz)) (F0 m 0 ls [])) : Met l y (.codeWith y cc maxL ret hd :: ltb) rm (va_Pc av (preT E w sz)) Qc mc ms (va_A w sz) := by
  refine MetFree.of_bodyS (code := cc) (maxLocals := maxL) (ret := ret) hy ?_ ?_
  · intro args s m h hn
    obtain ⟨m', meth, c, h0, h1, h2, h3, h4, -, h5, h6, -⟩ := Cond.codeWith_spec (atoms_spec (ws := .codeWith y cc maxL ret hd :: ltb) h _ List.mem_cons_self)
    cases hn.symm.trans h0
    exact ⟨meth, c, h1, h2, h3, h4, h5, h6⟩
  · intro p e s m args below meth c s₁ B hml hv _
    obtain ⟨rfl, ⟨hsz, hP, hK, hD0⟩, hKt, hSx⟩ := hv
    have hts := atoms_spec (ws := .codeWith y cc maxL ret hd :: ltb) B.pre
    have hown : s.vm.findClass y.cls = some m.cls := findClass_of_methodNamed B.named
    have hne : c.exceptionTable.toList.map htup = hd := by
      obtain ⟨m', meth', c', h0, h1, h2, -, -, h5, -, -, -⟩ := Cond.codeWith_spec (hts _ List.mem_cons_self)
      cases B.named.symm.trans h0
      cases B.method.symm.trans h1
      cases (Stand.of_body B).code.symm.trans h2
      exact h5
    have hh0 : s₁.heap = s.heap := by rw [B.state]; rfl
    have hl := lv_entry av hlen
    subst hsz
    have hW := body p e s m below meth c rfl ⟨⟨B.exec, B.bytes, hml, hown, fun w h => hts w (List.mem_cons_of_mem _ h)⟩, B.returns, B.notSynchronized, hK⟩ hne hKt hSx ⟨hP, hD0.self, va_S.rf, fun q h => Or.inr h⟩ _ hl
    rw [← lg_entry_eq] at hW
    obtain ⟨t, a1, o, b1, b2, b3⟩ := hW s₁ hh0 (Stand.of_body B)
    exact ⟨t, o, a1, b1, b2, ⟨b3.1, b3.2⟩⟩
section WX
variable {p : Program} {l : Launch} {e : Env} {R : Room} {s : State} {m : MethodId} {args : Array Value} {below : List Frame} {meth : Method} {c : Code} {H : Heap} {locs : List Loc} {cells slots : Nat} {Q : State → Prop}
variable {E : EV} {ad n : Nat → Nat} {L : List Nat} {σ σ1 : HS} {A : Nat → Prop} {cc : ByteArray} {own : String} {ret : Option FieldType} {nL pc : Nat} {ls : Array Slot} {rest : List Value} {a : Nat}
variable {y : MethodName} {bytes : ByteArray} {maxL index : Nat} {ret1 : Option FieldType} {rm : Room} {As : List Value} {st0 : List Value} {out : Option Value ⊕ Nat}
theorem wo_Sx {w : va_W} (wo : Wo E A s.heap w H locs) (sx : Sx A s s.heap) {U : State} (hU : U.heap = H) (hW : s.WarmedH U.vm) : Sx (va_A w H.size) U U.heap := by
  rw [hU]
  exact ((sx.kept (fun a h1 h2 => wo.2.2.1.2.1 a h1 h2)).moved hW.alike).narrow wo.free
theorem run_X (cx : Cx E p s m args meth c cc own ret nL) (kt : Kt s) (sx : Sx A s s.heap) (wo : Wo E A s.heap (wl E ad n L σ) H locs) (ct : CtX l E y bytes maxL ret1 rm (.ref (ad a) :: As) (wl E ad n L σ) out (wl E ad n L σ1)) (hm : a ∈ L) {ci : Nat} {q : vw_C} {fs : List Value} (he : cel E ad n a σ = .inr (ci, fs)) (hc : cls6[ci]? = some q) (hq : q.1 = y.cls) (mw : MwV y bytes maxL ret1 As.length) (hl : Cond.methodLink own index y ∈ ltb)
    (hR : rm.frames + 1 ≤ R.frames ∧ 8 + (maxL + 11) + rm.locals ≤ R.locals) (hrm : cells + rm.cells ≤ R.cells ∧ slots + rm.slots ≤ R.slots) (hsz : ls.size = nL) (hst : st0 = As.reverse ++ .ref (ad a) :: rest) (hW : (rest.map fun v => v.category).sum ≤ 8) (hdg : decode cc pc = .ok (.invokevirtual index, 3)) :
    ∀ T : State, T.heap = H → Stand p l e R s m args below meth c T locs cells slots → ∃ (T' : State) (locs1 : List Loc), Stand p l e R s m args below meth c T' locs1 (cells + rm.cells) (slots + rm.slots) ∧ Wo E A s.heap (wl E ad n L σ1) T'.heap locs1 ∧
      (∀ v, out = .inl v → ∀ tg, Steps p.tables e below (T'.setTop (F0 m (pc + 3) ls (v.toList ++ rest))) tg → Steps p.tables e below (T.setTop (F0 m pc ls st0)) tg) ∧
      (∀ k, out = .inr k → ∃ (x : Nat) (ce : Cell), T'.heap[x]? = some ce ∧ ce.vm = .none ∧ s.vm.findClass (exn k) = some ce.cls ∧ ∀ tg, Steps p.tables e below ((T'.setTop (F0 m pc ls rest)).pushFrame (.throwing x)) tg → Steps p.tables e below (T.setTop (F0 m pc ls st0)) tg) := by
  intro T hT X
  have hts := cx.1.2.2.2.2
  obtain ⟨q0, h0⟩ := wl_mem hm
  obtain ⟨cellB, hcB, hoB, hclB⟩ := va_recv cx.2.2.2.1 wo.1 hc (show (wl E ad n L σ)[q0]? = some (ad a, .inr (ci, fs)) by rw [wl_at h0, he])
  rw [hq] at hclB
  obtain ⟨mk, methM, hnamed, hmethM, hstM, habM⟩ := Cond.instanceMethod_spec (hts _ mw.1)
  obtain ⟨methM', cM, hmethM', -, -, -, -, -, -, hsigM⟩ := Cond.code_spec hnamed (hts _ mw.2.2.2.1)
  cases hmethM.symm.trans hmethM'
  obtain ⟨c2, r2, m2, q1, q2, q3, q4, kP, hkP, hkPi⟩ := Cond.selects_spec (hts _ mw.2.1)
  cases hclB.symm.trans q1
  have hy := mw.2.2.2.2
  cases (State.methodFound?_of_named hnamed ⟨hy.1, hy.2.1⟩).symm.trans q2
  cases hnamed.symm.trans q3
  have hselP : selectMethod e.platform s.vm cellB.cls mk = .method mk := by rw [Launch.admits_selectMethod X.admits]; exact q4
  have hlen : As.length = methM.sig.parameters.length := by
    have h2 := hy.2.2
    rw [hsigM] at h2
    exact (Option.some.inj h2).symm
  obtain ⟨vm₁, X₁, hstep₁⟩ := X.invokevirtual cx.1.1 cx.1.2.2.2.1 (hts _ hl) hnamed hmethM hstM hkP hkPi ⟨hy.1, hy.2.1⟩ (a := ad a) (cell := cellB) (by rw [hT]; exact hcB)
    (fun z h => by rw [h] at hoB; cases hoB) hselP hmethM habM hkP hkPi (g := F0 m pc ls st0) rfl (argsL := As) (rest := rest) hlen hst (by rw [cx.1.2.1]; exact hdg)
  have hpre : va_Pc (.ref (ad a) :: As) (preT E (wl E ad n L σ) H.size) (Value.ref (ad a) :: As).toArray (T.setVm vm₁) := ⟨rfl, ⟨by rw [← hT]; rfl, by rw [← hT] at wo; exact wo.1, cx.2.2.2.warm X₁.warmed, wo.DT⟩, kt.warm X₁.warmed, wo_Sx wo sx hT X₁.warmed⟩
  obtain ⟨o, st, t, T', L', hs1, hs2, ht1, ht2, X', hL', hQ, k1, k2⟩ := call_T (ct H.size) X₁ hts mw.2.2.2.1 mw.2.2.1 (preT_blind E _ _ _) (g := F0 m pc ls rest) rfl (hsz.trans cx.1.2.2.1.symm) (by rw [cx.1.2.1]; exact hdg) (lv_room hW) hR hrm (X₁.named hnamed) hpre
  obtain ⟨⟨hout, hP1, hD1⟩, hF1, hF2⟩ := hQ
  have hst1 : st.heap = H := hs1.trans hT
  refine ⟨T', locs ++ L', X', ⟨by rw [ht1]; exact hP1, hD1.weaken (fun _ _ _ h => wo.free _ h), ⟨?_, ?_, ?_⟩, wo.2.2.2⟩, ?_, ?_⟩
  · rw [ht1]; rw [hst1] at hF1; exact Nat.le_trans wo.2.2.1.1 hF1
  · intro z z1 z2
    rw [ht1, hF2 z (by rw [hst1]; exact Nat.lt_of_lt_of_le z1 wo.2.2.1.1) (fun h => z2 (wo.free z (by rw [hst1] at *; exact h))), hst1]
    exact wo.2.2.1.2.1 z z1 z2
  · intro z hz
    rcases List.mem_append.mp hz with h | h
    · exact wo.2.2.1.2.2 z h
    · exact wo.free _ (hL' z h)
  · intro v hv tg htg
    subst hv
    have hk := k1 v hout
    exact hstep₁ _ fun acts => by rw [doInvoke_state]; exact hk.trans htg
  · intro k hv
    subst hv
    obtain ⟨x, hx, ce, hce, hcv, hcc, -⟩ := hout
    have hal : s.vm.Alike st.vm := by rw [hs2]; exact X₁.warmed.alike
    refine ⟨x, ce, by rw [ht1]; exact hce, hcv, by rw [hal.findClass] at hcc; exact hcc, fun tg htg => ?_⟩
    exact hstep₁ _ fun acts => by rw [doInvoke_state]; exact (k2 x hx).trans htg
theorem w_callR {v : Option Value} (cx : Cx E p s m args meth c cc own ret nL) (kt : Kt s) (sx : Sx A s s.heap) (wo : Wo E A s.heap (wl E ad n L σ) H locs) (ct : CtX l E y bytes maxL ret1 rm (.ref (ad a) :: As) (wl E ad n L σ) (.inl v) (wl E ad n L σ1)) (hm : a ∈ L) {ci : Nat} {q : vw_C} {fs : List Value} (he : cel E ad n a σ = .inr (ci, fs)) (hc : cls6[ci]? = some q) (hq : q.1 = y.cls) (mw : MwV y bytes maxL ret1 As.length) (hl : Cond.methodLink own index y ∈ ltb)
    (hR : rm.frames + 1 ≤ R.frames ∧ 8 + (maxL + 11) + rm.locals ≤ R.locals) (hrm : cells + rm.cells ≤ R.cells ∧ slots + rm.slots ≤ R.slots) (hsz : ls.size = nL) (hst : st0 = As.reverse ++ .ref (ad a) :: rest) (hW : (rest.map fun v => v.category).sum ≤ 8) (hdg : decode cc pc = .ok (.invokevirtual index, 3))
    (kk : ∀ (H1 : Heap) (locs1 : List Loc), Wo E A s.heap (wl E ad n L σ1) H1 locs1 → W p l e R s m args below meth c H1 locs1 (cells + rm.cells) (slots + rm.slots) Q (F0 m (pc + 3) ls (v.toList ++ rest))) : W p l e R s m args below meth c H locs cells slots Q (F0 m pc ls st0) := by
  intro T hT X
  obtain ⟨T', l1, X', wo', k1, -⟩ := run_X cx kt sx wo ct hm he hc hq mw hl hR hrm hsz hst hW hdg T hT X
  obtain ⟨t, a1, b1⟩ := kk T'.heap l1 wo' T' rfl X'
  exact ⟨t, k1 v rfl t a1, b1⟩
theorem w_callC {k hpc : Nat} (cx : Cx E p s m args meth c cc "StripeFieldLaw" ret nL) (kt : Kt s) (sx : Sx A s s.heap) (wo : Wo E A s.heap (wl E ad n L σ) H locs) (ct : CtX l E y bytes maxL ret1 rm (.ref (ad a) :: As) (wl E ad n L σ) (.inr k) (wl E ad n L σ1)) (hm : a ∈ L) {ci : Nat} {q : vw_C} {fs : List Value} (he : cel E ad n a σ = .inr (ci, fs)) (hc : cls6[ci]? = some q) (hq : q.1 = y.cls) (mw : MwV y bytes maxL ret1 As.length) (hl : Cond.methodLink "StripeFieldLaw" index y ∈ ltb)
    (hR : rm.frames + 1 ≤ R.frames ∧ 8 + (maxL + 11) + rm.locals ≤ R.locals) (hrm : cells + rm.cells ≤ R.cells ∧ slots + rm.slots ≤ R.slots) (hsz : ls.size = nL) (hst : st0 = As.reverse ++ .ref (ad a) :: rest) (hW : (rest.map fun v => v.category).sum ≤ 8) (hdg : decode cc pc = .ok (.invokevirtual index, 3)) (htb : Ctb c.exceptionTable.toList pc k hpc)
    (kk : ∀ (x : Nat) (H1 : Heap) (locs1 : List Loc), Wo E A s.heap (wl E ad n L σ1) H1 locs1 → W p l e R s m args below meth c H1 locs1 (cells + rm.cells) (slots + rm.slots) Q (F0 m hpc ls [.ref x])) : W p l e R s m args below meth c H locs cells slots Q (F0 m pc ls st0) := by
  intro T hT X
  obtain ⟨T', l1, X', wo', -, k2⟩ := run_X cx kt sx wo ct hm he hc hq mw hl hR hrm hsz hst hW hdg T hT X
  obtain ⟨x, ce, hce, hcv, hcc, hstp⟩ := k2 k rfl
  have hts := cx.1.2.2.2.2
  have hown := cx.1.2.2.2.1
  have hnst : ce.vm.isStatics = false := by rw [hcv]; rfl
  have hself : s.vm.assignable ce.cls ce.cls = true := va_asg _ _
  obtain ⟨hk, htb⟩ := htb
  have hfin : ∃ vm', Stand p l e R s m args below meth c (T'.setVm vm') l1 (cells + rm.cells) (slots + rm.slots) ∧ ∀ target, Steps p.tables e below ((T'.setVm vm').setTop { F0 m pc ls rest with pc := hpc, stack := [.ref x] }) target → Steps p.tables e below ((T'.setTop (F0 m pc ls rest)).pushFrame (.throwing x)) target := by
    rcases htb with ⟨x1, r1, e1, e2, e3, e4⟩ | ⟨rfl, x1, y1, r1, e1, e2, e3, f2, f3, f4⟩
    · subst e4
      refine catch_1 X' x (g := F0 m pc ls rest) rfl (own := "StripeFieldLaw") (name := exn k) hown e1 e2 (by rw [e3]; rcases hk with rfl | rfl <;> decide) ?_ hce hnst hcc hself
      rw [e3]
      rcases hk with rfl | rfl
      · exact hts _ wk_LW_13
      · exact hts _ wk_LW_15
    · subst f4
      exact catch_2 X' x (g := F0 m pc ls rest) rfl (own := "StripeFieldLaw") (name := exn 2) (name1 := exn 1) hown e1 e2 (by rw [e3]; decide) (by rw [e3]; exact hts _ wk_LW_13) f2 (by rw [f3]; decide) (by rw [f3]; exact hts _ wk_LW_15) hce hnst hcc hself kt.2.2.2.2.2.1
  obtain ⟨vm', X'', st⟩ := hfin
  obtain ⟨t, a1, b1⟩ := kk x T'.heap l1 wo' (T'.setVm vm') rfl X''
  exact ⟨t, hstp t (st t a1), b1⟩
end WX
