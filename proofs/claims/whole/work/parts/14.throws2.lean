def spcX : List Cond := [.declares ⟨"java/lang/RuntimeException", "<init>", "(Ljava/lang/String;)V"⟩, .declares ⟨"java/lang/Exception", "<init>", "(Ljava/lang/String;)V"⟩, .declares ⟨"java/lang/Throwable", "<init>", "(Ljava/lang/String;)V"⟩, .castable IAE IAE, .castable ISE ISE, .isRef (.static thrT "UNASSIGNED_STACK" steT), .isRef (.static thrT "SUPPRESSED_SENTINEL" lstT), .laysStatic thrT "UNASSIGNED_STACK" steT, .laysStatic thrT "SUPPRESSED_SENTINEL" lstT]
theorem spc_ok {A : Nat → Prop} {args : Array Value} {s : State} (kt : Kt s) (sx : Sx A s s.heap) : ∀ w ∈ spcX, w.before args s = true := by
  intro w hw
  simp only [spcX, List.mem_cons, List.not_mem_nil, or_false] at hw
  rcases hw with rfl | rfl | rfl | rfl | rfl | rfl | rfl | rfl | rfl
  · exact va_Nw.use rfl kt.1
  · exact va_Nw.use rfl kt.2.1
  · exact va_Nw.use rfl kt.2.2.1
  · exact va_Nw.use rfl kt.2.2.2.1
  · exact va_Nw.use rfl kt.2.2.2.2.1
  · exact Zq_isRef sx.1.1
  · exact Zq_isRef sx.1.2
  · exact sx.2.1.use
  · exact sx.2.2.use
set_option maxRecDepth 20000 in
theorem own_1 : (Bundle.ownAtoms "StripeField" 60 IAE supX).all (fun w => decide (w ∈ ltb) || decide (w ∈ spcX)) = true := by decide +kernel
set_option maxRecDepth 20000 in
theorem own_2 : (Bundle.ownAtoms "StripeField" 71 ISE supX).all (fun w => decide (w ∈ ltb) || decide (w ∈ spcX)) = true := by decide +kernel
theorem own_ok {ic : Nat} {X : String} (ho : (Bundle.ownAtoms "StripeField" ic X supX).all (fun w => decide (w ∈ ltb) || decide (w ∈ spcX)) = true) {A : Nat → Prop} {args : Array Value} {s : State} (hts : ∀ w ∈ ltb, w.before args s = true) (kt : Kt s) (sx : Sx A s s.heap) : ∀ w ∈ Bundle.ownAtoms "StripeField" ic X supX, w.before args s = true := by
  intro w hw
  have h1 := List.all_eq_true.mp ho w hw
  simp only [Bool.or_eq_true, decide_eq_true_eq] at h1
  rcases h1 with h | h
  · exact hts w h
  · exact spc_ok kt sx w h
section TH
variable {p : Program} {l : Launch} {e : Env} {R : Room} {s : State} {m : MethodId} {args : Array Value} {below : List Frame} {meth : Method} {c : Code} {H : Heap} {locs : List Loc} {cells slots : Nat} {Q : State → Prop}
variable {E : EV} {A : Nat → Prop} {w0 w1 : va_W} {sz : Nat} {cc : ByteArray} {ret : Option FieldType} {nL pc : Nat} {ls : Array Slot}
set_option maxHeartbeats 2000000 in
theorem t_throw {k ia ib ic : Nat} {tx : String} (cx : Cx E p s m args meth c cc "StripeField" ret nL) (hsz : s.heap.size = sz) (hne : c.exceptionTable.isEmpty = true) (kt : Kt s) (sx : Sx (va_A w0 sz) s s.heap) (hfl : l.stackTraces = false) (wo : Wo E (va_A w0 sz) s.heap w1 s.heap [])
    (ho : (Bundle.ownAtoms "StripeField" ic (exn k) supX).all (fun w => decide (w ∈ ltb) || decide (w ∈ spcX)) = true) (hfit : Bundle.fit (exn k) = true) (hcl : Cond.classLink "StripeField" ia (exn k) ∈ ltb) (hin : Cond.instantiable (exn k) 6 ∈ ltb) (hini : Cond.initialized (exn k) ∈ ltb) (hs : (ib, tx) ∈ xstr)
    (hls : ls.size = nL) (hR : 5 < R.frames ∧ 90 ≤ R.locals ∧ 1 ≤ R.cells ∧ 6 ≤ R.slots)
    (d0 : decode cc pc = .ok (.new ia, 3)) (d3 : decode cc (pc + 3) = .ok (.dup, 1)) (d4 : decode cc (pc + 4) = .ok (.ldc ib, 2)) (d6 : decode cc (pc + 6) = .ok (.invokespecial ic, 3)) (d9 : decode cc (pc + 9) = .ok (.athrow, 1)) :
    W p l e R s m args below meth c s.heap [] 0 0 (MQX below (QX E w0 sz (.inr k) w1) args s 1 6 (va_A w0 sz)) (F0 m pc ls []) := by
  have hx := cx.1.1
  have hb := cx.1.2.1
  have hown := cx.1.2.2.2.1
  have hts := cx.1.2.2.2.2
  obtain ⟨cX, kX', hfc, hkX', -⟩ := Cond.instantiable_spec (hts _ hin)
  refine W.newcK hx hb hown (hts _ hcl) (hts _ hin) (hts _ hini) (g := F0 m pc ls []) rfl d0 (by omega) (by omega) hfc rfl (fun H' kC hkC e1 e2 e3 => ?_)
  refine lv_dup hx hb d3 rfl ?_
  obtain ⟨q, hq⟩ := kt.2.2.2.2.2.2 _ hs
  refine va_ldcS hx hb hown hq d4 ?_
  intro T hT X
  have htr : e.platform.stackTraces = false := by rw [X.admits.platform]; exact hfl
  have hlocks := cx.2.2.1
  obtain ⟨U, hst, hrun, hend, hW, hsame, ce, hce, hoc⟩ := X.ctorThrowS hx htr (own := "StripeField") (cls := exn k) (names := supX) (ic := ic) hown hfit (by decide) (own_ok ho hts kt sx) (fun x hx => by cases hx) (a := s.heap.size) hfc hkC (by rw [hT]; exact e1) (Nat.le_refl _) (msg := .ref q) rfl (g := F0 m (pc + 6) ls [.ref q, .ref s.heap.size, .ref s.heap.size]) rfl (hls.trans cx.1.2.2.1.symm) rfl rfl (rest := []) rfl (by rw [hb]; exact d6) (by rw [hb]; exact d9) (fun x hx => by
      have h0 : c.exceptionTable = #[] := Array.isEmpty_iff.mp hne
      rw [h0] at hx; simp at hx) (by simp; omega) (by
      have : (F0 m (pc + 6) ls [Value.ref q, .ref s.heap.size, .ref s.heap.size]).monitorRoom = 0 := rfl
      simp [this, Value.category]; omega) hlocks
  have hold : ∀ a : Nat, a < s.heap.size → U.heap[a]? = s.heap[a]? := by
    intro a ha
    have h1 : s.heap[a]? = some s.heap[a] := Array.getElem?_eq_getElem ha
    rw [h1]
    exact State.sameButNew.old_cell hsame h1
  refine ⟨U, hst, .threw s.heap.size, hrun, hend, ⟨⟨⟨s.heap.size, rfl, ce, hce, hoc.vm, hoc.cls, Nat.le_refl _⟩, ?_, wo.2.1⟩, ?_, ?_⟩, [], ⟨hW, hsame⟩, fun q hq => by cases hq⟩
  · exact wo.1.kept (fun k q hq => hold q.1 (wo.1 k q hq).lt)
  · exact hsame.2.1
  · exact fun q h1 _ => hold q h1
theorem tX_i {l0 : Launch} {v : Int32} {ty : FieldType} (cx : Cx E p s m args meth c cc "StripeField" (some ty) nL) (wo : Wo E (va_A w0 sz) s.heap w1 H locs) (hn : narrow ty (.int v) = .int v) (hdg : decode cc pc = .ok (.ireturn, 1)) :
    W p l0 e R s m args below meth c H locs 0 0 (MQX below (QX E w0 sz (.inl (some (.int v))) w1) args s 1 6 (va_A w0 sz)) (F0 m pc ls [.int v]) := by
  have hlocks := cx.2.2.1
  refine W.widen (k := 1) (n := 6) (by omega) (by omega) ?_
  exact W_mono (fun _ => MQ_X) (W.zret cx.1.1 cx.1.2.1 cx.2.1 hn (fun t ht hW => ⟨⟨rfl, by rw [ht]; exact wo.1, wo.2.1⟩, wo.2.2.1.F ht⟩) wo.2.2.1.2.2 hdg hlocks)
theorem tX_l {l0 : Launch} {v : Int64} (cx : Cx E p s m args meth c cc "StripeField" (some .long) nL) (wo : Wo E (va_A w0 sz) s.heap w1 H locs) (hdg : decode cc pc = .ok (.lreturn, 1)) :
    W p l0 e R s m args below meth c H locs 0 0 (MQX below (QX E w0 sz (.inl (some (.long v))) w1) args s 1 6 (va_A w0 sz)) (F0 m pc ls [.long v]) := by
  have hlocks := cx.2.2.1
  refine W.widen (k := 1) (n := 6) (by omega) (by omega) ?_
  exact W_mono (fun _ => MQ_X) (W.lret cx.1.1 cx.1.2.1 cx.2.1 (fun t ht hW => ⟨⟨rfl, by rw [ht]; exact wo.1, wo.2.1⟩, wo.2.2.1.F ht⟩) wo.2.2.1.2.2 hdg hlocks)
theorem tX_v {l0 : Launch} (cx : Cx E p s m args meth c cc "StripeField" none nL) (wo : Wo E (va_A w0 sz) s.heap w1 H locs) (hdg : decode cc pc = .ok (.return_, 1)) :
    W p l0 e R s m args below meth c H locs 0 0 (MQX below (QX E w0 sz (.inl none) w1) args s 1 6 (va_A w0 sz)) (F0 m pc ls []) := by
  have hlocks := cx.2.2.1
  refine W.widen (k := 1) (n := 6) (by omega) (by omega) ?_
  exact W_mono (fun _ => MQ_X) (W.vret cx.1.1 cx.1.2.1 cx.2.1 (fun t ht hW => ⟨⟨rfl, by rw [ht]; exact wo.1, wo.2.1⟩, wo.2.2.1.F ht⟩) wo.2.2.1.2.2 hdg hlocks)
end TH
