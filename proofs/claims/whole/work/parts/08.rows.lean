section RW
variable {p : Program} {l : Launch} {e : Env} {R : Room} {s : State} {m : MethodId} {args : Array Value} {below : List Frame} {meth : Method} {c : Code} {H : Heap} {locs : List Loc} {cells slots : Nat} {Q : State → Prop}
variable {E : EV} {A : Nat → Prop} {H0 : Heap} {w w' : va_W} {cc : ByteArray} {own : String} {ret : Option FieldType} {nL pc : Nat} {ls : Array Slot} {rest : List Value} {a : Nat}
theorem r_get (cx : Cx E p s m args meth c cc own ret nL) (wo : Wo E A H0 w H locs) (q0 : Nat) {ci N index : Nat} {C : String} {T : u_T} {fs : List Value} {v : Value} (he : w[q0]? = some (a, .inr (ci, fs))) (hc : cls6[ci]? = some (C, T, N)) (hin : ∀ w ∈ u_ws C T N, w ∈ ltb) (k : Nat) (hk : k < N) (hl : Cond.fieldLink own index (T k).1 (T k).2.1 (T k).2.2.1 ∈ ltb) (hv : fs[k]? = some v) (hdg : decode cc pc = .ok (.getfield index, 3))
    (kk : W p l e R s m args below meth c H locs cells slots Q (F0 m (pc + 3) ls (v :: rest))) : W p l e R s m args below meth c H locs cells slots Q (F0 m pc ls (.ref a :: rest)) :=
  va_get cx.1.1 cx.1.2.1 cx.1.2.2.2.2 hin cx.1.2.2.2.1 cx.2.2.2.1 wo.1 q0 he hc k hk (cx.1.2.2.2.2 _ hl) (fun _ h => h) hv hdg kk
theorem r_put (cx : Cx E p s m args meth c cc own ret nL) (wo : Wo E A H0 w H locs) (q0 : Nat) {ci N index : Nat} {C : String} {T : u_T} {fs : List Value} {v : Value} (he : w[q0]? = some (a, .inr (ci, fs))) (hc : cls6[ci]? = some (C, T, N)) (hin : ∀ w ∈ u_ws C T N, w ∈ ltb) (ty0 : Nat → FieldType) (hty : ∀ k, k < N → parseFieldDescriptor (T k).2.2.1 = some (ty0 k)) (hnm : ∀ a, a < N → ∀ b, b < N → a ≠ b → (T a).2.1 ≠ (T b).2.1) (k : Nat) (hk : k < N) (hl : Cond.fieldLink own index (T k).1 (T k).2.1 (T k).2.2.1 ∈ ltb) (hfin : (T k).2.2.2 = false) (hn : narrow (ty0 k) v = v) (hfit : fits (ty0 k) v = true) (hlen : k < fs.length) (hw : w.set q0 (a, .inr (ci, fs.set k v)) = w') (hdg : decode cc pc = .ok (.putfield index, 3))
    (kk : ∀ (H1 : Heap) (locs1 : List Loc), Wo E A H0 w' H1 locs1 → W p l e R s m args below meth c H1 locs1 cells slots Q (F0 m (pc + 3) ls rest)) : W p l e R s m args below meth c H locs cells slots Q (F0 m pc ls (v :: .ref a :: rest)) := by
  subst hw
  exact va_put cx.1.1 cx.1.2.1 cx.1.2.2.2.2 hin ty0 hty hnm cx.1.2.2.2.1 cx.2.2.2.1 wo.1 wo.2.1 wo.2.2.1 q0 he hc k hk (cx.1.2.2.2.2 _ hl) (fun _ h => h) hfin (hty k hk) hn hfit hlen hdg (fun H1 l1 a b c => kk H1 l1 ⟨a, b, c, wo.2.2.2⟩)
theorem r_iald (cx : Cx E p s m args meth c cc own ret nL) (wo : Wo E A H0 w H locs) (q0 : Nat) {n : Nat} {f : Nat → Int32} (ha : w[q0]? = some (oI E a n f)) {i : Int32} (hin : inb i n = true) (hdg : decode cc pc = .ok (.iaload, 1))
    (kk : W p l e R s m args below meth c H locs cells slots Q (F0 m (pc + 1) ls (.int (f i.toNatClampNeg) :: rest))) : W p l e R s m args below meth c H locs cells slots Q (F0 m pc ls (.int i :: .ref a :: rest)) :=
  va_iald cx.1.1 cx.1.2.1 cx.2.2.2.1 wo.1 q0 0 ha rfl (inb_in hin) hdg kk
theorem r_lald (cx : Cx E p s m args meth c cc own ret nL) (wo : Wo E A H0 w H locs) (q0 : Nat) {n : Nat} {f : Nat → Int64} (ha : w[q0]? = some (oJ E a n f)) {i : Int32} (hin : inb i n = true) (hdg : decode cc pc = .ok (.laload, 1))
    (kk : W p l e R s m args below meth c H locs cells slots Q (F0 m (pc + 1) ls (.long (f i.toNatClampNeg) :: rest))) : W p l e R s m args below meth c H locs cells slots Q (F0 m pc ls (.int i :: .ref a :: rest)) :=
  va_lald cx.1.1 cx.1.2.1 cx.2.2.2.1 wo.1 q0 1 ha rfl (inb_in hin) hdg kk
theorem r_zald (cx : Cx E p s m args meth c cc own ret nL) (wo : Wo E A H0 w H locs) (q0 : Nat) {n : Nat} {f : Nat → Int32} (ha : w[q0]? = some (oZ E a n f)) {i : Int32} (hin : inb i n = true) (hdg : decode cc pc = .ok (.baload, 1))
    (kk : W p l e R s m args below meth c H locs cells slots Q (F0 m (pc + 1) ls (.int (f i.toNatClampNeg) :: rest))) : W p l e R s m args below meth c H locs cells slots Q (F0 m pc ls (.int i :: .ref a :: rest)) :=
  va_zald cx.1.1 cx.1.2.1 cx.2.2.2.1 wo.1 q0 2 ha rfl (inb_in hin) hdg kk
theorem r_bald (cx : Cx E p s m args meth c cc own ret nL) (wo : Wo E A H0 w H locs) (q0 : Nat) {n : Nat} {f : Nat → Int32} (ha : w[q0]? = some (oB E a n f)) {i : Int32} (hin : inb i n = true) (hdg : decode cc pc = .ok (.baload, 1))
    (kk : W p l e R s m args below meth c H locs cells slots Q (F0 m (pc + 1) ls (.int (f i.toNatClampNeg) :: rest))) : W p l e R s m args below meth c H locs cells slots Q (F0 m pc ls (.int i :: .ref a :: rest)) :=
  va_bald cx.1.1 cx.1.2.1 cx.2.2.2.1 wo.1 q0 3 ha rfl (inb_in hin) hdg kk
theorem r_iast (cx : Cx E p s m args meth c cc own ret nL) (wo : Wo E A H0 w H locs) (q0 : Nat) {n : Nat} {f : Nat → Int32} (ha : w[q0]? = some (oI E a n f)) {i x : Int32} (hin : inb i n = true) (hw : w.set q0 (oI E a n (upd f i.toNatClampNeg x)) = w') (hdg : decode cc pc = .ok (.iastore, 1))
    (kk : ∀ (H1 : Heap) (locs1 : List Loc), Wo E A H0 w' H1 locs1 → W p l e R s m args below meth c H1 locs1 cells slots Q (F0 m (pc + 1) ls rest)) : W p l e R s m args below meth c H locs cells slots Q (F0 m pc ls (.int x :: .int i :: .ref a :: rest)) := by
  subst hw
  exact va_iast cx.1.1 cx.1.2.1 cx.2.2.2.1 wo.1 wo.2.1 wo.2.2.1 q0 0 ha rfl (inb_in hin) hdg (fun H1 l1 a b c => kk H1 l1 ⟨a, b, c, wo.2.2.2⟩)
theorem r_zast (cx : Cx E p s m args meth c cc own ret nL) (wo : Wo E A H0 w H locs) (q0 : Nat) {n : Nat} {f : Nat → Int32} (ha : w[q0]? = some (oZ E a n f)) {i x : Int32} (hin : inb i n = true) (hw : w.set q0 (oZ E a n (upd f i.toNatClampNeg (vp_nar .boolean x))) = w') (hdg : decode cc pc = .ok (.bastore, 1))
    (kk : ∀ (H1 : Heap) (locs1 : List Loc), Wo E A H0 w' H1 locs1 → W p l e R s m args below meth c H1 locs1 cells slots Q (F0 m (pc + 1) ls rest)) : W p l e R s m args below meth c H locs cells slots Q (F0 m pc ls (.int x :: .int i :: .ref a :: rest)) := by
  subst hw
  exact va_zast cx.1.1 cx.1.2.1 cx.2.2.2.1 wo.1 wo.2.1 wo.2.2.1 q0 2 ha rfl (inb_in hin) hdg (fun H1 l1 a b c => kk H1 l1 ⟨a, b, c, wo.2.2.2⟩)
theorem r_bast (cx : Cx E p s m args meth c cc own ret nL) (wo : Wo E A H0 w H locs) (q0 : Nat) {n : Nat} {f : Nat → Int32} (ha : w[q0]? = some (oB E a n f)) {i x : Int32} (hin : inb i n = true) (hw : w.set q0 (oB E a n (upd f i.toNatClampNeg (vp_nar .byte x))) = w') (hdg : decode cc pc = .ok (.bastore, 1))
    (kk : ∀ (H1 : Heap) (locs1 : List Loc), Wo E A H0 w' H1 locs1 → W p l e R s m args below meth c H1 locs1 cells slots Q (F0 m (pc + 1) ls rest)) : W p l e R s m args below meth c H locs cells slots Q (F0 m pc ls (.int x :: .int i :: .ref a :: rest)) := by
  subst hw
  exact va_bast cx.1.1 cx.1.2.1 cx.2.2.2.1 wo.1 wo.2.1 wo.2.2.1 q0 3 ha rfl (inb_in hin) hdg (fun H1 l1 a b c => kk H1 l1 ⟨a, b, c, wo.2.2.2⟩)
theorem r_last (cx : Cx E p s m args meth c cc own ret nL) (wo : Wo E A H0 w H locs) (q0 : Nat) {n : Nat} {f : Nat → Int64} (ha : w[q0]? = some (oJ E a n f)) {i : Int32} {x : Int64} (hin : inb i n = true) (hw : w.set q0 (oJ E a n (vp_updL f i.toNatClampNeg x)) = w') (hdg : decode cc pc = .ok (.lastore, 1))
    (kk : ∀ (H1 : Heap) (locs1 : List Loc), Wo E A H0 w' H1 locs1 → W p l e R s m args below meth c H1 locs1 cells slots Q (F0 m (pc + 1) ls rest)) : W p l e R s m args below meth c H locs cells slots Q (F0 m pc ls (.long x :: .int i :: .ref a :: rest)) := by
  subst hw
  exact va_last cx.1.1 cx.1.2.1 cx.2.2.2.1 wo.1 wo.2.1 wo.2.2.1 q0 1 ha rfl (inb_in hin) hdg (fun H1 l1 a b c => kk H1 l1 ⟨a, b, c, wo.2.2.2⟩)
theorem r_alen (cx : Cx E p s m args meth c cc own ret nL) (wo : Wo E A H0 w H locs) (q0 t0 : Nat) {cA : ClassId} {x : vp_A} (ha : w[q0]? = some (a, .inl (cA, x))) {ty : FieldType} (ht : (tyE E)[t0]? = some (cA, ty)) (hdg : decode cc pc = .ok (.arraylength, 1))
    (kk : W p l e R s m args below meth c H locs cells slots Q (F0 m (pc + 1) ls (.int (nI x.1) :: rest))) : W p l e R s m args below meth c H locs cells slots Q (F0 m pc ls (.ref a :: rest)) :=
  va_alen cx.1.1 cx.1.2.1 cx.2.2.2.1 wo.1 q0 t0 ha ht rfl hdg kk
-- returns
theorem t_ireti {l0 : Launch} {w0 : va_W} {sz : Nat} {r v : Int32} {w1 : va_W} {ty : FieldType} (cx : Cx E p s m args meth c cc own (some ty) nL) (wo : Wo E (va_A w0 sz) s.heap w1 H locs) (hn : narrow ty (.int v) = .int v) (hv : v = r) (hdg : decode cc pc = .ok (.ireturn, 1)) :
    W p l0 e R s m args below meth c H locs cells slots (MQ below (va_Qi (fun (x : Int32) (_ : Unit) => x = r) (fun _ t => va_P E.1 cls6 w1 t.heap ∧ va_D (va_A w0 sz) w1) (va_A w0 sz)) args s cells slots (va_A w0 sz)) (F0 m pc ls [.int v]) := by
  have hlocks := cx.2.2.1
  exact W.zret cx.1.1 cx.1.2.1 cx.2.1 hn (fun t ht hW => ⟨⟨v, (), rfl, hv, by rw [ht]; exact wo.1, wo.2.1⟩, wo.2.2.1.F ht⟩) wo.2.2.1.2.2 hdg hlocks
theorem t_lreti {l0 : Launch} {w0 : va_W} {sz : Nat} {r v : Int64} {w1 : va_W} (cx : Cx E p s m args meth c cc own (some .long) nL) (wo : Wo E (va_A w0 sz) s.heap w1 H locs) (hv : v = r) (hdg : decode cc pc = .ok (.lreturn, 1)) :
    W p l0 e R s m args below meth c H locs cells slots (MQ below (va_Ql (fun (x : Int64) (_ : Unit) => x = r) (fun _ t => va_P E.1 cls6 w1 t.heap ∧ va_D (va_A w0 sz) w1) (va_A w0 sz)) args s cells slots (va_A w0 sz)) (F0 m pc ls [.long v]) := by
  have hlocks := cx.2.2.1
  exact W.lret cx.1.1 cx.1.2.1 cx.2.1 (fun t ht hW => ⟨⟨v, (), rfl, hv, by rw [ht]; exact wo.1, wo.2.1⟩, wo.2.2.1.F ht⟩) wo.2.2.1.2.2 hdg hlocks
theorem t_vret {l0 : Launch} {w0 : va_W} {sz : Nat} {w1 : va_W} (cx : Cx E p s m args meth c cc own none nL) (wo : Wo E (va_A w0 sz) s.heap w1 H locs) (hdg : decode cc pc = .ok (.return_, 1)) :
    W p l0 e R s m args below meth c H locs cells slots (MQ below (va_Qv (fun (_ : Unit) => True) (fun _ t => va_P E.1 cls6 w1 t.heap ∧ va_D (va_A w0 sz) w1) (va_A w0 sz)) args s cells slots (va_A w0 sz)) (F0 m pc ls []) := by
  have hlocks := cx.2.2.1
  exact W.vret cx.1.1 cx.1.2.1 cx.2.1 (fun t ht hW => ⟨⟨(), rfl, trivial, by rw [ht]; exact wo.1, wo.2.1⟩, wo.2.2.1.F ht⟩) wo.2.2.1.2.2 hdg hlocks
-- calls: the runs
variable {y : MethodName} {bytes : ByteArray} {maxL n index : Nat} {ret1 : Option FieldType} {rm : Room} {Qc : Array Value → State → Outcome → State → Prop} {free : Addr → Prop} {C : String} {b : Addr} {As : List Value} {wc : va_W}
theorem run_V (cx : Cx E p s m args meth c cc own ret nL) (ct : Met l y (.code y bytes maxL ret1 :: ltb) rm (va_Pc (.ref b :: As) (preW E wc H.size)) Qc rm.cells rm.slots free) (hP : va_P E.1 cls6 wc H) (hD : va_D (fun _ => True) wc) (q0 : Nat) {ci : Nat} {q : vw_C} {fs : List Value} (hc : cls6[ci]? = some q) (he : wc[q0]? = some (b, .inr (ci, fs))) (hq : q.1 = y.cls)
    (hl : Cond.methodLink own index y ∈ ltb) (hi : Cond.instanceMethod y ∈ ltb) (hs : Cond.selects y.cls y y ∈ ltb) (hn : Cond.initialized y.cls ∈ ltb) (ho : Cond.code y bytes maxL ret1 ∈ ltb)
    (hd : y.cls ≠ "java/lang/invoke/MethodHandle" ∧ y.cls ≠ "java/lang/invoke/VarHandle" ∧ (parseMethodDescriptor y.desc).map (fun d => d.parameters.length) = some As.length) (hR : rm.frames + 1 ≤ R.frames ∧ 8 + (maxL + 11) + rm.locals ≤ R.locals) (hrm : cells + rm.cells ≤ R.cells ∧ slots + rm.slots ≤ R.slots)
    (hsz : ls.size = nL) {st0 : List Value} (hst : st0 = As.reverse ++ .ref b :: rest) (hW : (rest.map fun v => v.category).sum ≤ 8) (hdg : decode cc pc = .ok (.invokevirtual index, 3)) :
    va_Run p l e R s m args below meth c H locs cells slots rm.cells rm.slots (F0 m pc ls st0) rest (Qc (Value.ref b :: As).toArray) free := by
  have ht := cx.1.2.2.2.2
  refine va_runV (C := y.cls) (b := b) (As := As) (g := F0 m pc ls st0) cx.1 ct ⟨callB_of As.length ht (good_c ho) rfl rfl rfl (ht _ hn) (ht _ hl) hd hR, ht _ hi, ht _ hs⟩ ⟨pre_blind E wc H.size _, ?_, fun U hU hW => ⟨rfl, by rw [hU], by rw [hU]; exact hP, cx.2.2.2.warm hW, hD⟩⟩ rfl rfl hsz hst (lv_room hW) hdg hrm
  have h1 := va_recv cx.2.2.2.1 hP hc he
  rw [hq] at h1
  exact h1
theorem run_S (cx : Cx E p s m args meth c cc own ret nL) (ct : Met l y (.code y bytes maxL ret1 :: ltb) rm (va_Pc As (preW E wc H.size)) Qc rm.cells rm.slots free) (hP : va_P E.1 cls6 wc H) (hD : va_D (fun _ => True) wc)
    (hl : Cond.methodLink own index y ∈ ltb) (hi : Cond.static y ∈ ltb) (hn : Cond.initialized y.cls ∈ ltb) (ho : Cond.code y bytes maxL ret1 ∈ ltb)
    (hd : y.cls ≠ "java/lang/invoke/MethodHandle" ∧ y.cls ≠ "java/lang/invoke/VarHandle" ∧ (parseMethodDescriptor y.desc).map (fun d => d.parameters.length) = some As.length) (hR : rm.frames + 1 ≤ R.frames ∧ 8 + (maxL + 11) + rm.locals ≤ R.locals) (hrm : cells + rm.cells ≤ R.cells ∧ slots + rm.slots ≤ R.slots)
    (hsz : ls.size = nL) {st0 : List Value} (hst : st0 = As.reverse ++ rest) (hW : (rest.map fun v => v.category).sum ≤ 8) (hdg : decode cc pc = .ok (.invokestatic index, 3)) :
    va_Run p l e R s m args below meth c H locs cells slots rm.cells rm.slots (F0 m pc ls st0) rest (Qc As.toArray) free := by
  have ht := cx.1.2.2.2.2
  exact va_runS (As := As) (g := F0 m pc ls st0) cx.1 ct ⟨callB_of As.length ht (good_c ho) rfl rfl rfl (ht _ hn) (ht _ hl) hd hR, ht _ hi⟩ ⟨pre_blind E wc H.size _, fun U hU hW => ⟨rfl, by rw [hU], by rw [hU]; exact hP, cx.2.2.2.warm hW, hD⟩⟩ rfl rfl hsz hst (lv_room hW) hdg hrm
theorem run_I (cx : Cx E p s m args meth c cc own ret nL) (ct : Met l y (.code y bytes maxL none :: ltb) rm (va_Pc (.ref b :: As) (preW E wc H.size)) Qc rm.cells rm.slots free) (hP : va_P E.1 cls6 wc H) (hD : va_D (fun _ => True) wc) (hnm : y.name = "<init>")
    (hl : Cond.methodLink own index y ∈ ltb) (hi : Cond.instanceMethod y ∈ ltb) (hn : Cond.initialized y.cls ∈ ltb) (ho : Cond.code y bytes maxL none ∈ ltb)
    (hd : y.cls ≠ "java/lang/invoke/MethodHandle" ∧ y.cls ≠ "java/lang/invoke/VarHandle" ∧ (parseMethodDescriptor y.desc).map (fun d => d.parameters.length) = some As.length) (hR : rm.frames + 1 ≤ R.frames ∧ 8 + (maxL + 11) + rm.locals ≤ R.locals) (hrm : cells + rm.cells ≤ R.cells ∧ slots + rm.slots ≤ R.slots)
    (hsz : ls.size = nL) {st0 : List Value} (hst : st0 = As.reverse ++ .ref b :: rest) (hW : (rest.map fun v => v.category).sum ≤ 8) (hdg : decode cc pc = .ok (.invokespecial index, 3)) :
    va_Run p l e R s m args below meth c H locs cells slots rm.cells rm.slots (F0 m pc ls st0) rest (Qc (Value.ref b :: As).toArray) free := by
  have ht := cx.1.2.2.2.2
  exact va_runI (b := b) (As := As) (g := F0 m pc ls st0) cx.1 ct ⟨callB_of As.length ht (good_c ho) rfl rfl rfl (ht _ hn) (ht _ hl) hd hR, hnm, ht _ hi⟩ ⟨pre_blind E wc H.size _, fun U hU hW => ⟨rfl, by rw [hU], by rw [hU]; exact hP, cx.2.2.2.warm hW, hD⟩⟩ rfl rfl hsz hst (lv_room hW) hdg hrm
theorem run_SN {host : String} (cx : Cx E p s m args meth c cc own ret nL) (ct : Met l y (.code y bytes maxL ret1 :: ltb) rm (va_Pc As (preW E wc H.size)) Qc rm.cells rm.slots free) (hP : va_P E.1 cls6 wc H) (hD : va_D (fun _ => True) wc)
    (hl : va_Nw (Cond.methodLinkNest own index y host) s) (hi : Cond.static y ∈ ltb) (hn : Cond.initialized y.cls ∈ ltb) (ho : Cond.code y bytes maxL ret1 ∈ ltb)
    (hd : y.cls ≠ "java/lang/invoke/MethodHandle" ∧ y.cls ≠ "java/lang/invoke/VarHandle" ∧ (parseMethodDescriptor y.desc).map (fun d => d.parameters.length) = some As.length) (hR : rm.frames + 1 ≤ R.frames ∧ 8 + (maxL + 11) + rm.locals ≤ R.locals) (hrm : cells + rm.cells ≤ R.cells ∧ slots + rm.slots ≤ R.slots)
    (hsz : ls.size = nL) {st0 : List Value} (hst : st0 = As.reverse ++ rest) (hW : (rest.map fun v => v.category).sum ≤ 8) (hdg : decode cc pc = .ok (.invokestatic index, 3)) :
    va_Run p l e R s m args below meth c H locs cells slots rm.cells rm.slots (F0 m pc ls st0) rest (Qc As.toArray) free := by
  have ht := cx.1.2.2.2.2
  exact va_runSN (As := As) (g := F0 m pc ls st0) cx.1 ct ⟨va_cnB As.length ht (good_c ho) rfl rfl rfl hl (ht _ hn) hd hR, ht _ hi, trivial⟩ ⟨pre_blind E wc H.size _, fun U hU hW => ⟨rfl, by rw [hU], by rw [hU]; exact hP, cx.2.2.2.warm hW, hD⟩⟩ rfl rfl hsz hst (lv_room hW) hdg hrm
-- calls: going on, the callee's world being the caller's
variable {w1 : va_W} {mc ms : Nat} {st0 : List Value} {aa : Array Value}
theorem go_i {r : Int32} (hr : va_Run p l e R s m args below meth c H locs cells slots mc ms (F0 m pc ls st0) rest (va_Qi (fun (x : Int32) (_ : Unit) => x = r) (fun _ t => va_P E.1 cls6 w1 t.heap ∧ va_D (va_A w H.size) w1) (va_A w H.size) aa) (va_A w H.size)) (wo : Wo E A H0 w H locs)
    (kk : ∀ (H1 : Heap) (locs1 : List Loc), Wo E A H0 w1 H1 locs1 → W p l e R s m args below meth c H1 locs1 (cells + mc) (slots + ms) Q (F0 m (pc + 3) ls (.int r :: rest))) : W p l e R s m args below meth c H locs cells slots Q (F0 m pc ls st0) := by
  refine va_calli hr wo.2.2.1 (fun q _ h => wo.free q h) wo.free (fun r1 u t H1 l1 ht hvm hw hB hz hk hS => ?_)
  subst hw
  obtain ⟨hP1, hD1⟩ := hB
  rw [ht] at hP1
  exact kk H1 l1 ⟨hP1, hD1.weaken (fun _ _ _ h => wo.free _ h), hS, wo.2.2.2⟩
theorem go_l {r : Int64} (hr : va_Run p l e R s m args below meth c H locs cells slots mc ms (F0 m pc ls st0) rest (va_Ql (fun (x : Int64) (_ : Unit) => x = r) (fun _ t => va_P E.1 cls6 w1 t.heap ∧ va_D (va_A w H.size) w1) (va_A w H.size) aa) (va_A w H.size)) (wo : Wo E A H0 w H locs)
    (kk : ∀ (H1 : Heap) (locs1 : List Loc), Wo E A H0 w1 H1 locs1 → W p l e R s m args below meth c H1 locs1 (cells + mc) (slots + ms) Q (F0 m (pc + 3) ls (.long r :: rest))) : W p l e R s m args below meth c H locs cells slots Q (F0 m pc ls st0) := by
  refine va_calll hr wo.2.2.1 (fun q _ h => wo.free q h) wo.free (fun r1 u t H1 l1 ht hvm hw hB hz hk hS => ?_)
  subst hw
  obtain ⟨hP1, hD1⟩ := hB
  rw [ht] at hP1
  exact kk H1 l1 ⟨hP1, hD1.weaken (fun _ _ _ h => wo.free _ h), hS, wo.2.2.2⟩
theorem go_v (hr : va_Run p l e R s m args below meth c H locs cells slots mc ms (F0 m pc ls st0) rest (va_Qv (fun (_ : Unit) => True) (fun _ t => va_P E.1 cls6 w1 t.heap ∧ va_D (va_A w H.size) w1) (va_A w H.size) aa) (va_A w H.size)) (wo : Wo E A H0 w H locs)
    (kk : ∀ (H1 : Heap) (locs1 : List Loc), Wo E A H0 w1 H1 locs1 → W p l e R s m args below meth c H1 locs1 (cells + mc) (slots + ms) Q (F0 m (pc + 3) ls rest)) : W p l e R s m args below meth c H locs cells slots Q (F0 m pc ls st0) := by
  refine va_callv hr wo.2.2.1 (fun q _ h => wo.free q h) wo.free (fun u t H1 l1 ht hvm hw hB hz hk hS => ?_)
  obtain ⟨hP1, hD1⟩ := hB
  rw [ht] at hP1
  exact kk H1 l1 ⟨hP1, hD1.weaken (fun _ _ _ h => wo.free _ h), hS, wo.2.2.2⟩
end RW
