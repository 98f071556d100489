theorem W_gen {p : Program} {l : Launch} {e : Env} {R : Room} {s : State} {m : MethodId} {args : Array Value} {below : List Frame} {meth : Method} {c : Code} {H : Heap} {locs : List Loc} {cells slots : Nat} {Q : State → Prop} {g : JFrame} (h : ∀ Q1, Q1 = Q → W p l e R s m args below meth c H locs cells slots Q1 g) : W p l e R s m args below meth c H locs cells slots Q g := h Q rfl
def MwI (y : MethodName) (bytes : ByteArray) (maxL : Nat) (k : Nat) : Prop := y.name = "<init>" ∧ Cond.instanceMethod y ∈ ltb ∧ Cond.initialized y.cls ∈ ltb ∧ Cond.code y bytes maxL none ∈ ltb ∧ (y.cls ≠ "java/lang/invoke/MethodHandle" ∧ y.cls ≠ "java/lang/invoke/VarHandle" ∧ (parseMethodDescriptor y.desc).map (fun d => d.parameters.length) = some k)
section CN
variable {p : Program} {l : Launch} {e : Env} {R : Room} {s : State} {m : MethodId} {args : Array Value} {below : List Frame} {meth : Method} {c : Code} {H : Heap} {locs : List Loc} {cells slots : Nat} {Q : State → Prop}
variable {E : EV} {A : Nat → Prop} {H0 : Heap} {cc : ByteArray} {own : String} {ret : Option FieldType} {nL pc : Nat} {ls : Array Slot} {rest : List Value}
variable {y : MethodName} {bytes : ByteArray} {maxL index c0 : Nat} {ret1 : Option FieldType} {rm : Room} {As st0 : List Value} {w wc wr : va_W} {K : (Nat → Nat) → Prop} {w1 : (Nat → Nat) → va_W} {b : Nat}
/-- the callee's cells are among the caller's (by an index map), the rest wr is apart from them: what comes back lies beside the rest -/
theorem frm (wo : Wo E A H0 w H locs) (g : Nat → Nat) (hg : ∀ (k : Nat) (q : Nat × va_E), wc[k]? = some q → w[g k]? = some q) (hi : ∀ i j : Nat, i < wc.length → j < wc.length → g i = g j → i = j) (f : Nat → Nat) (hf : ∀ (k : Nat) (q : Nat × va_E), wr[k]? = some q → w[f k]? = some q) (hj : ∀ i j : Nat, i < wr.length → j < wr.length → f i = f j → i = j) (hgf : ∀ i j : Nat, i < wc.length → j < wr.length → g i ≠ f j) :
    (va_P E.1 cls6 wc H ∧ va_D (fun _ => True) wc) ∧ (∀ q, va_A wc H.size q → A q) ∧ ∀ (H1 : Heap) (locs1 : List Loc) (v : va_W), (∀ q : Nat, q < H.size → ¬ va_A wc H.size q → H1[q]? = H[q]?) → va_P E.1 cls6 v H1 → va_D (va_A wc H.size) v → va_S A H0 H1 locs1 → Wo E A H0 (wr ++ v) H1 locs1 := by
  have lt : ∀ {v : va_W} {k : Nat} {q : Nat × va_E}, v[k]? = some q → k < v.length := fun h => (List.getElem?_eq_some_iff.mp h).1
  have hF : ∀ q, va_A wc H.size q → A q := by
    intro q hq
    rcases hq with ⟨k, e, hk⟩ | hq
    · exact wo.2.1.2 (g k) _ (hg k _ hk)
    · exact wo.2.2.2 q (Nat.le_trans wo.2.2.1.1 hq)
  refine ⟨⟨fun k q hk => wo.1 (g k) q (hg k q hk), fun i j p q h1 h2 e => hi i j (lt h1) (lt h2) (wo.2.1.1 _ _ _ _ (hg i p h1) (hg j q h2) e), fun _ _ _ => trivial⟩, hF, ?_⟩
  intro H1 locs1 v hk hP hD hS
  have apart : ∀ (k : Nat) (q : Nat × va_E), wr[k]? = some q → q.1 < H.size ∧ ¬ va_A wc H.size q.1 := by
    intro k q hq
    have h1 := hf k q hq
    refine ⟨(wo.1 _ q h1).lt, fun z => ?_⟩
    rcases z with ⟨i, e, z⟩ | z
    · exact hgf i k (lt z) (lt hq) (wo.2.1.1 _ _ _ _ (hg i _ z) h1 rfl)
    · exact Nat.not_lt.mpr z (wo.1 _ q h1).lt
  have hPr : va_P E.1 cls6 wr H1 := fun k q hq => (wo.1 _ q (hf k q hq)).kept (hk _ (apart k q hq).1 (apart k q hq).2)
  have hDr : va_D A wr := ⟨fun i j p q h1 h2 e => hj i j (lt h1) (lt h2) (wo.2.1.1 _ _ _ _ (hf i p h1) (hf j q h2) e), fun k q hq => wo.2.1.2 _ q (hf k q hq)⟩
  refine ⟨hPr.app hP, hDr.app (hD.weaken (fun _ _ _ h => hF _ h)) (fun i j p q h1 h2 e => ?_), hS, wo.2.2.2⟩
  exact (apart i p h1).2 (by rw [e]; exact hD.2 j q h2)
theorem callN_S (cx : Cx E p s m args meth c cc own ret nL) (wo : Wo E A H0 w H locs) (ct : CtNr l E y bytes maxL ret1 rm As wc c0 K w1) (mw : MwS y bytes maxL ret1 As.length) (hl : Cond.methodLink own index y ∈ ltb)
    (g : Nat → Nat) (hg : ∀ (k : Nat) (q : Nat × va_E), wc[k]? = some q → w[g k]? = some q) (hi : ∀ i j : Nat, i < wc.length → j < wc.length → g i = g j → i = j) (f : Nat → Nat) (hf : ∀ (k : Nat) (q : Nat × va_E), wr[k]? = some q → w[f k]? = some q) (hj : ∀ i j : Nat, i < wr.length → j < wr.length → f i = f j → i = j) (hgf : ∀ i j : Nat, i < wc.length → j < wr.length → g i ≠ f j)
    (hR : rm.frames + 1 ≤ R.frames ∧ 8 + (maxL + 11) + rm.locals ≤ R.locals) (hrm : cells + rm.cells ≤ R.cells ∧ slots + rm.slots ≤ R.slots) (hsz : ls.size = nL) (hst : st0 = As.reverse ++ rest) (hW : (rest.map fun v => v.category).sum ≤ 8) (hdg : decode cc pc = .ok (.invokestatic index, 3))
    (kk : ∀ (u : Nat → Nat) (H1 : Heap) (locs1 : List Loc), K u → Wo E A H0 (wr ++ w1 u) H1 locs1 → W p l e R s m args below meth c H1 locs1 (cells + rm.cells) (slots + rm.slots) Q (F0 m (pc + 3) ls (.ref (u c0) :: rest))) : W p l e R s m args below meth c H locs cells slots Q (F0 m pc ls st0) := by
  obtain ⟨⟨hP, hD⟩, hF, hjn⟩ := frm wo g hg hi f hf hj hgf
  refine va_callr (run_S cx (ct H.size) hP hD hl mw.1 mw.2.1 mw.2.2.1 mw.2.2.2 hR hrm hsz hst hW hdg) wo.2.2.1 (fun q _ h => hF q h) hF (fun u a t H1 l1 ht hvm hw hB hz hk hS => ?_)
  obtain ⟨rfl, hP1, hD1⟩ := hB
  rw [ht] at hP1
  exact kk u H1 l1 hw (hjn H1 l1 _ hk hP1 hD1 hS)
theorem callN_I (cx : Cx E p s m args meth c cc own ret nL) (wo : Wo E A H0 w H locs) (ct : CtN l E y bytes maxL none rm (.ref b :: As) wc K w1) (mw : MwI y bytes maxL As.length) (hl : Cond.methodLink own index y ∈ ltb)
    (g : Nat → Nat) (hg : ∀ (k : Nat) (q : Nat × va_E), wc[k]? = some q → w[g k]? = some q) (hi : ∀ i j : Nat, i < wc.length → j < wc.length → g i = g j → i = j) (f : Nat → Nat) (hf : ∀ (k : Nat) (q : Nat × va_E), wr[k]? = some q → w[f k]? = some q) (hj : ∀ i j : Nat, i < wr.length → j < wr.length → f i = f j → i = j) (hgf : ∀ i j : Nat, i < wc.length → j < wr.length → g i ≠ f j)
    (hR : rm.frames + 1 ≤ R.frames ∧ 8 + (maxL + 11) + rm.locals ≤ R.locals) (hrm : cells + rm.cells ≤ R.cells ∧ slots + rm.slots ≤ R.slots) (hsz : ls.size = nL) (hst : st0 = As.reverse ++ .ref b :: rest) (hW : (rest.map fun v => v.category).sum ≤ 8) (hdg : decode cc pc = .ok (.invokespecial index, 3))
    (kk : ∀ (u : Nat → Nat) (H1 : Heap) (locs1 : List Loc), K u → Wo E A H0 (wr ++ w1 u) H1 locs1 → W p l e R s m args below meth c H1 locs1 (cells + rm.cells) (slots + rm.slots) Q (F0 m (pc + 3) ls rest)) : W p l e R s m args below meth c H locs cells slots Q (F0 m pc ls st0) := by
  obtain ⟨⟨hP, hD⟩, hF, hjn⟩ := frm wo g hg hi f hf hj hgf
  refine va_callv (run_I cx (ct H.size) hP hD mw.1 hl mw.2.1 mw.2.2.1 mw.2.2.2.1 mw.2.2.2.2 hR hrm hsz hst hW hdg) wo.2.2.1 (fun q _ h => hF q h) hF (fun u t H1 l1 ht hvm hw hB hz hk hS => ?_)
  obtain ⟨hP1, hD1⟩ := hB
  rw [ht] at hP1
  exact kk u H1 l1 hw (hjn H1 l1 _ hk hP1 hD1 hS)
end CN
theorem ix_g {w wc : va_W} {is : List Nat} (hs : is.map (fun i => w[i]?) = wc.map some) : ∀ (k : Nat) (q : Nat × va_E), wc[k]? = some q → w[(fun k => is.getD k 0) k]? = some q := by
  intro k q hq
  have h1 : (is.map (fun i => w[i]?))[k]? = some (some q) := by rw [hs, List.getElem?_map, hq]; rfl
  rw [List.getElem?_map] at h1
  cases hi : is[k]? with
  | none => rw [hi] at h1; cases h1
  | some i =>
    rw [hi] at h1
    have e : is.getD k 0 = i := by rw [List.getD_eq_getElem?_getD, hi]; rfl
    show w[is.getD k 0]? = some q
    rw [e]
    exact Option.some.inj h1
def ix_ok (is : List Nat) : Bool := (List.range is.length).all (fun i => (List.range is.length).all (fun j => !(Nat.beq (is.getD i 0) (is.getD j 0)) || Nat.beq i j))
theorem ix_i {is : List Nat} {v : va_W} (h : ix_ok is = true ∧ v.length = is.length) : ∀ i j : Nat, i < v.length → j < v.length → (fun k => is.getD k 0) i = (fun k => is.getD k 0) j → i = j := by
  intro i j hi hj e
  have h1 := List.all_eq_true.mp h.1 i (List.mem_range.mpr (by omega))
  have h2 := List.all_eq_true.mp h1 j (List.mem_range.mpr (by omega))
  simp only [Bool.or_eq_true, Bool.not_eq_true'] at h2
  rcases h2 with h2 | h2
  · have e' : is.getD i 0 = is.getD j 0 := e
    rw [e'] at h2
    simp at h2
  · exact Nat.eq_of_beq_eq_true h2
def ix_dj (is js : List Nat) : Bool := is.all (fun i => js.all (fun j => !(Nat.beq i j)))
theorem ix_d {is js : List Nat} {v v1 : va_W} (h : ix_dj is js = true ∧ v.length = is.length ∧ v1.length = js.length) : ∀ i j : Nat, i < v.length → j < v1.length → (fun k => is.getD k 0) i ≠ (fun k => js.getD k 0) j := by
  intro i j hi hj e
  have m1 : is.getD i 0 ∈ is := by rw [List.getD_eq_getElem?_getD, List.getElem?_eq_getElem (by omega : i < is.length)]; exact List.getElem_mem _
  have m2 : js.getD j 0 ∈ js := by rw [List.getD_eq_getElem?_getD, List.getElem?_eq_getElem (by omega : j < js.length)]; exact List.getElem_mem _
  have h1 := List.all_eq_true.mp (List.all_eq_true.mp h.1 _ m1) _ m2
  have e' : is.getD i 0 = js.getD j 0 := e
  rw [e'] at h1
  simp at h1
section CV
variable {p : Program} {l : Launch} {e : Env} {R : Room} {s : State} {m : MethodId} {args : Array Value} {below : List Frame} {meth : Method} {c : Code} {H : Heap} {locs : List Loc} {cells slots : Nat} {Q : State → Prop}
variable {E : EV} {A : Nat → Prop} {H0 : Heap} {cc : ByteArray} {own : String} {ret : Option FieldType} {nL pc : Nat} {ls : Array Slot} {rest : List Value} {ad n : Nat → Nat} {L : List Nat} {σ : HS} {a qa : Nat}
variable {y : MethodName} {bytes : ByteArray} {maxL index : Nat} {rm : Room} {As st0 : List Value} {K : (Nat → Nat) → Prop} {w1 : (Nat → Nat) → va_W}
theorem callN_V (cx : Cx E p s m args meth c cc own ret nL) (wo : Wo E A H0 (wl E ad n L σ) H locs) (ct : CtN l E y bytes maxL none rm (.ref (ad a) :: As) (wl E ad n L σ) K w1) (hm : a ∈ L) {ci : Nat} {q : vw_C} {fs : List Value} (he : cel E ad n a σ = .inr (ci, fs)) (hc : cls6[ci]? = some q) (hq : q.1 = y.cls) (mw : MwV y bytes maxL none As.length) (hl : Cond.methodLink own index y ∈ ltb)
    (hR : rm.frames + 1 ≤ R.frames ∧ 8 + (maxL + 11) + rm.locals ≤ R.locals) (hrm : cells + rm.cells ≤ R.cells ∧ slots + rm.slots ≤ R.slots) (hsz : ls.size = nL) (hst : st0 = As.reverse ++ .ref (ad a) :: rest) (hW : (rest.map fun v => v.category).sum ≤ 8) (hdg : decode cc pc = .ok (.invokevirtual index, 3))
    (kk : ∀ (u : Nat → Nat) (H1 : Heap) (locs1 : List Loc), K u → Wo E A H0 (w1 u) H1 locs1 → W p l e R s m args below meth c H1 locs1 (cells + rm.cells) (slots + rm.slots) Q (F0 m (pc + 3) ls rest)) : W p l e R s m args below meth c H locs cells slots Q (F0 m pc ls st0) := by
  obtain ⟨q0, h0⟩ := wl_mem hm
  refine va_callv (run_V cx (ct H.size) wo.1 wo.DT q0 hc (by rw [wl_at h0, he]) hq hl mw.1 mw.2.1 mw.2.2.1 mw.2.2.2.1 mw.2.2.2.2 hR hrm hsz hst hW hdg) wo.2.2.1 (fun q _ h => wo.free q h) wo.free (fun u t H1 l1 ht hvm hw hB hz hk hS => ?_)
  obtain ⟨hP1, hD1⟩ := hB
  rw [ht] at hP1
  exact kk u H1 l1 hw ⟨hP1, hD1.weaken (fun _ _ _ h => wo.free _ h), hS, wo.2.2.2⟩
end CV
section CM
variable {p : Program} {l : Launch} {e : Env} {R : Room} {s : State} {m : MethodId} {args : Array Value} {below : List Frame} {meth : Method} {c : Code} {H : Heap} {locs : List Loc} {cells slots : Nat} {Q : State → Prop}
variable {E : EV} {A : Nat → Prop} {H0 : Heap} {cc : ByteArray} {own : String} {ret : Option FieldType} {nL pc : Nat} {ls : Array Slot} {rest : List Value}
variable {y : MethodName} {bytes : ByteArray} {maxL index : Nat} {rm : Room} {As st0 : List Value} {w wc wr : va_W} {K : (Nat → Nat) → Prop} {w1 : (Nat → Nat) → va_W} {b : Nat} {Qc : Array Value → State → Outcome → State → Prop} {free : Addr → Prop}
theorem run_IN {host : String} (cx : Cx E p s m args meth c cc own ret nL) (ct : Met l y (.code y bytes maxL none :: ltb) rm (va_Pc (.ref b :: As) (preW E wc H.size)) Qc rm.cells rm.slots free) (hP : va_P E.1 cls6 wc H) (hD : va_D (fun _ => True) wc) (mw : MwI y bytes maxL As.length) (hl : va_Nw (Cond.methodLinkNest own index y host) s)
    (hR : rm.frames + 1 ≤ R.frames ∧ 8 + (maxL + 11) + rm.locals ≤ R.locals) (hrm : cells + rm.cells ≤ R.cells ∧ slots + rm.slots ≤ R.slots) (hsz : ls.size = nL) (hst : st0 = As.reverse ++ .ref b :: rest) (hW : (rest.map fun v => v.category).sum ≤ 8) (hdg : decode cc pc = .ok (.invokespecial index, 3)) :
    va_Run p l e R s m args below meth c H locs cells slots rm.cells rm.slots (F0 m pc ls st0) rest (Qc (Value.ref b :: As).toArray) free := by
  have ht := cx.1.2.2.2.2
  exact va_runIN (b := b) (As := As) (g := F0 m pc ls st0) cx.1 ct ⟨va_cnB As.length ht (good_c mw.2.2.2.1) rfl rfl rfl hl (ht _ mw.2.2.1) mw.2.2.2.2 hR, mw.1, ht _ mw.2.1⟩ ⟨pre_blind E wc H.size _, fun U hU hW => ⟨rfl, by rw [hU], by rw [hU]; exact hP, cx.2.2.2.warm hW, hD⟩⟩ rfl rfl hsz hst (lv_room hW) hdg hrm
theorem callN_IN {host : String} (cx : Cx E p s m args meth c cc own ret nL) (wo : Wo E A H0 w H locs) (ct : CtN l E y bytes maxL none rm (.ref b :: As) wc K w1) (mw : MwI y bytes maxL As.length) (hl : va_Nw (Cond.methodLinkNest own index y host) s)
    (g : Nat → Nat) (hg : ∀ (k : Nat) (q : Nat × va_E), wc[k]? = some q → w[g k]? = some q) (hi : ∀ i j : Nat, i < wc.length → j < wc.length → g i = g j → i = j) (f : Nat → Nat) (hf : ∀ (k : Nat) (q : Nat × va_E), wr[k]? = some q → w[f k]? = some q) (hj : ∀ i j : Nat, i < wr.length → j < wr.length → f i = f j → i = j) (hgf : ∀ i j : Nat, i < wc.length → j < wr.length → g i ≠ f j)
    (hR : rm.frames + 1 ≤ R.frames ∧ 8 + (maxL + 11) + rm.locals ≤ R.locals) (hrm : cells + rm.cells ≤ R.cells ∧ slots + rm.slots ≤ R.slots) (hsz : ls.size = nL) (hst : st0 = As.reverse ++ .ref b :: rest) (hW : (rest.map fun v => v.category).sum ≤ 8) (hdg : decode cc pc = .ok (.invokespecial index, 3))
    (kk : ∀ (u : Nat → Nat) (H1 : Heap) (locs1 : List Loc), K u → Wo E A H0 (wr ++ w1 u) H1 locs1 → W p l e R s m args below meth c H1 locs1 (cells + rm.cells) (slots + rm.slots) Q (F0 m (pc + 3) ls rest)) : W p l e R s m args below meth c H locs cells slots Q (F0 m pc ls st0) := by
  obtain ⟨⟨hP, hD⟩, hF, hjn⟩ := frm wo g hg hi f hf hj hgf
  refine va_callv (run_IN cx (ct H.size) hP hD mw hl hR hrm hsz hst hW hdg) wo.2.2.1 (fun q _ h => hF q h) hF (fun u t H1 l1 ht hvm hw hB hz hk hS => ?_)
  obtain ⟨hP1, hD1⟩ := hB
  rw [ht] at hP1
  exact kk u H1 l1 hw (hjn H1 l1 _ hk hP1 hD1 hS)
end CM
theorem mi_SF_init : MwI y_SF_init c_SF_init 4 3 := ⟨rfl, wi_SF_init, wn_SF, wo_SF_init, by decide +kernel⟩
theorem mi_LA_init : MwI y_LA_init c_LA_init 4 3 := ⟨rfl, wi_LA_init, wn_LA, wo_LA_init, by decide +kernel⟩
theorem mi_RK_init : MwI y_RK_init c_RK_init 3 1 := ⟨rfl, wi_RK_init, wn_RK, wo_RK_init, by decide +kernel⟩
theorem mi_PL_init : MwI y_PL_init c_PL_init 3 2 := ⟨rfl, wi_PL_init, wn_PL, wo_PL_init, by decide +kernel⟩
theorem mi_PW_init : MwI y_PW_init c_PW_init 1 0 := ⟨rfl, wi_PW_init, wn_PW, wo_PW_init, by decide +kernel⟩
theorem mi_MD_init : MwI y_MD_init c_MD_init 7 3 := ⟨rfl, wi_MD_init, wn_MD, wo_MD_init, by decide +kernel⟩
