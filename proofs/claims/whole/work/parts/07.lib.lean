abbrev HS : Type := (Nat → Nat → Int32) × (Nat → Nat → Int64)
def stI (σ : HS) (a k : Nat) (v : Int32) : HS := (fun b => cond (Nat.beq b a) (upd (σ.1 a) k v) (σ.1 b), σ.2)
def stF (σ : HS) (a k : Nat) (v : Int32) : HS := (fun b => cond (Nat.beq b a) (fun j => cond (Nat.beq j k) v (σ.1 a j)) (σ.1 b), σ.2)
def stL (σ : HS) (a k : Nat) (v : Int64) : HS := (σ.1, fun b => cond (Nat.beq b a) (vp_updL (σ.2 a) k v) (σ.2 b))
def nm {α β : Type} (x : α) (k : α → β) : β := k x
def grd {α : Type} (b : Bool) (k : Option α) : Option α := cond b k none
def inb (i : Int32) (n : Nat) : Bool := decide (0 ≤ i.toInt ∧ i.toInt < n)
def isB (x : Int32) : Bool := decide (x = 0 ∨ x = 1)
theorem nm_at {α β : Type} {x y : α} {k : α → Option β} {R : β} (h : nm x k = some R) (e : y = x) : k y = some R := by subst e; exact h
theorem grd_s {α : Type} {b : Bool} {k : Option α} {R : α} (h : grd b k = some R) : b = true ∧ k = some R := by
  cases b with
  | true => exact ⟨rfl, h⟩
  | false => exact absurd h (by simp [grd])
theorem ite_p {α : Type} {c : Prop} [Decidable c] {a b : Option α} {R : α} (h : (if c then a else b) = some R) (hc : c) : a = some R := by rw [if_pos hc] at h; exact h
theorem ite_n {α : Type} {c : Prop} [Decidable c] {a b : Option α} {R : α} (h : (if c then a else b) = some R) (hc : ¬ c) : b = some R := by rw [if_neg hc] at h; exact h
theorem bd_s {α β : Type} {x : Option α} {k : α → Option β} {R : β} (h : x.bind k = some R) : ∃ y, x = some y ∧ k y = some R := by
  cases x with
  | none => cases h
  | some y => exact ⟨y, rfl, h⟩
theorem inb_in {i : Int32} {n : Nat} (h : inb i n = true) : vp_in i n := vp_in_iff.mpr (of_decide_eq_true h)
theorem isB_n {x : Int32} (h : isB x = true) : narrow .boolean (.int x) = .int x := by
  rcases of_decide_eq_true h with h | h <;> subst h <;> rfl
abbrev EV : Type := va_G × (Nat → ClassId)
abbrev tyE (E : EV) : List (ClassId × FieldType) := [(E.2 0, .int), (E.2 1, .long), (E.2 2, .boolean), (E.2 3, .byte)]
abbrev oI (E : EV) (a n : Nat) (f : Nat → Int32) : Nat × va_E := (a, .inl (E.2 0, n, .inl f))
abbrev oJ (E : EV) (a n : Nat) (f : Nat → Int64) : Nat × va_E := (a, .inl (E.2 1, n, .inr (.inl f)))
abbrev oZ (E : EV) (a n : Nat) (f : Nat → Int32) : Nat × va_E := (a, .inl (E.2 2, n, .inl f))
abbrev oB (E : EV) (a n : Nat) (f : Nat → Int32) : Nat × va_E := (a, .inl (E.2 3, n, .inl f))
def Kx (U : State) : Prop := va_Nw (Cond.methodLinkNest "StripeField" 38 ⟨"StripeField$Power", "<init>", "()V"⟩ "StripeField") U ∧ va_Nw (Cond.methodLinkNest "StripeField$Rack" 82 ⟨"StripeField", "xorBytes", "([JIIIJ)V"⟩ "StripeField") U
theorem Kx.warm {s U : State} (hW : s.WarmedH U.vm) (h : Kx s) : Kx U := ⟨va_Nw.warmM hW h.1, va_Nw.warmM hW h.2⟩
theorem Kx.same {s U : State} (hv : s.vm = U.vm) (h : Kx s) : Kx U := ⟨va_Nw.same rfl hv h.1, va_Nw.same rfl hv h.2⟩
def Kw (E : EV) (U : State) : Prop := va_K E.1 cls6 (tyE E) U ∧ Kx U
theorem Kw.warm {E : EV} {s U : State} (hW : s.WarmedH U.vm) (h : Kw E s) : Kw E U := ⟨va_K.moved hW.alike h.1, h.2.warm hW⟩
def preW (E : EV) (w : va_W) (sz : Nat) (U : State) : Prop := U.heap.size = sz ∧ va_P E.1 cls6 w U.heap ∧ Kw E U ∧ va_D (fun _ => True) w
theorem pre_blind (E : EV) (w : va_W) (sz : Nat) (av : List Value) : FrameBlind (va_Pc av (preW E w sz)) := by
  intro a U g mk q
  obtain ⟨q0, q1, q2, q3, q4⟩ := q
  exact ⟨q0, q1, q2, ⟨va_K.moved (u := U) (U := U.calling g mk a) (Vm.Alike.refl U.vm) q3.1, q3.2.same (U := U.calling g mk a) rfl⟩, q4⟩
def Cx (E : EV) (p : Program) (s : State) (m : MethodId) (args : Array Value) (meth : Method) (c : Code) (cc : ByteArray) (own : String) (ret : Option FieldType) (nL : Nat) : Prop :=
  CallFix p m c cc nL s args ltb own ∧ meth.sig.returnType = ret ∧ meth.locks = false ∧ Kw E s
def Wo (E : EV) (A : Nat → Prop) (H0 : Heap) (w : va_W) (H : Heap) (locs : List Loc) : Prop := va_P E.1 cls6 w H ∧ va_D A w ∧ va_S A H0 H locs ∧ ∀ q : Nat, H0.size ≤ q → A q
def CtI (l : Launch) (E : EV) (y : MethodName) (cc : ByteArray) (maxL : Nat) (ret : Option FieldType) (rm : Room) (av : List Value) (w : va_W) (r : Int32) (w1 : va_W) : Prop :=
  ∀ sz : Nat, Met l y (.code y cc maxL ret :: ltb) rm (va_Pc av (preW E w sz)) (va_Qi (fun (x : Int32) (_ : Unit) => x = r) (fun _ t => va_P E.1 cls6 w1 t.heap ∧ va_D (va_A w sz) w1) (va_A w sz)) rm.cells rm.slots (va_A w sz)
def CtL (l : Launch) (E : EV) (y : MethodName) (cc : ByteArray) (maxL : Nat) (ret : Option FieldType) (rm : Room) (av : List Value) (w : va_W) (r : Int64) (w1 : va_W) : Prop :=
  ∀ sz : Nat, Met l y (.code y cc maxL ret :: ltb) rm (va_Pc av (preW E w sz)) (va_Ql (fun (x : Int64) (_ : Unit) => x = r) (fun _ t => va_P E.1 cls6 w1 t.heap ∧ va_D (va_A w sz) w1) (va_A w sz)) rm.cells rm.slots (va_A w sz)
def CtV (l : Launch) (E : EV) (y : MethodName) (cc : ByteArray) (maxL : Nat) (ret : Option FieldType) (rm : Room) (av : List Value) (w : va_W) (w1 : va_W) : Prop :=
  ∀ sz : Nat, Met l y (.code y cc maxL ret :: ltb) rm (va_Pc av (preW E w sz)) (va_Qv (fun (_ : Unit) => True) (fun _ t => va_P E.1 cls6 w1 t.heap ∧ va_D (va_A w sz) w1) (va_A w sz)) rm.cells rm.slots (va_A w sz)
theorem ltb_good {w : Cond} (h : w ∈ ltb) : (w.onTables && w.keeps) = true ∨ ∃ ty, w = .arrayClass ty := good_of_word (List.mem_filter.mp h).2
theorem good_c {w : Cond} (h : w ∈ ltb) : GoodIn ltb (w :: ltb) := fun v hv => (List.mem_cons.mp hv).elim (fun e => by subst e; exact ⟨h, ltb_good h⟩) (fun h => ⟨h, ltb_good h⟩)
theorem Wo.free {E : EV} {A : Nat → Prop} {H0 : Heap} {w : va_W} {H : Heap} {locs : List Loc} (h : Wo E A H0 w H locs) : ∀ q, va_A w H.size q → A q := by
  intro q hq
  rcases hq with ⟨k, e, hk⟩ | hq
  · exact h.2.1.2 k _ hk
  · exact h.2.2.2 q (Nat.le_trans h.2.2.1.1 hq)
set_option maxHeartbeats 1000000 in
theorem ent {l : Launch} {E : EV} {y : MethodName} {cc : ByteArray} {maxL : Nat} {ret : Option FieldType} {rm : Room} {av : List Value} {w : va_W} {Qc : Array Value → State → Outcome → State → Prop} {mc ms sz : Nat} (hy : plainName y.cls = true) (hlen : (lg_sl av).length ≤ maxL)
    (body : ∀ (p : Program) (e : Env) (s : State) (m : MethodId) (below : List Frame) (meth : Method) (c : Code), s.heap.size = sz → Cx E p s m av.toArray meth c cc y.cls ret maxL → Wo E (va_A w sz) s.heap w s.heap [] → ∀ ls : Array Slot, lv_has ls maxL (lv_args 0 av) →
      W p l e rm s m av.toArray below meth c s.heap [] 0 0 (MQ below Qc av.toArray s mc ms (va_A w sz)) (F0 m 0 ls [])) : Met l y (.code y cc maxL ret :: ltb) rm (va_Pc av (preW E w sz)) Qc mc ms (va_A w sz) := by
  refine Met.ofW (cc := cc) (maxL := maxL) (ret := ret) hy rfl ?_
  intro p e s m args below meth c s₁ B hml hv
  obtain ⟨rfl, hsz, hP, hK, hD0⟩ := hv
  have hts := atoms_spec (ws := .code y cc maxL ret :: ltb) B.pre
  have hown : s.vm.findClass y.cls = some m.cls := findClass_of_methodNamed B.named
  rw [lg_entry_eq]
  have hl := lv_entry av hlen
  subst hsz
  exact body p e s m below meth c rfl ⟨⟨B.exec, B.bytes, hml, hown, fun w h => hts w (List.mem_cons_of_mem _ h)⟩, B.returns, B.notSynchronized, hK⟩ ⟨hP, hD0.self, va_S.rf, fun q h => Or.inr h⟩ _ hl
