def okN (x : Int32) (B : Nat) : Bool := decide (¬ x < 0 ∧ x.toNatClampNeg ≤ B)
def CtN (l : Launch) (E : EV) (y : MethodName) (cc : ByteArray) (maxL : Nat) (ret : Option FieldType) (rm : Room) (av : List Value) (w : va_W) (K : (Nat → Nat) → Prop) (w1 : (Nat → Nat) → va_W) : Prop :=
  ∀ sz : Nat, Met l y (.code y cc maxL ret :: ltb) rm (va_Pc av (preW E w sz)) (va_Qv (fun (u : Nat → Nat) => K u) (fun u t => va_P E.1 cls6 (w1 u) t.heap ∧ va_D (va_A w sz) (w1 u)) (va_A w sz)) rm.cells rm.slots (va_A w sz)
def CtNr (l : Launch) (E : EV) (y : MethodName) (cc : ByteArray) (maxL : Nat) (ret : Option FieldType) (rm : Room) (av : List Value) (w : va_W) (c : Nat) (K : (Nat → Nat) → Prop) (w1 : (Nat → Nat) → va_W) : Prop :=
  ∀ sz : Nat, Met l y (.code y cc maxL ret :: ltb) rm (va_Pc av (preW E w sz)) (va_Qr (fun (u : Nat → Nat) => K u) (fun u a t => a = u c ∧ va_P E.1 cls6 (w1 u) t.heap ∧ va_D (va_A w sz) (w1 u)) (va_A w sz)) rm.cells rm.slots (va_A w sz)
theorem wl_cons {E : EV} {ad ad1 n n1 : Nat → Nat} {L : List Nat} {σ σ1 : HS} {a q : Nat} {e : va_E} (hL : offC a L = true) (hq : ad1 a = q) (ha : ∀ b, b ≠ a → ad1 b = ad b) (hn : ∀ b, b ≠ a → n1 b = n b) (h1 : ∀ b, b ≠ a → σ1.1 b = σ.1 b) (h2 : ∀ b, b ≠ a → σ1.2 b = σ.2 b) (he : cel E ad1 n1 a σ1 = e) : (q, e) :: wl E ad n L σ = wl E ad1 n1 (a :: L) σ1 := by
  rw [← wl_same (E := E) hL ha hn h1 h2]
  unfold wl
  rw [List.map_cons, hq, he]
section CQ
variable {p : Program} {l : Launch} {e : Env} {R : Room} {s : State} {m : MethodId} {args : Array Value} {below : List Frame} {meth : Method} {c : Code} {H : Heap} {locs : List Loc} {cells slots : Nat} {Q : State → Prop}
variable {E : EV} {ad n : Nat → Nat} {L : List Nat} {σ σ1 : HS} {A : Nat → Prop} {H0 : Heap} {cc : ByteArray} {own : String} {ret : Option FieldType} {nL pc : Nat} {ls : Array Slot} {rest : List Value} {a b q : Nat} {x : Nat × va_E} {w w' : va_W}
theorem wl_atP {k a : Nat} (h : L[k]? = some a) : (x :: wl E ad n L σ)[k + 1]? = some (ad a, cel E ad n a σ) := wl_at h
theorem g_getP (cx : Cx E p s m args meth c cc own ret nL) (wo : Wo E A H0 (x :: wl E ad n L σ) H locs) (hq : ad a = q) (hm : a ∈ L) {ci N index : Nat} {C : String} {T : u_T} {fs : List Value} {v : Value} (he : cel E ad n a σ = .inr (ci, fs)) (hc : cls6[ci]? = some (C, T, N)) (hin : ∀ w ∈ u_ws C T N, w ∈ ltb) (k : Nat) (hk : k < N) (hl : Cond.fieldLink own index (T k).1 (T k).2.1 (T k).2.2.1 ∈ ltb) (hv : fs[k]? = some v) (hdg : decode cc pc = .ok (.getfield index, 3))
    (kk : W p l e R s m args below meth c H locs cells slots Q (F0 m (pc + 3) ls (v :: rest))) : W p l e R s m args below meth c H locs cells slots Q (F0 m pc ls (.ref q :: rest)) := by
  subst hq
  obtain ⟨j, hj⟩ := wl_mem hm
  exact r_get cx wo (j + 1) (by rw [wl_atP hj, he]) hc hin k hk hl hv hdg kk
theorem g_getQ (cx : Cx E p s m args meth c cc own ret nL) (wo : Wo E A H0 (wl E ad n L σ) H locs) (hq : ad a = q) (hm : a ∈ L) {ci N index : Nat} {C : String} {T : u_T} {fs : List Value} {v : Value} (he : cel E ad n a σ = .inr (ci, fs)) (hc : cls6[ci]? = some (C, T, N)) (hin : ∀ w ∈ u_ws C T N, w ∈ ltb) (k : Nat) (hk : k < N) (hl : Cond.fieldLink own index (T k).1 (T k).2.1 (T k).2.2.1 ∈ ltb) (hv : fs[k]? = some v) (hdg : decode cc pc = .ok (.getfield index, 3))
    (kk : W p l e R s m args below meth c H locs cells slots Q (F0 m (pc + 3) ls (v :: rest))) : W p l e R s m args below meth c H locs cells slots Q (F0 m pc ls (.ref q :: rest)) := by
  subst hq
  exact g_get cx wo hm he hc hin k hk hl hv hdg kk
theorem g_putQ (cx : Cx E p s m args meth c cc own ret nL) (wo : Wo E A H0 (wl E ad n L σ) H locs) (hq : ad a = q) (hm : a ∈ L) {ci N index : Nat} {C : String} {T : u_T} {fs : List Value} {v : Int32} (he : cel E ad n a σ = .inr (ci, fs)) (hc : cls6[ci]? = some (C, T, N)) (hin : ∀ w ∈ u_ws C T N, w ∈ ltb) (ty0 : Nat → FieldType) (hty : ∀ k, k < N → parseFieldDescriptor (T k).2.2.1 = some (ty0 k)) (hnm : ∀ a, a < N → ∀ b, b < N → a ≠ b → (T a).2.1 ≠ (T b).2.1) (k : Nat) (hk : k < N) (hl : Cond.fieldLink own index (T k).1 (T k).2.1 (T k).2.2.1 ∈ ltb) (hfin : (T k).2.2.2 = false) (hn : narrow (ty0 k) (.int v) = .int v) (hfit : fits (ty0 k) (.int v) = true) (hlen : k < fs.length) (he1 : cel E ad n a (stF σ a k v) = .inr (ci, fs.set k (.int v))) (hdg : decode cc pc = .ok (.putfield index, 3))
    (kk : ∀ (H1 : Heap) (locs1 : List Loc), Wo E A H0 (wl E ad n L (stF σ a k v)) H1 locs1 → W p l e R s m args below meth c H1 locs1 cells slots Q (F0 m (pc + 3) ls rest)) : W p l e R s m args below meth c H locs cells slots Q (F0 m pc ls (.int v :: .ref q :: rest)) := by
  subst hq
  exact g_put cx wo hm he hc hin ty0 hty hnm k hk hl hfin hn hfit hlen he1 hdg kk
theorem g_ialdQ (cx : Cx E p s m args meth c cc own ret nL) (wo : Wo E A H0 (wl E ad n L σ) H locs) (hq : ad a = q) (hm : a ∈ L) (he : cel E ad n a σ = .inl (E.2 0, n a, .inl (σ.1 a))) {i : Int32} (hin : inb i (n a) = true) (hdg : decode cc pc = .ok (.iaload, 1))
    (kk : W p l e R s m args below meth c H locs cells slots Q (F0 m (pc + 1) ls (.int (σ.1 a i.toNatClampNeg) :: rest))) : W p l e R s m args below meth c H locs cells slots Q (F0 m pc ls (.int i :: .ref q :: rest)) := by
  subst hq
  exact g_iald cx wo hm he hin hdg kk
theorem g_iastQ (cx : Cx E p s m args meth c cc own ret nL) (wo : Wo E A H0 (wl E ad n L σ) H locs) (hq : ad a = q) (hm : a ∈ L) (he : ∀ σ, cel E ad n a σ = .inl (E.2 0, n a, .inl (σ.1 a))) {i x : Int32} (hin : inb i (n a) = true) (hdg : decode cc pc = .ok (.iastore, 1))
    (kk : ∀ (H1 : Heap) (locs1 : List Loc), Wo E A H0 (wl E ad n L (stI σ a i.toNatClampNeg x)) H1 locs1 → W p l e R s m args below meth c H1 locs1 cells slots Q (F0 m (pc + 1) ls rest)) : W p l e R s m args below meth c H locs cells slots Q (F0 m pc ls (.int x :: .int i :: .ref q :: rest)) := by
  subst hq
  exact g_iast cx wo hm he hin hdg kk
theorem g_zastQ (cx : Cx E p s m args meth c cc own ret nL) (wo : Wo E A H0 (wl E ad n L σ) H locs) (hq : ad a = q) (hm : a ∈ L) (he : ∀ σ, cel E ad n a σ = .inl (E.2 2, n a, .inl (σ.1 a))) {i x : Int32} (hin : inb i (n a) = true) (hdg : decode cc pc = .ok (.bastore, 1))
    (kk : ∀ (H1 : Heap) (locs1 : List Loc), Wo E A H0 (wl E ad n L (stI σ a i.toNatClampNeg (vp_nar .boolean x))) H1 locs1 → W p l e R s m args below meth c H1 locs1 cells slots Q (F0 m (pc + 1) ls rest)) : W p l e R s m args below meth c H locs cells slots Q (F0 m pc ls (.int x :: .int i :: .ref q :: rest)) := by
  subst hq
  exact g_zast cx wo hm he hin hdg kk
theorem g_alenQ (cx : Cx E p s m args meth c cc own ret nL) (wo : Wo E A H0 (wl E ad n L σ) H locs) (hq : ad a = q) (hm : a ∈ L) (t0 : Nat) {cA : ClassId} {x : vp_A} (he : cel E ad n a σ = .inl (cA, x)) (hx : x.1 = n a) {ty : FieldType} (ht : (tyE E)[t0]? = some (cA, ty)) (hdg : decode cc pc = .ok (.arraylength, 1))
    (kk : W p l e R s m args below meth c H locs cells slots Q (F0 m (pc + 1) ls (.int (nI (n a)) :: rest))) : W p l e R s m args below meth c H locs cells slots Q (F0 m pc ls (.ref q :: rest)) := by
  subst hq
  exact g_alen cx wo hm t0 he hx ht hdg kk
theorem g_cpI (cx : Cx E p s m args meth c cc own ret nL) (wo : Wo E A H0 (wl E ad n L σ) H locs) {q0 q1 : Nat} (hq0 : ad a = q0) (hq1 : ad b = q1) (hm : a ∈ L) (hm1 : b ∈ L) (he : ∀ σ, cel E ad n a σ = .inl (E.2 0, n a, .inl (σ.1 a))) (he1 : ∀ σ, cel E ad n b σ = .inl (E.2 0, n b, .inl (σ.1 b))) {sp dp k : Int32} {index : Nat} (hok : cpok sp dp k (n a) (n b) = true) (hl : Cond.methodLink own index ⟨"java/lang/System", "arraycopy", "(Ljava/lang/Object;ILjava/lang/Object;II)V"⟩ ∈ ltb) (hsz : ls.size = nL)
    (hframes : 1 ≤ R.frames) (hlocals : (rest.map fun v => v.category).sum + (nativeFrameWords "java/lang/System" "arraycopy" 5 + 11) ≤ R.locals) (hdg : decode cc pc = .ok (.invokestatic index, 3))
    (kk : ∀ (H1 : Heap) (locs1 : List Loc), Wo E A H0 (wl E ad n L (cpI σ a sp.toNatClampNeg b dp.toNatClampNeg k.toNatClampNeg)) H1 locs1 → W p l e R s m args below meth c H1 locs1 cells slots Q (F0 m (pc + 3) ls rest)) : W p l e R s m args below meth c H locs cells slots Q (F0 m pc ls (.int k :: .int dp :: .ref q1 :: .int sp :: .ref q0 :: rest)) := by
  subst hq0 hq1
  obtain ⟨q0, h0⟩ := wl_mem hm
  obtain ⟨q1, h1⟩ := wl_mem hm1
  obtain ⟨k1, k2, k3, k4, k5⟩ := of_decide_eq_true hok
  have hts := cx.1.2.2.2.2
  refine va_copyi cx.1.1 cx.1.2.1 (cx.1.2.2.1.trans hsz.symm) cx.1.2.2.2.1 (hts _ hl) (hts _ wv_arraycopy) (hts _ ws_arraycopy) (hts _ wn_SY) cx.2.2.2.1 wo.1 wo.2.1 wo.2.2.1 q0 q1 0 0 (by rw [wl_at h0, he]) (by rw [wl_at h1, he1]) rfl rfl rfl k1 k2 k3 k4 k5 (fun _ _ => rfl) hframes hlocals hdg (fun H1 l1 x1 x2 x3 => ?_)
  have hw := wl_set (σ1 := cpI σ a sp.toNatClampNeg b dp.toNatClampNeg k.toNatClampNeg) wo.2.1 h1 (fun x hx => by show cond (Nat.beq x b) _ _ = _; rw [beq_ne hx]; rfl) (fun _ _ => rfl) (he1 _)
  rw [show (cpI σ a sp.toNatClampNeg b dp.toNatClampNeg k.toNatClampNeg).1 b = va_cpy (σ.1 a) (σ.1 b) sp.toNatClampNeg dp.toNatClampNeg k.toNatClampNeg by simp [cpI]] at hw
  rw [hw] at x1 x2
  exact kk H1 l1 ⟨x1, x2, x3, wo.2.2.2⟩
-- returns
theorem tN_v {l0 : Launch} {w0 : va_W} {sz : Nat} {K : (Nat → Nat) → Prop} {w1 : (Nat → Nat) → va_W} (u : Nat → Nat) (cx : Cx E p s m args meth c cc own none nL) (wo : Wo E (va_A w0 sz) s.heap (w1 u) H locs) (hK : K u) (hdg : decode cc pc = .ok (.return_, 1)) :
    W p l0 e R s m args below meth c H locs cells slots (MQ below (va_Qv (fun (u : Nat → Nat) => K u) (fun u t => va_P E.1 cls6 (w1 u) t.heap ∧ va_D (va_A w0 sz) (w1 u)) (va_A w0 sz)) args s cells slots (va_A w0 sz)) (F0 m pc ls []) := by
  have hlocks := cx.2.2.1
  exact W.vret cx.1.1 cx.1.2.1 cx.2.1 (fun t ht hW => ⟨⟨u, rfl, hK, by rw [ht]; exact wo.1, wo.2.1⟩, wo.2.2.1.F ht⟩) wo.2.2.1.2.2 hdg hlocks
theorem tN_r {l0 : Launch} {w0 : va_W} {sz c0 q : Nat} {K : (Nat → Nat) → Prop} {w1 : (Nat → Nat) → va_W} (u : Nat → Nat) (cx : Cx E p s m args meth c cc own (some (.array .int)) nL) (wo : Wo E (va_A w0 sz) s.heap (w1 u) H locs) (hK : K u) (hq : u c0 = q) (hdg : decode cc pc = .ok (.areturn, 1)) :
    W p l0 e R s m args below meth c H locs cells slots (MQ below (va_Qr (fun (u : Nat → Nat) => K u) (fun u a t => a = u c0 ∧ va_P E.1 cls6 (w1 u) t.heap ∧ va_D (va_A w0 sz) (w1 u)) (va_A w0 sz)) args s cells slots (va_A w0 sz)) (F0 m pc ls [.ref q]) := by
  have hlocks := cx.2.2.1
  exact W.aret cx.1.1 cx.1.2.1 cx.2.1 (Or.inr ⟨_, rfl⟩) (Or.inr ⟨q, rfl⟩) (fun t ht hW => ⟨⟨u, q, rfl, hK, hq.symm, by rw [ht]; exact wo.1, wo.2.1⟩, wo.2.2.1.F ht⟩) wo.2.2.1.2.2 hdg hlocks
end CQ
