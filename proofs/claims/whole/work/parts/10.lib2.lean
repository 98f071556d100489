def jn {α β : Type} (k : α) (f : α → β) : β := f k
theorem jn_s {α β : Type} {k : α} {f : α → Option β} {R : β} (h : jn k f = some R) : ∃ j, j = k ∧ f j = some R := ⟨k, rfl, h⟩
def nm2 {α β γ : Type} (q : α × β) (k : α → β → γ) : γ := k q.1 q.2
theorem isB_f {x : Int32} (h : isB x = true) : fits .boolean (.int x) = true := by
  rcases of_decide_eq_true h with h | h <;> subst h <;> rfl
def cpok (sp dp k : Int32) (n0 n1 : Nat) : Bool := decide (¬ sp < 0 ∧ ¬ dp < 0 ∧ ¬ k < 0 ∧ sp.toNatClampNeg + k.toNatClampNeg ≤ n0 ∧ dp.toNatClampNeg + k.toNatClampNeg ≤ n1)
def cpL (σ : HS) (a sp b dp k : Nat) : HS := (σ.1, fun x => cond (Nat.beq x b) (va_cpy (σ.2 a) (σ.2 b) sp dp k) (σ.2 x))
def cpI (σ : HS) (a sp b dp k : Nat) : HS := (fun x => cond (Nat.beq x b) (va_cpy (σ.1 a) (σ.1 b) sp dp k) (σ.1 x), σ.2)
section CP
variable {p : Program} {l : Launch} {e : Env} {R : Room} {s : State} {m : MethodId} {args : Array Value} {below : List Frame} {meth : Method} {c : Code} {H : Heap} {locs : List Loc} {cells slots : Nat} {Q : State → Prop}
variable {E : EV} {ad n : Nat → Nat} {L : List Nat} {σ σ1 : HS} {A : Nat → Prop} {H0 : Heap} {cc : ByteArray} {own : String} {ret : Option FieldType} {nL pc : Nat} {ls : Array Slot} {rest : List Value} {a b : Nat}
theorem g_cpJ (cx : Cx E p s m args meth c cc own ret nL) (wo : Wo E A H0 (wl E ad n L σ) H locs) (hm : a ∈ L) (hm1 : b ∈ L) (he : ∀ σ, cel E ad n a σ = .inl (E.2 1, n a, .inr (.inl (σ.2 a)))) (he1 : ∀ σ, cel E ad n b σ = .inl (E.2 1, n b, .inr (.inl (σ.2 b)))) {sp dp k : Int32} {index : Nat} (hok : cpok sp dp k (n a) (n b) = true) (hl : Cond.methodLink own index ⟨"java/lang/System", "arraycopy", "(Ljava/lang/Object;ILjava/lang/Object;II)V"⟩ ∈ ltb) (hsz : ls.size = nL)
    (hframes : 1 ≤ R.frames) (hlocals : (rest.map fun v => v.category).sum + (nativeFrameWords "java/lang/System" "arraycopy" 5 + 11) ≤ R.locals) (hdg : decode cc pc = .ok (.invokestatic index, 3))
    (kk : ∀ (H1 : Heap) (locs1 : List Loc), Wo E A H0 (wl E ad n L (cpL σ a sp.toNatClampNeg b dp.toNatClampNeg k.toNatClampNeg)) H1 locs1 → W p l e R s m args below meth c H1 locs1 cells slots Q (F0 m (pc + 3) ls rest)) : W p l e R s m args below meth c H locs cells slots Q (F0 m pc ls (.int k :: .int dp :: .ref (ad b) :: .int sp :: .ref (ad a) :: rest)) := by
  obtain ⟨q0, h0⟩ := wl_mem hm
  obtain ⟨q1, h1⟩ := wl_mem hm1
  obtain ⟨k1, k2, k3, k4, k5⟩ := of_decide_eq_true hok
  have hts := cx.1.2.2.2.2
  refine va_copyl cx.1.1 cx.1.2.1 (cx.1.2.2.1.trans hsz.symm) cx.1.2.2.2.1 (hts _ hl) (hts _ wv_arraycopy) (hts _ ws_arraycopy) (hts _ wn_SY) cx.2.2.2.1 wo.1 wo.2.1 wo.2.2.1 q0 q1 1 1 (by rw [wl_at h0, he]) (by rw [wl_at h1, he1]) rfl rfl rfl k1 k2 k3 k4 k5 (fun _ _ => rfl) hframes hlocals hdg (fun H1 l1 x1 x2 x3 => ?_)
  have hw := wl_set (σ1 := cpL σ a sp.toNatClampNeg b dp.toNatClampNeg k.toNatClampNeg) wo.2.1 h1 (fun _ _ => rfl) (fun x hx => by show cond (Nat.beq x b) _ _ = _; rw [beq_ne hx]; rfl) (he1 _)
  rw [show (cpL σ a sp.toNatClampNeg b dp.toNatClampNeg k.toNatClampNeg).2 b = va_cpy (σ.2 a) (σ.2 b) sp.toNatClampNeg dp.toNatClampNeg k.toNatClampNeg by simp [cpL]] at hw
  rw [hw] at x1 x2
  exact kk H1 l1 ⟨x1, x2, x3, wo.2.2.2⟩
end CP

theorem mw_LA_homes : MwS y_LA_homes c_LA_homes 8 (some (FieldType.array FieldType.int)) 2 := ⟨ws_LA_homes, wn_LA, wo_LA_homes, by decide +kernel⟩
theorem mw_LA_stepsOf : MwS y_LA_stepsOf c_LA_stepsOf 4 (some (FieldType.array FieldType.int)) 1 := ⟨ws_LA_stepsOf, wn_LA, wo_LA_stepsOf, by decide +kernel⟩
theorem mw_LA_haveNoDivisorInCommon : MwS y_LA_haveNoDivisorInCommon c_LA_haveNoDivisorInCommon 3 (some FieldType.boolean) 2 := ⟨ws_LA_haveNoDivisorInCommon, wn_LA, wo_LA_haveNoDivisorInCommon, by decide +kernel⟩
theorem mw_AR_copyOf : MwS y_AR_copyOf c_AR_copyOf 3 (some (FieldType.array FieldType.int)) 2 := ⟨ws_AR_copyOf, wn_AR, wo_AR_copyOf, by decide +kernel⟩
theorem mw_MA_min : MwS y_MA_min c_MA_min 2 (some FieldType.int) 2 := ⟨ws_MA_min, wn_MA, wo_MA_min, by decide +kernel⟩
theorem mw_RK_writeAll : MwV y_RK_writeAll c_RK_writeAll 5 none 0 := ⟨wi_RK_writeAll, wl_RK_writeAll, wn_RK, wo_RK_writeAll, by decide +kernel⟩
theorem mw_RK_store : MwV y_RK_store c_RK_store 6 none 3 := ⟨wi_RK_store, wl_RK_store, wn_RK, wo_RK_store, by decide +kernel⟩
theorem mw_RK_checkOf : MwV y_RK_checkOf c_RK_checkOf 5 (some FieldType.int) 1 := ⟨wi_RK_checkOf, wl_RK_checkOf, wn_RK, wo_RK_checkOf, by decide +kernel⟩
theorem mw_LA_slot : MwV y_LA_slot c_LA_slot 3 (some FieldType.int) 2 := ⟨wi_LA_slot, wl_LA_slot, wn_LA, wo_LA_slot, by decide +kernel⟩
theorem mw_RK_storeLike : MwV y_RK_storeLike c_RK_storeLike 3 none 2 := ⟨wi_RK_storeLike, wl_RK_storeLike, wn_RK, wo_RK_storeLike, by decide +kernel⟩
theorem mw_LA_logOf : MwV y_LA_logOf c_LA_logOf 2 (some FieldType.int) 1 := ⟨wi_LA_logOf, wl_LA_logOf, wn_LA, wo_LA_logOf, by decide +kernel⟩
theorem mw_LA_cell : MwV y_LA_cell c_LA_cell 3 (some FieldType.int) 2 := ⟨wi_LA_cell, wl_LA_cell, wn_LA, wo_LA_cell, by decide +kernel⟩
theorem mw_PL_find : MwV y_PL_find c_PL_find 4 none 0 := ⟨wi_PL_find, wl_PL_find, wn_PL, wo_PL_find, by decide +kernel⟩
theorem mw_AR_fillI : MwS y_AR_fillI c_AR_fillI 4 none 2 := ⟨ws_AR_fillI, wn_AR, wo_AR_fillI, by decide +kernel⟩
theorem mw_PL_found : MwV y_PL_found c_PL_found 5 (some FieldType.int) 2 := ⟨wi_PL_found, wl_PL_found, wn_PL, wo_PL_found, by decide +kernel⟩
theorem mw_RK_isWritten : MwV y_RK_isWritten c_RK_isWritten 2 (some FieldType.boolean) 1 := ⟨wi_RK_isWritten, wl_RK_isWritten, wn_RK, wo_RK_isWritten, by decide +kernel⟩
theorem mw_RK_isValid : MwV y_RK_isValid c_RK_isValid 2 (some FieldType.boolean) 1 := ⟨wi_RK_isValid, wl_RK_isValid, wn_RK, wo_RK_isValid, by decide +kernel⟩
theorem mw_RK_tag : MwV y_RK_tag c_RK_tag 2 (some FieldType.int) 1 := ⟨wi_RK_tag, wl_RK_tag, wn_RK, wo_RK_tag, by decide +kernel⟩
theorem mw_LA_tagOf : MwV y_LA_tagOf c_LA_tagOf 2 (some FieldType.int) 1 := ⟨wi_LA_tagOf, wl_LA_tagOf, wn_LA, wo_LA_tagOf, by decide +kernel⟩
theorem mw_LW_cell : MwS y_LW_cell c_LW_cell 2 (some FieldType.int) 2 := ⟨ws_LW_cell, wn_LW, wo_LW_cell, by decide +kernel⟩
theorem mw_SF_feed : MwV y_SF_feed c_SF_feed 4 (some FieldType.int) 2 := ⟨wi_SF_feed, wl_SF_feed, wn_SF, wo_SF_feed, by decide +kernel⟩
theorem mw_SF_xorBytes : MwS y_SF_xorBytes c_SF_xorBytes 9 none 5 := ⟨ws_SF_xorBytes, wn_SF, wo_SF_xorBytes, by decide +kernel⟩
theorem mw_SF_write : MwV y_SF_write c_SF_write 2 (some FieldType.boolean) 1 := ⟨wi_SF_write, wl_SF_write, wn_SF, wo_SF_write, by decide +kernel⟩
theorem mw_SF_takeTape : MwV y_SF_takeTape c_SF_takeTape 1 none 0 := ⟨wi_SF_takeTape, wl_SF_takeTape, wn_SF, wo_SF_takeTape, by decide +kernel⟩
theorem mw_AR_fillJ : MwS y_AR_fillJ c_AR_fillJ 5 none 2 := ⟨ws_AR_fillJ, wn_AR, wo_AR_fillJ, by decide +kernel⟩
theorem mw_LA_stripeOfBlock : MwV y_LA_stripeOfBlock c_LA_stripeOfBlock 2 (some FieldType.int) 1 := ⟨wi_LA_stripeOfBlock, wl_LA_stripeOfBlock, wn_LA, wo_LA_stripeOfBlock, by decide +kernel⟩
theorem mw_LA_columnOfBlock : MwV y_LA_columnOfBlock c_LA_columnOfBlock 2 (some FieldType.int) 1 := ⟨wi_LA_columnOfBlock, wl_LA_columnOfBlock, wn_LA, wo_LA_columnOfBlock, by decide +kernel⟩
theorem mw_SF_writeFresh : MwV y_SF_writeFresh c_SF_writeFresh 4 (some FieldType.boolean) 2 := ⟨wi_SF_writeFresh, wl_SF_writeFresh, wn_SF, wo_SF_writeFresh, by decide +kernel⟩
theorem mw_SF_placeOf : MwV y_SF_placeOf c_SF_placeOf 3 (some FieldType.int) 2 := ⟨wi_SF_placeOf, wl_SF_placeOf, wn_SF, wo_SF_placeOf, by decide +kernel⟩
theorem mw_LA_slotOf : MwV y_LA_slotOf c_LA_slotOf 3 (some FieldType.int) 2 := ⟨wi_LA_slotOf, wl_LA_slotOf, wn_LA, wo_LA_slotOf, by decide +kernel⟩
theorem mw_SF_putColumn : MwV y_SF_putColumn c_SF_putColumn 5 (some FieldType.boolean) 3 := ⟨wi_SF_putColumn, wl_SF_putColumn, wn_SF, wo_SF_putColumn, by decide +kernel⟩
theorem mw_SF_putCell : MwV y_SF_putCell c_SF_putCell 4 (some FieldType.boolean) 3 := ⟨wi_SF_putCell, wl_SF_putCell, wn_SF, wo_SF_putCell, by decide +kernel⟩
theorem mw_PW_spendWrite : MwV y_PW_spendWrite c_PW_spendWrite 1 (some FieldType.boolean) 0 := ⟨wi_PW_spendWrite, wl_PW_spendWrite, wn_PW, wo_PW_spendWrite, by decide +kernel⟩
theorem mw_PW_cut : MwV y_PW_cut c_PW_cut 1 none 0 := ⟨wi_PW_cut, wl_PW_cut, wn_PW, wo_PW_cut, by decide +kernel⟩
theorem mw_SF_addRead : MwV y_SF_addRead c_SF_addRead 4 none 2 := ⟨wi_SF_addRead, wl_SF_addRead, wn_SF, wo_SF_addRead, by decide +kernel⟩
theorem mw_RK_addTo : MwV y_RK_addTo c_RK_addTo 4 none 2 := ⟨wi_RK_addTo, wl_RK_addTo, wn_RK, wo_RK_addTo, by decide +kernel⟩
theorem mw_SF_addOthers : MwV y_SF_addOthers c_SF_addOthers 5 none 2 := ⟨wi_SF_addOthers, wl_SF_addOthers, wn_SF, wo_SF_addOthers, by decide +kernel⟩
theorem mw_SF_addFresh : MwV y_SF_addFresh c_SF_addFresh 2 none 0 := ⟨wi_SF_addFresh, wl_SF_addFresh, wn_SF, wo_SF_addFresh, by decide +kernel⟩
theorem mw_SF_writeLogged : MwV y_SF_writeLogged c_SF_writeLogged 4 (some FieldType.boolean) 2 := ⟨wi_SF_writeLogged, wl_SF_writeLogged, wn_SF, wo_SF_writeLogged, by decide +kernel⟩
theorem mw_LA_diskOf : MwV y_LA_diskOf c_LA_diskOf 2 (some FieldType.int) 1 := ⟨wi_LA_diskOf, wl_LA_diskOf, wn_LA, wo_LA_diskOf, by decide +kernel⟩
theorem mw_SF_read : MwV y_SF_read c_SF_read 3 (some FieldType.long) 2 := ⟨wi_SF_read, wl_SF_read, wn_SF, wo_SF_read, by decide +kernel⟩
theorem mw_SF_lose : MwV y_SF_lose c_SF_lose 2 none 1 := ⟨wi_SF_lose, wl_SF_lose, wn_SF, wo_SF_lose, by decide +kernel⟩
theorem mw_SF_off : MwV y_SF_off c_SF_off 1 none 0 := ⟨wi_SF_off, wl_SF_off, wn_SF, wo_SF_off, by decide +kernel⟩
theorem mw_SF_open : MwV y_SF_open c_SF_open 1 (some FieldType.boolean) 0 := ⟨wi_SF_open, wl_SF_open, wn_SF, wo_SF_open, by decide +kernel⟩
theorem mw_SF_replayLogs : MwV y_SF_replayLogs c_SF_replayLogs 4 (some FieldType.boolean) 0 := ⟨wi_SF_replayLogs, wl_SF_replayLogs, wn_SF, wo_SF_replayLogs, by decide +kernel⟩
theorem mw_SF_replayLog : MwV y_SF_replayLog c_SF_replayLog 6 (some FieldType.boolean) 3 := ⟨wi_SF_replayLog, wl_SF_replayLog, wn_SF, wo_SF_replayLog, by decide +kernel⟩
theorem mw_SF_canReplay : MwV y_SF_canReplay c_SF_canReplay 5 (some FieldType.boolean) 3 := ⟨wi_SF_canReplay, wl_SF_canReplay, wn_SF, wo_SF_canReplay, by decide +kernel⟩
theorem mw_SF_clearFreeSpares : MwV y_SF_clearFreeSpares c_SF_clearFreeSpares 5 (some FieldType.boolean) 0 := ⟨wi_SF_clearFreeSpares, wl_SF_clearFreeSpares, wn_SF, wo_SF_clearFreeSpares, by decide +kernel⟩
theorem mw_SF_fail : MwV y_SF_fail c_SF_fail 2 (some FieldType.boolean) 1 := ⟨wi_SF_fail, wl_SF_fail, wn_SF, wo_SF_fail, by decide +kernel⟩
theorem mw_SF_findPlacesIfOff : MwV y_SF_findPlacesIfOff c_SF_findPlacesIfOff 1 none 0 := ⟨wi_SF_findPlacesIfOff, wl_SF_findPlacesIfOff, wn_SF, wo_SF_findPlacesIfOff, by decide +kernel⟩
theorem mw_SF_wouldBreakWithout : MwV y_SF_wouldBreakWithout c_SF_wouldBreakWithout 6 (some FieldType.boolean) 1 := ⟨wi_SF_wouldBreakWithout, wl_SF_wouldBreakWithout, wn_SF, wo_SF_wouldBreakWithout, by decide +kernel⟩
theorem mw_RK_removeDisk : MwV y_RK_removeDisk c_RK_removeDisk 4 none 1 := ⟨wi_RK_removeDisk, wl_RK_removeDisk, wn_RK, wo_RK_removeDisk, by decide +kernel⟩
theorem mw_PL_dropDisk : MwV y_PL_dropDisk c_PL_dropDisk 4 none 1 := ⟨wi_PL_dropDisk, wl_PL_dropDisk, wn_PL, wo_PL_dropDisk, by decide +kernel⟩
theorem mw_SF_replace : MwV y_SF_replace c_SF_replace 2 (some FieldType.boolean) 1 := ⟨wi_SF_replace, wl_SF_replace, wn_SF, wo_SF_replace, by decide +kernel⟩
theorem mw_SF_spoil : MwV y_SF_spoil c_SF_spoil 8 (some FieldType.boolean) 5 := ⟨wi_SF_spoil, wl_SF_spoil, wn_SF, wo_SF_spoil, by decide +kernel⟩
theorem mw_SF_lowestBytes : MwS y_SF_lowestBytes c_SF_lowestBytes 3 (some FieldType.long) 2 := ⟨ws_SF_lowestBytes, wn_SF, wo_SF_lowestBytes, by decide +kernel⟩
theorem mw_SF_spoilPlace : MwV y_SF_spoilPlace c_SF_spoilPlace 7 (some FieldType.boolean) 4 := ⟨wi_SF_spoilPlace, wl_SF_spoilPlace, wn_SF, wo_SF_spoilPlace, by decide +kernel⟩
theorem mw_RK_damage : MwV y_RK_damage c_RK_damage 8 none 4 := ⟨wi_RK_damage, wl_RK_damage, wn_RK, wo_RK_damage, by decide +kernel⟩
theorem mw_RK_isAsWritten : MwV y_RK_isAsWritten c_RK_isAsWritten 3 (some FieldType.boolean) 1 := ⟨wi_RK_isAsWritten, wl_RK_isAsWritten, wn_RK, wo_RK_isAsWritten, by decide +kernel⟩
theorem mw_SF_othersAreValid : MwV y_SF_othersAreValid c_SF_othersAreValid 5 (some FieldType.boolean) 1 := ⟨wi_SF_othersAreValid, wl_SF_othersAreValid, wn_SF, wo_SF_othersAreValid, by decide +kernel⟩
theorem mw_LA_stripeOfSlot : MwV y_LA_stripeOfSlot c_LA_stripeOfSlot 2 (some FieldType.int) 1 := ⟨wi_LA_stripeOfSlot, wl_LA_stripeOfSlot, wn_LA, wo_LA_stripeOfSlot, by decide +kernel⟩
theorem mw_LA_columnOfSlot : MwV y_LA_columnOfSlot c_LA_columnOfSlot 2 (some FieldType.int) 1 := ⟨wi_LA_columnOfSlot, wl_LA_columnOfSlot, wn_LA, wo_LA_columnOfSlot, by decide +kernel⟩
theorem mw_SF_rebuild : MwV y_SF_rebuild c_SF_rebuild 4 (some FieldType.int) 0 := ⟨wi_SF_rebuild, wl_SF_rebuild, wn_SF, wo_SF_rebuild, by decide +kernel⟩
theorem mw_PL_firstFreeSpare : MwV y_PL_firstFreeSpare c_PL_firstFreeSpare 4 (some FieldType.int) 1 := ⟨wi_PL_firstFreeSpare, wl_PL_firstFreeSpare, wn_PL, wo_PL_firstFreeSpare, by decide +kernel⟩
theorem mw_PL_isFree : MwV y_PL_isFree c_PL_isFree 2 (some FieldType.boolean) 1 := ⟨wi_PL_isFree, wl_PL_isFree, wn_PL, wo_PL_isFree, by decide +kernel⟩
theorem mw_PL_firstToRebuild : MwV y_PL_firstToRebuild c_PL_firstToRebuild 4 (some FieldType.int) 1 := ⟨wi_PL_firstToRebuild, wl_PL_firstToRebuild, wn_PL, wo_PL_firstToRebuild, by decide +kernel⟩
theorem mw_SF_moveTo : MwV y_SF_moveTo c_SF_moveTo 3 (some FieldType.boolean) 2 := ⟨wi_SF_moveTo, wl_SF_moveTo, wn_SF, wo_SF_moveTo, by decide +kernel⟩
theorem mw_PL_move : MwV y_PL_move c_PL_move 3 none 2 := ⟨wi_PL_move, wl_PL_move, wn_PL, wo_PL_move, by decide +kernel⟩
theorem mw_SF_copyBack : MwV y_SF_copyBack c_SF_copyBack 3 (some FieldType.int) 0 := ⟨wi_SF_copyBack, wl_SF_copyBack, wn_SF, wo_SF_copyBack, by decide +kernel⟩
theorem mw_PL_firstToCopyBack : MwV y_PL_firstToCopyBack c_PL_firstToCopyBack 5 (some FieldType.int) 0 := ⟨wi_PL_firstToCopyBack, wl_PL_firstToCopyBack, wn_PL, wo_PL_firstToCopyBack, by decide +kernel⟩
theorem mw_SF_scrub : MwV y_SF_scrub c_SF_scrub 3 (some FieldType.int) 0 := ⟨wi_SF_scrub, wl_SF_scrub, wn_SF, wo_SF_scrub, by decide +kernel⟩
theorem mw_SF_spoiltColumn : MwV y_SF_spoiltColumn c_SF_spoiltColumn 4 (some FieldType.int) 1 := ⟨wi_SF_spoiltColumn, wl_SF_spoiltColumn, wn_SF, wo_SF_spoiltColumn, by decide +kernel⟩
theorem mw_SF_isHole : MwV y_SF_isHole c_SF_isHole 4 (some FieldType.boolean) 1 := ⟨wi_SF_isHole, wl_SF_isHole, wn_SF, wo_SF_isHole, by decide +kernel⟩
theorem mw_SF_look : MwV y_SF_look c_SF_look 2 (some FieldType.int) 1 := ⟨wi_SF_look, wl_SF_look, wn_SF, wo_SF_look, by decide +kernel⟩
theorem mw_PL_countLost : MwV y_PL_countLost c_PL_countLost 1 (some FieldType.int) 0 := ⟨wi_PL_countLost, wl_PL_countLost, wn_PL, wo_PL_countLost, by decide +kernel⟩
theorem mw_PL_countPlaces : MwV y_PL_countPlaces c_PL_countPlaces 4 (some FieldType.int) 1 := ⟨wi_PL_countPlaces, wl_PL_countPlaces, wn_PL, wo_PL_countPlaces, by decide +kernel⟩
theorem mw_PL_countSpoilt : MwV y_PL_countSpoilt c_PL_countSpoilt 1 (some FieldType.int) 0 := ⟨wi_PL_countSpoilt, wl_PL_countSpoilt, wn_PL, wo_PL_countSpoilt, by decide +kernel⟩
theorem mw_PL_countFreeSpares : MwV y_PL_countFreeSpares c_PL_countFreeSpares 4 (some FieldType.int) 0 := ⟨wi_PL_countFreeSpares, wl_PL_countFreeSpares, wn_PL, wo_PL_countFreeSpares, by decide +kernel⟩
theorem mw_RK_countLive : MwV y_RK_countLive c_RK_countLive 3 (some FieldType.int) 0 := ⟨wi_RK_countLive, wl_RK_countLive, wn_RK, wo_RK_countLive, by decide +kernel⟩
theorem mw_SF_place : MwV y_SF_place c_SF_place 4 (some FieldType.int) 2 := ⟨wi_SF_place, wl_SF_place, wn_SF, wo_SF_place, by decide +kernel⟩
theorem mw_MD_at : MwS y_MD_at c_MD_at 2 (some FieldType.int) 2 := ⟨ws_MD_at, wn_MD, wo_MD_at, by decide +kernel⟩
theorem mw_MD_diskOf : MwV y_MD_diskOf c_MD_diskOf 3 (some FieldType.int) 2 := ⟨wi_MD_diskOf, wl_MD_diskOf, wn_MD, wo_MD_diskOf, by decide +kernel⟩
theorem mw_MD_thrown : MwV y_MD_thrown c_MD_thrown 1 (some FieldType.int) 0 := ⟨wi_MD_thrown, wl_MD_thrown, wn_MD, wo_MD_thrown, by decide +kernel⟩
theorem mw_MD_feed : MwV y_MD_feed c_MD_feed 5 (some FieldType.int) 2 := ⟨wi_MD_feed, wl_MD_feed, wn_MD, wo_MD_feed, by decide +kernel⟩
theorem mw_MD_fails : MwV y_MD_fails c_MD_fails 3 (some FieldType.boolean) 2 := ⟨wi_MD_fails, wl_MD_fails, wn_MD, wo_MD_fails, by decide +kernel⟩
theorem mw_MD_write : MwV y_MD_write c_MD_write 3 (some FieldType.boolean) 1 := ⟨wi_MD_write, wl_MD_write, wn_MD, wo_MD_write, by decide +kernel⟩
theorem mw_MD_blocks : MwV y_MD_blocks c_MD_blocks 1 (some FieldType.int) 0 := ⟨wi_MD_blocks, wl_MD_blocks, wn_MD, wo_MD_blocks, by decide +kernel⟩
theorem mw_MD_writes : MwV y_MD_writes c_MD_writes 9 (some FieldType.boolean) 1 := ⟨wi_MD_writes, wl_MD_writes, wn_MD, wo_MD_writes, by decide +kernel⟩
theorem mw_MD_placeOf : MwV y_MD_placeOf c_MD_placeOf 3 (some FieldType.int) 2 := ⟨wi_MD_placeOf, wl_MD_placeOf, wn_MD, wo_MD_placeOf, by decide +kernel⟩
theorem mw_MD_found : MwV y_MD_found c_MD_found 6 (some FieldType.int) 2 := ⟨wi_MD_found, wl_MD_found, wn_MD, wo_MD_found, by decide +kernel⟩
theorem mw_MD_isValid : MwV y_MD_isValid c_MD_isValid 5 (some FieldType.boolean) 2 := ⟨wi_MD_isValid, wl_MD_isValid, wn_MD, wo_MD_isValid, by decide +kernel⟩
theorem mw_MD_puts : MwV y_MD_puts c_MD_puts 5 (some FieldType.boolean) 3 := ⟨wi_MD_puts, wl_MD_puts, wn_MD, wo_MD_puts, by decide +kernel⟩
theorem mw_MD_becomes : MwV y_MD_becomes c_MD_becomes 3 none 1 := ⟨wi_MD_becomes, wl_MD_becomes, wn_MD, wo_MD_becomes, by decide +kernel⟩
theorem mw_MD_read : MwV y_MD_read c_MD_read 6 (some FieldType.long) 2 := ⟨wi_MD_read, wl_MD_read, wn_MD, wo_MD_read, by decide +kernel⟩
theorem mw_MD_lose : MwV y_MD_lose c_MD_lose 2 none 1 := ⟨wi_MD_lose, wl_MD_lose, wn_MD, wo_MD_lose, by decide +kernel⟩
theorem mw_MD_off : MwV y_MD_off c_MD_off 1 none 0 := ⟨wi_MD_off, wl_MD_off, wn_MD, wo_MD_off, by decide +kernel⟩
theorem mw_MD_open : MwV y_MD_open c_MD_open 3 (some FieldType.boolean) 0 := ⟨wi_MD_open, wl_MD_open, wn_MD, wo_MD_open, by decide +kernel⟩
theorem mw_MD_opens : MwV y_MD_opens c_MD_opens 4 (some FieldType.boolean) 0 := ⟨wi_MD_opens, wl_MD_opens, wn_MD, wo_MD_opens, by decide +kernel⟩
theorem mw_MD_unlogs : MwV y_MD_unlogs c_MD_unlogs 9 (some FieldType.boolean) 1 := ⟨wi_MD_unlogs, wl_MD_unlogs, wn_MD, wo_MD_unlogs, by decide +kernel⟩
theorem mw_MD_holder : MwV y_MD_holder c_MD_holder 4 (some FieldType.int) 2 := ⟨wi_MD_holder, wl_MD_holder, wn_MD, wo_MD_holder, by decide +kernel⟩
theorem mw_MD_fail : MwV y_MD_fail c_MD_fail 5 (some FieldType.boolean) 1 := ⟨wi_MD_fail, wl_MD_fail, wn_MD, wo_MD_fail, by decide +kernel⟩
theorem mw_MD_isNeeded : MwV y_MD_isNeeded c_MD_isNeeded 4 (some FieldType.boolean) 1 := ⟨wi_MD_isNeeded, wl_MD_isNeeded, wn_MD, wo_MD_isNeeded, by decide +kernel⟩
theorem mw_MD_bad : MwV y_MD_bad c_MD_bad 8 (some FieldType.int) 3 := ⟨wi_MD_bad, wl_MD_bad, wn_MD, wo_MD_bad, by decide +kernel⟩
theorem mw_MD_isSpoilt : MwV y_MD_isSpoilt c_MD_isSpoilt 4 (some FieldType.boolean) 2 := ⟨wi_MD_isSpoilt, wl_MD_isSpoilt, wn_MD, wo_MD_isSpoilt, by decide +kernel⟩
theorem mw_MD_replace : MwV y_MD_replace c_MD_replace 4 (some FieldType.boolean) 1 := ⟨wi_MD_replace, wl_MD_replace, wn_MD, wo_MD_replace, by decide +kernel⟩
theorem mw_MD_spoil : MwV y_MD_spoil c_MD_spoil 9 (some FieldType.boolean) 5 := ⟨wi_MD_spoil, wl_MD_spoil, wn_MD, wo_MD_spoil, by decide +kernel⟩
theorem mw_MD_turn : MwV y_MD_turn c_MD_turn 6 none 3 := ⟨wi_MD_turn, wl_MD_turn, wn_MD, wo_MD_turn, by decide +kernel⟩
theorem mw_MD_isUnseen : MwV y_MD_isUnseen c_MD_isUnseen 6 (some FieldType.boolean) 1 := ⟨wi_MD_isUnseen, wl_MD_isUnseen, wn_MD, wo_MD_isUnseen, by decide +kernel⟩
theorem mw_MD_rebuild : MwV y_MD_rebuild c_MD_rebuild 4 (some FieldType.int) 0 := ⟨wi_MD_rebuild, wl_MD_rebuild, wn_MD, wo_MD_rebuild, by decide +kernel⟩
theorem mw_MD_freeSpare : MwV y_MD_freeSpare c_MD_freeSpare 3 (some FieldType.int) 1 := ⟨wi_MD_freeSpare, wl_MD_freeSpare, wn_MD, wo_MD_freeSpare, by decide +kernel⟩
theorem mw_MD_copyBack : MwV y_MD_copyBack c_MD_copyBack 5 (some FieldType.int) 0 := ⟨wi_MD_copyBack, wl_MD_copyBack, wn_MD, wo_MD_copyBack, by decide +kernel⟩
theorem mw_MD_scrub : MwV y_MD_scrub c_MD_scrub 4 (some FieldType.int) 0 := ⟨wi_MD_scrub, wl_MD_scrub, wn_MD, wo_MD_scrub, by decide +kernel⟩
theorem mw_MD_look : MwV y_MD_look c_MD_look 4 (some FieldType.int) 1 := ⟨wi_MD_look, wl_MD_look, wn_MD, wo_MD_look, by decide +kernel⟩
theorem mw_MD_count : MwV y_MD_count c_MD_count 6 (some FieldType.int) 1 := ⟨wi_MD_count, wl_MD_count, wn_MD, wo_MD_count, by decide +kernel⟩
theorem mw_MD_place : MwV y_MD_place c_MD_place 3 (some FieldType.int) 2 := ⟨wi_MD_place, wl_MD_place, wn_MD, wo_MD_place, by decide +kernel⟩
