section
-- ===== PART A: goes FIRST, ahead of the names: the tables' words, and 'selects' of the private methods out of them =====
/-- a private method of a class that the tables say can be made, by its rows of tables_1 -/
def lw_okq (q : MethodName × Nat) : Prop := (q.1.cls ≠ "java/lang/invoke/MethodHandle" ∧ q.1.cls ≠ "java/lang/invoke/VarHandle") ∧ Cond.instantiable q.1.cls q.2 ∈ tables_1 ∧ Cond.privateMethod q.1 ∈ tables_1 ∧ Cond.instanceMethod q.1 ∈ tables_1
theorem lw_p0 : lw_okq (⟨"StripeField$Rack", "writeAll", "()V"⟩, 6) := ⟨⟨by decide +kernel, by decide +kernel⟩, List.mem_of_getElem? (i := 105) (by decide +kernel), List.mem_of_getElem? (i := 111) (by decide +kernel), List.mem_of_getElem? (i := 112) (by decide +kernel)⟩
theorem lw_p1 : lw_okq (⟨"StripeField$Rack", "checkOf", "(I)I"⟩, 6) := ⟨⟨by decide +kernel, by decide +kernel⟩, List.mem_of_getElem? (i := 105) (by decide +kernel), List.mem_of_getElem? (i := 119) (by decide +kernel), List.mem_of_getElem? (i := 120) (by decide +kernel)⟩
theorem lw_p2 : lw_okq (⟨"StripeField$Rack", "storeLike", "(II)V"⟩, 6) := ⟨⟨by decide +kernel, by decide +kernel⟩, List.mem_of_getElem? (i := 105) (by decide +kernel), List.mem_of_getElem? (i := 129) (by decide +kernel), List.mem_of_getElem? (i := 130) (by decide +kernel)⟩
theorem lw_p3 : lw_okq (⟨"StripeField$Places", "found", "(II)I"⟩, 4) := ⟨⟨by decide +kernel, by decide +kernel⟩, List.mem_of_getElem? (i := 165) (by decide +kernel), List.mem_of_getElem? (i := 179) (by decide +kernel), List.mem_of_getElem? (i := 180) (by decide +kernel)⟩
theorem lw_p4 : lw_okq (⟨"java/lang/Throwable", "fillInStackTrace", "(I)Ljava/lang/Throwable;"⟩, 6) := ⟨⟨by decide +kernel, by decide +kernel⟩, List.mem_of_getElem? (i := 317) (by decide +kernel), List.mem_of_getElem? (i := 315) (by decide +kernel), List.mem_of_getElem? (i := 316) (by decide +kernel)⟩
theorem lw_p5 : lw_okq (⟨"StripeField", "takeTape", "()V"⟩, 11) := ⟨⟨by decide +kernel, by decide +kernel⟩, List.mem_of_getElem? (i := 16) (by decide +kernel), List.mem_of_getElem? (i := 376) (by decide +kernel), List.mem_of_getElem? (i := 377) (by decide +kernel)⟩
theorem lw_p6 : lw_okq (⟨"StripeField", "writeFresh", "(II)Z"⟩, 11) := ⟨⟨by decide +kernel, by decide +kernel⟩, List.mem_of_getElem? (i := 16) (by decide +kernel), List.mem_of_getElem? (i := 392) (by decide +kernel), List.mem_of_getElem? (i := 393) (by decide +kernel)⟩
theorem lw_p7 : lw_okq (⟨"StripeField", "placeOf", "(II)I"⟩, 11) := ⟨⟨by decide +kernel, by decide +kernel⟩, List.mem_of_getElem? (i := 16) (by decide +kernel), List.mem_of_getElem? (i := 396) (by decide +kernel), List.mem_of_getElem? (i := 397) (by decide +kernel)⟩
theorem lw_p8 : lw_okq (⟨"StripeField", "putColumn", "(II[J)Z"⟩, 11) := ⟨⟨by decide +kernel, by decide +kernel⟩, List.mem_of_getElem? (i := 16) (by decide +kernel), List.mem_of_getElem? (i := 405) (by decide +kernel), List.mem_of_getElem? (i := 406) (by decide +kernel)⟩
theorem lw_p9 : lw_okq (⟨"StripeField", "putCell", "(I[JI)Z"⟩, 11) := ⟨⟨by decide +kernel, by decide +kernel⟩, List.mem_of_getElem? (i := 16) (by decide +kernel), List.mem_of_getElem? (i := 410) (by decide +kernel), List.mem_of_getElem? (i := 411) (by decide +kernel)⟩
theorem lw_p10 : lw_okq (⟨"StripeField", "addRead", "(II)V"⟩, 11) := ⟨⟨by decide +kernel, by decide +kernel⟩, List.mem_of_getElem? (i := 16) (by decide +kernel), List.mem_of_getElem? (i := 423) (by decide +kernel), List.mem_of_getElem? (i := 424) (by decide +kernel)⟩
theorem lw_p11 : lw_okq (⟨"StripeField", "addOthers", "(II)V"⟩, 11) := ⟨⟨by decide +kernel, by decide +kernel⟩, List.mem_of_getElem? (i := 16) (by decide +kernel), List.mem_of_getElem? (i := 432) (by decide +kernel), List.mem_of_getElem? (i := 433) (by decide +kernel)⟩
theorem lw_p12 : lw_okq (⟨"StripeField", "addFresh", "()V"⟩, 11) := ⟨⟨by decide +kernel, by decide +kernel⟩, List.mem_of_getElem? (i := 16) (by decide +kernel), List.mem_of_getElem? (i := 436) (by decide +kernel), List.mem_of_getElem? (i := 437) (by decide +kernel)⟩
theorem lw_p13 : lw_okq (⟨"StripeField", "writeLogged", "(II)Z"⟩, 11) := ⟨⟨by decide +kernel, by decide +kernel⟩, List.mem_of_getElem? (i := 16) (by decide +kernel), List.mem_of_getElem? (i := 440) (by decide +kernel), List.mem_of_getElem? (i := 441) (by decide +kernel)⟩
theorem lw_p14 : lw_okq (⟨"StripeField", "replayLogs", "()Z"⟩, 11) := ⟨⟨by decide +kernel, by decide +kernel⟩, List.mem_of_getElem? (i := 16) (by decide +kernel), List.mem_of_getElem? (i := 482) (by decide +kernel), List.mem_of_getElem? (i := 483) (by decide +kernel)⟩
theorem lw_p15 : lw_okq (⟨"StripeField", "replayLog", "(III)Z"⟩, 11) := ⟨⟨by decide +kernel, by decide +kernel⟩, List.mem_of_getElem? (i := 16) (by decide +kernel), List.mem_of_getElem? (i := 487) (by decide +kernel), List.mem_of_getElem? (i := 488) (by decide +kernel)⟩
def lw_privs_1 : List (MethodName × Nat) := [(⟨"StripeField$Rack", "writeAll", "()V"⟩, 6), (⟨"StripeField$Rack", "checkOf", "(I)I"⟩, 6), (⟨"StripeField$Rack", "storeLike", "(II)V"⟩, 6), (⟨"StripeField$Places", "found", "(II)I"⟩, 4), (⟨"java/lang/Throwable", "fillInStackTrace", "(I)Ljava/lang/Throwable;"⟩, 6), (⟨"StripeField", "takeTape", "()V"⟩, 11), (⟨"StripeField", "writeFresh", "(II)Z"⟩, 11), (⟨"StripeField", "placeOf", "(II)I"⟩, 11), (⟨"StripeField", "putColumn", "(II[J)Z"⟩, 11), (⟨"StripeField", "putCell", "(I[JI)Z"⟩, 11), (⟨"StripeField", "addRead", "(II)V"⟩, 11), (⟨"StripeField", "addOthers", "(II)V"⟩, 11), (⟨"StripeField", "addFresh", "()V"⟩, 11), (⟨"StripeField", "writeLogged", "(II)Z"⟩, 11), (⟨"StripeField", "replayLogs", "()Z"⟩, 11), (⟨"StripeField", "replayLog", "(III)Z"⟩, 11)]
theorem lw_r1 : ∀ q ∈ lw_privs_1, lw_okq q := List.forall_mem_cons.mpr ⟨lw_p0, List.forall_mem_cons.mpr ⟨lw_p1, List.forall_mem_cons.mpr ⟨lw_p2, List.forall_mem_cons.mpr ⟨lw_p3, List.forall_mem_cons.mpr ⟨lw_p4, List.forall_mem_cons.mpr ⟨lw_p5, List.forall_mem_cons.mpr ⟨lw_p6, List.forall_mem_cons.mpr ⟨lw_p7, List.forall_mem_cons.mpr ⟨lw_p8, List.forall_mem_cons.mpr ⟨lw_p9, List.forall_mem_cons.mpr ⟨lw_p10, List.forall_mem_cons.mpr ⟨lw_p11, List.forall_mem_cons.mpr ⟨lw_p12, List.forall_mem_cons.mpr ⟨lw_p13, List.forall_mem_cons.mpr ⟨lw_p14, List.forall_mem_cons.mpr ⟨lw_p15, fun _ h => absurd h List.not_mem_nil⟩⟩⟩⟩⟩⟩⟩⟩⟩⟩⟩⟩⟩⟩⟩⟩
theorem lw_p16 : lw_okq (⟨"StripeField", "canReplay", "(III)Z"⟩, 11) := ⟨⟨by decide +kernel, by decide +kernel⟩, List.mem_of_getElem? (i := 16) (by decide +kernel), List.mem_of_getElem? (i := 491) (by decide +kernel), List.mem_of_getElem? (i := 492) (by decide +kernel)⟩
theorem lw_p17 : lw_okq (⟨"StripeField", "clearFreeSpares", "()Z"⟩, 11) := ⟨⟨by decide +kernel, by decide +kernel⟩, List.mem_of_getElem? (i := 16) (by decide +kernel), List.mem_of_getElem? (i := 495) (by decide +kernel), List.mem_of_getElem? (i := 496) (by decide +kernel)⟩
theorem lw_p18 : lw_okq (⟨"StripeField", "findPlacesIfOff", "()V"⟩, 11) := ⟨⟨by decide +kernel, by decide +kernel⟩, List.mem_of_getElem? (i := 16) (by decide +kernel), List.mem_of_getElem? (i := 508) (by decide +kernel), List.mem_of_getElem? (i := 509) (by decide +kernel)⟩
theorem lw_p19 : lw_okq (⟨"StripeField", "wouldBreakWithout", "(I)Z"⟩, 11) := ⟨⟨by decide +kernel, by decide +kernel⟩, List.mem_of_getElem? (i := 16) (by decide +kernel), List.mem_of_getElem? (i := 512) (by decide +kernel), List.mem_of_getElem? (i := 513) (by decide +kernel)⟩
theorem lw_p20 : lw_okq (⟨"StripeField", "spoilPlace", "(IIIJ)Z"⟩, 11) := ⟨⟨by decide +kernel, by decide +kernel⟩, List.mem_of_getElem? (i := 16) (by decide +kernel), List.mem_of_getElem? (i := 547) (by decide +kernel), List.mem_of_getElem? (i := 548) (by decide +kernel)⟩
theorem lw_p21 : lw_okq (⟨"StripeField", "othersAreValid", "(I)Z"⟩, 11) := ⟨⟨by decide +kernel, by decide +kernel⟩, List.mem_of_getElem? (i := 16) (by decide +kernel), List.mem_of_getElem? (i := 560) (by decide +kernel), List.mem_of_getElem? (i := 561) (by decide +kernel)⟩
theorem lw_p22 : lw_okq (⟨"StripeField$Places", "isFree", "(I)Z"⟩, 4) := ⟨⟨by decide +kernel, by decide +kernel⟩, List.mem_of_getElem? (i := 165) (by decide +kernel), List.mem_of_getElem? (i := 583) (by decide +kernel), List.mem_of_getElem? (i := 584) (by decide +kernel)⟩
theorem lw_p23 : lw_okq (⟨"StripeField", "moveTo", "(II)Z"⟩, 11) := ⟨⟨by decide +kernel, by decide +kernel⟩, List.mem_of_getElem? (i := 16) (by decide +kernel), List.mem_of_getElem? (i := 592) (by decide +kernel), List.mem_of_getElem? (i := 593) (by decide +kernel)⟩
theorem lw_p24 : lw_okq (⟨"StripeField", "spoiltColumn", "(I)I"⟩, 11) := ⟨⟨by decide +kernel, by decide +kernel⟩, List.mem_of_getElem? (i := 16) (by decide +kernel), List.mem_of_getElem? (i := 618) (by decide +kernel), List.mem_of_getElem? (i := 619) (by decide +kernel)⟩
theorem lw_p25 : lw_okq (⟨"StripeField", "isHole", "(I)Z"⟩, 11) := ⟨⟨by decide +kernel, by decide +kernel⟩, List.mem_of_getElem? (i := 16) (by decide +kernel), List.mem_of_getElem? (i := 622) (by decide +kernel), List.mem_of_getElem? (i := 623) (by decide +kernel)⟩
theorem lw_p26 : lw_okq (⟨"StripeField$Places", "countPlaces", "(Z)I"⟩, 4) := ⟨⟨by decide +kernel, by decide +kernel⟩, List.mem_of_getElem? (i := 165) (by decide +kernel), List.mem_of_getElem? (i := 637) (by decide +kernel), List.mem_of_getElem? (i := 638) (by decide +kernel)⟩
theorem lw_p27 : lw_okq (⟨"StripeFieldModel", "diskOf", "(II)I"⟩, 22) := ⟨⟨by decide +kernel, by decide +kernel⟩, List.mem_of_getElem? (i := 663) (by decide +kernel), List.mem_of_getElem? (i := 674) (by decide +kernel), List.mem_of_getElem? (i := 675) (by decide +kernel)⟩
theorem lw_p28 : lw_okq (⟨"StripeFieldModel", "fails", "(ZI)Z"⟩, 22) := ⟨⟨by decide +kernel, by decide +kernel⟩, List.mem_of_getElem? (i := 663) (by decide +kernel), List.mem_of_getElem? (i := 753) (by decide +kernel), List.mem_of_getElem? (i := 754) (by decide +kernel)⟩
theorem lw_p29 : lw_okq (⟨"StripeFieldModel", "blocks", "()I"⟩, 22) := ⟨⟨by decide +kernel, by decide +kernel⟩, List.mem_of_getElem? (i := 663) (by decide +kernel), List.mem_of_getElem? (i := 762) (by decide +kernel), List.mem_of_getElem? (i := 763) (by decide +kernel)⟩
theorem lw_p30 : lw_okq (⟨"StripeFieldModel", "writes", "(I)Z"⟩, 22) := ⟨⟨by decide +kernel, by decide +kernel⟩, List.mem_of_getElem? (i := 663) (by decide +kernel), List.mem_of_getElem? (i := 766) (by decide +kernel), List.mem_of_getElem? (i := 767) (by decide +kernel)⟩
theorem lw_p31 : lw_okq (⟨"StripeFieldModel", "placeOf", "(II)I"⟩, 22) := ⟨⟨by decide +kernel, by decide +kernel⟩, List.mem_of_getElem? (i := 663) (by decide +kernel), List.mem_of_getElem? (i := 770) (by decide +kernel), List.mem_of_getElem? (i := 771) (by decide +kernel)⟩
def lw_privs_2 : List (MethodName × Nat) := [(⟨"StripeField", "canReplay", "(III)Z"⟩, 11), (⟨"StripeField", "clearFreeSpares", "()Z"⟩, 11), (⟨"StripeField", "findPlacesIfOff", "()V"⟩, 11), (⟨"StripeField", "wouldBreakWithout", "(I)Z"⟩, 11), (⟨"StripeField", "spoilPlace", "(IIIJ)Z"⟩, 11), (⟨"StripeField", "othersAreValid", "(I)Z"⟩, 11), (⟨"StripeField$Places", "isFree", "(I)Z"⟩, 4), (⟨"StripeField", "moveTo", "(II)Z"⟩, 11), (⟨"StripeField", "spoiltColumn", "(I)I"⟩, 11), (⟨"StripeField", "isHole", "(I)Z"⟩, 11), (⟨"StripeField$Places", "countPlaces", "(Z)I"⟩, 4), (⟨"StripeFieldModel", "diskOf", "(II)I"⟩, 22), (⟨"StripeFieldModel", "fails", "(ZI)Z"⟩, 22), (⟨"StripeFieldModel", "blocks", "()I"⟩, 22), (⟨"StripeFieldModel", "writes", "(I)Z"⟩, 22), (⟨"StripeFieldModel", "placeOf", "(II)I"⟩, 22)]
theorem lw_r2 : ∀ q ∈ lw_privs_2, lw_okq q := List.forall_mem_cons.mpr ⟨lw_p16, List.forall_mem_cons.mpr ⟨lw_p17, List.forall_mem_cons.mpr ⟨lw_p18, List.forall_mem_cons.mpr ⟨lw_p19, List.forall_mem_cons.mpr ⟨lw_p20, List.forall_mem_cons.mpr ⟨lw_p21, List.forall_mem_cons.mpr ⟨lw_p22, List.forall_mem_cons.mpr ⟨lw_p23, List.forall_mem_cons.mpr ⟨lw_p24, List.forall_mem_cons.mpr ⟨lw_p25, List.forall_mem_cons.mpr ⟨lw_p26, List.forall_mem_cons.mpr ⟨lw_p27, List.forall_mem_cons.mpr ⟨lw_p28, List.forall_mem_cons.mpr ⟨lw_p29, List.forall_mem_cons.mpr ⟨lw_p30, List.forall_mem_cons.mpr ⟨lw_p31, fun _ h => absurd h List.not_mem_nil⟩⟩⟩⟩⟩⟩⟩⟩⟩⟩⟩⟩⟩⟩⟩⟩
theorem lw_p32 : lw_okq (⟨"StripeFieldModel", "found", "(II)I"⟩, 22) := ⟨⟨by decide +kernel, by decide +kernel⟩, List.mem_of_getElem? (i := 663) (by decide +kernel), List.mem_of_getElem? (i := 774) (by decide +kernel), List.mem_of_getElem? (i := 775) (by decide +kernel)⟩
theorem lw_p33 : lw_okq (⟨"StripeFieldModel", "isValid", "(II)Z"⟩, 22) := ⟨⟨by decide +kernel, by decide +kernel⟩, List.mem_of_getElem? (i := 663) (by decide +kernel), List.mem_of_getElem? (i := 778) (by decide +kernel), List.mem_of_getElem? (i := 779) (by decide +kernel)⟩
theorem lw_p34 : lw_okq (⟨"StripeFieldModel", "puts", "(III)Z"⟩, 22) := ⟨⟨by decide +kernel, by decide +kernel⟩, List.mem_of_getElem? (i := 663) (by decide +kernel), List.mem_of_getElem? (i := 782) (by decide +kernel), List.mem_of_getElem? (i := 783) (by decide +kernel)⟩
theorem lw_p35 : lw_okq (⟨"StripeFieldModel", "becomes", "(I)V"⟩, 22) := ⟨⟨by decide +kernel, by decide +kernel⟩, List.mem_of_getElem? (i := 663) (by decide +kernel), List.mem_of_getElem? (i := 786) (by decide +kernel), List.mem_of_getElem? (i := 787) (by decide +kernel)⟩
theorem lw_p36 : lw_okq (⟨"StripeFieldModel", "opens", "()Z"⟩, 22) := ⟨⟨by decide +kernel, by decide +kernel⟩, List.mem_of_getElem? (i := 663) (by decide +kernel), List.mem_of_getElem? (i := 806) (by decide +kernel), List.mem_of_getElem? (i := 807) (by decide +kernel)⟩
theorem lw_p37 : lw_okq (⟨"StripeFieldModel", "unlogs", "(I)Z"⟩, 22) := ⟨⟨by decide +kernel, by decide +kernel⟩, List.mem_of_getElem? (i := 663) (by decide +kernel), List.mem_of_getElem? (i := 810) (by decide +kernel), List.mem_of_getElem? (i := 811) (by decide +kernel)⟩
theorem lw_p38 : lw_okq (⟨"StripeFieldModel", "holder", "(II)I"⟩, 22) := ⟨⟨by decide +kernel, by decide +kernel⟩, List.mem_of_getElem? (i := 663) (by decide +kernel), List.mem_of_getElem? (i := 814) (by decide +kernel), List.mem_of_getElem? (i := 815) (by decide +kernel)⟩
theorem lw_p39 : lw_okq (⟨"StripeFieldModel", "isNeeded", "(I)Z"⟩, 22) := ⟨⟨by decide +kernel, by decide +kernel⟩, List.mem_of_getElem? (i := 663) (by decide +kernel), List.mem_of_getElem? (i := 822) (by decide +kernel), List.mem_of_getElem? (i := 823) (by decide +kernel)⟩
theorem lw_p40 : lw_okq (⟨"StripeFieldModel", "bad", "(III)I"⟩, 22) := ⟨⟨by decide +kernel, by decide +kernel⟩, List.mem_of_getElem? (i := 663) (by decide +kernel), List.mem_of_getElem? (i := 826) (by decide +kernel), List.mem_of_getElem? (i := 827) (by decide +kernel)⟩
theorem lw_p41 : lw_okq (⟨"StripeFieldModel", "isSpoilt", "(II)Z"⟩, 22) := ⟨⟨by decide +kernel, by decide +kernel⟩, List.mem_of_getElem? (i := 663) (by decide +kernel), List.mem_of_getElem? (i := 830) (by decide +kernel), List.mem_of_getElem? (i := 831) (by decide +kernel)⟩
theorem lw_p42 : lw_okq (⟨"StripeFieldModel", "turn", "(IIJ)V"⟩, 22) := ⟨⟨by decide +kernel, by decide +kernel⟩, List.mem_of_getElem? (i := 663) (by decide +kernel), List.mem_of_getElem? (i := 842) (by decide +kernel), List.mem_of_getElem? (i := 843) (by decide +kernel)⟩
theorem lw_p43 : lw_okq (⟨"StripeFieldModel", "isUnseen", "(I)Z"⟩, 22) := ⟨⟨by decide +kernel, by decide +kernel⟩, List.mem_of_getElem? (i := 663) (by decide +kernel), List.mem_of_getElem? (i := 846) (by decide +kernel), List.mem_of_getElem? (i := 847) (by decide +kernel)⟩
theorem lw_p44 : lw_okq (⟨"StripeFieldModel", "freeSpare", "(I)I"⟩, 22) := ⟨⟨by decide +kernel, by decide +kernel⟩, List.mem_of_getElem? (i := 663) (by decide +kernel), List.mem_of_getElem? (i := 855) (by decide +kernel), List.mem_of_getElem? (i := 856) (by decide +kernel)⟩
theorem lw_p45 : lw_okq (⟨"StripeFieldModel", "count", "(I)I"⟩, 22) := ⟨⟨by decide +kernel, by decide +kernel⟩, List.mem_of_getElem? (i := 663) (by decide +kernel), List.mem_of_getElem? (i := 871) (by decide +kernel), List.mem_of_getElem? (i := 872) (by decide +kernel)⟩
def lw_privs_3 : List (MethodName × Nat) := [(⟨"StripeFieldModel", "found", "(II)I"⟩, 22), (⟨"StripeFieldModel", "isValid", "(II)Z"⟩, 22), (⟨"StripeFieldModel", "puts", "(III)Z"⟩, 22), (⟨"StripeFieldModel", "becomes", "(I)V"⟩, 22), (⟨"StripeFieldModel", "opens", "()Z"⟩, 22), (⟨"StripeFieldModel", "unlogs", "(I)Z"⟩, 22), (⟨"StripeFieldModel", "holder", "(II)I"⟩, 22), (⟨"StripeFieldModel", "isNeeded", "(I)Z"⟩, 22), (⟨"StripeFieldModel", "bad", "(III)I"⟩, 22), (⟨"StripeFieldModel", "isSpoilt", "(II)Z"⟩, 22), (⟨"StripeFieldModel", "turn", "(IIJ)V"⟩, 22), (⟨"StripeFieldModel", "isUnseen", "(I)Z"⟩, 22), (⟨"StripeFieldModel", "freeSpare", "(I)I"⟩, 22), (⟨"StripeFieldModel", "count", "(I)I"⟩, 22)]
theorem lw_r3 : ∀ q ∈ lw_privs_3, lw_okq q := List.forall_mem_cons.mpr ⟨lw_p32, List.forall_mem_cons.mpr ⟨lw_p33, List.forall_mem_cons.mpr ⟨lw_p34, List.forall_mem_cons.mpr ⟨lw_p35, List.forall_mem_cons.mpr ⟨lw_p36, List.forall_mem_cons.mpr ⟨lw_p37, List.forall_mem_cons.mpr ⟨lw_p38, List.forall_mem_cons.mpr ⟨lw_p39, List.forall_mem_cons.mpr ⟨lw_p40, List.forall_mem_cons.mpr ⟨lw_p41, List.forall_mem_cons.mpr ⟨lw_p42, List.forall_mem_cons.mpr ⟨lw_p43, List.forall_mem_cons.mpr ⟨lw_p44, List.forall_mem_cons.mpr ⟨lw_p45, fun _ h => absurd h List.not_mem_nil⟩⟩⟩⟩⟩⟩⟩⟩⟩⟩⟩⟩⟩⟩
def lw_privs : List (MethodName × Nat) := lw_privs_1 ++ (lw_privs_2 ++ (lw_privs_3))
def lw_tbl : List Cond := k2_sels lw_privs ++ tables_1
theorem lw_privs_ok : ∀ q ∈ lw_privs, lw_okq q := by
  show ∀ q ∈ lw_privs_1 ++ (lw_privs_2 ++ (lw_privs_3)), lw_okq q
  exact List.forall_mem_append.mpr ⟨lw_r1, List.forall_mem_append.mpr ⟨lw_r2, lw_r3⟩⟩
end
section
def ltb : List Cond := lw_tbl.filter goodWord
theorem ltb_of {w : Cond} (i : Nat) (h : lw_tbl[i]? = some w) (hg : goodWord w = true) : w ∈ ltb := List.mem_filter.mpr ⟨List.mem_of_getElem? h, hg⟩
theorem wl_RK_writeAll : Cond.selects "StripeField$Rack" ⟨"StripeField$Rack", "writeAll", "()V"⟩ ⟨"StripeField$Rack", "writeAll", "()V"⟩ ∈ ltb := ltb_of 0 (by decide +kernel) (by decide +kernel)
theorem wl_RK_checkOf : Cond.selects "StripeField$Rack" ⟨"StripeField$Rack", "checkOf", "(I)I"⟩ ⟨"StripeField$Rack", "checkOf", "(I)I"⟩ ∈ ltb := ltb_of 1 (by decide +kernel) (by decide +kernel)
theorem wl_RK_storeLike : Cond.selects "StripeField$Rack" ⟨"StripeField$Rack", "storeLike", "(II)V"⟩ ⟨"StripeField$Rack", "storeLike", "(II)V"⟩ ∈ ltb := ltb_of 2 (by decide +kernel) (by decide +kernel)
theorem wl_PL_found : Cond.selects "StripeField$Places" ⟨"StripeField$Places", "found", "(II)I"⟩ ⟨"StripeField$Places", "found", "(II)I"⟩ ∈ ltb := ltb_of 3 (by decide +kernel) (by decide +kernel)
theorem wl_TH_fillInStackTrace : Cond.selects "java/lang/Throwable" ⟨"java/lang/Throwable", "fillInStackTrace", "(I)Ljava/lang/Throwable;"⟩ ⟨"java/lang/Throwable", "fillInStackTrace", "(I)Ljava/lang/Throwable;"⟩ ∈ ltb := ltb_of 4 (by decide +kernel) (by decide +kernel)
theorem wl_SF_takeTape : Cond.selects "StripeField" ⟨"StripeField", "takeTape", "()V"⟩ ⟨"StripeField", "takeTape", "()V"⟩ ∈ ltb := ltb_of 5 (by decide +kernel) (by decide +kernel)
theorem wl_SF_writeFresh : Cond.selects "StripeField" ⟨"StripeField", "writeFresh", "(II)Z"⟩ ⟨"StripeField", "writeFresh", "(II)Z"⟩ ∈ ltb := ltb_of 6 (by decide +kernel) (by decide +kernel)
theorem wl_SF_placeOf : Cond.selects "StripeField" ⟨"StripeField", "placeOf", "(II)I"⟩ ⟨"StripeField", "placeOf", "(II)I"⟩ ∈ ltb := ltb_of 7 (by decide +kernel) (by decide +kernel)
theorem wl_SF_putColumn : Cond.selects "StripeField" ⟨"StripeField", "putColumn", "(II[J)Z"⟩ ⟨"StripeField", "putColumn", "(II[J)Z"⟩ ∈ ltb := ltb_of 8 (by decide +kernel) (by decide +kernel)
theorem wl_SF_putCell : Cond.selects "StripeField" ⟨"StripeField", "putCell", "(I[JI)Z"⟩ ⟨"StripeField", "putCell", "(I[JI)Z"⟩ ∈ ltb := ltb_of 9 (by decide +kernel) (by decide +kernel)
theorem wl_SF_addRead : Cond.selects "StripeField" ⟨"StripeField", "addRead", "(II)V"⟩ ⟨"StripeField", "addRead", "(II)V"⟩ ∈ ltb := ltb_of 10 (by decide +kernel) (by decide +kernel)
theorem wl_SF_addOthers : Cond.selects "StripeField" ⟨"StripeField", "addOthers", "(II)V"⟩ ⟨"StripeField", "addOthers", "(II)V"⟩ ∈ ltb := ltb_of 11 (by decide +kernel) (by decide +kernel)
theorem wl_SF_addFresh : Cond.selects "StripeField" ⟨"StripeField", "addFresh", "()V"⟩ ⟨"StripeField", "addFresh", "()V"⟩ ∈ ltb := ltb_of 12 (by decide +kernel) (by decide +kernel)
theorem wl_SF_writeLogged : Cond.selects "StripeField" ⟨"StripeField", "writeLogged", "(II)Z"⟩ ⟨"StripeField", "writeLogged", "(II)Z"⟩ ∈ ltb := ltb_of 13 (by decide +kernel) (by decide +kernel)
theorem wl_SF_replayLogs : Cond.selects "StripeField" ⟨"StripeField", "replayLogs", "()Z"⟩ ⟨"StripeField", "replayLogs", "()Z"⟩ ∈ ltb := ltb_of 14 (by decide +kernel) (by decide +kernel)
theorem wl_SF_replayLog : Cond.selects "StripeField" ⟨"StripeField", "replayLog", "(III)Z"⟩ ⟨"StripeField", "replayLog", "(III)Z"⟩ ∈ ltb := ltb_of 15 (by decide +kernel) (by decide +kernel)
theorem wl_SF_canReplay : Cond.selects "StripeField" ⟨"StripeField", "canReplay", "(III)Z"⟩ ⟨"StripeField", "canReplay", "(III)Z"⟩ ∈ ltb := ltb_of 16 (by decide +kernel) (by decide +kernel)
theorem wl_SF_clearFreeSpares : Cond.selects "StripeField" ⟨"StripeField", "clearFreeSpares", "()Z"⟩ ⟨"StripeField", "clearFreeSpares", "()Z"⟩ ∈ ltb := ltb_of 17 (by decide +kernel) (by decide +kernel)
theorem wl_SF_findPlacesIfOff : Cond.selects "StripeField" ⟨"StripeField", "findPlacesIfOff", "()V"⟩ ⟨"StripeField", "findPlacesIfOff", "()V"⟩ ∈ ltb := ltb_of 18 (by decide +kernel) (by decide +kernel)
theorem wl_SF_wouldBreakWithout : Cond.selects "StripeField" ⟨"StripeField", "wouldBreakWithout", "(I)Z"⟩ ⟨"StripeField", "wouldBreakWithout", "(I)Z"⟩ ∈ ltb := ltb_of 19 (by decide +kernel) (by decide +kernel)
theorem wl_SF_spoilPlace : Cond.selects "StripeField" ⟨"StripeField", "spoilPlace", "(IIIJ)Z"⟩ ⟨"StripeField", "spoilPlace", "(IIIJ)Z"⟩ ∈ ltb := ltb_of 20 (by decide +kernel) (by decide +kernel)
theorem wl_SF_othersAreValid : Cond.selects "StripeField" ⟨"StripeField", "othersAreValid", "(I)Z"⟩ ⟨"StripeField", "othersAreValid", "(I)Z"⟩ ∈ ltb := ltb_of 21 (by decide +kernel) (by decide +kernel)
theorem wl_PL_isFree : Cond.selects "StripeField$Places" ⟨"StripeField$Places", "isFree", "(I)Z"⟩ ⟨"StripeField$Places", "isFree", "(I)Z"⟩ ∈ ltb := ltb_of 22 (by decide +kernel) (by decide +kernel)
theorem wl_SF_moveTo : Cond.selects "StripeField" ⟨"StripeField", "moveTo", "(II)Z"⟩ ⟨"StripeField", "moveTo", "(II)Z"⟩ ∈ ltb := ltb_of 23 (by decide +kernel) (by decide +kernel)
theorem wl_SF_spoiltColumn : Cond.selects "StripeField" ⟨"StripeField", "spoiltColumn", "(I)I"⟩ ⟨"StripeField", "spoiltColumn", "(I)I"⟩ ∈ ltb := ltb_of 24 (by decide +kernel) (by decide +kernel)
theorem wl_SF_isHole : Cond.selects "StripeField" ⟨"StripeField", "isHole", "(I)Z"⟩ ⟨"StripeField", "isHole", "(I)Z"⟩ ∈ ltb := ltb_of 25 (by decide +kernel) (by decide +kernel)
theorem wl_PL_countPlaces : Cond.selects "StripeField$Places" ⟨"StripeField$Places", "countPlaces", "(Z)I"⟩ ⟨"StripeField$Places", "countPlaces", "(Z)I"⟩ ∈ ltb := ltb_of 26 (by decide +kernel) (by decide +kernel)
theorem wl_MD_diskOf : Cond.selects "StripeFieldModel" ⟨"StripeFieldModel", "diskOf", "(II)I"⟩ ⟨"StripeFieldModel", "diskOf", "(II)I"⟩ ∈ ltb := ltb_of 27 (by decide +kernel) (by decide +kernel)
theorem wl_MD_fails : Cond.selects "StripeFieldModel" ⟨"StripeFieldModel", "fails", "(ZI)Z"⟩ ⟨"StripeFieldModel", "fails", "(ZI)Z"⟩ ∈ ltb := ltb_of 28 (by decide +kernel) (by decide +kernel)
theorem wl_MD_blocks : Cond.selects "StripeFieldModel" ⟨"StripeFieldModel", "blocks", "()I"⟩ ⟨"StripeFieldModel", "blocks", "()I"⟩ ∈ ltb := ltb_of 29 (by decide +kernel) (by decide +kernel)
theorem wl_MD_writes : Cond.selects "StripeFieldModel" ⟨"StripeFieldModel", "writes", "(I)Z"⟩ ⟨"StripeFieldModel", "writes", "(I)Z"⟩ ∈ ltb := ltb_of 30 (by decide +kernel) (by decide +kernel)
theorem wl_MD_placeOf : Cond.selects "StripeFieldModel" ⟨"StripeFieldModel", "placeOf", "(II)I"⟩ ⟨"StripeFieldModel", "placeOf", "(II)I"⟩ ∈ ltb := ltb_of 31 (by decide +kernel) (by decide +kernel)
theorem wl_MD_found : Cond.selects "StripeFieldModel" ⟨"StripeFieldModel", "found", "(II)I"⟩ ⟨"StripeFieldModel", "found", "(II)I"⟩ ∈ ltb := ltb_of 32 (by decide +kernel) (by decide +kernel)
theorem wl_MD_isValid : Cond.selects "StripeFieldModel" ⟨"StripeFieldModel", "isValid", "(II)Z"⟩ ⟨"StripeFieldModel", "isValid", "(II)Z"⟩ ∈ ltb := ltb_of 33 (by decide +kernel) (by decide +kernel)
theorem wl_MD_puts : Cond.selects "StripeFieldModel" ⟨"StripeFieldModel", "puts", "(III)Z"⟩ ⟨"StripeFieldModel", "puts", "(III)Z"⟩ ∈ ltb := ltb_of 34 (by decide +kernel) (by decide +kernel)
theorem wl_MD_becomes : Cond.selects "StripeFieldModel" ⟨"StripeFieldModel", "becomes", "(I)V"⟩ ⟨"StripeFieldModel", "becomes", "(I)V"⟩ ∈ ltb := ltb_of 35 (by decide +kernel) (by decide +kernel)
theorem wl_MD_opens : Cond.selects "StripeFieldModel" ⟨"StripeFieldModel", "opens", "()Z"⟩ ⟨"StripeFieldModel", "opens", "()Z"⟩ ∈ ltb := ltb_of 36 (by decide +kernel) (by decide +kernel)
theorem wl_MD_unlogs : Cond.selects "StripeFieldModel" ⟨"StripeFieldModel", "unlogs", "(I)Z"⟩ ⟨"StripeFieldModel", "unlogs", "(I)Z"⟩ ∈ ltb := ltb_of 37 (by decide +kernel) (by decide +kernel)
theorem wl_MD_holder : Cond.selects "StripeFieldModel" ⟨"StripeFieldModel", "holder", "(II)I"⟩ ⟨"StripeFieldModel", "holder", "(II)I"⟩ ∈ ltb := ltb_of 38 (by decide +kernel) (by decide +kernel)
theorem wl_MD_isNeeded : Cond.selects "StripeFieldModel" ⟨"StripeFieldModel", "isNeeded", "(I)Z"⟩ ⟨"StripeFieldModel", "isNeeded", "(I)Z"⟩ ∈ ltb := ltb_of 39 (by decide +kernel) (by decide +kernel)
theorem wl_MD_bad : Cond.selects "StripeFieldModel" ⟨"StripeFieldModel", "bad", "(III)I"⟩ ⟨"StripeFieldModel", "bad", "(III)I"⟩ ∈ ltb := ltb_of 40 (by decide +kernel) (by decide +kernel)
theorem wl_MD_isSpoilt : Cond.selects "StripeFieldModel" ⟨"StripeFieldModel", "isSpoilt", "(II)Z"⟩ ⟨"StripeFieldModel", "isSpoilt", "(II)Z"⟩ ∈ ltb := ltb_of 41 (by decide +kernel) (by decide +kernel)
theorem wl_MD_turn : Cond.selects "StripeFieldModel" ⟨"StripeFieldModel", "turn", "(IIJ)V"⟩ ⟨"StripeFieldModel", "turn", "(IIJ)V"⟩ ∈ ltb := ltb_of 42 (by decide +kernel) (by decide +kernel)
theorem wl_MD_isUnseen : Cond.selects "StripeFieldModel" ⟨"StripeFieldModel", "isUnseen", "(I)Z"⟩ ⟨"StripeFieldModel", "isUnseen", "(I)Z"⟩ ∈ ltb := ltb_of 43 (by decide +kernel) (by decide +kernel)
theorem wl_MD_freeSpare : Cond.selects "StripeFieldModel" ⟨"StripeFieldModel", "freeSpare", "(I)I"⟩ ⟨"StripeFieldModel", "freeSpare", "(I)I"⟩ ∈ ltb := ltb_of 44 (by decide +kernel) (by decide +kernel)
theorem wl_MD_count : Cond.selects "StripeFieldModel" ⟨"StripeFieldModel", "count", "(I)I"⟩ ⟨"StripeFieldModel", "count", "(I)I"⟩ ∈ ltb := ltb_of 45 (by decide +kernel) (by decide +kernel)
theorem wn_LW : Cond.initialized "StripeFieldLaw" ∈ ltb := ltb_of 46 (by decide +kernel) (by decide +kernel)
theorem wn_SF : Cond.initialized "StripeField" ∈ ltb := ltb_of 47 (by decide +kernel) (by decide +kernel)
theorem wn_LA : Cond.initialized "StripeField$Layout" ∈ ltb := ltb_of 48 (by decide +kernel) (by decide +kernel)
theorem wn_AR : Cond.initialized "java/util/Arrays" ∈ ltb := ltb_of 49 (by decide +kernel) (by decide +kernel)
theorem wn_MA : Cond.initialized "java/lang/Math" ∈ ltb := ltb_of 50 (by decide +kernel) (by decide +kernel)
theorem wn_SY : Cond.initialized "java/lang/System" ∈ ltb := ltb_of 51 (by decide +kernel) (by decide +kernel)
theorem wn_RK : Cond.initialized "StripeField$Rack" ∈ ltb := ltb_of 52 (by decide +kernel) (by decide +kernel)
theorem wn_PL : Cond.initialized "StripeField$Places" ∈ ltb := ltb_of 53 (by decide +kernel) (by decide +kernel)
theorem wn_PW : Cond.initialized "StripeField$Power" ∈ ltb := ltb_of 54 (by decide +kernel) (by decide +kernel)
theorem wn_MD : Cond.initialized "StripeFieldModel" ∈ ltb := ltb_of 55 (by decide +kernel) (by decide +kernel)
theorem wn_TH : Cond.initialized "java/lang/Throwable" ∈ ltb := ltb_of 56 (by decide +kernel) (by decide +kernel)
theorem wn_EX : Cond.initialized "java/lang/Exception" ∈ ltb := ltb_of 57 (by decide +kernel) (by decide +kernel)
theorem wn_RE : Cond.initialized "java/lang/RuntimeException" ∈ ltb := ltb_of 58 (by decide +kernel) (by decide +kernel)
theorem wn_IA : Cond.initialized "java/lang/IllegalArgumentException" ∈ ltb := ltb_of 59 (by decide +kernel) (by decide +kernel)
theorem wn_IS : Cond.initialized "java/lang/IllegalStateException" ∈ ltb := ltb_of 60 (by decide +kernel) (by decide +kernel)
theorem wk_LW_8 : Cond.classLink "StripeFieldLaw" 8 "StripeField" ∈ ltb := ltb_of 61 (by decide +kernel) (by decide +kernel)
theorem wp_SF : Cond.instantiable "StripeField" 11 ∈ ltb := ltb_of 62 (by decide +kernel) (by decide +kernel)
theorem wm_LW_70 : Cond.methodLink "StripeFieldLaw" 70 ⟨"StripeField", "<init>", "(III)V"⟩ ∈ ltb := ltb_of 63 (by decide +kernel) (by decide +kernel)
theorem wi_SF_init : Cond.instanceMethod ⟨"StripeField", "<init>", "(III)V"⟩ ∈ ltb := ltb_of 64 (by decide +kernel) (by decide +kernel)
set_option maxRecDepth 20000 in
theorem wo_SF_init : Cond.code ⟨"StripeField", "<init>", "(III)V"⟩ prog_1_method_1_code 4 none ∈ ltb := ltb_of 65 rfl (by decide +kernel)
theorem wm_SF_1 : Cond.methodLink "StripeField" 1 ⟨"java/lang/Object", "<init>", "()V"⟩ ∈ ltb := ltb_of 66 (by decide +kernel) (by decide +kernel)
theorem wi_OB_init : Cond.instanceMethod ⟨"java/lang/Object", "<init>", "()V"⟩ ∈ ltb := ltb_of 67 (by decide +kernel) (by decide +kernel)
set_option maxRecDepth 20000 in
theorem wo_OB_init : Cond.code ⟨"java/lang/Object", "<init>", "()V"⟩ object_method_1_code 1 none ∈ ltb := ltb_of 68 rfl (by decide +kernel)
theorem wk_SF_7 : Cond.classLink "StripeField" 7 "StripeField$Layout" ∈ ltb := ltb_of 69 (by decide +kernel) (by decide +kernel)
theorem wp_LA : Cond.instantiable "StripeField$Layout" 10 ∈ ltb := ltb_of 70 (by decide +kernel) (by decide +kernel)
theorem wm_SF_9 : Cond.methodLink "StripeField" 9 ⟨"StripeField$Layout", "<init>", "(III)V"⟩ ∈ ltb := ltb_of 71 (by decide +kernel) (by decide +kernel)
theorem wi_LA_init : Cond.instanceMethod ⟨"StripeField$Layout", "<init>", "(III)V"⟩ ∈ ltb := ltb_of 72 (by decide +kernel) (by decide +kernel)
set_option maxRecDepth 20000 in
theorem wo_LA_init : Cond.code ⟨"StripeField$Layout", "<init>", "(III)V"⟩ prog_2_method_1_code 4 none ∈ ltb := ltb_of 73 rfl (by decide +kernel)
theorem wm_LA_1 : Cond.methodLink "StripeField$Layout" 1 ⟨"java/lang/Object", "<init>", "()V"⟩ ∈ ltb := ltb_of 74 (by decide +kernel) (by decide +kernel)
theorem wm_LA_37 : Cond.methodLink "StripeField$Layout" 37 ⟨"StripeField$Layout", "homes", "(II)[I"⟩ ∈ ltb := ltb_of 75 (by decide +kernel) (by decide +kernel)
theorem ws_LA_homes : Cond.static ⟨"StripeField$Layout", "homes", "(II)[I"⟩ ∈ ltb := ltb_of 76 (by decide +kernel) (by decide +kernel)
set_option maxRecDepth 20000 in
theorem wo_LA_homes : Cond.code ⟨"StripeField$Layout", "homes", "(II)[I"⟩ prog_2_method_2_code 8 (some (FieldType.array FieldType.int)) ∈ ltb := ltb_of 77 rfl (by decide +kernel)
theorem wm_LA_45 : Cond.methodLink "StripeField$Layout" 45 ⟨"StripeField$Layout", "stepsOf", "(I)[I"⟩ ∈ ltb := ltb_of 78 (by decide +kernel) (by decide +kernel)
theorem ws_LA_stepsOf : Cond.static ⟨"StripeField$Layout", "stepsOf", "(I)[I"⟩ ∈ ltb := ltb_of 79 (by decide +kernel) (by decide +kernel)
set_option maxRecDepth 20000 in
theorem wo_LA_stepsOf : Cond.code ⟨"StripeField$Layout", "stepsOf", "(I)[I"⟩ prog_2_method_3_code 4 (some (FieldType.array FieldType.int)) ∈ ltb := ltb_of 80 rfl (by decide +kernel)
theorem wm_LA_49 : Cond.methodLink "StripeField$Layout" 49 ⟨"StripeField$Layout", "haveNoDivisorInCommon", "(II)Z"⟩ ∈ ltb := ltb_of 81 (by decide +kernel) (by decide +kernel)
theorem ws_LA_haveNoDivisorInCommon : Cond.static ⟨"StripeField$Layout", "haveNoDivisorInCommon", "(II)Z"⟩ ∈ ltb := ltb_of 82 (by decide +kernel) (by decide +kernel)
set_option maxRecDepth 20000 in
theorem wo_LA_haveNoDivisorInCommon : Cond.code ⟨"StripeField$Layout", "haveNoDivisorInCommon", "(II)Z"⟩ prog_2_method_4_code 3 (some FieldType.boolean) ∈ ltb := ltb_of 83 rfl (by decide +kernel)
theorem wm_LA_53 : Cond.methodLink "StripeField$Layout" 53 ⟨"java/util/Arrays", "copyOf", "([II)[I"⟩ ∈ ltb := ltb_of 84 (by decide +kernel) (by decide +kernel)
theorem ws_AR_copyOf : Cond.static ⟨"java/util/Arrays", "copyOf", "([II)[I"⟩ ∈ ltb := ltb_of 85 (by decide +kernel) (by decide +kernel)
set_option maxRecDepth 20000 in
theorem wo_AR_copyOf : Cond.code ⟨"java/util/Arrays", "copyOf", "([II)[I"⟩ prog_17_method_123_code 3 (some (FieldType.array FieldType.int)) ∈ ltb := ltb_of 86 rfl (by decide +kernel)
theorem wm_AR_316 : Cond.methodLink "java/util/Arrays" 316 ⟨"[I", "clone", "()Ljava/lang/Object;"⟩ ∈ ltb := ltb_of 87 (by decide +kernel) (by decide +kernel)
theorem wk_AR_317 : Cond.classLink "java/util/Arrays" 317 "[I" ∈ ltb := ltb_of 93 (by decide +kernel) (by decide +kernel)
theorem wm_AR_304 : Cond.methodLink "java/util/Arrays" 304 ⟨"java/lang/Math", "min", "(II)I"⟩ ∈ ltb := ltb_of 94 (by decide +kernel) (by decide +kernel)
theorem ws_MA_min : Cond.static ⟨"java/lang/Math", "min", "(II)I"⟩ ∈ ltb := ltb_of 95 (by decide +kernel) (by decide +kernel)
set_option maxRecDepth 20000 in
theorem wo_MA_min : Cond.code ⟨"java/lang/Math", "min", "(II)I"⟩ prog_12_method_69_code 2 (some FieldType.int) ∈ ltb := ltb_of 96 rfl (by decide +kernel)
theorem wm_AR_150 : Cond.methodLink "java/util/Arrays" 150 ⟨"java/lang/System", "arraycopy", "(Ljava/lang/Object;ILjava/lang/Object;II)V"⟩ ∈ ltb := ltb_of 97 (by decide +kernel) (by decide +kernel)
theorem ws_arraycopy : Cond.static ⟨"java/lang/System", "arraycopy", "(Ljava/lang/Object;ILjava/lang/Object;II)V"⟩ ∈ ltb := ltb_of 98 (by decide +kernel) (by decide +kernel)
theorem wv_arraycopy : Cond.native ⟨"java/lang/System", "arraycopy", "(Ljava/lang/Object;ILjava/lang/Object;II)V"⟩ ∈ ltb := ltb_of 99 (by decide +kernel) (by decide +kernel)
theorem wf_RK_15 : Cond.fieldLink "StripeField$Rack" 15 "StripeField$Layout" "disks" "I" ∈ ltb := ltb_of 100 (by decide +kernel) (by decide +kernel)
theorem wf_PL_25 : Cond.fieldLink "StripeField$Places" 25 "StripeField$Layout" "disks" "I" ∈ ltb := ltb_of 101 (by decide +kernel) (by decide +kernel)
theorem wf_LA_7 : Cond.fieldLink "StripeField$Layout" 7 "StripeField$Layout" "disks" "I" ∈ ltb := ltb_of 102 (by decide +kernel) (by decide +kernel)
theorem wf_SF_136 : Cond.fieldLink "StripeField" 136 "StripeField$Layout" "disks" "I" ∈ ltb := ltb_of 103 (by decide +kernel) (by decide +kernel)
theorem wf_LA_13 : Cond.fieldLink "StripeField$Layout" 13 "StripeField$Layout" "width" "I" ∈ ltb := ltb_of 104 (by decide +kernel) (by decide +kernel)
theorem wf_SF_238 : Cond.fieldLink "StripeField" 238 "StripeField$Layout" "width" "I" ∈ ltb := ltb_of 105 (by decide +kernel) (by decide +kernel)
theorem wf_PL_19 : Cond.fieldLink "StripeField$Places" 19 "StripeField$Layout" "rows" "I" ∈ ltb := ltb_of 106 (by decide +kernel) (by decide +kernel)
theorem wf_LA_16 : Cond.fieldLink "StripeField$Layout" 16 "StripeField$Layout" "rows" "I" ∈ ltb := ltb_of 107 (by decide +kernel) (by decide +kernel)
theorem wf_RK_55 : Cond.fieldLink "StripeField$Rack" 55 "StripeField$Layout" "rows" "I" ∈ ltb := ltb_of 108 (by decide +kernel) (by decide +kernel)
theorem wf_SF_159 : Cond.fieldLink "StripeField" 159 "StripeField$Layout" "rows" "I" ∈ ltb := ltb_of 109 (by decide +kernel) (by decide +kernel)
theorem wf_LA_19 : Cond.fieldLink "StripeField$Layout" 19 "StripeField$Layout" "groups" "I" ∈ ltb := ltb_of 110 (by decide +kernel) (by decide +kernel)
theorem wf_LA_22 : Cond.fieldLink "StripeField$Layout" 22 "StripeField$Layout" "stripes" "I" ∈ ltb := ltb_of 111 (by decide +kernel) (by decide +kernel)
theorem wf_SF_207 : Cond.fieldLink "StripeField" 207 "StripeField$Layout" "stripes" "I" ∈ ltb := ltb_of 112 (by decide +kernel) (by decide +kernel)
theorem wf_LA_28 : Cond.fieldLink "StripeField$Layout" 28 "StripeField$Layout" "blocks" "I" ∈ ltb := ltb_of 113 (by decide +kernel) (by decide +kernel)
theorem wf_SF_76 : Cond.fieldLink "StripeField" 76 "StripeField$Layout" "blocks" "I" ∈ ltb := ltb_of 114 (by decide +kernel) (by decide +kernel)
theorem wf_LA_31 : Cond.fieldLink "StripeField$Layout" 31 "StripeField$Layout" "positions" "I" ∈ ltb := ltb_of 115 (by decide +kernel) (by decide +kernel)
theorem wf_RK_48 : Cond.fieldLink "StripeField$Rack" 48 "StripeField$Layout" "positions" "I" ∈ ltb := ltb_of 116 (by decide +kernel) (by decide +kernel)
theorem wf_PL_47 : Cond.fieldLink "StripeField$Places" 47 "StripeField$Layout" "positions" "I" ∈ ltb := ltb_of 117 (by decide +kernel) (by decide +kernel)
theorem wf_SF_248 : Cond.fieldLink "StripeField" 248 "StripeField$Layout" "positions" "I" ∈ ltb := ltb_of 118 (by decide +kernel) (by decide +kernel)
theorem wf_LA_25 : Cond.fieldLink "StripeField$Layout" 25 "StripeField$Layout" "parity" "I" ∈ ltb := ltb_of 119 (by decide +kernel) (by decide +kernel)
theorem wf_SF_265 : Cond.fieldLink "StripeField" 265 "StripeField$Layout" "parity" "I" ∈ ltb := ltb_of 120 (by decide +kernel) (by decide +kernel)
theorem wf_RK_25 : Cond.fieldLink "StripeField$Rack" 25 "StripeField$Layout" "cells" "I" ∈ ltb := ltb_of 121 (by decide +kernel) (by decide +kernel)
theorem wf_PL_32 : Cond.fieldLink "StripeField$Places" 32 "StripeField$Layout" "cells" "I" ∈ ltb := ltb_of 122 (by decide +kernel) (by decide +kernel)
theorem wf_LA_34 : Cond.fieldLink "StripeField$Layout" 34 "StripeField$Layout" "cells" "I" ∈ ltb := ltb_of 123 (by decide +kernel) (by decide +kernel)
theorem wf_LA_41 : Cond.fieldLink "StripeField$Layout" 41 "StripeField$Layout" "home" "[I" ∈ ltb := ltb_of 124 (by decide +kernel) (by decide +kernel)
theorem wf_RK_44 : Cond.fieldLink "StripeField$Rack" 44 "StripeField$Layout" "home" "[I" ∈ ltb := ltb_of 125 (by decide +kernel) (by decide +kernel)
theorem wf_PL_57 : Cond.fieldLink "StripeField$Places" 57 "StripeField$Layout" "home" "[I" ∈ ltb := ltb_of 126 (by decide +kernel) (by decide +kernel)
theorem wf_SF_200 : Cond.fieldLink "StripeField" 200 "StripeField$Layout" "home" "[I" ∈ ltb := ltb_of 127 (by decide +kernel) (by decide +kernel)
theorem wa_int : Cond.arrayClass FieldType.int ∈ ltb := ltb_of 149 (by decide +kernel) (by decide +kernel)
theorem wk_SF_18 : Cond.classLink "StripeField" 18 "StripeField$Rack" ∈ ltb := ltb_of 150 (by decide +kernel) (by decide +kernel)
theorem wp_RK : Cond.instantiable "StripeField$Rack" 6 ∈ ltb := ltb_of 151 (by decide +kernel) (by decide +kernel)
theorem wm_SF_20 : Cond.methodLink "StripeField" 20 ⟨"StripeField$Rack", "<init>", "(LStripeField$Layout;)V"⟩ ∈ ltb := ltb_of 152 (by decide +kernel) (by decide +kernel)
theorem wi_RK_init : Cond.instanceMethod ⟨"StripeField$Rack", "<init>", "(LStripeField$Layout;)V"⟩ ∈ ltb := ltb_of 153 (by decide +kernel) (by decide +kernel)
set_option maxRecDepth 20000 in
theorem wo_RK_init : Cond.code ⟨"StripeField$Rack", "<init>", "(LStripeField$Layout;)V"⟩ prog_5_method_1_code 3 none ∈ ltb := ltb_of 154 rfl (by decide +kernel)
theorem wm_RK_3 : Cond.methodLink "StripeField$Rack" 3 ⟨"java/lang/Object", "<init>", "()V"⟩ ∈ ltb := ltb_of 155 (by decide +kernel) (by decide +kernel)
theorem wm_RK_41 : Cond.methodLink "StripeField$Rack" 41 ⟨"StripeField$Rack", "writeAll", "()V"⟩ ∈ ltb := ltb_of 156 (by decide +kernel) (by decide +kernel)
theorem wi_RK_writeAll : Cond.instanceMethod ⟨"StripeField$Rack", "writeAll", "()V"⟩ ∈ ltb := ltb_of 158 (by decide +kernel) (by decide +kernel)
set_option maxRecDepth 20000 in
theorem wo_RK_writeAll : Cond.code ⟨"StripeField$Rack", "writeAll", "()V"⟩ prog_5_method_2_code 5 none ∈ ltb := ltb_of 159 rfl (by decide +kernel)
theorem wm_RK_51 : Cond.methodLink "StripeField$Rack" 51 ⟨"StripeField$Rack", "store", "(I[JI)V"⟩ ∈ ltb := ltb_of 160 (by decide +kernel) (by decide +kernel)
theorem wi_RK_store : Cond.instanceMethod ⟨"StripeField$Rack", "store", "(I[JI)V"⟩ ∈ ltb := ltb_of 161 (by decide +kernel) (by decide +kernel)
theorem wl_RK_store : Cond.selects "StripeField$Rack" ⟨"StripeField$Rack", "store", "(I[JI)V"⟩ ⟨"StripeField$Rack", "store", "(I[JI)V"⟩ ∈ ltb := ltb_of 162 (by decide +kernel) (by decide +kernel)
set_option maxRecDepth 20000 in
theorem wo_RK_store : Cond.code ⟨"StripeField$Rack", "store", "(I[JI)V"⟩ prog_5_method_4_code 6 none ∈ ltb := ltb_of 163 rfl (by decide +kernel)
theorem wm_RK_76 : Cond.methodLink "StripeField$Rack" 76 ⟨"StripeField$Rack", "checkOf", "(I)I"⟩ ∈ ltb := ltb_of 164 (by decide +kernel) (by decide +kernel)
theorem wi_RK_checkOf : Cond.instanceMethod ⟨"StripeField$Rack", "checkOf", "(I)I"⟩ ∈ ltb := ltb_of 166 (by decide +kernel) (by decide +kernel)
set_option maxRecDepth 20000 in
theorem wo_RK_checkOf : Cond.code ⟨"StripeField$Rack", "checkOf", "(I)I"⟩ prog_5_method_5_code 5 (some FieldType.int) ∈ ltb := ltb_of 167 rfl (by decide +kernel)
theorem wc_RK_81 : Cond.constant "StripeField$Rack" 81 (-2097792136) ∈ ltb := ltb_of 168 (by decide +kernel) (by decide +kernel)
theorem wj_RK_79 : Cond.constantLong "StripeField$Rack" 79 (4294967295) ∈ ltb := ltb_of 169 (by decide +kernel) (by decide +kernel)
theorem wm_RK_58 : Cond.methodLink "StripeField$Rack" 58 ⟨"StripeField$Layout", "slot", "(II)I"⟩ ∈ ltb := ltb_of 170 (by decide +kernel) (by decide +kernel)
theorem wi_LA_slot : Cond.instanceMethod ⟨"StripeField$Layout", "slot", "(II)I"⟩ ∈ ltb := ltb_of 171 (by decide +kernel) (by decide +kernel)
theorem wl_LA_slot : Cond.selects "StripeField$Layout" ⟨"StripeField$Layout", "slot", "(II)I"⟩ ⟨"StripeField$Layout", "slot", "(II)I"⟩ ∈ ltb := ltb_of 172 (by decide +kernel) (by decide +kernel)
set_option maxRecDepth 20000 in
theorem wo_LA_slot : Cond.code ⟨"StripeField$Layout", "slot", "(II)I"⟩ prog_2_method_8_code 3 (some FieldType.int) ∈ ltb := ltb_of 173 rfl (by decide +kernel)
theorem wm_RK_62 : Cond.methodLink "StripeField$Rack" 62 ⟨"StripeField$Rack", "storeLike", "(II)V"⟩ ∈ ltb := ltb_of 174 (by decide +kernel) (by decide +kernel)
theorem wi_RK_storeLike : Cond.instanceMethod ⟨"StripeField$Rack", "storeLike", "(II)V"⟩ ∈ ltb := ltb_of 176 (by decide +kernel) (by decide +kernel)
set_option maxRecDepth 20000 in
theorem wo_RK_storeLike : Cond.code ⟨"StripeField$Rack", "storeLike", "(II)V"⟩ prog_5_method_3_code 3 none ∈ ltb := ltb_of 177 rfl (by decide +kernel)
theorem wm_RK_70 : Cond.methodLink "StripeField$Rack" 70 ⟨"java/lang/System", "arraycopy", "(Ljava/lang/Object;ILjava/lang/Object;II)V"⟩ ∈ ltb := ltb_of 178 (by decide +kernel) (by decide +kernel)
theorem wm_RK_66 : Cond.methodLink "StripeField$Rack" 66 ⟨"StripeField$Layout", "logOf", "(I)I"⟩ ∈ ltb := ltb_of 179 (by decide +kernel) (by decide +kernel)
theorem wi_LA_logOf : Cond.instanceMethod ⟨"StripeField$Layout", "logOf", "(I)I"⟩ ∈ ltb := ltb_of 180 (by decide +kernel) (by decide +kernel)
theorem wl_LA_logOf : Cond.selects "StripeField$Layout" ⟨"StripeField$Layout", "logOf", "(I)I"⟩ ⟨"StripeField$Layout", "logOf", "(I)I"⟩ ∈ ltb := ltb_of 181 (by decide +kernel) (by decide +kernel)
set_option maxRecDepth 20000 in
theorem wo_LA_logOf : Cond.code ⟨"StripeField$Layout", "logOf", "(I)I"⟩ prog_2_method_7_code 2 (some FieldType.int) ∈ ltb := ltb_of 182 rfl (by decide +kernel)
theorem wm_LA_59 : Cond.methodLink "StripeField$Layout" 59 ⟨"StripeField$Layout", "cell", "(II)I"⟩ ∈ ltb := ltb_of 183 (by decide +kernel) (by decide +kernel)
theorem wi_LA_cell : Cond.instanceMethod ⟨"StripeField$Layout", "cell", "(II)I"⟩ ∈ ltb := ltb_of 184 (by decide +kernel) (by decide +kernel)
theorem wl_LA_cell : Cond.selects "StripeField$Layout" ⟨"StripeField$Layout", "cell", "(II)I"⟩ ⟨"StripeField$Layout", "cell", "(II)I"⟩ ∈ ltb := ltb_of 185 (by decide +kernel) (by decide +kernel)
set_option maxRecDepth 20000 in
theorem wo_LA_cell : Cond.code ⟨"StripeField$Layout", "cell", "(II)I"⟩ prog_2_method_5_code 3 (some FieldType.int) ∈ ltb := ltb_of 186 rfl (by decide +kernel)
theorem wf_RK_21 : Cond.fieldLink "StripeField$Rack" 21 "StripeField$Rack" "live" "[Z" ∈ ltb := ltb_of 187 (by decide +kernel) (by decide +kernel)
theorem wf_PL_79 : Cond.fieldLink "StripeField$Places" 79 "StripeField$Rack" "live" "[Z" ∈ ltb := ltb_of 188 (by decide +kernel) (by decide +kernel)
theorem wf_SF_141 : Cond.fieldLink "StripeField" 141 "StripeField$Rack" "live" "[Z" ∈ ltb := ltb_of 189 (by decide +kernel) (by decide +kernel)
theorem wf_RK_9 : Cond.fieldLink "StripeField$Rack" 9 "StripeField$Rack" "layout" "LStripeField$Layout;" ∈ ltb := ltb_of 190 (by decide +kernel) (by decide +kernel)
theorem wf_RK_28 : Cond.fieldLink "StripeField$Rack" 28 "StripeField$Rack" "words" "[J" ∈ ltb := ltb_of 191 (by decide +kernel) (by decide +kernel)
theorem wf_RK_32 : Cond.fieldLink "StripeField$Rack" 32 "StripeField$Rack" "drift" "[J" ∈ ltb := ltb_of 192 (by decide +kernel) (by decide +kernel)
theorem wf_RK_35 : Cond.fieldLink "StripeField$Rack" 35 "StripeField$Rack" "written" "[Z" ∈ ltb := ltb_of 193 (by decide +kernel) (by decide +kernel)
theorem wf_RK_38 : Cond.fieldLink "StripeField$Rack" 38 "StripeField$Rack" "valid" "[Z" ∈ ltb := ltb_of 194 (by decide +kernel) (by decide +kernel)
theorem wa_boolean : Cond.arrayClass FieldType.boolean ∈ ltb := ltb_of 208 (by decide +kernel) (by decide +kernel)
theorem wa_long : Cond.arrayClass FieldType.long ∈ ltb := ltb_of 209 (by decide +kernel) (by decide +kernel)
theorem wk_SF_27 : Cond.classLink "StripeField" 27 "StripeField$Places" ∈ ltb := ltb_of 210 (by decide +kernel) (by decide +kernel)
theorem wp_PL : Cond.instantiable "StripeField$Places" 4 ∈ ltb := ltb_of 211 (by decide +kernel) (by decide +kernel)
theorem wm_SF_29 : Cond.methodLink "StripeField" 29 ⟨"StripeField$Places", "<init>", "(LStripeField$Layout;LStripeField$Rack;)V"⟩ ∈ ltb := ltb_of 212 (by decide +kernel) (by decide +kernel)
theorem wi_PL_init : Cond.instanceMethod ⟨"StripeField$Places", "<init>", "(LStripeField$Layout;LStripeField$Rack;)V"⟩ ∈ ltb := ltb_of 213 (by decide +kernel) (by decide +kernel)
set_option maxRecDepth 20000 in
theorem wo_PL_init : Cond.code ⟨"StripeField$Places", "<init>", "(LStripeField$Layout;LStripeField$Rack;)V"⟩ prog_3_method_1_code 3 none ∈ ltb := ltb_of 214 rfl (by decide +kernel)
theorem wm_PL_3 : Cond.methodLink "StripeField$Places" 3 ⟨"java/lang/Object", "<init>", "()V"⟩ ∈ ltb := ltb_of 215 (by decide +kernel) (by decide +kernel)
theorem wm_PL_38 : Cond.methodLink "StripeField$Places" 38 ⟨"StripeField$Places", "find", "()V"⟩ ∈ ltb := ltb_of 216 (by decide +kernel) (by decide +kernel)
theorem wi_PL_find : Cond.instanceMethod ⟨"StripeField$Places", "find", "()V"⟩ ∈ ltb := ltb_of 217 (by decide +kernel) (by decide +kernel)
theorem wl_PL_find : Cond.selects "StripeField$Places" ⟨"StripeField$Places", "find", "()V"⟩ ⟨"StripeField$Places", "find", "()V"⟩ ∈ ltb := ltb_of 218 (by decide +kernel) (by decide +kernel)
set_option maxRecDepth 20000 in
theorem wo_PL_find : Cond.code ⟨"StripeField$Places", "find", "()V"⟩ prog_3_method_2_code 4 none ∈ ltb := ltb_of 219 rfl (by decide +kernel)
theorem wm_PL_41 : Cond.methodLink "StripeField$Places" 41 ⟨"java/util/Arrays", "fill", "([II)V"⟩ ∈ ltb := ltb_of 220 (by decide +kernel) (by decide +kernel)
theorem ws_AR_fillI : Cond.static ⟨"java/util/Arrays", "fill", "([II)V"⟩ ∈ ltb := ltb_of 221 (by decide +kernel) (by decide +kernel)
set_option maxRecDepth 20000 in
theorem wo_AR_fillI : Cond.code ⟨"java/util/Arrays", "fill", "([II)V"⟩ prog_17_method_103_code 4 none ∈ ltb := ltb_of 222 rfl (by decide +kernel)
theorem wm_PL_50 : Cond.methodLink "StripeField$Places" 50 ⟨"StripeField$Layout", "slot", "(II)I"⟩ ∈ ltb := ltb_of 223 (by decide +kernel) (by decide +kernel)
theorem wm_PL_54 : Cond.methodLink "StripeField$Places" 54 ⟨"StripeField$Places", "found", "(II)I"⟩ ∈ ltb := ltb_of 224 (by decide +kernel) (by decide +kernel)
theorem wi_PL_found : Cond.instanceMethod ⟨"StripeField$Places", "found", "(II)I"⟩ ∈ ltb := ltb_of 226 (by decide +kernel) (by decide +kernel)
set_option maxRecDepth 20000 in
theorem wo_PL_found : Cond.code ⟨"StripeField$Places", "found", "(II)I"⟩ prog_3_method_3_code 5 (some FieldType.int) ∈ ltb := ltb_of 227 rfl (by decide +kernel)
theorem wm_PL_60 : Cond.methodLink "StripeField$Places" 60 ⟨"StripeField$Rack", "isWritten", "(I)Z"⟩ ∈ ltb := ltb_of 228 (by decide +kernel) (by decide +kernel)
theorem wi_RK_isWritten : Cond.instanceMethod ⟨"StripeField$Rack", "isWritten", "(I)Z"⟩ ∈ ltb := ltb_of 229 (by decide +kernel) (by decide +kernel)
theorem wl_RK_isWritten : Cond.selects "StripeField$Rack" ⟨"StripeField$Rack", "isWritten", "(I)Z"⟩ ⟨"StripeField$Rack", "isWritten", "(I)Z"⟩ ∈ ltb := ltb_of 230 (by decide +kernel) (by decide +kernel)
set_option maxRecDepth 20000 in
theorem wo_RK_isWritten : Cond.code ⟨"StripeField$Rack", "isWritten", "(I)Z"⟩ prog_5_method_9_code 2 (some FieldType.boolean) ∈ ltb := ltb_of 231 rfl (by decide +kernel)
theorem wm_PL_66 : Cond.methodLink "StripeField$Places" 66 ⟨"StripeField$Rack", "isValid", "(I)Z"⟩ ∈ ltb := ltb_of 232 (by decide +kernel) (by decide +kernel)
theorem wi_RK_isValid : Cond.instanceMethod ⟨"StripeField$Rack", "isValid", "(I)Z"⟩ ∈ ltb := ltb_of 233 (by decide +kernel) (by decide +kernel)
theorem wl_RK_isValid : Cond.selects "StripeField$Rack" ⟨"StripeField$Rack", "isValid", "(I)Z"⟩ ⟨"StripeField$Rack", "isValid", "(I)Z"⟩ ∈ ltb := ltb_of 234 (by decide +kernel) (by decide +kernel)
set_option maxRecDepth 20000 in
theorem wo_RK_isValid : Cond.code ⟨"StripeField$Rack", "isValid", "(I)Z"⟩ prog_5_method_10_code 2 (some FieldType.boolean) ∈ ltb := ltb_of 235 rfl (by decide +kernel)
theorem wm_PL_69 : Cond.methodLink "StripeField$Places" 69 ⟨"StripeField$Rack", "tag", "(I)I"⟩ ∈ ltb := ltb_of 236 (by decide +kernel) (by decide +kernel)
theorem wi_RK_tag : Cond.instanceMethod ⟨"StripeField$Rack", "tag", "(I)I"⟩ ∈ ltb := ltb_of 237 (by decide +kernel) (by decide +kernel)
theorem wl_RK_tag : Cond.selects "StripeField$Rack" ⟨"StripeField$Rack", "tag", "(I)I"⟩ ⟨"StripeField$Rack", "tag", "(I)I"⟩ ∈ ltb := ltb_of 238 (by decide +kernel) (by decide +kernel)
set_option maxRecDepth 20000 in
theorem wo_RK_tag : Cond.code ⟨"StripeField$Rack", "tag", "(I)I"⟩ prog_5_method_11_code 2 (some FieldType.int) ∈ ltb := ltb_of 239 rfl (by decide +kernel)
theorem wj_RK_89 : Cond.constantLong "StripeField$Rack" 89 (65535) ∈ ltb := ltb_of 240 (by decide +kernel) (by decide +kernel)
theorem wm_PL_73 : Cond.methodLink "StripeField$Places" 73 ⟨"StripeField$Layout", "tagOf", "(I)I"⟩ ∈ ltb := ltb_of 241 (by decide +kernel) (by decide +kernel)
theorem wi_LA_tagOf : Cond.instanceMethod ⟨"StripeField$Layout", "tagOf", "(I)I"⟩ ∈ ltb := ltb_of 242 (by decide +kernel) (by decide +kernel)
theorem wl_LA_tagOf : Cond.selects "StripeField$Layout" ⟨"StripeField$Layout", "tagOf", "(I)I"⟩ ⟨"StripeField$Layout", "tagOf", "(I)I"⟩ ∈ ltb := ltb_of 243 (by decide +kernel) (by decide +kernel)
set_option maxRecDepth 20000 in
theorem wo_LA_tagOf : Cond.code ⟨"StripeField$Layout", "tagOf", "(I)I"⟩ prog_2_method_12_code 2 (some FieldType.int) ∈ ltb := ltb_of 244 rfl (by decide +kernel)
theorem wf_PL_28 : Cond.fieldLink "StripeField$Places" 28 "StripeField$Places" "place" "[I" ∈ ltb := ltb_of 245 (by decide +kernel) (by decide +kernel)
theorem wf_SF_197 : Cond.fieldLink "StripeField" 197 "StripeField$Places" "place" "[I" ∈ ltb := ltb_of 246 (by decide +kernel) (by decide +kernel)
theorem wf_PL_35 : Cond.fieldLink "StripeField$Places" 35 "StripeField$Places" "holder" "[I" ∈ ltb := ltb_of 247 (by decide +kernel) (by decide +kernel)
theorem wf_SF_176 : Cond.fieldLink "StripeField" 176 "StripeField$Places" "holder" "[I" ∈ ltb := ltb_of 248 (by decide +kernel) (by decide +kernel)
theorem wf_PL_9 : Cond.fieldLink "StripeField$Places" 9 "StripeField$Places" "layout" "LStripeField$Layout;" ∈ ltb := ltb_of 249 (by decide +kernel) (by decide +kernel)
theorem wf_PL_15 : Cond.fieldLink "StripeField$Places" 15 "StripeField$Places" "rack" "LStripeField$Rack;" ∈ ltb := ltb_of 250 (by decide +kernel) (by decide +kernel)
theorem wk_SF_36 : Cond.classLink "StripeField" 36 "StripeField$Power" ∈ ltb := ltb_of 260 (by decide +kernel) (by decide +kernel)
theorem wp_PW : Cond.instantiable "StripeField$Power" 3 ∈ ltb := ltb_of 261 (by decide +kernel) (by decide +kernel)
theorem wx_SF_38 : Cond.methodLinkNest "StripeField" 38 ⟨"StripeField$Power", "<init>", "()V"⟩ "StripeField" ∈ lw_tbl := List.mem_of_getElem? (i := 262) (by decide +kernel)
theorem wi_PW_init : Cond.instanceMethod ⟨"StripeField$Power", "<init>", "()V"⟩ ∈ ltb := ltb_of 263 (by decide +kernel) (by decide +kernel)
set_option maxRecDepth 20000 in
theorem wo_PW_init : Cond.code ⟨"StripeField$Power", "<init>", "()V"⟩ prog_4_method_1_code 1 none ∈ ltb := ltb_of 264 rfl (by decide +kernel)
theorem wm_PW_1 : Cond.methodLink "StripeField$Power" 1 ⟨"java/lang/Object", "<init>", "()V"⟩ ∈ ltb := ltb_of 265 (by decide +kernel) (by decide +kernel)
theorem wf_PW_7 : Cond.fieldLink "StripeField$Power" 7 "StripeField$Power" "on" "Z" ∈ ltb := ltb_of 266 (by decide +kernel) (by decide +kernel)
theorem wf_SF_81 : Cond.fieldLink "StripeField" 81 "StripeField$Power" "on" "Z" ∈ ltb := ltb_of 267 (by decide +kernel) (by decide +kernel)
theorem wf_PW_13 : Cond.fieldLink "StripeField$Power" 13 "StripeField$Power" "writesLeft" "I" ∈ ltb := ltb_of 268 (by decide +kernel) (by decide +kernel)
theorem wf_SF_115 : Cond.fieldLink "StripeField" 115 "StripeField$Power" "writesLeft" "I" ∈ ltb := ltb_of 269 (by decide +kernel) (by decide +kernel)
theorem wf_PW_20 : Cond.fieldLink "StripeField$Power" 20 "StripeField$Power" "writesDone" "I" ∈ ltb := ltb_of 270 (by decide +kernel) (by decide +kernel)
theorem wf_SF_226 : Cond.fieldLink "StripeField" 226 "StripeField$Power" "writesDone" "I" ∈ ltb := ltb_of 271 (by decide +kernel) (by decide +kernel)
theorem wf_SF_12 : Cond.fieldLink "StripeField" 12 "StripeField" "layout" "LStripeField$Layout;" ∈ ltb := ltb_of 279 (by decide +kernel) (by decide +kernel)
theorem wf_SF_23 : Cond.fieldLink "StripeField" 23 "StripeField" "rack" "LStripeField$Rack;" ∈ ltb := ltb_of 280 (by decide +kernel) (by decide +kernel)
theorem wf_SF_32 : Cond.fieldLink "StripeField" 32 "StripeField" "places" "LStripeField$Places;" ∈ ltb := ltb_of 281 (by decide +kernel) (by decide +kernel)
theorem wf_SF_39 : Cond.fieldLink "StripeField" 39 "StripeField" "power" "LStripeField$Power;" ∈ ltb := ltb_of 282 (by decide +kernel) (by decide +kernel)
theorem wf_SF_43 : Cond.fieldLink "StripeField" 43 "StripeField" "tape" "[J" ∈ ltb := ltb_of 283 (by decide +kernel) (by decide +kernel)
theorem wf_SF_63 : Cond.fieldLink "StripeField" 63 "StripeField" "tapeBytes" "I" ∈ ltb := ltb_of 284 (by decide +kernel) (by decide +kernel)
theorem wf_SF_123 : Cond.fieldLink "StripeField" 123 "StripeField" "next" "I" ∈ ltb := ltb_of 285 (by decide +kernel) (by decide +kernel)
theorem wf_SF_223 : Cond.fieldLink "StripeField" 223 "StripeField" "holes" "I" ∈ ltb := ltb_of 286 (by decide +kernel) (by decide +kernel)
theorem wf_SF_47 : Cond.fieldLink "StripeField" 47 "StripeField" "fresh" "[J" ∈ ltb := ltb_of 287 (by decide +kernel) (by decide +kernel)
theorem wf_SF_50 : Cond.fieldLink "StripeField" 50 "StripeField" "sum" "[J" ∈ ltb := ltb_of 288 (by decide +kernel) (by decide +kernel)
theorem wf_SF_53 : Cond.fieldLink "StripeField" 53 "StripeField" "zeros" "[J" ∈ ltb := ltb_of 289 (by decide +kernel) (by decide +kernel)
theorem wm_LW_64 : Cond.methodLink "StripeFieldLaw" 64 ⟨"StripeFieldLaw", "cell", "([II)I"⟩ ∈ ltb := ltb_of 313 (by decide +kernel) (by decide +kernel)
theorem ws_LW_cell : Cond.static ⟨"StripeFieldLaw", "cell", "([II)I"⟩ ∈ ltb := ltb_of 314 (by decide +kernel) (by decide +kernel)
set_option maxRecDepth 20000 in
theorem wo_LW_cell : Cond.code ⟨"StripeFieldLaw", "cell", "([II)I"⟩ method_2_code 2 (some FieldType.int) ∈ ltb := ltb_of 315 rfl (by decide +kernel)
theorem wm_LW_78 : Cond.methodLink "StripeFieldLaw" 78 ⟨"StripeFieldLaw", "feed", "(LStripeField;IJ[J)I"⟩ ∈ ltb := ltb_of 316 (by decide +kernel) (by decide +kernel)
theorem ws_LW_feed : Cond.static ⟨"StripeFieldLaw", "feed", "(LStripeField;IJ[J)I"⟩ ∈ ltb := ltb_of 317 (by decide +kernel) (by decide +kernel)
theorem wk_LW_13 : Cond.classLink "StripeFieldLaw" 13 "java/lang/IllegalArgumentException" ∈ ltb := ltb_of 319 (by decide +kernel) (by decide +kernel)
theorem wk_LW_15 : Cond.classLink "StripeFieldLaw" 15 "java/lang/IllegalStateException" ∈ ltb := ltb_of 320 (by decide +kernel) (by decide +kernel)
theorem wm_LW_7 : Cond.methodLink "StripeFieldLaw" 7 ⟨"StripeField", "feed", "(IJ)I"⟩ ∈ ltb := ltb_of 321 (by decide +kernel) (by decide +kernel)
theorem wi_SF_feed : Cond.instanceMethod ⟨"StripeField", "feed", "(IJ)I"⟩ ∈ ltb := ltb_of 322 (by decide +kernel) (by decide +kernel)
theorem wl_SF_feed : Cond.selects "StripeField" ⟨"StripeField", "feed", "(IJ)I"⟩ ⟨"StripeField", "feed", "(IJ)I"⟩ ∈ ltb := ltb_of 323 (by decide +kernel) (by decide +kernel)
set_option maxRecDepth 20000 in
theorem wo_SF_feed : Cond.code ⟨"StripeField", "feed", "(IJ)I"⟩ prog_1_method_2_code 4 (some FieldType.int) ∈ ltb := ltb_of 324 rfl (by decide +kernel)
theorem wk_SF_56 : Cond.classLink "StripeField" 56 "java/lang/IllegalArgumentException" ∈ ltb := ltb_of 325 (by decide +kernel) (by decide +kernel)
theorem wp_IA : Cond.instantiable "java/lang/IllegalArgumentException" 6 ∈ ltb := ltb_of 326 (by decide +kernel) (by decide +kernel)
theorem wf_TH_198 : Cond.fieldLink "java/lang/Throwable" 198 "java/lang/Throwable" "backtrace" "Ljava/lang/Object;" ∈ ltb := ltb_of 346 (by decide +kernel) (by decide +kernel)
theorem wi_TH_init0 : Cond.instanceMethod ⟨"java/lang/Throwable", "<init>", "()V"⟩ ∈ ltb := ltb_of 348 (by decide +kernel) (by decide +kernel)
set_option maxRecDepth 20000 in
theorem wo_TH_init0 : Cond.code ⟨"java/lang/Throwable", "<init>", "()V"⟩ prog_16_method_1_code 1 none ∈ ltb := ltb_of 349 rfl (by decide +kernel)
theorem wm_TH_1 : Cond.methodLink "java/lang/Throwable" 1 ⟨"java/lang/Object", "<init>", "()V"⟩ ∈ ltb := ltb_of 350 (by decide +kernel) (by decide +kernel)
theorem wf_TH_13 : Cond.fieldLink "java/lang/Throwable" 13 "java/lang/Throwable" "UNASSIGNED_STACK" "[Ljava/lang/StackTraceElement;" ∈ ltb := ltb_of 351 (by decide +kernel) (by decide +kernel)
theorem wf_TH_20 : Cond.fieldLink "java/lang/Throwable" 20 "java/lang/Throwable" "SUPPRESSED_SENTINEL" "Ljava/util/List;" ∈ ltb := ltb_of 353 (by decide +kernel) (by decide +kernel)
theorem wm_TH_27 : Cond.methodLink "java/lang/Throwable" 27 ⟨"java/lang/Throwable", "fillInStackTrace", "()Ljava/lang/Throwable;"⟩ ∈ ltb := ltb_of 355 (by decide +kernel) (by decide +kernel)
theorem wi_TH_fillInStackTrace : Cond.instanceMethod ⟨"java/lang/Throwable", "fillInStackTrace", "()Ljava/lang/Throwable;"⟩ ∈ ltb := ltb_of 356 (by decide +kernel) (by decide +kernel)
theorem wm_TH_202 : Cond.methodLink "java/lang/Throwable" 202 ⟨"java/lang/Throwable", "fillInStackTrace", "(I)Ljava/lang/Throwable;"⟩ ∈ ltb := ltb_of 360 (by decide +kernel) (by decide +kernel)
theorem wp_TH : Cond.instantiable "java/lang/Throwable" 6 ∈ ltb := ltb_of 363 (by decide +kernel) (by decide +kernel)
theorem wm_SF_60 : Cond.methodLink "StripeField" 60 ⟨"java/lang/IllegalArgumentException", "<init>", "(Ljava/lang/String;)V"⟩ ∈ ltb := ltb_of 366 (by decide +kernel) (by decide +kernel)
theorem wi_IA_init : Cond.instanceMethod ⟨"java/lang/IllegalArgumentException", "<init>", "(Ljava/lang/String;)V"⟩ ∈ ltb := ltb_of 367 (by decide +kernel) (by decide +kernel)
set_option maxRecDepth 20000 in
theorem wo_IA_init : Cond.code ⟨"java/lang/IllegalArgumentException", "<init>", "(Ljava/lang/String;)V"⟩ prog_10_method_2_code 2 none ∈ ltb := ltb_of 368 rfl (by decide +kernel)
theorem wm_IA_7 : Cond.methodLink "java/lang/IllegalArgumentException" 7 ⟨"java/lang/RuntimeException", "<init>", "(Ljava/lang/String;)V"⟩ ∈ ltb := ltb_of 369 (by decide +kernel) (by decide +kernel)
theorem wi_RE_init : Cond.instanceMethod ⟨"java/lang/RuntimeException", "<init>", "(Ljava/lang/String;)V"⟩ ∈ ltb := ltb_of 370 (by decide +kernel) (by decide +kernel)
set_option maxRecDepth 20000 in
theorem wo_RE_init : Cond.code ⟨"java/lang/RuntimeException", "<init>", "(Ljava/lang/String;)V"⟩ prog_13_method_2_code 2 none ∈ ltb := ltb_of 371 rfl (by decide +kernel)
theorem wm_RE_7 : Cond.methodLink "java/lang/RuntimeException" 7 ⟨"java/lang/Exception", "<init>", "(Ljava/lang/String;)V"⟩ ∈ ltb := ltb_of 372 (by decide +kernel) (by decide +kernel)
theorem wi_EX_init : Cond.instanceMethod ⟨"java/lang/Exception", "<init>", "(Ljava/lang/String;)V"⟩ ∈ ltb := ltb_of 373 (by decide +kernel) (by decide +kernel)
set_option maxRecDepth 20000 in
theorem wo_EX_init : Cond.code ⟨"java/lang/Exception", "<init>", "(Ljava/lang/String;)V"⟩ prog_9_method_2_code 2 none ∈ ltb := ltb_of 374 rfl (by decide +kernel)
theorem wm_EX_7 : Cond.methodLink "java/lang/Exception" 7 ⟨"java/lang/Throwable", "<init>", "(Ljava/lang/String;)V"⟩ ∈ ltb := ltb_of 375 (by decide +kernel) (by decide +kernel)
theorem wi_TH_init1 : Cond.instanceMethod ⟨"java/lang/Throwable", "<init>", "(Ljava/lang/String;)V"⟩ ∈ ltb := ltb_of 376 (by decide +kernel) (by decide +kernel)
set_option maxRecDepth 20000 in
theorem wo_TH_init1 : Cond.code ⟨"java/lang/Throwable", "<init>", "(Ljava/lang/String;)V"⟩ prog_16_method_2_code 2 none ∈ ltb := ltb_of 377 rfl (by decide +kernel)
theorem wf_TH_31 : Cond.fieldLink "java/lang/Throwable" 31 "java/lang/Throwable" "detailMessage" "Ljava/lang/String;" ∈ ltb := ltb_of 379 (by decide +kernel) (by decide +kernel)
theorem wf_TH_7 : Cond.fieldLink "java/lang/Throwable" 7 "java/lang/Throwable" "cause" "Ljava/lang/Throwable;" ∈ ltb := ltb_of 380 (by decide +kernel) (by decide +kernel)
theorem wf_TH_17 : Cond.fieldLink "java/lang/Throwable" 17 "java/lang/Throwable" "stackTrace" "[Ljava/lang/StackTraceElement;" ∈ ltb := ltb_of 381 (by decide +kernel) (by decide +kernel)
theorem wf_TH_24 : Cond.fieldLink "java/lang/Throwable" 24 "java/lang/Throwable" "suppressedExceptions" "Ljava/util/List;" ∈ ltb := ltb_of 382 (by decide +kernel) (by decide +kernel)
theorem wa_byte : Cond.arrayClass FieldType.byte ∈ ltb := ltb_of 391 (by decide +kernel) (by decide +kernel)
theorem wk_SF_67 : Cond.classLink "StripeField" 67 "java/lang/IllegalStateException" ∈ ltb := ltb_of 392 (by decide +kernel) (by decide +kernel)
theorem wp_IS : Cond.instantiable "java/lang/IllegalStateException" 6 ∈ ltb := ltb_of 393 (by decide +kernel) (by decide +kernel)
theorem wm_SF_71 : Cond.methodLink "StripeField" 71 ⟨"java/lang/IllegalStateException", "<init>", "(Ljava/lang/String;)V"⟩ ∈ ltb := ltb_of 402 (by decide +kernel) (by decide +kernel)
theorem wi_IS_init : Cond.instanceMethod ⟨"java/lang/IllegalStateException", "<init>", "(Ljava/lang/String;)V"⟩ ∈ ltb := ltb_of 403 (by decide +kernel) (by decide +kernel)
set_option maxRecDepth 20000 in
theorem wo_IS_init : Cond.code ⟨"java/lang/IllegalStateException", "<init>", "(Ljava/lang/String;)V"⟩ prog_11_method_2_code 2 none ∈ ltb := ltb_of 404 rfl (by decide +kernel)
theorem wm_IS_7 : Cond.methodLink "java/lang/IllegalStateException" 7 ⟨"java/lang/RuntimeException", "<init>", "(Ljava/lang/String;)V"⟩ ∈ ltb := ltb_of 405 (by decide +kernel) (by decide +kernel)
theorem wm_SF_72 : Cond.methodLink "StripeField" 72 ⟨"StripeField", "xorBytes", "([JIIIJ)V"⟩ ∈ ltb := ltb_of 408 (by decide +kernel) (by decide +kernel)
theorem ws_SF_xorBytes : Cond.static ⟨"StripeField", "xorBytes", "([JIIIJ)V"⟩ ∈ ltb := ltb_of 409 (by decide +kernel) (by decide +kernel)
set_option maxRecDepth 20000 in
theorem wo_SF_xorBytes : Cond.code ⟨"StripeField", "xorBytes", "([JIIIJ)V"⟩ prog_1_method_36_code 9 none ∈ ltb := ltb_of 410 rfl (by decide +kernel)
theorem wj_SF_329 : Cond.constantLong "StripeField" 329 (255) ∈ ltb := ltb_of 411 (by decide +kernel) (by decide +kernel)
theorem wm_LW_85 : Cond.methodLink "StripeFieldLaw" 85 ⟨"StripeFieldLaw", "write", "(LStripeField;I[J)I"⟩ ∈ ltb := ltb_of 412 (by decide +kernel) (by decide +kernel)
theorem ws_LW_write : Cond.static ⟨"StripeFieldLaw", "write", "(LStripeField;I[J)I"⟩ ∈ ltb := ltb_of 413 (by decide +kernel) (by decide +kernel)
theorem wm_LW_17 : Cond.methodLink "StripeFieldLaw" 17 ⟨"StripeField", "write", "(I)Z"⟩ ∈ ltb := ltb_of 415 (by decide +kernel) (by decide +kernel)
theorem wi_SF_write : Cond.instanceMethod ⟨"StripeField", "write", "(I)Z"⟩ ∈ ltb := ltb_of 416 (by decide +kernel) (by decide +kernel)
theorem wl_SF_write : Cond.selects "StripeField" ⟨"StripeField", "write", "(I)Z"⟩ ⟨"StripeField", "write", "(I)Z"⟩ ∈ ltb := ltb_of 417 (by decide +kernel) (by decide +kernel)
set_option maxRecDepth 20000 in
theorem wo_SF_write : Cond.code ⟨"StripeField", "write", "(I)Z"⟩ prog_1_method_3_code 2 (some FieldType.boolean) ∈ ltb := ltb_of 418 rfl (by decide +kernel)
theorem wm_SF_87 : Cond.methodLink "StripeField" 87 ⟨"StripeField", "takeTape", "()V"⟩ ∈ ltb := ltb_of 421 (by decide +kernel) (by decide +kernel)
theorem wi_SF_takeTape : Cond.instanceMethod ⟨"StripeField", "takeTape", "()V"⟩ ∈ ltb := ltb_of 423 (by decide +kernel) (by decide +kernel)
set_option maxRecDepth 20000 in
theorem wo_SF_takeTape : Cond.code ⟨"StripeField", "takeTape", "()V"⟩ prog_1_method_17_code 1 none ∈ ltb := ltb_of 424 rfl (by decide +kernel)
theorem wm_SF_259 : Cond.methodLink "StripeField" 259 ⟨"java/lang/System", "arraycopy", "(Ljava/lang/Object;ILjava/lang/Object;II)V"⟩ ∈ ltb := ltb_of 425 (by decide +kernel) (by decide +kernel)
theorem wm_SF_103 : Cond.methodLink "StripeField" 103 ⟨"java/util/Arrays", "fill", "([JJ)V"⟩ ∈ ltb := ltb_of 426 (by decide +kernel) (by decide +kernel)
theorem ws_AR_fillJ : Cond.static ⟨"java/util/Arrays", "fill", "([JJ)V"⟩ ∈ ltb := ltb_of 427 (by decide +kernel) (by decide +kernel)
set_option maxRecDepth 20000 in
theorem wo_AR_fillJ : Cond.code ⟨"java/util/Arrays", "fill", "([JJ)V"⟩ prog_17_method_101_code 5 none ∈ ltb := ltb_of 428 rfl (by decide +kernel)
theorem wm_SF_90 : Cond.methodLink "StripeField" 90 ⟨"StripeField$Layout", "stripeOfBlock", "(I)I"⟩ ∈ ltb := ltb_of 429 (by decide +kernel) (by decide +kernel)
theorem wi_LA_stripeOfBlock : Cond.instanceMethod ⟨"StripeField$Layout", "stripeOfBlock", "(I)I"⟩ ∈ ltb := ltb_of 430 (by decide +kernel) (by decide +kernel)
theorem wl_LA_stripeOfBlock : Cond.selects "StripeField$Layout" ⟨"StripeField$Layout", "stripeOfBlock", "(I)I"⟩ ⟨"StripeField$Layout", "stripeOfBlock", "(I)I"⟩ ∈ ltb := ltb_of 431 (by decide +kernel) (by decide +kernel)
set_option maxRecDepth 20000 in
theorem wo_LA_stripeOfBlock : Cond.code ⟨"StripeField$Layout", "stripeOfBlock", "(I)I"⟩ prog_2_method_13_code 2 (some FieldType.int) ∈ ltb := ltb_of 432 rfl (by decide +kernel)
theorem wm_SF_94 : Cond.methodLink "StripeField" 94 ⟨"StripeField$Layout", "columnOfBlock", "(I)I"⟩ ∈ ltb := ltb_of 433 (by decide +kernel) (by decide +kernel)
theorem wi_LA_columnOfBlock : Cond.instanceMethod ⟨"StripeField$Layout", "columnOfBlock", "(I)I"⟩ ∈ ltb := ltb_of 434 (by decide +kernel) (by decide +kernel)
theorem wl_LA_columnOfBlock : Cond.selects "StripeField$Layout" ⟨"StripeField$Layout", "columnOfBlock", "(I)I"⟩ ⟨"StripeField$Layout", "columnOfBlock", "(I)I"⟩ ∈ ltb := ltb_of 435 (by decide +kernel) (by decide +kernel)
set_option maxRecDepth 20000 in
theorem wo_LA_columnOfBlock : Cond.code ⟨"StripeField$Layout", "columnOfBlock", "(I)I"⟩ prog_2_method_14_code 2 (some FieldType.int) ∈ ltb := ltb_of 436 rfl (by decide +kernel)
theorem wm_SF_97 : Cond.methodLink "StripeField" 97 ⟨"StripeField", "writeFresh", "(II)Z"⟩ ∈ ltb := ltb_of 437 (by decide +kernel) (by decide +kernel)
theorem wi_SF_writeFresh : Cond.instanceMethod ⟨"StripeField", "writeFresh", "(II)Z"⟩ ∈ ltb := ltb_of 439 (by decide +kernel) (by decide +kernel)
set_option maxRecDepth 20000 in
theorem wo_SF_writeFresh : Cond.code ⟨"StripeField", "writeFresh", "(II)Z"⟩ prog_1_method_18_code 4 (some FieldType.boolean) ∈ ltb := ltb_of 440 rfl (by decide +kernel)
theorem wm_SF_268 : Cond.methodLink "StripeField" 268 ⟨"StripeField", "placeOf", "(II)I"⟩ ∈ ltb := ltb_of 441 (by decide +kernel) (by decide +kernel)
theorem wi_SF_placeOf : Cond.instanceMethod ⟨"StripeField", "placeOf", "(II)I"⟩ ∈ ltb := ltb_of 443 (by decide +kernel) (by decide +kernel)
set_option maxRecDepth 20000 in
theorem wo_SF_placeOf : Cond.code ⟨"StripeField", "placeOf", "(II)I"⟩ prog_1_method_23_code 3 (some FieldType.int) ∈ ltb := ltb_of 444 rfl (by decide +kernel)
theorem wm_SF_287 : Cond.methodLink "StripeField" 287 ⟨"StripeField$Layout", "slotOf", "(II)I"⟩ ∈ ltb := ltb_of 445 (by decide +kernel) (by decide +kernel)
theorem wi_LA_slotOf : Cond.instanceMethod ⟨"StripeField$Layout", "slotOf", "(II)I"⟩ ∈ ltb := ltb_of 446 (by decide +kernel) (by decide +kernel)
theorem wl_LA_slotOf : Cond.selects "StripeField$Layout" ⟨"StripeField$Layout", "slotOf", "(II)I"⟩ ⟨"StripeField$Layout", "slotOf", "(II)I"⟩ ∈ ltb := ltb_of 447 (by decide +kernel) (by decide +kernel)
set_option maxRecDepth 20000 in
theorem wo_LA_slotOf : Cond.code ⟨"StripeField$Layout", "slotOf", "(II)I"⟩ prog_2_method_9_code 3 (some FieldType.int) ∈ ltb := ltb_of 448 rfl (by decide +kernel)
theorem wm_LA_63 : Cond.methodLink "StripeField$Layout" 63 ⟨"StripeField$Layout", "slot", "(II)I"⟩ ∈ ltb := ltb_of 449 (by decide +kernel) (by decide +kernel)
theorem wm_SF_216 : Cond.methodLink "StripeField" 216 ⟨"StripeField", "putColumn", "(II[J)Z"⟩ ∈ ltb := ltb_of 450 (by decide +kernel) (by decide +kernel)
theorem wi_SF_putColumn : Cond.instanceMethod ⟨"StripeField", "putColumn", "(II[J)Z"⟩ ∈ ltb := ltb_of 452 (by decide +kernel) (by decide +kernel)
set_option maxRecDepth 20000 in
theorem wo_SF_putColumn : Cond.code ⟨"StripeField", "putColumn", "(II[J)Z"⟩ prog_1_method_25_code 5 (some FieldType.boolean) ∈ ltb := ltb_of 453 rfl (by decide +kernel)
theorem wm_SF_297 : Cond.methodLink "StripeField" 297 ⟨"StripeField$Layout", "tagOf", "(I)I"⟩ ∈ ltb := ltb_of 454 (by decide +kernel) (by decide +kernel)
theorem wm_SF_203 : Cond.methodLink "StripeField" 203 ⟨"StripeField", "putCell", "(I[JI)Z"⟩ ∈ ltb := ltb_of 455 (by decide +kernel) (by decide +kernel)
theorem wi_SF_putCell : Cond.instanceMethod ⟨"StripeField", "putCell", "(I[JI)Z"⟩ ∈ ltb := ltb_of 457 (by decide +kernel) (by decide +kernel)
set_option maxRecDepth 20000 in
theorem wo_SF_putCell : Cond.code ⟨"StripeField", "putCell", "(I[JI)Z"⟩ prog_1_method_24_code 4 (some FieldType.boolean) ∈ ltb := ltb_of 458 rfl (by decide +kernel)
theorem wm_SF_290 : Cond.methodLink "StripeField" 290 ⟨"StripeField$Power", "spendWrite", "()Z"⟩ ∈ ltb := ltb_of 459 (by decide +kernel) (by decide +kernel)
theorem wi_PW_spendWrite : Cond.instanceMethod ⟨"StripeField$Power", "spendWrite", "()Z"⟩ ∈ ltb := ltb_of 460 (by decide +kernel) (by decide +kernel)
theorem wl_PW_spendWrite : Cond.selects "StripeField$Power" ⟨"StripeField$Power", "spendWrite", "()Z"⟩ ⟨"StripeField$Power", "spendWrite", "()Z"⟩ ∈ ltb := ltb_of 461 (by decide +kernel) (by decide +kernel)
set_option maxRecDepth 20000 in
theorem wo_PW_spendWrite : Cond.code ⟨"StripeField$Power", "spendWrite", "()Z"⟩ prog_4_method_3_code 1 (some FieldType.boolean) ∈ ltb := ltb_of 462 rfl (by decide +kernel)
theorem wm_PW_17 : Cond.methodLink "StripeField$Power" 17 ⟨"StripeField$Power", "cut", "()V"⟩ ∈ ltb := ltb_of 463 (by decide +kernel) (by decide +kernel)
theorem wi_PW_cut : Cond.instanceMethod ⟨"StripeField$Power", "cut", "()V"⟩ ∈ ltb := ltb_of 464 (by decide +kernel) (by decide +kernel)
theorem wl_PW_cut : Cond.selects "StripeField$Power" ⟨"StripeField$Power", "cut", "()V"⟩ ⟨"StripeField$Power", "cut", "()V"⟩ ∈ ltb := ltb_of 465 (by decide +kernel) (by decide +kernel)
set_option maxRecDepth 20000 in
theorem wo_PW_cut : Cond.code ⟨"StripeField$Power", "cut", "()V"⟩ prog_4_method_2_code 1 none ∈ ltb := ltb_of 466 rfl (by decide +kernel)
theorem wm_SF_293 : Cond.methodLink "StripeField" 293 ⟨"StripeField$Rack", "store", "(I[JI)V"⟩ ∈ ltb := ltb_of 467 (by decide +kernel) (by decide +kernel)
theorem wm_SF_109 : Cond.methodLink "StripeField" 109 ⟨"StripeField", "addRead", "(II)V"⟩ ∈ ltb := ltb_of 468 (by decide +kernel) (by decide +kernel)
theorem wi_SF_addRead : Cond.instanceMethod ⟨"StripeField", "addRead", "(II)V"⟩ ∈ ltb := ltb_of 470 (by decide +kernel) (by decide +kernel)
set_option maxRecDepth 20000 in
theorem wo_SF_addRead : Cond.code ⟨"StripeField", "addRead", "(II)V"⟩ prog_1_method_21_code 4 none ∈ ltb := ltb_of 471 rfl (by decide +kernel)
theorem wm_SF_280 : Cond.methodLink "StripeField" 280 ⟨"StripeField$Rack", "isValid", "(I)Z"⟩ ∈ ltb := ltb_of 472 (by decide +kernel) (by decide +kernel)
theorem wm_SF_283 : Cond.methodLink "StripeField" 283 ⟨"StripeField$Rack", "addTo", "([JI)V"⟩ ∈ ltb := ltb_of 473 (by decide +kernel) (by decide +kernel)
theorem wi_RK_addTo : Cond.instanceMethod ⟨"StripeField$Rack", "addTo", "([JI)V"⟩ ∈ ltb := ltb_of 474 (by decide +kernel) (by decide +kernel)
theorem wl_RK_addTo : Cond.selects "StripeField$Rack" ⟨"StripeField$Rack", "addTo", "([JI)V"⟩ ⟨"StripeField$Rack", "addTo", "([JI)V"⟩ ∈ ltb := ltb_of 475 (by decide +kernel) (by decide +kernel)
set_option maxRecDepth 20000 in
theorem wo_RK_addTo : Cond.code ⟨"StripeField$Rack", "addTo", "([JI)V"⟩ prog_5_method_12_code 4 none ∈ ltb := ltb_of 476 rfl (by decide +kernel)
theorem wm_SF_213 : Cond.methodLink "StripeField" 213 ⟨"StripeField", "addOthers", "(II)V"⟩ ∈ ltb := ltb_of 477 (by decide +kernel) (by decide +kernel)
theorem wi_SF_addOthers : Cond.instanceMethod ⟨"StripeField", "addOthers", "(II)V"⟩ ∈ ltb := ltb_of 479 (by decide +kernel) (by decide +kernel)
set_option maxRecDepth 20000 in
theorem wo_SF_addOthers : Cond.code ⟨"StripeField", "addOthers", "(II)V"⟩ prog_1_method_22_code 5 none ∈ ltb := ltb_of 480 rfl (by decide +kernel)
theorem wm_SF_271 : Cond.methodLink "StripeField" 271 ⟨"StripeField", "addFresh", "()V"⟩ ∈ ltb := ltb_of 481 (by decide +kernel) (by decide +kernel)
theorem wi_SF_addFresh : Cond.instanceMethod ⟨"StripeField", "addFresh", "()V"⟩ ∈ ltb := ltb_of 483 (by decide +kernel) (by decide +kernel)
set_option maxRecDepth 20000 in
theorem wo_SF_addFresh : Cond.code ⟨"StripeField", "addFresh", "()V"⟩ prog_1_method_20_code 2 none ∈ ltb := ltb_of 484 rfl (by decide +kernel)
theorem wm_SF_274 : Cond.methodLink "StripeField" 274 ⟨"StripeField", "writeLogged", "(II)Z"⟩ ∈ ltb := ltb_of 485 (by decide +kernel) (by decide +kernel)
theorem wi_SF_writeLogged : Cond.instanceMethod ⟨"StripeField", "writeLogged", "(II)Z"⟩ ∈ ltb := ltb_of 487 (by decide +kernel) (by decide +kernel)
set_option maxRecDepth 20000 in
theorem wo_SF_writeLogged : Cond.code ⟨"StripeField", "writeLogged", "(II)Z"⟩ prog_1_method_19_code 4 (some FieldType.boolean) ∈ ltb := ltb_of 488 rfl (by decide +kernel)
theorem wm_SF_256 : Cond.methodLink "StripeField" 256 ⟨"StripeField$Layout", "diskOf", "(I)I"⟩ ∈ ltb := ltb_of 489 (by decide +kernel) (by decide +kernel)
theorem wi_LA_diskOf : Cond.instanceMethod ⟨"StripeField$Layout", "diskOf", "(I)I"⟩ ∈ ltb := ltb_of 490 (by decide +kernel) (by decide +kernel)
theorem wl_LA_diskOf : Cond.selects "StripeField$Layout" ⟨"StripeField$Layout", "diskOf", "(I)I"⟩ ⟨"StripeField$Layout", "diskOf", "(I)I"⟩ ∈ ltb := ltb_of 491 (by decide +kernel) (by decide +kernel)
set_option maxRecDepth 20000 in
theorem wo_LA_diskOf : Cond.code ⟨"StripeField$Layout", "diskOf", "(I)I"⟩ prog_2_method_6_code 2 (some FieldType.int) ∈ ltb := ltb_of 492 rfl (by decide +kernel)
theorem wm_SF_277 : Cond.methodLink "StripeField" 277 ⟨"StripeField$Layout", "logOf", "(I)I"⟩ ∈ ltb := ltb_of 493 (by decide +kernel) (by decide +kernel)
theorem wm_LW_89 : Cond.methodLink "StripeFieldLaw" 89 ⟨"StripeFieldLaw", "read", "(LStripeField;II[J)I"⟩ ∈ ltb := ltb_of 494 (by decide +kernel) (by decide +kernel)
theorem ws_LW_read : Cond.static ⟨"StripeFieldLaw", "read", "(LStripeField;II[J)I"⟩ ∈ ltb := ltb_of 495 (by decide +kernel) (by decide +kernel)
theorem wm_LW_21 : Cond.methodLink "StripeFieldLaw" 21 ⟨"StripeField", "read", "(II)J"⟩ ∈ ltb := ltb_of 497 (by decide +kernel) (by decide +kernel)
theorem wi_SF_read : Cond.instanceMethod ⟨"StripeField", "read", "(II)J"⟩ ∈ ltb := ltb_of 498 (by decide +kernel) (by decide +kernel)
theorem wl_SF_read : Cond.selects "StripeField" ⟨"StripeField", "read", "(II)J"⟩ ⟨"StripeField", "read", "(II)J"⟩ ∈ ltb := ltb_of 499 (by decide +kernel) (by decide +kernel)
set_option maxRecDepth 20000 in
theorem wo_SF_read : Cond.code ⟨"StripeField", "read", "(II)J"⟩ prog_1_method_4_code 3 (some FieldType.long) ∈ ltb := ltb_of 500 rfl (by decide +kernel)
theorem wm_LW_93 : Cond.methodLink "StripeFieldLaw" 93 ⟨"StripeFieldLaw", "lose", "(LStripeField;I)I"⟩ ∈ ltb := ltb_of 502 (by decide +kernel) (by decide +kernel)
theorem ws_LW_lose : Cond.static ⟨"StripeFieldLaw", "lose", "(LStripeField;I)I"⟩ ∈ ltb := ltb_of 503 (by decide +kernel) (by decide +kernel)
theorem wm_LW_25 : Cond.methodLink "StripeFieldLaw" 25 ⟨"StripeField", "lose", "(I)V"⟩ ∈ ltb := ltb_of 505 (by decide +kernel) (by decide +kernel)
theorem wi_SF_lose : Cond.instanceMethod ⟨"StripeField", "lose", "(I)V"⟩ ∈ ltb := ltb_of 506 (by decide +kernel) (by decide +kernel)
theorem wl_SF_lose : Cond.selects "StripeField" ⟨"StripeField", "lose", "(I)V"⟩ ⟨"StripeField", "lose", "(I)V"⟩ ∈ ltb := ltb_of 507 (by decide +kernel) (by decide +kernel)
set_option maxRecDepth 20000 in
theorem wo_SF_lose : Cond.code ⟨"StripeField", "lose", "(I)V"⟩ prog_1_method_5_code 2 none ∈ ltb := ltb_of 508 rfl (by decide +kernel)
theorem wm_LW_97 : Cond.methodLink "StripeFieldLaw" 97 ⟨"StripeFieldLaw", "off", "(LStripeField;)I"⟩ ∈ ltb := ltb_of 510 (by decide +kernel) (by decide +kernel)
theorem ws_LW_off : Cond.static ⟨"StripeFieldLaw", "off", "(LStripeField;)I"⟩ ∈ ltb := ltb_of 511 (by decide +kernel) (by decide +kernel)
theorem wm_LW_29 : Cond.methodLink "StripeFieldLaw" 29 ⟨"StripeField", "off", "()V"⟩ ∈ ltb := ltb_of 513 (by decide +kernel) (by decide +kernel)
theorem wi_SF_off : Cond.instanceMethod ⟨"StripeField", "off", "()V"⟩ ∈ ltb := ltb_of 514 (by decide +kernel) (by decide +kernel)
theorem wl_SF_off : Cond.selects "StripeField" ⟨"StripeField", "off", "()V"⟩ ⟨"StripeField", "off", "()V"⟩ ∈ ltb := ltb_of 515 (by decide +kernel) (by decide +kernel)
set_option maxRecDepth 20000 in
theorem wo_SF_off : Cond.code ⟨"StripeField", "off", "()V"⟩ prog_1_method_6_code 1 none ∈ ltb := ltb_of 516 rfl (by decide +kernel)
theorem wm_SF_118 : Cond.methodLink "StripeField" 118 ⟨"StripeField$Power", "cut", "()V"⟩ ∈ ltb := ltb_of 517 (by decide +kernel) (by decide +kernel)
theorem wm_LW_101 : Cond.methodLink "StripeFieldLaw" 101 ⟨"StripeFieldLaw", "open", "(LStripeField;[J)I"⟩ ∈ ltb := ltb_of 518 (by decide +kernel) (by decide +kernel)
theorem ws_LW_open : Cond.static ⟨"StripeFieldLaw", "open", "(LStripeField;[J)I"⟩ ∈ ltb := ltb_of 519 (by decide +kernel) (by decide +kernel)
theorem wm_LW_32 : Cond.methodLink "StripeFieldLaw" 32 ⟨"StripeField", "open", "()Z"⟩ ∈ ltb := ltb_of 521 (by decide +kernel) (by decide +kernel)
theorem wi_SF_open : Cond.instanceMethod ⟨"StripeField", "open", "()Z"⟩ ∈ ltb := ltb_of 522 (by decide +kernel) (by decide +kernel)
theorem wl_SF_open : Cond.selects "StripeField" ⟨"StripeField", "open", "()Z"⟩ ⟨"StripeField", "open", "()Z"⟩ ∈ ltb := ltb_of 523 (by decide +kernel) (by decide +kernel)
set_option maxRecDepth 20000 in
theorem wo_SF_open : Cond.code ⟨"StripeField", "open", "()Z"⟩ prog_1_method_7_code 1 (some FieldType.boolean) ∈ ltb := ltb_of 524 rfl (by decide +kernel)
theorem wm_SF_126 : Cond.methodLink "StripeField" 126 ⟨"StripeField$Places", "find", "()V"⟩ ∈ ltb := ltb_of 526 (by decide +kernel) (by decide +kernel)
theorem wm_SF_129 : Cond.methodLink "StripeField" 129 ⟨"StripeField", "replayLogs", "()Z"⟩ ∈ ltb := ltb_of 527 (by decide +kernel) (by decide +kernel)
theorem wi_SF_replayLogs : Cond.instanceMethod ⟨"StripeField", "replayLogs", "()Z"⟩ ∈ ltb := ltb_of 529 (by decide +kernel) (by decide +kernel)
set_option maxRecDepth 20000 in
theorem wo_SF_replayLogs : Cond.code ⟨"StripeField", "replayLogs", "()Z"⟩ prog_1_method_27_code 4 (some FieldType.boolean) ∈ ltb := ltb_of 530 rfl (by decide +kernel)
theorem wm_SF_309 : Cond.methodLink "StripeField" 309 ⟨"StripeField$Rack", "tag", "(I)I"⟩ ∈ ltb := ltb_of 531 (by decide +kernel) (by decide +kernel)
theorem wm_SF_312 : Cond.methodLink "StripeField" 312 ⟨"StripeField", "replayLog", "(III)Z"⟩ ∈ ltb := ltb_of 532 (by decide +kernel) (by decide +kernel)
theorem wi_SF_replayLog : Cond.instanceMethod ⟨"StripeField", "replayLog", "(III)Z"⟩ ∈ ltb := ltb_of 534 (by decide +kernel) (by decide +kernel)
set_option maxRecDepth 20000 in
theorem wo_SF_replayLog : Cond.code ⟨"StripeField", "replayLog", "(III)Z"⟩ prog_1_method_28_code 6 (some FieldType.boolean) ∈ ltb := ltb_of 535 rfl (by decide +kernel)
theorem wm_SF_316 : Cond.methodLink "StripeField" 316 ⟨"StripeField", "canReplay", "(III)Z"⟩ ∈ ltb := ltb_of 536 (by decide +kernel) (by decide +kernel)
theorem wi_SF_canReplay : Cond.instanceMethod ⟨"StripeField", "canReplay", "(III)Z"⟩ ∈ ltb := ltb_of 538 (by decide +kernel) (by decide +kernel)
set_option maxRecDepth 20000 in
theorem wo_SF_canReplay : Cond.code ⟨"StripeField", "canReplay", "(III)Z"⟩ prog_1_method_29_code 5 (some FieldType.boolean) ∈ ltb := ltb_of 539 rfl (by decide +kernel)
theorem wm_SF_133 : Cond.methodLink "StripeField" 133 ⟨"StripeField", "clearFreeSpares", "()Z"⟩ ∈ ltb := ltb_of 540 (by decide +kernel) (by decide +kernel)
theorem wi_SF_clearFreeSpares : Cond.instanceMethod ⟨"StripeField", "clearFreeSpares", "()Z"⟩ ∈ ltb := ltb_of 542 (by decide +kernel) (by decide +kernel)
set_option maxRecDepth 20000 in
theorem wo_SF_clearFreeSpares : Cond.code ⟨"StripeField", "clearFreeSpares", "()Z"⟩ prog_1_method_30_code 5 (some FieldType.boolean) ∈ ltb := ltb_of 543 rfl (by decide +kernel)
theorem wm_SF_253 : Cond.methodLink "StripeField" 253 ⟨"StripeField$Layout", "slot", "(II)I"⟩ ∈ ltb := ltb_of 544 (by decide +kernel) (by decide +kernel)
theorem wm_LW_105 : Cond.methodLink "StripeFieldLaw" 105 ⟨"StripeFieldLaw", "fail", "(LStripeField;I[J)I"⟩ ∈ ltb := ltb_of 545 (by decide +kernel) (by decide +kernel)
theorem ws_LW_fail : Cond.static ⟨"StripeFieldLaw", "fail", "(LStripeField;I[J)I"⟩ ∈ ltb := ltb_of 546 (by decide +kernel) (by decide +kernel)
theorem wm_LW_36 : Cond.methodLink "StripeFieldLaw" 36 ⟨"StripeField", "fail", "(I)Z"⟩ ∈ ltb := ltb_of 548 (by decide +kernel) (by decide +kernel)
theorem wi_SF_fail : Cond.instanceMethod ⟨"StripeField", "fail", "(I)Z"⟩ ∈ ltb := ltb_of 549 (by decide +kernel) (by decide +kernel)
theorem wl_SF_fail : Cond.selects "StripeField" ⟨"StripeField", "fail", "(I)Z"⟩ ⟨"StripeField", "fail", "(I)Z"⟩ ∈ ltb := ltb_of 550 (by decide +kernel) (by decide +kernel)
set_option maxRecDepth 20000 in
theorem wo_SF_fail : Cond.code ⟨"StripeField", "fail", "(I)Z"⟩ prog_1_method_8_code 2 (some FieldType.boolean) ∈ ltb := ltb_of 551 rfl (by decide +kernel)
theorem wm_SF_145 : Cond.methodLink "StripeField" 145 ⟨"StripeField", "findPlacesIfOff", "()V"⟩ ∈ ltb := ltb_of 553 (by decide +kernel) (by decide +kernel)
theorem wi_SF_findPlacesIfOff : Cond.instanceMethod ⟨"StripeField", "findPlacesIfOff", "()V"⟩ ∈ ltb := ltb_of 555 (by decide +kernel) (by decide +kernel)
set_option maxRecDepth 20000 in
theorem wo_SF_findPlacesIfOff : Cond.code ⟨"StripeField", "findPlacesIfOff", "()V"⟩ prog_1_method_16_code 1 none ∈ ltb := ltb_of 556 rfl (by decide +kernel)
theorem wm_SF_148 : Cond.methodLink "StripeField" 148 ⟨"StripeField", "wouldBreakWithout", "(I)Z"⟩ ∈ ltb := ltb_of 557 (by decide +kernel) (by decide +kernel)
theorem wi_SF_wouldBreakWithout : Cond.instanceMethod ⟨"StripeField", "wouldBreakWithout", "(I)Z"⟩ ∈ ltb := ltb_of 559 (by decide +kernel) (by decide +kernel)
set_option maxRecDepth 20000 in
theorem wo_SF_wouldBreakWithout : Cond.code ⟨"StripeField", "wouldBreakWithout", "(I)Z"⟩ prog_1_method_31_code 6 (some FieldType.boolean) ∈ ltb := ltb_of 560 rfl (by decide +kernel)
theorem wm_SF_152 : Cond.methodLink "StripeField" 152 ⟨"StripeField$Rack", "removeDisk", "(I)V"⟩ ∈ ltb := ltb_of 561 (by decide +kernel) (by decide +kernel)
theorem wi_RK_removeDisk : Cond.instanceMethod ⟨"StripeField$Rack", "removeDisk", "(I)V"⟩ ∈ ltb := ltb_of 562 (by decide +kernel) (by decide +kernel)
theorem wl_RK_removeDisk : Cond.selects "StripeField$Rack" ⟨"StripeField$Rack", "removeDisk", "(I)V"⟩ ⟨"StripeField$Rack", "removeDisk", "(I)V"⟩ ∈ ltb := ltb_of 563 (by decide +kernel) (by decide +kernel)
set_option maxRecDepth 20000 in
theorem wo_RK_removeDisk : Cond.code ⟨"StripeField$Rack", "removeDisk", "(I)V"⟩ prog_5_method_8_code 4 none ∈ ltb := ltb_of 564 rfl (by decide +kernel)
theorem wm_RK_86 : Cond.methodLink "StripeField$Rack" 86 ⟨"StripeField$Layout", "cell", "(II)I"⟩ ∈ ltb := ltb_of 565 (by decide +kernel) (by decide +kernel)
theorem wm_SF_156 : Cond.methodLink "StripeField" 156 ⟨"StripeField$Places", "dropDisk", "(I)V"⟩ ∈ ltb := ltb_of 566 (by decide +kernel) (by decide +kernel)
theorem wi_PL_dropDisk : Cond.instanceMethod ⟨"StripeField$Places", "dropDisk", "(I)V"⟩ ∈ ltb := ltb_of 567 (by decide +kernel) (by decide +kernel)
theorem wl_PL_dropDisk : Cond.selects "StripeField$Places" ⟨"StripeField$Places", "dropDisk", "(I)V"⟩ ⟨"StripeField$Places", "dropDisk", "(I)V"⟩ ∈ ltb := ltb_of 568 (by decide +kernel) (by decide +kernel)
set_option maxRecDepth 20000 in
theorem wo_PL_dropDisk : Cond.code ⟨"StripeField$Places", "dropDisk", "(I)V"⟩ prog_3_method_5_code 4 none ∈ ltb := ltb_of 569 rfl (by decide +kernel)
theorem wm_PL_76 : Cond.methodLink "StripeField$Places" 76 ⟨"StripeField$Layout", "cell", "(II)I"⟩ ∈ ltb := ltb_of 570 (by decide +kernel) (by decide +kernel)
theorem wm_LW_108 : Cond.methodLink "StripeFieldLaw" 108 ⟨"StripeFieldLaw", "replace", "(LStripeField;I[J)I"⟩ ∈ ltb := ltb_of 571 (by decide +kernel) (by decide +kernel)
theorem ws_LW_replace : Cond.static ⟨"StripeFieldLaw", "replace", "(LStripeField;I[J)I"⟩ ∈ ltb := ltb_of 572 (by decide +kernel) (by decide +kernel)
theorem wm_LW_39 : Cond.methodLink "StripeFieldLaw" 39 ⟨"StripeField", "replace", "(I)Z"⟩ ∈ ltb := ltb_of 574 (by decide +kernel) (by decide +kernel)
theorem wi_SF_replace : Cond.instanceMethod ⟨"StripeField", "replace", "(I)Z"⟩ ∈ ltb := ltb_of 575 (by decide +kernel) (by decide +kernel)
theorem wl_SF_replace : Cond.selects "StripeField" ⟨"StripeField", "replace", "(I)Z"⟩ ⟨"StripeField", "replace", "(I)Z"⟩ ∈ ltb := ltb_of 576 (by decide +kernel) (by decide +kernel)
set_option maxRecDepth 20000 in
theorem wo_SF_replace : Cond.code ⟨"StripeField", "replace", "(I)Z"⟩ prog_1_method_9_code 2 (some FieldType.boolean) ∈ ltb := ltb_of 577 rfl (by decide +kernel)
theorem wm_LW_111 : Cond.methodLink "StripeFieldLaw" 111 ⟨"StripeFieldLaw", "spoil", "(LStripeField;IIIIJ[J)I"⟩ ∈ ltb := ltb_of 578 (by decide +kernel) (by decide +kernel)
theorem ws_LW_spoil : Cond.static ⟨"StripeFieldLaw", "spoil", "(LStripeField;IIIIJ[J)I"⟩ ∈ ltb := ltb_of 579 (by decide +kernel) (by decide +kernel)
theorem wm_LW_42 : Cond.methodLink "StripeFieldLaw" 42 ⟨"StripeField", "spoil", "(IIIIJ)Z"⟩ ∈ ltb := ltb_of 581 (by decide +kernel) (by decide +kernel)
theorem wi_SF_spoil : Cond.instanceMethod ⟨"StripeField", "spoil", "(IIIIJ)Z"⟩ ∈ ltb := ltb_of 582 (by decide +kernel) (by decide +kernel)
theorem wl_SF_spoil : Cond.selects "StripeField" ⟨"StripeField", "spoil", "(IIIIJ)Z"⟩ ⟨"StripeField", "spoil", "(IIIIJ)Z"⟩ ∈ ltb := ltb_of 583 (by decide +kernel) (by decide +kernel)
set_option maxRecDepth 20000 in
theorem wo_SF_spoil : Cond.code ⟨"StripeField", "spoil", "(IIIIJ)Z"⟩ prog_1_method_10_code 8 (some FieldType.boolean) ∈ ltb := ltb_of 584 rfl (by decide +kernel)
theorem wm_SF_166 : Cond.methodLink "StripeField" 166 ⟨"StripeField", "lowestBytes", "(IJ)J"⟩ ∈ ltb := ltb_of 587 (by decide +kernel) (by decide +kernel)
theorem ws_SF_lowestBytes : Cond.static ⟨"StripeField", "lowestBytes", "(IJ)J"⟩ ∈ ltb := ltb_of 588 (by decide +kernel) (by decide +kernel)
set_option maxRecDepth 20000 in
theorem wo_SF_lowestBytes : Cond.code ⟨"StripeField", "lowestBytes", "(IJ)J"⟩ prog_1_method_37_code 3 (some FieldType.long) ∈ ltb := ltb_of 589 rfl (by decide +kernel)
theorem wm_SF_172 : Cond.methodLink "StripeField" 172 ⟨"StripeField$Layout", "cell", "(II)I"⟩ ∈ ltb := ltb_of 591 (by decide +kernel) (by decide +kernel)
theorem wm_SF_180 : Cond.methodLink "StripeField" 180 ⟨"StripeField", "spoilPlace", "(IIIJ)Z"⟩ ∈ ltb := ltb_of 592 (by decide +kernel) (by decide +kernel)
theorem wi_SF_spoilPlace : Cond.instanceMethod ⟨"StripeField", "spoilPlace", "(IIIJ)Z"⟩ ∈ ltb := ltb_of 594 (by decide +kernel) (by decide +kernel)
set_option maxRecDepth 20000 in
theorem wo_SF_spoilPlace : Cond.code ⟨"StripeField", "spoilPlace", "(IIIJ)Z"⟩ prog_1_method_32_code 7 (some FieldType.boolean) ∈ ltb := ltb_of 595 rfl (by decide +kernel)
theorem wm_SF_319 : Cond.methodLink "StripeField" 319 ⟨"StripeField$Rack", "damage", "(IIIJ)V"⟩ ∈ ltb := ltb_of 596 (by decide +kernel) (by decide +kernel)
theorem wi_RK_damage : Cond.instanceMethod ⟨"StripeField$Rack", "damage", "(IIIJ)V"⟩ ∈ ltb := ltb_of 597 (by decide +kernel) (by decide +kernel)
theorem wl_RK_damage : Cond.selects "StripeField$Rack" ⟨"StripeField$Rack", "damage", "(IIIJ)V"⟩ ⟨"StripeField$Rack", "damage", "(IIIJ)V"⟩ ∈ ltb := ltb_of 598 (by decide +kernel) (by decide +kernel)
set_option maxRecDepth 20000 in
theorem wo_RK_damage : Cond.code ⟨"StripeField$Rack", "damage", "(IIIJ)V"⟩ prog_5_method_6_code 8 none ∈ ltb := ltb_of 599 rfl (by decide +kernel)
theorem wx_RK_82 : Cond.methodLinkNest "StripeField$Rack" 82 ⟨"StripeField", "xorBytes", "([JIIIJ)V"⟩ "StripeField" ∈ lw_tbl := List.mem_of_getElem? (i := 600) (by decide +kernel)
theorem wm_SF_323 : Cond.methodLink "StripeField" 323 ⟨"StripeField$Rack", "isAsWritten", "(I)Z"⟩ ∈ ltb := ltb_of 601 (by decide +kernel) (by decide +kernel)
theorem wi_RK_isAsWritten : Cond.instanceMethod ⟨"StripeField$Rack", "isAsWritten", "(I)Z"⟩ ∈ ltb := ltb_of 602 (by decide +kernel) (by decide +kernel)
theorem wl_RK_isAsWritten : Cond.selects "StripeField$Rack" ⟨"StripeField$Rack", "isAsWritten", "(I)Z"⟩ ⟨"StripeField$Rack", "isAsWritten", "(I)Z"⟩ ∈ ltb := ltb_of 603 (by decide +kernel) (by decide +kernel)
set_option maxRecDepth 20000 in
theorem wo_RK_isAsWritten : Cond.code ⟨"StripeField$Rack", "isAsWritten", "(I)Z"⟩ prog_5_method_7_code 3 (some FieldType.boolean) ∈ ltb := ltb_of 604 rfl (by decide +kernel)
theorem wm_SF_326 : Cond.methodLink "StripeField" 326 ⟨"StripeField", "othersAreValid", "(I)Z"⟩ ∈ ltb := ltb_of 605 (by decide +kernel) (by decide +kernel)
theorem wi_SF_othersAreValid : Cond.instanceMethod ⟨"StripeField", "othersAreValid", "(I)Z"⟩ ∈ ltb := ltb_of 607 (by decide +kernel) (by decide +kernel)
set_option maxRecDepth 20000 in
theorem wo_SF_othersAreValid : Cond.code ⟨"StripeField", "othersAreValid", "(I)Z"⟩ prog_1_method_33_code 5 (some FieldType.boolean) ∈ ltb := ltb_of 608 rfl (by decide +kernel)
theorem wm_SF_300 : Cond.methodLink "StripeField" 300 ⟨"StripeField$Layout", "stripeOfSlot", "(I)I"⟩ ∈ ltb := ltb_of 609 (by decide +kernel) (by decide +kernel)
theorem wi_LA_stripeOfSlot : Cond.instanceMethod ⟨"StripeField$Layout", "stripeOfSlot", "(I)I"⟩ ∈ ltb := ltb_of 610 (by decide +kernel) (by decide +kernel)
theorem wl_LA_stripeOfSlot : Cond.selects "StripeField$Layout" ⟨"StripeField$Layout", "stripeOfSlot", "(I)I"⟩ ⟨"StripeField$Layout", "stripeOfSlot", "(I)I"⟩ ∈ ltb := ltb_of 611 (by decide +kernel) (by decide +kernel)
set_option maxRecDepth 20000 in
theorem wo_LA_stripeOfSlot : Cond.code ⟨"StripeField$Layout", "stripeOfSlot", "(I)I"⟩ prog_2_method_10_code 2 (some FieldType.int) ∈ ltb := ltb_of 612 rfl (by decide +kernel)
theorem wm_SF_303 : Cond.methodLink "StripeField" 303 ⟨"StripeField$Layout", "columnOfSlot", "(I)I"⟩ ∈ ltb := ltb_of 613 (by decide +kernel) (by decide +kernel)
theorem wi_LA_columnOfSlot : Cond.instanceMethod ⟨"StripeField$Layout", "columnOfSlot", "(I)I"⟩ ∈ ltb := ltb_of 614 (by decide +kernel) (by decide +kernel)
theorem wl_LA_columnOfSlot : Cond.selects "StripeField$Layout" ⟨"StripeField$Layout", "columnOfSlot", "(I)I"⟩ ⟨"StripeField$Layout", "columnOfSlot", "(I)I"⟩ ∈ ltb := ltb_of 615 (by decide +kernel) (by decide +kernel)
set_option maxRecDepth 20000 in
theorem wo_LA_columnOfSlot : Cond.code ⟨"StripeField$Layout", "columnOfSlot", "(I)I"⟩ prog_2_method_11_code 2 (some FieldType.int) ∈ ltb := ltb_of 616 rfl (by decide +kernel)
theorem wm_LW_115 : Cond.methodLink "StripeFieldLaw" 115 ⟨"StripeFieldLaw", "rebuild", "(LStripeField;[J)I"⟩ ∈ ltb := ltb_of 617 (by decide +kernel) (by decide +kernel)
theorem ws_LW_rebuild : Cond.static ⟨"StripeFieldLaw", "rebuild", "(LStripeField;[J)I"⟩ ∈ ltb := ltb_of 618 (by decide +kernel) (by decide +kernel)
theorem wm_LW_46 : Cond.methodLink "StripeFieldLaw" 46 ⟨"StripeField", "rebuild", "()I"⟩ ∈ ltb := ltb_of 620 (by decide +kernel) (by decide +kernel)
theorem wi_SF_rebuild : Cond.instanceMethod ⟨"StripeField", "rebuild", "()I"⟩ ∈ ltb := ltb_of 621 (by decide +kernel) (by decide +kernel)
theorem wl_SF_rebuild : Cond.selects "StripeField" ⟨"StripeField", "rebuild", "()I"⟩ ⟨"StripeField", "rebuild", "()I"⟩ ∈ ltb := ltb_of 622 (by decide +kernel) (by decide +kernel)
set_option maxRecDepth 20000 in
theorem wo_SF_rebuild : Cond.code ⟨"StripeField", "rebuild", "()I"⟩ prog_1_method_11_code 4 (some FieldType.int) ∈ ltb := ltb_of 623 rfl (by decide +kernel)
theorem wm_SF_184 : Cond.methodLink "StripeField" 184 ⟨"StripeField$Places", "firstFreeSpare", "(I)I"⟩ ∈ ltb := ltb_of 624 (by decide +kernel) (by decide +kernel)
theorem wi_PL_firstFreeSpare : Cond.instanceMethod ⟨"StripeField$Places", "firstFreeSpare", "(I)I"⟩ ∈ ltb := ltb_of 625 (by decide +kernel) (by decide +kernel)
theorem wl_PL_firstFreeSpare : Cond.selects "StripeField$Places" ⟨"StripeField$Places", "firstFreeSpare", "(I)I"⟩ ⟨"StripeField$Places", "firstFreeSpare", "(I)I"⟩ ∈ ltb := ltb_of 626 (by decide +kernel) (by decide +kernel)
set_option maxRecDepth 20000 in
theorem wo_PL_firstFreeSpare : Cond.code ⟨"StripeField$Places", "firstFreeSpare", "(I)I"⟩ prog_3_method_7_code 4 (some FieldType.int) ∈ ltb := ltb_of 627 rfl (by decide +kernel)
theorem wm_PL_86 : Cond.methodLink "StripeField$Places" 86 ⟨"StripeField$Places", "isFree", "(I)Z"⟩ ∈ ltb := ltb_of 628 (by decide +kernel) (by decide +kernel)
theorem wi_PL_isFree : Cond.instanceMethod ⟨"StripeField$Places", "isFree", "(I)Z"⟩ ∈ ltb := ltb_of 630 (by decide +kernel) (by decide +kernel)
set_option maxRecDepth 20000 in
theorem wo_PL_isFree : Cond.code ⟨"StripeField$Places", "isFree", "(I)Z"⟩ prog_3_method_6_code 2 (some FieldType.boolean) ∈ ltb := ltb_of 631 rfl (by decide +kernel)
theorem wm_PL_83 : Cond.methodLink "StripeField$Places" 83 ⟨"StripeField$Layout", "diskOf", "(I)I"⟩ ∈ ltb := ltb_of 632 (by decide +kernel) (by decide +kernel)
theorem wm_SF_187 : Cond.methodLink "StripeField" 187 ⟨"StripeField$Places", "firstToRebuild", "(I)I"⟩ ∈ ltb := ltb_of 633 (by decide +kernel) (by decide +kernel)
theorem wi_PL_firstToRebuild : Cond.instanceMethod ⟨"StripeField$Places", "firstToRebuild", "(I)I"⟩ ∈ ltb := ltb_of 634 (by decide +kernel) (by decide +kernel)
theorem wl_PL_firstToRebuild : Cond.selects "StripeField$Places" ⟨"StripeField$Places", "firstToRebuild", "(I)I"⟩ ⟨"StripeField$Places", "firstToRebuild", "(I)I"⟩ ∈ ltb := ltb_of 635 (by decide +kernel) (by decide +kernel)
set_option maxRecDepth 20000 in
theorem wo_PL_firstToRebuild : Cond.code ⟨"StripeField$Places", "firstToRebuild", "(I)I"⟩ prog_3_method_8_code 4 (some FieldType.int) ∈ ltb := ltb_of 636 rfl (by decide +kernel)
theorem wm_SF_190 : Cond.methodLink "StripeField" 190 ⟨"StripeField", "moveTo", "(II)Z"⟩ ∈ ltb := ltb_of 637 (by decide +kernel) (by decide +kernel)
theorem wi_SF_moveTo : Cond.instanceMethod ⟨"StripeField", "moveTo", "(II)Z"⟩ ∈ ltb := ltb_of 639 (by decide +kernel) (by decide +kernel)
set_option maxRecDepth 20000 in
theorem wo_SF_moveTo : Cond.code ⟨"StripeField", "moveTo", "(II)Z"⟩ prog_1_method_26_code 3 (some FieldType.boolean) ∈ ltb := ltb_of 640 rfl (by decide +kernel)
theorem wm_SF_306 : Cond.methodLink "StripeField" 306 ⟨"StripeField$Places", "move", "(II)V"⟩ ∈ ltb := ltb_of 641 (by decide +kernel) (by decide +kernel)
theorem wi_PL_move : Cond.instanceMethod ⟨"StripeField$Places", "move", "(II)V"⟩ ∈ ltb := ltb_of 642 (by decide +kernel) (by decide +kernel)
theorem wl_PL_move : Cond.selects "StripeField$Places" ⟨"StripeField$Places", "move", "(II)V"⟩ ⟨"StripeField$Places", "move", "(II)V"⟩ ∈ ltb := ltb_of 643 (by decide +kernel) (by decide +kernel)
set_option maxRecDepth 20000 in
theorem wo_PL_move : Cond.code ⟨"StripeField$Places", "move", "(II)V"⟩ prog_3_method_4_code 3 none ∈ ltb := ltb_of 644 rfl (by decide +kernel)
theorem wm_LW_118 : Cond.methodLink "StripeFieldLaw" 118 ⟨"StripeFieldLaw", "copyBack", "(LStripeField;[J)I"⟩ ∈ ltb := ltb_of 645 (by decide +kernel) (by decide +kernel)
theorem ws_LW_copyBack : Cond.static ⟨"StripeFieldLaw", "copyBack", "(LStripeField;[J)I"⟩ ∈ ltb := ltb_of 646 (by decide +kernel) (by decide +kernel)
theorem wm_LW_50 : Cond.methodLink "StripeFieldLaw" 50 ⟨"StripeField", "copyBack", "()I"⟩ ∈ ltb := ltb_of 648 (by decide +kernel) (by decide +kernel)
theorem wi_SF_copyBack : Cond.instanceMethod ⟨"StripeField", "copyBack", "()I"⟩ ∈ ltb := ltb_of 649 (by decide +kernel) (by decide +kernel)
theorem wl_SF_copyBack : Cond.selects "StripeField" ⟨"StripeField", "copyBack", "()I"⟩ ⟨"StripeField", "copyBack", "()I"⟩ ∈ ltb := ltb_of 650 (by decide +kernel) (by decide +kernel)
set_option maxRecDepth 20000 in
theorem wo_SF_copyBack : Cond.code ⟨"StripeField", "copyBack", "()I"⟩ prog_1_method_12_code 3 (some FieldType.int) ∈ ltb := ltb_of 651 rfl (by decide +kernel)
theorem wm_SF_193 : Cond.methodLink "StripeField" 193 ⟨"StripeField$Places", "firstToCopyBack", "()I"⟩ ∈ ltb := ltb_of 652 (by decide +kernel) (by decide +kernel)
theorem wi_PL_firstToCopyBack : Cond.instanceMethod ⟨"StripeField$Places", "firstToCopyBack", "()I"⟩ ∈ ltb := ltb_of 653 (by decide +kernel) (by decide +kernel)
theorem wl_PL_firstToCopyBack : Cond.selects "StripeField$Places" ⟨"StripeField$Places", "firstToCopyBack", "()I"⟩ ⟨"StripeField$Places", "firstToCopyBack", "()I"⟩ ∈ ltb := ltb_of 654 (by decide +kernel) (by decide +kernel)
set_option maxRecDepth 20000 in
theorem wo_PL_firstToCopyBack : Cond.code ⟨"StripeField$Places", "firstToCopyBack", "()I"⟩ prog_3_method_9_code 5 (some FieldType.int) ∈ ltb := ltb_of 655 rfl (by decide +kernel)
theorem wm_LW_121 : Cond.methodLink "StripeFieldLaw" 121 ⟨"StripeFieldLaw", "scrub", "(LStripeField;[J)I"⟩ ∈ ltb := ltb_of 656 (by decide +kernel) (by decide +kernel)
theorem ws_LW_scrub : Cond.static ⟨"StripeFieldLaw", "scrub", "(LStripeField;[J)I"⟩ ∈ ltb := ltb_of 657 (by decide +kernel) (by decide +kernel)
theorem wm_LW_53 : Cond.methodLink "StripeFieldLaw" 53 ⟨"StripeField", "scrub", "()I"⟩ ∈ ltb := ltb_of 659 (by decide +kernel) (by decide +kernel)
theorem wi_SF_scrub : Cond.instanceMethod ⟨"StripeField", "scrub", "()I"⟩ ∈ ltb := ltb_of 660 (by decide +kernel) (by decide +kernel)
theorem wl_SF_scrub : Cond.selects "StripeField" ⟨"StripeField", "scrub", "()I"⟩ ⟨"StripeField", "scrub", "()I"⟩ ∈ ltb := ltb_of 661 (by decide +kernel) (by decide +kernel)
set_option maxRecDepth 20000 in
theorem wo_SF_scrub : Cond.code ⟨"StripeField", "scrub", "()I"⟩ prog_1_method_13_code 3 (some FieldType.int) ∈ ltb := ltb_of 662 rfl (by decide +kernel)
theorem wm_SF_210 : Cond.methodLink "StripeField" 210 ⟨"StripeField", "spoiltColumn", "(I)I"⟩ ∈ ltb := ltb_of 663 (by decide +kernel) (by decide +kernel)
theorem wi_SF_spoiltColumn : Cond.instanceMethod ⟨"StripeField", "spoiltColumn", "(I)I"⟩ ∈ ltb := ltb_of 665 (by decide +kernel) (by decide +kernel)
set_option maxRecDepth 20000 in
theorem wo_SF_spoiltColumn : Cond.code ⟨"StripeField", "spoiltColumn", "(I)I"⟩ prog_1_method_34_code 4 (some FieldType.int) ∈ ltb := ltb_of 666 rfl (by decide +kernel)
theorem wm_SF_220 : Cond.methodLink "StripeField" 220 ⟨"StripeField", "isHole", "(I)Z"⟩ ∈ ltb := ltb_of 667 (by decide +kernel) (by decide +kernel)
theorem wi_SF_isHole : Cond.instanceMethod ⟨"StripeField", "isHole", "(I)Z"⟩ ∈ ltb := ltb_of 669 (by decide +kernel) (by decide +kernel)
set_option maxRecDepth 20000 in
theorem wo_SF_isHole : Cond.code ⟨"StripeField", "isHole", "(I)Z"⟩ prog_1_method_35_code 4 (some FieldType.boolean) ∈ ltb := ltb_of 670 rfl (by decide +kernel)
theorem wm_LW_124 : Cond.methodLink "StripeFieldLaw" 124 ⟨"StripeFieldLaw", "look", "(LStripeField;I[J)I"⟩ ∈ ltb := ltb_of 671 (by decide +kernel) (by decide +kernel)
theorem ws_LW_look : Cond.static ⟨"StripeFieldLaw", "look", "(LStripeField;I[J)I"⟩ ∈ ltb := ltb_of 672 (by decide +kernel) (by decide +kernel)
theorem wm_LW_56 : Cond.methodLink "StripeFieldLaw" 56 ⟨"StripeField", "look", "(I)I"⟩ ∈ ltb := ltb_of 674 (by decide +kernel) (by decide +kernel)
theorem wi_SF_look : Cond.instanceMethod ⟨"StripeField", "look", "(I)I"⟩ ∈ ltb := ltb_of 675 (by decide +kernel) (by decide +kernel)
theorem wl_SF_look : Cond.selects "StripeField" ⟨"StripeField", "look", "(I)I"⟩ ⟨"StripeField", "look", "(I)I"⟩ ∈ ltb := ltb_of 676 (by decide +kernel) (by decide +kernel)
set_option maxRecDepth 20000 in
theorem wo_SF_look : Cond.code ⟨"StripeField", "look", "(I)I"⟩ prog_1_method_14_code 2 (some FieldType.int) ∈ ltb := ltb_of 677 rfl (by decide +kernel)
theorem wm_SF_229 : Cond.methodLink "StripeField" 229 ⟨"StripeField$Places", "countLost", "()I"⟩ ∈ ltb := ltb_of 678 (by decide +kernel) (by decide +kernel)
theorem wi_PL_countLost : Cond.instanceMethod ⟨"StripeField$Places", "countLost", "()I"⟩ ∈ ltb := ltb_of 679 (by decide +kernel) (by decide +kernel)
theorem wl_PL_countLost : Cond.selects "StripeField$Places" ⟨"StripeField$Places", "countLost", "()I"⟩ ⟨"StripeField$Places", "countLost", "()I"⟩ ∈ ltb := ltb_of 680 (by decide +kernel) (by decide +kernel)
set_option maxRecDepth 20000 in
theorem wo_PL_countLost : Cond.code ⟨"StripeField$Places", "countLost", "()I"⟩ prog_3_method_10_code 1 (some FieldType.int) ∈ ltb := ltb_of 681 rfl (by decide +kernel)
theorem wm_PL_89 : Cond.methodLink "StripeField$Places" 89 ⟨"StripeField$Places", "countPlaces", "(Z)I"⟩ ∈ ltb := ltb_of 682 (by decide +kernel) (by decide +kernel)
theorem wi_PL_countPlaces : Cond.instanceMethod ⟨"StripeField$Places", "countPlaces", "(Z)I"⟩ ∈ ltb := ltb_of 684 (by decide +kernel) (by decide +kernel)
set_option maxRecDepth 20000 in
theorem wo_PL_countPlaces : Cond.code ⟨"StripeField$Places", "countPlaces", "(Z)I"⟩ prog_3_method_12_code 4 (some FieldType.int) ∈ ltb := ltb_of 685 rfl (by decide +kernel)
theorem wm_SF_232 : Cond.methodLink "StripeField" 232 ⟨"StripeField$Places", "countSpoilt", "()I"⟩ ∈ ltb := ltb_of 686 (by decide +kernel) (by decide +kernel)
theorem wi_PL_countSpoilt : Cond.instanceMethod ⟨"StripeField$Places", "countSpoilt", "()I"⟩ ∈ ltb := ltb_of 687 (by decide +kernel) (by decide +kernel)
theorem wl_PL_countSpoilt : Cond.selects "StripeField$Places" ⟨"StripeField$Places", "countSpoilt", "()I"⟩ ⟨"StripeField$Places", "countSpoilt", "()I"⟩ ∈ ltb := ltb_of 688 (by decide +kernel) (by decide +kernel)
set_option maxRecDepth 20000 in
theorem wo_PL_countSpoilt : Cond.code ⟨"StripeField$Places", "countSpoilt", "()I"⟩ prog_3_method_11_code 1 (some FieldType.int) ∈ ltb := ltb_of 689 rfl (by decide +kernel)
theorem wm_SF_235 : Cond.methodLink "StripeField" 235 ⟨"StripeField$Places", "countFreeSpares", "()I"⟩ ∈ ltb := ltb_of 690 (by decide +kernel) (by decide +kernel)
theorem wi_PL_countFreeSpares : Cond.instanceMethod ⟨"StripeField$Places", "countFreeSpares", "()I"⟩ ∈ ltb := ltb_of 691 (by decide +kernel) (by decide +kernel)
theorem wl_PL_countFreeSpares : Cond.selects "StripeField$Places" ⟨"StripeField$Places", "countFreeSpares", "()I"⟩ ⟨"StripeField$Places", "countFreeSpares", "()I"⟩ ∈ ltb := ltb_of 692 (by decide +kernel) (by decide +kernel)
set_option maxRecDepth 20000 in
theorem wo_PL_countFreeSpares : Cond.code ⟨"StripeField$Places", "countFreeSpares", "()I"⟩ prog_3_method_13_code 4 (some FieldType.int) ∈ ltb := ltb_of 693 rfl (by decide +kernel)
theorem wm_SF_241 : Cond.methodLink "StripeField" 241 ⟨"StripeField$Rack", "countLive", "()I"⟩ ∈ ltb := ltb_of 694 (by decide +kernel) (by decide +kernel)
theorem wi_RK_countLive : Cond.instanceMethod ⟨"StripeField$Rack", "countLive", "()I"⟩ ∈ ltb := ltb_of 695 (by decide +kernel) (by decide +kernel)
theorem wl_RK_countLive : Cond.selects "StripeField$Rack" ⟨"StripeField$Rack", "countLive", "()I"⟩ ⟨"StripeField$Rack", "countLive", "()I"⟩ ∈ ltb := ltb_of 696 (by decide +kernel) (by decide +kernel)
set_option maxRecDepth 20000 in
theorem wo_RK_countLive : Cond.code ⟨"StripeField$Rack", "countLive", "()I"⟩ prog_5_method_13_code 3 (some FieldType.int) ∈ ltb := ltb_of 697 rfl (by decide +kernel)
theorem wm_LW_127 : Cond.methodLink "StripeFieldLaw" 127 ⟨"StripeFieldLaw", "place", "(LStripeField;II[J)I"⟩ ∈ ltb := ltb_of 699 (by decide +kernel) (by decide +kernel)
theorem ws_LW_place : Cond.static ⟨"StripeFieldLaw", "place", "(LStripeField;II[J)I"⟩ ∈ ltb := ltb_of 700 (by decide +kernel) (by decide +kernel)
theorem wm_LW_60 : Cond.methodLink "StripeFieldLaw" 60 ⟨"StripeField", "place", "(II)I"⟩ ∈ ltb := ltb_of 702 (by decide +kernel) (by decide +kernel)
theorem wi_SF_place : Cond.instanceMethod ⟨"StripeField", "place", "(II)I"⟩ ∈ ltb := ltb_of 703 (by decide +kernel) (by decide +kernel)
theorem wl_SF_place : Cond.selects "StripeField" ⟨"StripeField", "place", "(II)I"⟩ ⟨"StripeField", "place", "(II)I"⟩ ∈ ltb := ltb_of 704 (by decide +kernel) (by decide +kernel)
set_option maxRecDepth 20000 in
theorem wo_SF_place : Cond.code ⟨"StripeField", "place", "(II)I"⟩ prog_1_method_15_code 4 (some FieldType.int) ∈ ltb := ltb_of 705 rfl (by decide +kernel)
theorem wk_LW_73 : Cond.classLink "StripeFieldLaw" 73 "StripeFieldModel" ∈ ltb := ltb_of 708 (by decide +kernel) (by decide +kernel)
theorem wp_MD : Cond.instantiable "StripeFieldModel" 22 ∈ ltb := ltb_of 709 (by decide +kernel) (by decide +kernel)
theorem wm_LW_75 : Cond.methodLink "StripeFieldLaw" 75 ⟨"StripeFieldModel", "<init>", "(III)V"⟩ ∈ ltb := ltb_of 710 (by decide +kernel) (by decide +kernel)
theorem wi_MD_init : Cond.instanceMethod ⟨"StripeFieldModel", "<init>", "(III)V"⟩ ∈ ltb := ltb_of 711 (by decide +kernel) (by decide +kernel)
set_option maxRecDepth 20000 in
theorem wo_MD_init : Cond.code ⟨"StripeFieldModel", "<init>", "(III)V"⟩ prog_7_method_1_code 7 none ∈ ltb := ltb_of 712 rfl (by decide +kernel)
theorem wm_MD_1 : Cond.methodLink "StripeFieldModel" 1 ⟨"java/lang/Object", "<init>", "()V"⟩ ∈ ltb := ltb_of 713 (by decide +kernel) (by decide +kernel)
theorem wc_MD_23 : Cond.constant "StripeFieldModel" 23 (72800) ∈ ltb := ltb_of 714 (by decide +kernel) (by decide +kernel)
theorem wc_MD_42 : Cond.constant "StripeFieldModel" 42 (49152) ∈ ltb := ltb_of 715 (by decide +kernel) (by decide +kernel)
theorem wm_MD_67 : Cond.methodLink "StripeFieldModel" 67 ⟨"StripeFieldModel", "at", "(II)I"⟩ ∈ ltb := ltb_of 716 (by decide +kernel) (by decide +kernel)
theorem ws_MD_at : Cond.static ⟨"StripeFieldModel", "at", "(II)I"⟩ ∈ ltb := ltb_of 717 (by decide +kernel) (by decide +kernel)
set_option maxRecDepth 20000 in
theorem wo_MD_at : Cond.code ⟨"StripeFieldModel", "at", "(II)I"⟩ prog_7_method_4_code 2 (some FieldType.int) ∈ ltb := ltb_of 718 rfl (by decide +kernel)
theorem wm_MD_71 : Cond.methodLink "StripeFieldModel" 71 ⟨"StripeFieldModel", "diskOf", "(II)I"⟩ ∈ ltb := ltb_of 719 (by decide +kernel) (by decide +kernel)
theorem wi_MD_diskOf : Cond.instanceMethod ⟨"StripeFieldModel", "diskOf", "(II)I"⟩ ∈ ltb := ltb_of 721 (by decide +kernel) (by decide +kernel)
set_option maxRecDepth 20000 in
theorem wo_MD_diskOf : Cond.code ⟨"StripeFieldModel", "diskOf", "(II)I"⟩ prog_7_method_5_code 3 (some FieldType.int) ∈ ltb := ltb_of 722 rfl (by decide +kernel)
theorem wf_MD_74 : Cond.fieldLink "StripeFieldModel" 74 "StripeFieldModel" "thrown" "I" ∈ ltb := ltb_of 723 (by decide +kernel) (by decide +kernel)
theorem wf_MD_52 : Cond.fieldLink "StripeFieldModel" 52 "StripeFieldModel" "disks" "I" ∈ ltb := ltb_of 724 (by decide +kernel) (by decide +kernel)
theorem wf_MD_55 : Cond.fieldLink "StripeFieldModel" 55 "StripeFieldModel" "width" "I" ∈ ltb := ltb_of 725 (by decide +kernel) (by decide +kernel)
theorem wf_MD_58 : Cond.fieldLink "StripeFieldModel" 58 "StripeFieldModel" "rows" "I" ∈ ltb := ltb_of 726 (by decide +kernel) (by decide +kernel)
theorem wf_MD_61 : Cond.fieldLink "StripeFieldModel" 61 "StripeFieldModel" "groups" "I" ∈ ltb := ltb_of 727 (by decide +kernel) (by decide +kernel)
theorem wf_MD_7 : Cond.fieldLink "StripeFieldModel" 7 "StripeFieldModel" "units" "[I" ∈ ltb := ltb_of 728 (by decide +kernel) (by decide +kernel)
theorem wf_MD_64 : Cond.fieldLink "StripeFieldModel" 64 "StripeFieldModel" "many" "I" ∈ ltb := ltb_of 729 (by decide +kernel) (by decide +kernel)
theorem wf_MD_13 : Cond.fieldLink "StripeFieldModel" 13 "StripeFieldModel" "live" "[Z" ∈ ltb := ltb_of 730 (by decide +kernel) (by decide +kernel)
theorem wf_MD_17 : Cond.fieldLink "StripeFieldModel" 17 "StripeFieldModel" "filled" "[Z" ∈ ltb := ltb_of 731 (by decide +kernel) (by decide +kernel)
theorem wf_MD_20 : Cond.fieldLink "StripeFieldModel" 20 "StripeFieldModel" "tag" "[I" ∈ ltb := ltb_of 732 (by decide +kernel) (by decide +kernel)
theorem wf_MD_24 : Cond.fieldLink "StripeFieldModel" 24 "StripeFieldModel" "damage" "[B" ∈ ltb := ltb_of 733 (by decide +kernel) (by decide +kernel)
theorem wf_MD_28 : Cond.fieldLink "StripeFieldModel" 28 "StripeFieldModel" "place" "[I" ∈ ltb := ltb_of 734 (by decide +kernel) (by decide +kernel)
theorem wf_MD_31 : Cond.fieldLink "StripeFieldModel" 31 "StripeFieldModel" "on" "Z" ∈ ltb := ltb_of 735 (by decide +kernel) (by decide +kernel)
theorem wf_MD_35 : Cond.fieldLink "StripeFieldModel" 35 "StripeFieldModel" "left" "I" ∈ ltb := ltb_of 736 (by decide +kernel) (by decide +kernel)
theorem wf_MD_97 : Cond.fieldLink "StripeFieldModel" 97 "StripeFieldModel" "writes" "I" ∈ ltb := ltb_of 737 (by decide +kernel) (by decide +kernel)
theorem wf_MD_130 : Cond.fieldLink "StripeFieldModel" 130 "StripeFieldModel" "next" "I" ∈ ltb := ltb_of 738 (by decide +kernel) (by decide +kernel)
theorem wf_MD_39 : Cond.fieldLink "StripeFieldModel" 39 "StripeFieldModel" "tape" "[I" ∈ ltb := ltb_of 739 (by decide +kernel) (by decide +kernel)
theorem wf_MD_104 : Cond.fieldLink "StripeFieldModel" 104 "StripeFieldModel" "taped" "I" ∈ ltb := ltb_of 740 (by decide +kernel) (by decide +kernel)
theorem wf_MD_43 : Cond.fieldLink "StripeFieldModel" 43 "StripeFieldModel" "value" "[I" ∈ ltb := ltb_of 741 (by decide +kernel) (by decide +kernel)
theorem wf_MD_46 : Cond.fieldLink "StripeFieldModel" 46 "StripeFieldModel" "cutBlock" "I" ∈ ltb := ltb_of 742 (by decide +kernel) (by decide +kernel)
theorem wf_MD_124 : Cond.fieldLink "StripeFieldModel" 124 "StripeFieldModel" "cutDeep" "Z" ∈ ltb := ltb_of 743 (by decide +kernel) (by decide +kernel)
theorem wf_MD_49 : Cond.fieldLink "StripeFieldModel" 49 "StripeFieldModel" "old" "[I" ∈ ltb := ltb_of 744 (by decide +kernel) (by decide +kernel)
theorem wm_LW_82 : Cond.methodLink "StripeFieldLaw" 82 ⟨"StripeFieldModel", "thrown", "()I"⟩ ∈ ltb := ltb_of 790 (by decide +kernel) (by decide +kernel)
theorem wi_MD_thrown : Cond.instanceMethod ⟨"StripeFieldModel", "thrown", "()I"⟩ ∈ ltb := ltb_of 791 (by decide +kernel) (by decide +kernel)
theorem wl_MD_thrown : Cond.selects "StripeFieldModel" ⟨"StripeFieldModel", "thrown", "()I"⟩ ⟨"StripeFieldModel", "thrown", "()I"⟩ ∈ ltb := ltb_of 792 (by decide +kernel) (by decide +kernel)
set_option maxRecDepth 20000 in
theorem wo_MD_thrown : Cond.code ⟨"StripeFieldModel", "thrown", "()I"⟩ prog_7_method_2_code 1 (some FieldType.int) ∈ ltb := ltb_of 793 rfl (by decide +kernel)
theorem wm_LW_81 : Cond.methodLink "StripeFieldLaw" 81 ⟨"StripeFieldModel", "feed", "(IJ)I"⟩ ∈ ltb := ltb_of 794 (by decide +kernel) (by decide +kernel)
theorem wi_MD_feed : Cond.instanceMethod ⟨"StripeFieldModel", "feed", "(IJ)I"⟩ ∈ ltb := ltb_of 795 (by decide +kernel) (by decide +kernel)
theorem wl_MD_feed : Cond.selects "StripeFieldModel" ⟨"StripeFieldModel", "feed", "(IJ)I"⟩ ⟨"StripeFieldModel", "feed", "(IJ)I"⟩ ∈ ltb := ltb_of 796 (by decide +kernel) (by decide +kernel)
set_option maxRecDepth 20000 in
theorem wo_MD_feed : Cond.code ⟨"StripeFieldModel", "feed", "(IJ)I"⟩ prog_7_method_16_code 5 (some FieldType.int) ∈ ltb := ltb_of 797 rfl (by decide +kernel)
theorem wm_MD_100 : Cond.methodLink "StripeFieldModel" 100 ⟨"StripeFieldModel", "fails", "(ZI)Z"⟩ ∈ ltb := ltb_of 798 (by decide +kernel) (by decide +kernel)
theorem wi_MD_fails : Cond.instanceMethod ⟨"StripeFieldModel", "fails", "(ZI)Z"⟩ ∈ ltb := ltb_of 800 (by decide +kernel) (by decide +kernel)
set_option maxRecDepth 20000 in
theorem wo_MD_fails : Cond.code ⟨"StripeFieldModel", "fails", "(ZI)Z"⟩ prog_7_method_3_code 3 (some FieldType.boolean) ∈ ltb := ltb_of 801 rfl (by decide +kernel)
theorem wj_MD_107 : Cond.constantLong "StripeFieldModel" 107 (255) ∈ ltb := ltb_of 802 (by decide +kernel) (by decide +kernel)
theorem wm_LW_88 : Cond.methodLink "StripeFieldLaw" 88 ⟨"StripeFieldModel", "write", "(I)Z"⟩ ∈ ltb := ltb_of 803 (by decide +kernel) (by decide +kernel)
theorem wi_MD_write : Cond.instanceMethod ⟨"StripeFieldModel", "write", "(I)Z"⟩ ∈ ltb := ltb_of 804 (by decide +kernel) (by decide +kernel)
theorem wl_MD_write : Cond.selects "StripeFieldModel" ⟨"StripeFieldModel", "write", "(I)Z"⟩ ⟨"StripeFieldModel", "write", "(I)Z"⟩ ∈ ltb := ltb_of 805 (by decide +kernel) (by decide +kernel)
set_option maxRecDepth 20000 in
theorem wo_MD_write : Cond.code ⟨"StripeFieldModel", "write", "(I)Z"⟩ prog_7_method_18_code 3 (some FieldType.boolean) ∈ ltb := ltb_of 806 rfl (by decide +kernel)
theorem wm_MD_109 : Cond.methodLink "StripeFieldModel" 109 ⟨"StripeFieldModel", "blocks", "()I"⟩ ∈ ltb := ltb_of 807 (by decide +kernel) (by decide +kernel)
theorem wi_MD_blocks : Cond.instanceMethod ⟨"StripeFieldModel", "blocks", "()I"⟩ ∈ ltb := ltb_of 809 (by decide +kernel) (by decide +kernel)
set_option maxRecDepth 20000 in
theorem wo_MD_blocks : Cond.code ⟨"StripeFieldModel", "blocks", "()I"⟩ prog_7_method_6_code 1 (some FieldType.int) ∈ ltb := ltb_of 810 rfl (by decide +kernel)
theorem wm_MD_113 : Cond.methodLink "StripeFieldModel" 113 ⟨"StripeFieldModel", "writes", "(I)Z"⟩ ∈ ltb := ltb_of 811 (by decide +kernel) (by decide +kernel)
theorem wi_MD_writes : Cond.instanceMethod ⟨"StripeFieldModel", "writes", "(I)Z"⟩ ∈ ltb := ltb_of 813 (by decide +kernel) (by decide +kernel)
set_option maxRecDepth 20000 in
theorem wo_MD_writes : Cond.code ⟨"StripeFieldModel", "writes", "(I)Z"⟩ prog_7_method_19_code 9 (some FieldType.boolean) ∈ ltb := ltb_of 814 rfl (by decide +kernel)
theorem wm_MD_84 : Cond.methodLink "StripeFieldModel" 84 ⟨"StripeFieldModel", "placeOf", "(II)I"⟩ ∈ ltb := ltb_of 815 (by decide +kernel) (by decide +kernel)
theorem wi_MD_placeOf : Cond.instanceMethod ⟨"StripeFieldModel", "placeOf", "(II)I"⟩ ∈ ltb := ltb_of 817 (by decide +kernel) (by decide +kernel)
set_option maxRecDepth 20000 in
theorem wo_MD_placeOf : Cond.code ⟨"StripeFieldModel", "placeOf", "(II)I"⟩ prog_7_method_9_code 3 (some FieldType.int) ∈ ltb := ltb_of 818 rfl (by decide +kernel)
theorem wm_MD_81 : Cond.methodLink "StripeFieldModel" 81 ⟨"StripeFieldModel", "found", "(II)I"⟩ ∈ ltb := ltb_of 819 (by decide +kernel) (by decide +kernel)
theorem wi_MD_found : Cond.instanceMethod ⟨"StripeFieldModel", "found", "(II)I"⟩ ∈ ltb := ltb_of 821 (by decide +kernel) (by decide +kernel)
set_option maxRecDepth 20000 in
theorem wo_MD_found : Cond.code ⟨"StripeFieldModel", "found", "(II)I"⟩ prog_7_method_8_code 6 (some FieldType.int) ∈ ltb := ltb_of 822 rfl (by decide +kernel)
theorem wm_MD_77 : Cond.methodLink "StripeFieldModel" 77 ⟨"StripeFieldModel", "isValid", "(II)Z"⟩ ∈ ltb := ltb_of 823 (by decide +kernel) (by decide +kernel)
theorem wi_MD_isValid : Cond.instanceMethod ⟨"StripeFieldModel", "isValid", "(II)Z"⟩ ∈ ltb := ltb_of 825 (by decide +kernel) (by decide +kernel)
set_option maxRecDepth 20000 in
theorem wo_MD_isValid : Cond.code ⟨"StripeFieldModel", "isValid", "(II)Z"⟩ prog_7_method_7_code 5 (some FieldType.boolean) ∈ ltb := ltb_of 826 rfl (by decide +kernel)
theorem wm_MD_116 : Cond.methodLink "StripeFieldModel" 116 ⟨"StripeFieldModel", "puts", "(III)Z"⟩ ∈ ltb := ltb_of 827 (by decide +kernel) (by decide +kernel)
theorem wi_MD_puts : Cond.instanceMethod ⟨"StripeFieldModel", "puts", "(III)Z"⟩ ∈ ltb := ltb_of 829 (by decide +kernel) (by decide +kernel)
set_option maxRecDepth 20000 in
theorem wo_MD_puts : Cond.code ⟨"StripeFieldModel", "puts", "(III)Z"⟩ prog_7_method_15_code 5 (some FieldType.boolean) ∈ ltb := ltb_of 830 rfl (by decide +kernel)
theorem wm_MD_120 : Cond.methodLink "StripeFieldModel" 120 ⟨"StripeFieldModel", "becomes", "(I)V"⟩ ∈ ltb := ltb_of 831 (by decide +kernel) (by decide +kernel)
theorem wi_MD_becomes : Cond.instanceMethod ⟨"StripeFieldModel", "becomes", "(I)V"⟩ ∈ ltb := ltb_of 833 (by decide +kernel) (by decide +kernel)
set_option maxRecDepth 20000 in
theorem wo_MD_becomes : Cond.code ⟨"StripeFieldModel", "becomes", "(I)V"⟩ prog_7_method_17_code 3 none ∈ ltb := ltb_of 834 rfl (by decide +kernel)
theorem wm_LW_92 : Cond.methodLink "StripeFieldLaw" 92 ⟨"StripeFieldModel", "read", "(II)J"⟩ ∈ ltb := ltb_of 835 (by decide +kernel) (by decide +kernel)
theorem wi_MD_read : Cond.instanceMethod ⟨"StripeFieldModel", "read", "(II)J"⟩ ∈ ltb := ltb_of 836 (by decide +kernel) (by decide +kernel)
theorem wl_MD_read : Cond.selects "StripeFieldModel" ⟨"StripeFieldModel", "read", "(II)J"⟩ ⟨"StripeFieldModel", "read", "(II)J"⟩ ∈ ltb := ltb_of 837 (by decide +kernel) (by decide +kernel)
set_option maxRecDepth 20000 in
theorem wo_MD_read : Cond.code ⟨"StripeFieldModel", "read", "(II)J"⟩ prog_7_method_20_code 6 (some FieldType.long) ∈ ltb := ltb_of 838 rfl (by decide +kernel)
theorem wm_LW_96 : Cond.methodLink "StripeFieldLaw" 96 ⟨"StripeFieldModel", "lose", "(I)V"⟩ ∈ ltb := ltb_of 839 (by decide +kernel) (by decide +kernel)
theorem wi_MD_lose : Cond.instanceMethod ⟨"StripeFieldModel", "lose", "(I)V"⟩ ∈ ltb := ltb_of 840 (by decide +kernel) (by decide +kernel)
theorem wl_MD_lose : Cond.selects "StripeFieldModel" ⟨"StripeFieldModel", "lose", "(I)V"⟩ ⟨"StripeFieldModel", "lose", "(I)V"⟩ ∈ ltb := ltb_of 841 (by decide +kernel) (by decide +kernel)
set_option maxRecDepth 20000 in
theorem wo_MD_lose : Cond.code ⟨"StripeFieldModel", "lose", "(I)V"⟩ prog_7_method_21_code 2 none ∈ ltb := ltb_of 842 rfl (by decide +kernel)
theorem wm_LW_100 : Cond.methodLink "StripeFieldLaw" 100 ⟨"StripeFieldModel", "off", "()V"⟩ ∈ ltb := ltb_of 843 (by decide +kernel) (by decide +kernel)
theorem wi_MD_off : Cond.instanceMethod ⟨"StripeFieldModel", "off", "()V"⟩ ∈ ltb := ltb_of 844 (by decide +kernel) (by decide +kernel)
theorem wl_MD_off : Cond.selects "StripeFieldModel" ⟨"StripeFieldModel", "off", "()V"⟩ ⟨"StripeFieldModel", "off", "()V"⟩ ∈ ltb := ltb_of 845 (by decide +kernel) (by decide +kernel)
set_option maxRecDepth 20000 in
theorem wo_MD_off : Cond.code ⟨"StripeFieldModel", "off", "()V"⟩ prog_7_method_22_code 1 none ∈ ltb := ltb_of 846 rfl (by decide +kernel)
theorem wm_LW_104 : Cond.methodLink "StripeFieldLaw" 104 ⟨"StripeFieldModel", "open", "()Z"⟩ ∈ ltb := ltb_of 847 (by decide +kernel) (by decide +kernel)
theorem wi_MD_open : Cond.instanceMethod ⟨"StripeFieldModel", "open", "()Z"⟩ ∈ ltb := ltb_of 848 (by decide +kernel) (by decide +kernel)
theorem wl_MD_open : Cond.selects "StripeFieldModel" ⟨"StripeFieldModel", "open", "()Z"⟩ ⟨"StripeFieldModel", "open", "()Z"⟩ ∈ ltb := ltb_of 849 (by decide +kernel) (by decide +kernel)
set_option maxRecDepth 20000 in
theorem wo_MD_open : Cond.code ⟨"StripeFieldModel", "open", "()Z"⟩ prog_7_method_25_code 3 (some FieldType.boolean) ∈ ltb := ltb_of 850 rfl (by decide +kernel)
theorem wm_MD_133 : Cond.methodLink "StripeFieldModel" 133 ⟨"StripeFieldModel", "opens", "()Z"⟩ ∈ ltb := ltb_of 851 (by decide +kernel) (by decide +kernel)
theorem wi_MD_opens : Cond.instanceMethod ⟨"StripeFieldModel", "opens", "()Z"⟩ ∈ ltb := ltb_of 853 (by decide +kernel) (by decide +kernel)
set_option maxRecDepth 20000 in
theorem wo_MD_opens : Cond.code ⟨"StripeFieldModel", "opens", "()Z"⟩ prog_7_method_24_code 4 (some FieldType.boolean) ∈ ltb := ltb_of 854 rfl (by decide +kernel)
theorem wm_MD_127 : Cond.methodLink "StripeFieldModel" 127 ⟨"StripeFieldModel", "unlogs", "(I)Z"⟩ ∈ ltb := ltb_of 855 (by decide +kernel) (by decide +kernel)
theorem wi_MD_unlogs : Cond.instanceMethod ⟨"StripeFieldModel", "unlogs", "(I)Z"⟩ ∈ ltb := ltb_of 857 (by decide +kernel) (by decide +kernel)
set_option maxRecDepth 20000 in
theorem wo_MD_unlogs : Cond.code ⟨"StripeFieldModel", "unlogs", "(I)Z"⟩ prog_7_method_23_code 9 (some FieldType.boolean) ∈ ltb := ltb_of 858 rfl (by decide +kernel)
theorem wm_MD_94 : Cond.methodLink "StripeFieldModel" 94 ⟨"StripeFieldModel", "holder", "(II)I"⟩ ∈ ltb := ltb_of 859 (by decide +kernel) (by decide +kernel)
theorem wi_MD_holder : Cond.instanceMethod ⟨"StripeFieldModel", "holder", "(II)I"⟩ ∈ ltb := ltb_of 861 (by decide +kernel) (by decide +kernel)
set_option maxRecDepth 20000 in
theorem wo_MD_holder : Cond.code ⟨"StripeFieldModel", "holder", "(II)I"⟩ prog_7_method_13_code 4 (some FieldType.int) ∈ ltb := ltb_of 862 rfl (by decide +kernel)
theorem wm_LW_107 : Cond.methodLink "StripeFieldLaw" 107 ⟨"StripeFieldModel", "fail", "(I)Z"⟩ ∈ ltb := ltb_of 863 (by decide +kernel) (by decide +kernel)
theorem wi_MD_fail : Cond.instanceMethod ⟨"StripeFieldModel", "fail", "(I)Z"⟩ ∈ ltb := ltb_of 864 (by decide +kernel) (by decide +kernel)
theorem wl_MD_fail : Cond.selects "StripeFieldModel" ⟨"StripeFieldModel", "fail", "(I)Z"⟩ ⟨"StripeFieldModel", "fail", "(I)Z"⟩ ∈ ltb := ltb_of 865 (by decide +kernel) (by decide +kernel)
set_option maxRecDepth 20000 in
theorem wo_MD_fail : Cond.code ⟨"StripeFieldModel", "fail", "(I)Z"⟩ prog_7_method_26_code 5 (some FieldType.boolean) ∈ ltb := ltb_of 866 rfl (by decide +kernel)
theorem wm_MD_137 : Cond.methodLink "StripeFieldModel" 137 ⟨"StripeFieldModel", "isNeeded", "(I)Z"⟩ ∈ ltb := ltb_of 867 (by decide +kernel) (by decide +kernel)
theorem wi_MD_isNeeded : Cond.instanceMethod ⟨"StripeFieldModel", "isNeeded", "(I)Z"⟩ ∈ ltb := ltb_of 869 (by decide +kernel) (by decide +kernel)
set_option maxRecDepth 20000 in
theorem wo_MD_isNeeded : Cond.code ⟨"StripeFieldModel", "isNeeded", "(I)Z"⟩ prog_7_method_12_code 4 (some FieldType.boolean) ∈ ltb := ltb_of 870 rfl (by decide +kernel)
theorem wm_MD_90 : Cond.methodLink "StripeFieldModel" 90 ⟨"StripeFieldModel", "bad", "(III)I"⟩ ∈ ltb := ltb_of 871 (by decide +kernel) (by decide +kernel)
theorem wi_MD_bad : Cond.instanceMethod ⟨"StripeFieldModel", "bad", "(III)I"⟩ ∈ ltb := ltb_of 873 (by decide +kernel) (by decide +kernel)
set_option maxRecDepth 20000 in
theorem wo_MD_bad : Cond.code ⟨"StripeFieldModel", "bad", "(III)I"⟩ prog_7_method_11_code 8 (some FieldType.int) ∈ ltb := ltb_of 874 rfl (by decide +kernel)
theorem wm_MD_87 : Cond.methodLink "StripeFieldModel" 87 ⟨"StripeFieldModel", "isSpoilt", "(II)Z"⟩ ∈ ltb := ltb_of 875 (by decide +kernel) (by decide +kernel)
theorem wi_MD_isSpoilt : Cond.instanceMethod ⟨"StripeFieldModel", "isSpoilt", "(II)Z"⟩ ∈ ltb := ltb_of 877 (by decide +kernel) (by decide +kernel)
set_option maxRecDepth 20000 in
theorem wo_MD_isSpoilt : Cond.code ⟨"StripeFieldModel", "isSpoilt", "(II)Z"⟩ prog_7_method_10_code 4 (some FieldType.boolean) ∈ ltb := ltb_of 878 rfl (by decide +kernel)
theorem wm_LW_110 : Cond.methodLink "StripeFieldLaw" 110 ⟨"StripeFieldModel", "replace", "(I)Z"⟩ ∈ ltb := ltb_of 879 (by decide +kernel) (by decide +kernel)
theorem wi_MD_replace : Cond.instanceMethod ⟨"StripeFieldModel", "replace", "(I)Z"⟩ ∈ ltb := ltb_of 880 (by decide +kernel) (by decide +kernel)
theorem wl_MD_replace : Cond.selects "StripeFieldModel" ⟨"StripeFieldModel", "replace", "(I)Z"⟩ ⟨"StripeFieldModel", "replace", "(I)Z"⟩ ∈ ltb := ltb_of 881 (by decide +kernel) (by decide +kernel)
set_option maxRecDepth 20000 in
theorem wo_MD_replace : Cond.code ⟨"StripeFieldModel", "replace", "(I)Z"⟩ prog_7_method_27_code 4 (some FieldType.boolean) ∈ ltb := ltb_of 882 rfl (by decide +kernel)
theorem wm_LW_114 : Cond.methodLink "StripeFieldLaw" 114 ⟨"StripeFieldModel", "spoil", "(IIIIJ)Z"⟩ ∈ ltb := ltb_of 883 (by decide +kernel) (by decide +kernel)
theorem wi_MD_spoil : Cond.instanceMethod ⟨"StripeFieldModel", "spoil", "(IIIIJ)Z"⟩ ∈ ltb := ltb_of 884 (by decide +kernel) (by decide +kernel)
theorem wl_MD_spoil : Cond.selects "StripeFieldModel" ⟨"StripeFieldModel", "spoil", "(IIIIJ)Z"⟩ ⟨"StripeFieldModel", "spoil", "(IIIIJ)Z"⟩ ∈ ltb := ltb_of 885 (by decide +kernel) (by decide +kernel)
set_option maxRecDepth 20000 in
theorem wo_MD_spoil : Cond.code ⟨"StripeFieldModel", "spoil", "(IIIIJ)Z"⟩ prog_7_method_30_code 9 (some FieldType.boolean) ∈ ltb := ltb_of 886 rfl (by decide +kernel)
theorem wm_MD_141 : Cond.methodLink "StripeFieldModel" 141 ⟨"StripeFieldModel", "turn", "(IIJ)V"⟩ ∈ ltb := ltb_of 887 (by decide +kernel) (by decide +kernel)
theorem wi_MD_turn : Cond.instanceMethod ⟨"StripeFieldModel", "turn", "(IIJ)V"⟩ ∈ ltb := ltb_of 889 (by decide +kernel) (by decide +kernel)
set_option maxRecDepth 20000 in
theorem wo_MD_turn : Cond.code ⟨"StripeFieldModel", "turn", "(IIJ)V"⟩ prog_7_method_28_code 6 none ∈ ltb := ltb_of 890 rfl (by decide +kernel)
theorem wm_MD_145 : Cond.methodLink "StripeFieldModel" 145 ⟨"StripeFieldModel", "isUnseen", "(I)Z"⟩ ∈ ltb := ltb_of 891 (by decide +kernel) (by decide +kernel)
theorem wi_MD_isUnseen : Cond.instanceMethod ⟨"StripeFieldModel", "isUnseen", "(I)Z"⟩ ∈ ltb := ltb_of 893 (by decide +kernel) (by decide +kernel)
set_option maxRecDepth 20000 in
theorem wo_MD_isUnseen : Cond.code ⟨"StripeFieldModel", "isUnseen", "(I)Z"⟩ prog_7_method_29_code 6 (some FieldType.boolean) ∈ ltb := ltb_of 894 rfl (by decide +kernel)
theorem wc_MD_140 : Cond.constant "StripeFieldModel" 140 (-2097792136) ∈ ltb := ltb_of 895 (by decide +kernel) (by decide +kernel)
theorem wm_LW_117 : Cond.methodLink "StripeFieldLaw" 117 ⟨"StripeFieldModel", "rebuild", "()I"⟩ ∈ ltb := ltb_of 896 (by decide +kernel) (by decide +kernel)
theorem wi_MD_rebuild : Cond.instanceMethod ⟨"StripeFieldModel", "rebuild", "()I"⟩ ∈ ltb := ltb_of 897 (by decide +kernel) (by decide +kernel)
theorem wl_MD_rebuild : Cond.selects "StripeFieldModel" ⟨"StripeFieldModel", "rebuild", "()I"⟩ ⟨"StripeFieldModel", "rebuild", "()I"⟩ ∈ ltb := ltb_of 898 (by decide +kernel) (by decide +kernel)
set_option maxRecDepth 20000 in
theorem wo_MD_rebuild : Cond.code ⟨"StripeFieldModel", "rebuild", "()I"⟩ prog_7_method_31_code 4 (some FieldType.int) ∈ ltb := ltb_of 899 rfl (by decide +kernel)
theorem wm_MD_148 : Cond.methodLink "StripeFieldModel" 148 ⟨"StripeFieldModel", "freeSpare", "(I)I"⟩ ∈ ltb := ltb_of 900 (by decide +kernel) (by decide +kernel)
theorem wi_MD_freeSpare : Cond.instanceMethod ⟨"StripeFieldModel", "freeSpare", "(I)I"⟩ ∈ ltb := ltb_of 902 (by decide +kernel) (by decide +kernel)
set_option maxRecDepth 20000 in
theorem wo_MD_freeSpare : Cond.code ⟨"StripeFieldModel", "freeSpare", "(I)I"⟩ prog_7_method_14_code 3 (some FieldType.int) ∈ ltb := ltb_of 903 rfl (by decide +kernel)
theorem wm_LW_120 : Cond.methodLink "StripeFieldLaw" 120 ⟨"StripeFieldModel", "copyBack", "()I"⟩ ∈ ltb := ltb_of 904 (by decide +kernel) (by decide +kernel)
theorem wi_MD_copyBack : Cond.instanceMethod ⟨"StripeFieldModel", "copyBack", "()I"⟩ ∈ ltb := ltb_of 905 (by decide +kernel) (by decide +kernel)
theorem wl_MD_copyBack : Cond.selects "StripeFieldModel" ⟨"StripeFieldModel", "copyBack", "()I"⟩ ⟨"StripeFieldModel", "copyBack", "()I"⟩ ∈ ltb := ltb_of 906 (by decide +kernel) (by decide +kernel)
set_option maxRecDepth 20000 in
theorem wo_MD_copyBack : Cond.code ⟨"StripeFieldModel", "copyBack", "()I"⟩ prog_7_method_32_code 5 (some FieldType.int) ∈ ltb := ltb_of 907 rfl (by decide +kernel)
theorem wm_LW_123 : Cond.methodLink "StripeFieldLaw" 123 ⟨"StripeFieldModel", "scrub", "()I"⟩ ∈ ltb := ltb_of 908 (by decide +kernel) (by decide +kernel)
theorem wi_MD_scrub : Cond.instanceMethod ⟨"StripeFieldModel", "scrub", "()I"⟩ ∈ ltb := ltb_of 909 (by decide +kernel) (by decide +kernel)
theorem wl_MD_scrub : Cond.selects "StripeFieldModel" ⟨"StripeFieldModel", "scrub", "()I"⟩ ⟨"StripeFieldModel", "scrub", "()I"⟩ ∈ ltb := ltb_of 910 (by decide +kernel) (by decide +kernel)
set_option maxRecDepth 20000 in
theorem wo_MD_scrub : Cond.code ⟨"StripeFieldModel", "scrub", "()I"⟩ prog_7_method_33_code 4 (some FieldType.int) ∈ ltb := ltb_of 911 rfl (by decide +kernel)
theorem wm_LW_126 : Cond.methodLink "StripeFieldLaw" 126 ⟨"StripeFieldModel", "look", "(I)I"⟩ ∈ ltb := ltb_of 912 (by decide +kernel) (by decide +kernel)
theorem wi_MD_look : Cond.instanceMethod ⟨"StripeFieldModel", "look", "(I)I"⟩ ∈ ltb := ltb_of 913 (by decide +kernel) (by decide +kernel)
theorem wl_MD_look : Cond.selects "StripeFieldModel" ⟨"StripeFieldModel", "look", "(I)I"⟩ ⟨"StripeFieldModel", "look", "(I)I"⟩ ∈ ltb := ltb_of 914 (by decide +kernel) (by decide +kernel)
set_option maxRecDepth 20000 in
theorem wo_MD_look : Cond.code ⟨"StripeFieldModel", "look", "(I)I"⟩ prog_7_method_35_code 4 (some FieldType.int) ∈ ltb := ltb_of 915 rfl (by decide +kernel)
theorem wm_MD_152 : Cond.methodLink "StripeFieldModel" 152 ⟨"StripeFieldModel", "count", "(I)I"⟩ ∈ ltb := ltb_of 916 (by decide +kernel) (by decide +kernel)
theorem wi_MD_count : Cond.instanceMethod ⟨"StripeFieldModel", "count", "(I)I"⟩ ∈ ltb := ltb_of 918 (by decide +kernel) (by decide +kernel)
set_option maxRecDepth 20000 in
theorem wo_MD_count : Cond.code ⟨"StripeFieldModel", "count", "(I)I"⟩ prog_7_method_34_code 6 (some FieldType.int) ∈ ltb := ltb_of 919 rfl (by decide +kernel)
theorem wm_LW_129 : Cond.methodLink "StripeFieldLaw" 129 ⟨"StripeFieldModel", "place", "(II)I"⟩ ∈ ltb := ltb_of 920 (by decide +kernel) (by decide +kernel)
theorem wi_MD_place : Cond.instanceMethod ⟨"StripeFieldModel", "place", "(II)I"⟩ ∈ ltb := ltb_of 921 (by decide +kernel) (by decide +kernel)
theorem wl_MD_place : Cond.selects "StripeFieldModel" ⟨"StripeFieldModel", "place", "(II)I"⟩ ⟨"StripeFieldModel", "place", "(II)I"⟩ ∈ ltb := ltb_of 922 (by decide +kernel) (by decide +kernel)
set_option maxRecDepth 20000 in
theorem wo_MD_place : Cond.code ⟨"StripeFieldModel", "place", "(II)I"⟩ prog_7_method_36_code 3 (some FieldType.int) ∈ ltb := ltb_of 923 rfl (by decide +kernel)
theorem wj_LW_76 : Cond.constantLong "StripeFieldLaw" 76 (4294967295) ∈ ltb := ltb_of 924 (by decide +kernel) (by decide +kernel)
end
section
abbrev R_SF : String := "StripeField"
def T_SF : u_T := fun k => match k with
  | 0 => ("StripeField", "layout", "LStripeField$Layout;", true)
  | 1 => ("StripeField", "rack", "LStripeField$Rack;", true)
  | 2 => ("StripeField", "places", "LStripeField$Places;", true)
  | 3 => ("StripeField", "power", "LStripeField$Power;", true)
  | 4 => ("StripeField", "tape", "[J", true)
  | 5 => ("StripeField", "tapeBytes", "I", false)
  | 6 => ("StripeField", "next", "I", false)
  | 7 => ("StripeField", "holes", "I", false)
  | 8 => ("StripeField", "fresh", "[J", true)
  | 9 => ("StripeField", "sum", "[J", true)
  | _ => ("StripeField", "zeros", "[J", true)
def t_SF : Nat → FieldType := fun k => match k with
  | 0 => .object "StripeField$Layout"
  | 1 => .object "StripeField$Rack"
  | 2 => .object "StripeField$Places"
  | 3 => .object "StripeField$Power"
  | 4 => .array .long
  | 5 => .int
  | 6 => .int
  | 7 => .int
  | 8 => .array .long
  | 9 => .array .long
  | _ => .array .long
theorem n_SF : ∀ a, a < 11 → ∀ b, b < 11 → a ≠ b → (T_SF a).2.1 ≠ (T_SF b).2.1 := by decide +kernel
theorem tok_SF : ∀ k, k < 11 → parseFieldDescriptor (T_SF k).2.2.1 = some (t_SF k) := by decide +kernel
theorem in_SF : ∀ w ∈ u_ws R_SF T_SF 11, w ∈ ltb := by decide +kernel
abbrev R_LA : String := "StripeField$Layout"
def T_LA : u_T := fun k => match k with
  | 0 => ("StripeField$Layout", "disks", "I", true)
  | 1 => ("StripeField$Layout", "width", "I", true)
  | 2 => ("StripeField$Layout", "rows", "I", true)
  | 3 => ("StripeField$Layout", "groups", "I", true)
  | 4 => ("StripeField$Layout", "stripes", "I", true)
  | 5 => ("StripeField$Layout", "blocks", "I", true)
  | 6 => ("StripeField$Layout", "positions", "I", true)
  | 7 => ("StripeField$Layout", "parity", "I", true)
  | 8 => ("StripeField$Layout", "cells", "I", true)
  | _ => ("StripeField$Layout", "home", "[I", true)
def t_LA : Nat → FieldType := fun k => match k with
  | 0 => .int
  | 1 => .int
  | 2 => .int
  | 3 => .int
  | 4 => .int
  | 5 => .int
  | 6 => .int
  | 7 => .int
  | 8 => .int
  | _ => .array .int
theorem n_LA : ∀ a, a < 10 → ∀ b, b < 10 → a ≠ b → (T_LA a).2.1 ≠ (T_LA b).2.1 := by decide +kernel
theorem tok_LA : ∀ k, k < 10 → parseFieldDescriptor (T_LA k).2.2.1 = some (t_LA k) := by decide +kernel
theorem in_LA : ∀ w ∈ u_ws R_LA T_LA 10, w ∈ ltb := by decide +kernel
abbrev R_PL : String := "StripeField$Places"
def T_PL : u_T := fun k => match k with
  | 0 => ("StripeField$Places", "place", "[I", true)
  | 1 => ("StripeField$Places", "holder", "[I", true)
  | 2 => ("StripeField$Places", "layout", "LStripeField$Layout;", true)
  | _ => ("StripeField$Places", "rack", "LStripeField$Rack;", true)
def t_PL : Nat → FieldType := fun k => match k with
  | 0 => .array .int
  | 1 => .array .int
  | 2 => .object "StripeField$Layout"
  | _ => .object "StripeField$Rack"
theorem n_PL : ∀ a, a < 4 → ∀ b, b < 4 → a ≠ b → (T_PL a).2.1 ≠ (T_PL b).2.1 := by decide +kernel
theorem tok_PL : ∀ k, k < 4 → parseFieldDescriptor (T_PL k).2.2.1 = some (t_PL k) := by decide +kernel
theorem in_PL : ∀ w ∈ u_ws R_PL T_PL 4, w ∈ ltb := by decide +kernel
abbrev R_PW : String := "StripeField$Power"
def T_PW : u_T := fun k => match k with
  | 0 => ("StripeField$Power", "on", "Z", false)
  | 1 => ("StripeField$Power", "writesLeft", "I", false)
  | _ => ("StripeField$Power", "writesDone", "I", false)
def t_PW : Nat → FieldType := fun k => match k with
  | 0 => .boolean
  | 1 => .int
  | _ => .int
theorem n_PW : ∀ a, a < 3 → ∀ b, b < 3 → a ≠ b → (T_PW a).2.1 ≠ (T_PW b).2.1 := by decide +kernel
theorem tok_PW : ∀ k, k < 3 → parseFieldDescriptor (T_PW k).2.2.1 = some (t_PW k) := by decide +kernel
theorem in_PW : ∀ w ∈ u_ws R_PW T_PW 3, w ∈ ltb := by decide +kernel
abbrev R_RK : String := "StripeField$Rack"
def T_RK : u_T := fun k => match k with
  | 0 => ("StripeField$Rack", "live", "[Z", true)
  | 1 => ("StripeField$Rack", "layout", "LStripeField$Layout;", true)
  | 2 => ("StripeField$Rack", "words", "[J", true)
  | 3 => ("StripeField$Rack", "drift", "[J", true)
  | 4 => ("StripeField$Rack", "written", "[Z", true)
  | _ => ("StripeField$Rack", "valid", "[Z", true)
def t_RK : Nat → FieldType := fun k => match k with
  | 0 => .array .boolean
  | 1 => .object "StripeField$Layout"
  | 2 => .array .long
  | 3 => .array .long
  | 4 => .array .boolean
  | _ => .array .boolean
theorem n_RK : ∀ a, a < 6 → ∀ b, b < 6 → a ≠ b → (T_RK a).2.1 ≠ (T_RK b).2.1 := by decide +kernel
theorem tok_RK : ∀ k, k < 6 → parseFieldDescriptor (T_RK k).2.2.1 = some (t_RK k) := by decide +kernel
theorem in_RK : ∀ w ∈ u_ws R_RK T_RK 6, w ∈ ltb := by decide +kernel
abbrev R_MD : String := "StripeFieldModel"
def T_MD : u_T := fun k => match k with
  | 0 => ("StripeFieldModel", "thrown", "I", false)
  | 1 => ("StripeFieldModel", "disks", "I", true)
  | 2 => ("StripeFieldModel", "width", "I", true)
  | 3 => ("StripeFieldModel", "rows", "I", true)
  | 4 => ("StripeFieldModel", "groups", "I", true)
  | 5 => ("StripeFieldModel", "units", "[I", true)
  | 6 => ("StripeFieldModel", "many", "I", false)
  | 7 => ("StripeFieldModel", "live", "[Z", true)
  | 8 => ("StripeFieldModel", "filled", "[Z", true)
  | 9 => ("StripeFieldModel", "tag", "[I", true)
  | 10 => ("StripeFieldModel", "damage", "[B", true)
  | 11 => ("StripeFieldModel", "place", "[I", true)
  | 12 => ("StripeFieldModel", "on", "Z", false)
  | 13 => ("StripeFieldModel", "left", "I", false)
  | 14 => ("StripeFieldModel", "writes", "I", false)
  | 15 => ("StripeFieldModel", "next", "I", false)
  | 16 => ("StripeFieldModel", "tape", "[I", true)
  | 17 => ("StripeFieldModel", "taped", "I", false)
  | 18 => ("StripeFieldModel", "value", "[I", true)
  | 19 => ("StripeFieldModel", "cutBlock", "I", false)
  | 20 => ("StripeFieldModel", "cutDeep", "Z", false)
  | _ => ("StripeFieldModel", "old", "[I", true)
def t_MD : Nat → FieldType := fun k => match k with
  | 0 => .int
  | 1 => .int
  | 2 => .int
  | 3 => .int
  | 4 => .int
  | 5 => .array .int
  | 6 => .int
  | 7 => .array .boolean
  | 8 => .array .boolean
  | 9 => .array .int
  | 10 => .array .byte
  | 11 => .array .int
  | 12 => .boolean
  | 13 => .int
  | 14 => .int
  | 15 => .int
  | 16 => .array .int
  | 17 => .int
  | 18 => .array .int
  | 19 => .int
  | 20 => .boolean
  | _ => .array .int
theorem n_MD : ∀ a, a < 22 → ∀ b, b < 22 → a ≠ b → (T_MD a).2.1 ≠ (T_MD b).2.1 := by decide +kernel
theorem tok_MD : ∀ k, k < 22 → parseFieldDescriptor (T_MD k).2.2.1 = some (t_MD k) := by decide +kernel
theorem in_MD : ∀ w ∈ u_ws R_MD T_MD 22, w ∈ ltb := by decide +kernel
abbrev R_LW : String := "StripeFieldLaw"
abbrev R_AR : String := "java/util/Arrays"
abbrev cls6 : List vw_C := [(R_LA, T_LA, 10), (R_PL, T_PL, 4), (R_PW, T_PW, 3), (R_RK, T_RK, 6), (R_SF, T_SF, 11), (R_MD, T_MD, 22)]
end
section
abbrev c_LA_init : ByteArray := prog_2_method_1_code
abbrev y_LA_init : MethodName := ⟨"StripeField$Layout", "<init>", "(III)V"⟩
theorem d_LA_init_0 : decode c_LA_init 0 = .ok (.aload_n 0, 1) := by decide +kernel
theorem d_LA_init_1 : decode c_LA_init 1 = .ok (.invokespecial 1, 3) := by decide +kernel
theorem d_LA_init_4 : decode c_LA_init 4 = .ok (.aload_n 0, 1) := by decide +kernel
theorem d_LA_init_5 : decode c_LA_init 5 = .ok (.iload_n 1, 1) := by decide +kernel
theorem d_LA_init_6 : decode c_LA_init 6 = .ok (.bipush 6, 2) := by decide +kernel
theorem d_LA_init_8 : decode c_LA_init 8 = .ok (.if_icmp .lt 13, 3) := by decide +kernel
theorem d_LA_init_11 : decode c_LA_init 11 = .ok (.iload_n 1, 1) := by decide +kernel
theorem d_LA_init_12 : decode c_LA_init 12 = .ok (.bipush 16, 2) := by decide +kernel
theorem d_LA_init_14 : decode c_LA_init 14 = .ok (.if_icmp .gt 7, 3) := by decide +kernel
theorem d_LA_init_17 : decode c_LA_init 17 = .ok (.iload_n 1, 1) := by decide +kernel
theorem d_LA_init_18 : decode c_LA_init 18 = .ok (.goto 5, 3) := by decide +kernel
theorem d_LA_init_21 : decode c_LA_init 21 = .ok (.bipush 8, 2) := by decide +kernel
theorem d_LA_init_23 : decode c_LA_init 23 = .ok (.putfield 7, 3) := by decide +kernel
theorem d_LA_init_26 : decode c_LA_init 26 = .ok (.aload_n 0, 1) := by decide +kernel
theorem d_LA_init_27 : decode c_LA_init 27 = .ok (.iload_n 2, 1) := by decide +kernel
theorem d_LA_init_28 : decode c_LA_init 28 = .ok (.iconst 3, 1) := by decide +kernel
theorem d_LA_init_29 : decode c_LA_init 29 = .ok (.if_icmp .lt 21, 3) := by decide +kernel
theorem d_LA_init_32 : decode c_LA_init 32 = .ok (.iload_n 2, 1) := by decide +kernel
theorem d_LA_init_33 : decode c_LA_init 33 = .ok (.bipush 8, 2) := by decide +kernel
theorem d_LA_init_35 : decode c_LA_init 35 = .ok (.if_icmp .gt 15, 3) := by decide +kernel
theorem d_LA_init_38 : decode c_LA_init 38 = .ok (.iload_n 2, 1) := by decide +kernel
theorem d_LA_init_39 : decode c_LA_init 39 = .ok (.aload_n 0, 1) := by decide +kernel
theorem d_LA_init_40 : decode c_LA_init 40 = .ok (.getfield 7, 3) := by decide +kernel
theorem d_LA_init_43 : decode c_LA_init 43 = .ok (.if_icmp .ge 7, 3) := by decide +kernel
theorem d_LA_init_46 : decode c_LA_init 46 = .ok (.iload_n 2, 1) := by decide +kernel
theorem d_LA_init_47 : decode c_LA_init 47 = .ok (.goto 4, 3) := by decide +kernel
theorem d_LA_init_50 : decode c_LA_init 50 = .ok (.iconst 3, 1) := by decide +kernel
theorem d_LA_init_51 : decode c_LA_init 51 = .ok (.putfield 13, 3) := by decide +kernel
theorem d_LA_init_54 : decode c_LA_init 54 = .ok (.aload_n 0, 1) := by decide +kernel
theorem d_LA_init_55 : decode c_LA_init 55 = .ok (.iload_n 3, 1) := by decide +kernel
theorem d_LA_init_56 : decode c_LA_init 56 = .ok (.bipush 48, 2) := by decide +kernel
theorem d_LA_init_58 : decode c_LA_init 58 = .ok (.if_icmp .lt 13, 3) := by decide +kernel
theorem d_LA_init_61 : decode c_LA_init 61 = .ok (.iload_n 3, 1) := by decide +kernel
theorem d_LA_init_62 : decode c_LA_init 62 = .ok (.bipush 64, 2) := by decide +kernel
theorem d_LA_init_64 : decode c_LA_init 64 = .ok (.if_icmp .gt 7, 3) := by decide +kernel
theorem d_LA_init_67 : decode c_LA_init 67 = .ok (.iload_n 3, 1) := by decide +kernel
theorem d_LA_init_68 : decode c_LA_init 68 = .ok (.goto 5, 3) := by decide +kernel
theorem d_LA_init_71 : decode c_LA_init 71 = .ok (.bipush 48, 2) := by decide +kernel
theorem d_LA_init_73 : decode c_LA_init 73 = .ok (.putfield 16, 3) := by decide +kernel
theorem d_LA_init_76 : decode c_LA_init 76 = .ok (.aload_n 0, 1) := by decide +kernel
theorem d_LA_init_77 : decode c_LA_init 77 = .ok (.aload_n 0, 1) := by decide +kernel
theorem d_LA_init_78 : decode c_LA_init 78 = .ok (.getfield 7, 3) := by decide +kernel
theorem d_LA_init_81 : decode c_LA_init 81 = .ok (.iconst 1, 1) := by decide +kernel
theorem d_LA_init_82 : decode c_LA_init 82 = .ok (.isub, 1) := by decide +kernel
theorem d_LA_init_83 : decode c_LA_init 83 = .ok (.aload_n 0, 1) := by decide +kernel
theorem d_LA_init_84 : decode c_LA_init 84 = .ok (.getfield 13, 3) := by decide +kernel
theorem d_LA_init_87 : decode c_LA_init 87 = .ok (.idiv, 1) := by decide +kernel
theorem d_LA_init_88 : decode c_LA_init 88 = .ok (.putfield 19, 3) := by decide +kernel
theorem d_LA_init_91 : decode c_LA_init 91 = .ok (.aload_n 0, 1) := by decide +kernel
theorem d_LA_init_92 : decode c_LA_init 92 = .ok (.aload_n 0, 1) := by decide +kernel
theorem d_LA_init_93 : decode c_LA_init 93 = .ok (.getfield 16, 3) := by decide +kernel
theorem d_LA_init_96 : decode c_LA_init 96 = .ok (.aload_n 0, 1) := by decide +kernel
theorem d_LA_init_97 : decode c_LA_init 97 = .ok (.getfield 19, 3) := by decide +kernel
theorem d_LA_init_100 : decode c_LA_init 100 = .ok (.imul, 1) := by decide +kernel
theorem d_LA_init_101 : decode c_LA_init 101 = .ok (.putfield 22, 3) := by decide +kernel
theorem d_LA_init_104 : decode c_LA_init 104 = .ok (.aload_n 0, 1) := by decide +kernel
theorem d_LA_init_105 : decode c_LA_init 105 = .ok (.aload_n 0, 1) := by decide +kernel
theorem d_LA_init_106 : decode c_LA_init 106 = .ok (.getfield 13, 3) := by decide +kernel
theorem d_LA_init_109 : decode c_LA_init 109 = .ok (.iconst 1, 1) := by decide +kernel
theorem d_LA_init_110 : decode c_LA_init 110 = .ok (.isub, 1) := by decide +kernel
theorem d_LA_init_111 : decode c_LA_init 111 = .ok (.putfield 25, 3) := by decide +kernel
theorem d_LA_init_114 : decode c_LA_init 114 = .ok (.aload_n 0, 1) := by decide +kernel
theorem d_LA_init_115 : decode c_LA_init 115 = .ok (.aload_n 0, 1) := by decide +kernel
theorem d_LA_init_116 : decode c_LA_init 116 = .ok (.getfield 22, 3) := by decide +kernel
theorem d_LA_init_119 : decode c_LA_init 119 = .ok (.aload_n 0, 1) := by decide +kernel
theorem d_LA_init_120 : decode c_LA_init 120 = .ok (.getfield 25, 3) := by decide +kernel
theorem d_LA_init_123 : decode c_LA_init 123 = .ok (.imul, 1) := by decide +kernel
theorem d_LA_init_124 : decode c_LA_init 124 = .ok (.putfield 28, 3) := by decide +kernel
theorem d_LA_init_127 : decode c_LA_init 127 = .ok (.aload_n 0, 1) := by decide +kernel
theorem d_LA_init_128 : decode c_LA_init 128 = .ok (.aload_n 0, 1) := by decide +kernel
theorem d_LA_init_129 : decode c_LA_init 129 = .ok (.getfield 13, 3) := by decide +kernel
theorem d_LA_init_132 : decode c_LA_init 132 = .ok (.aload_n 0, 1) := by decide +kernel
theorem d_LA_init_133 : decode c_LA_init 133 = .ok (.getfield 19, 3) := by decide +kernel
theorem d_LA_init_136 : decode c_LA_init 136 = .ok (.imul, 1) := by decide +kernel
theorem d_LA_init_137 : decode c_LA_init 137 = .ok (.putfield 31, 3) := by decide +kernel
theorem d_LA_init_140 : decode c_LA_init 140 = .ok (.aload_n 0, 1) := by decide +kernel
theorem d_LA_init_141 : decode c_LA_init 141 = .ok (.aload_n 0, 1) := by decide +kernel
theorem d_LA_init_142 : decode c_LA_init 142 = .ok (.getfield 7, 3) := by decide +kernel
theorem d_LA_init_145 : decode c_LA_init 145 = .ok (.aload_n 0, 1) := by decide +kernel
theorem d_LA_init_146 : decode c_LA_init 146 = .ok (.getfield 16, 3) := by decide +kernel
theorem d_LA_init_149 : decode c_LA_init 149 = .ok (.iconst 1, 1) := by decide +kernel
theorem d_LA_init_150 : decode c_LA_init 150 = .ok (.iadd, 1) := by decide +kernel
theorem d_LA_init_151 : decode c_LA_init 151 = .ok (.imul, 1) := by decide +kernel
theorem d_LA_init_152 : decode c_LA_init 152 = .ok (.putfield 34, 3) := by decide +kernel
theorem d_LA_init_155 : decode c_LA_init 155 = .ok (.aload_n 0, 1) := by decide +kernel
theorem d_LA_init_156 : decode c_LA_init 156 = .ok (.aload_n 0, 1) := by decide +kernel
theorem d_LA_init_157 : decode c_LA_init 157 = .ok (.getfield 7, 3) := by decide +kernel
theorem d_LA_init_160 : decode c_LA_init 160 = .ok (.aload_n 0, 1) := by decide +kernel
theorem d_LA_init_161 : decode c_LA_init 161 = .ok (.getfield 16, 3) := by decide +kernel
theorem d_LA_init_164 : decode c_LA_init 164 = .ok (.invokestatic 37, 3) := by decide +kernel
theorem d_LA_init_167 : decode c_LA_init 167 = .ok (.putfield 41, 3) := by decide +kernel
theorem d_LA_init_170 : decode c_LA_init 170 = .ok (.return_, 1) := by decide +kernel
abbrev c_LA_homes : ByteArray := prog_2_method_2_code
abbrev y_LA_homes : MethodName := ⟨"StripeField$Layout", "homes", "(II)[I"⟩
theorem d_LA_homes_0 : decode c_LA_homes 0 = .ok (.iload_n 0, 1) := by decide +kernel
theorem d_LA_homes_1 : decode c_LA_homes 1 = .ok (.invokestatic 45, 3) := by decide +kernel
theorem d_LA_homes_4 : decode c_LA_homes 4 = .ok (.astore_n 2, 1) := by decide +kernel
theorem d_LA_homes_5 : decode c_LA_homes 5 = .ok (.iload_n 1, 1) := by decide +kernel
theorem d_LA_homes_6 : decode c_LA_homes 6 = .ok (.iload_n 0, 1) := by decide +kernel
theorem d_LA_homes_7 : decode c_LA_homes 7 = .ok (.imul, 1) := by decide +kernel
theorem d_LA_homes_8 : decode c_LA_homes 8 = .ok (.newarray .int, 2) := by decide +kernel
theorem d_LA_homes_10 : decode c_LA_homes 10 = .ok (.astore_n 3, 1) := by decide +kernel
theorem d_LA_homes_11 : decode c_LA_homes 11 = .ok (.iconst 0, 1) := by decide +kernel
theorem d_LA_homes_12 : decode c_LA_homes 12 = .ok (.istore 4, 2) := by decide +kernel
theorem d_LA_homes_14 : decode c_LA_homes 14 = .ok (.iload 4, 2) := by decide +kernel
theorem d_LA_homes_16 : decode c_LA_homes 16 = .ok (.iload_n 1, 1) := by decide +kernel
theorem d_LA_homes_17 : decode c_LA_homes 17 = .ok (.if_icmp .ge 63, 3) := by decide +kernel
theorem d_LA_homes_20 : decode c_LA_homes 20 = .ok (.aload_n 2, 1) := by decide +kernel
theorem d_LA_homes_21 : decode c_LA_homes 21 = .ok (.iload 4, 2) := by decide +kernel
theorem d_LA_homes_23 : decode c_LA_homes 23 = .ok (.aload_n 2, 1) := by decide +kernel
theorem d_LA_homes_24 : decode c_LA_homes 24 = .ok (.arraylength, 1) := by decide +kernel
theorem d_LA_homes_25 : decode c_LA_homes 25 = .ok (.irem, 1) := by decide +kernel
theorem d_LA_homes_26 : decode c_LA_homes 26 = .ok (.iaload, 1) := by decide +kernel
theorem d_LA_homes_27 : decode c_LA_homes 27 = .ok (.istore 5, 2) := by decide +kernel
theorem d_LA_homes_29 : decode c_LA_homes 29 = .ok (.iconst 0, 1) := by decide +kernel
theorem d_LA_homes_30 : decode c_LA_homes 30 = .ok (.istore 6, 2) := by decide +kernel
theorem d_LA_homes_32 : decode c_LA_homes 32 = .ok (.iload 6, 2) := by decide +kernel
theorem d_LA_homes_34 : decode c_LA_homes 34 = .ok (.iload_n 0, 1) := by decide +kernel
theorem d_LA_homes_35 : decode c_LA_homes 35 = .ok (.if_icmp .ge 39, 3) := by decide +kernel
theorem d_LA_homes_38 : decode c_LA_homes 38 = .ok (.iload 4, 2) := by decide +kernel
theorem d_LA_homes_40 : decode c_LA_homes 40 = .ok (.iload 6, 2) := by decide +kernel
theorem d_LA_homes_42 : decode c_LA_homes 42 = .ok (.iload 5, 2) := by decide +kernel
theorem d_LA_homes_44 : decode c_LA_homes 44 = .ok (.imul, 1) := by decide +kernel
theorem d_LA_homes_45 : decode c_LA_homes 45 = .ok (.iadd, 1) := by decide +kernel
theorem d_LA_homes_46 : decode c_LA_homes 46 = .ok (.iload_n 0, 1) := by decide +kernel
theorem d_LA_homes_47 : decode c_LA_homes 47 = .ok (.irem, 1) := by decide +kernel
theorem d_LA_homes_48 : decode c_LA_homes 48 = .ok (.istore 7, 2) := by decide +kernel
theorem d_LA_homes_50 : decode c_LA_homes 50 = .ok (.aload_n 3, 1) := by decide +kernel
theorem d_LA_homes_51 : decode c_LA_homes 51 = .ok (.iload 4, 2) := by decide +kernel
theorem d_LA_homes_53 : decode c_LA_homes 53 = .ok (.iload_n 0, 1) := by decide +kernel
theorem d_LA_homes_54 : decode c_LA_homes 54 = .ok (.imul, 1) := by decide +kernel
theorem d_LA_homes_55 : decode c_LA_homes 55 = .ok (.iload 6, 2) := by decide +kernel
theorem d_LA_homes_57 : decode c_LA_homes 57 = .ok (.iadd, 1) := by decide +kernel
theorem d_LA_homes_58 : decode c_LA_homes 58 = .ok (.iload 7, 2) := by decide +kernel
theorem d_LA_homes_60 : decode c_LA_homes 60 = .ok (.iload_n 1, 1) := by decide +kernel
theorem d_LA_homes_61 : decode c_LA_homes 61 = .ok (.iconst 1, 1) := by decide +kernel
theorem d_LA_homes_62 : decode c_LA_homes 62 = .ok (.iadd, 1) := by decide +kernel
theorem d_LA_homes_63 : decode c_LA_homes 63 = .ok (.imul, 1) := by decide +kernel
theorem d_LA_homes_64 : decode c_LA_homes 64 = .ok (.iload 4, 2) := by decide +kernel
theorem d_LA_homes_66 : decode c_LA_homes 66 = .ok (.iadd, 1) := by decide +kernel
theorem d_LA_homes_67 : decode c_LA_homes 67 = .ok (.iastore, 1) := by decide +kernel
theorem d_LA_homes_68 : decode c_LA_homes 68 = .ok (.iinc 6 1, 3) := by decide +kernel
theorem d_LA_homes_71 : decode c_LA_homes 71 = .ok (.goto (-39), 3) := by decide +kernel
theorem d_LA_homes_74 : decode c_LA_homes 74 = .ok (.iinc 4 1, 3) := by decide +kernel
theorem d_LA_homes_77 : decode c_LA_homes 77 = .ok (.goto (-63), 3) := by decide +kernel
theorem d_LA_homes_80 : decode c_LA_homes 80 = .ok (.aload_n 3, 1) := by decide +kernel
theorem d_LA_homes_81 : decode c_LA_homes 81 = .ok (.areturn, 1) := by decide +kernel
abbrev c_LA_stepsOf : ByteArray := prog_2_method_3_code
abbrev y_LA_stepsOf : MethodName := ⟨"StripeField$Layout", "stepsOf", "(I)[I"⟩
theorem d_LA_stepsOf_0 : decode c_LA_stepsOf 0 = .ok (.iload_n 0, 1) := by decide +kernel
theorem d_LA_stepsOf_1 : decode c_LA_stepsOf 1 = .ok (.newarray .int, 2) := by decide +kernel
theorem d_LA_stepsOf_3 : decode c_LA_stepsOf 3 = .ok (.astore_n 1, 1) := by decide +kernel
theorem d_LA_stepsOf_4 : decode c_LA_stepsOf 4 = .ok (.iconst 0, 1) := by decide +kernel
theorem d_LA_stepsOf_5 : decode c_LA_stepsOf 5 = .ok (.istore_n 2, 1) := by decide +kernel
theorem d_LA_stepsOf_6 : decode c_LA_stepsOf 6 = .ok (.iconst 1, 1) := by decide +kernel
theorem d_LA_stepsOf_7 : decode c_LA_stepsOf 7 = .ok (.istore_n 3, 1) := by decide +kernel
theorem d_LA_stepsOf_8 : decode c_LA_stepsOf 8 = .ok (.iload_n 3, 1) := by decide +kernel
theorem d_LA_stepsOf_9 : decode c_LA_stepsOf 9 = .ok (.iload_n 0, 1) := by decide +kernel
theorem d_LA_stepsOf_10 : decode c_LA_stepsOf 10 = .ok (.if_icmp .ge 24, 3) := by decide +kernel
theorem d_LA_stepsOf_13 : decode c_LA_stepsOf 13 = .ok (.iload_n 3, 1) := by decide +kernel
theorem d_LA_stepsOf_14 : decode c_LA_stepsOf 14 = .ok (.iload_n 0, 1) := by decide +kernel
theorem d_LA_stepsOf_15 : decode c_LA_stepsOf 15 = .ok (.invokestatic 49, 3) := by decide +kernel
theorem d_LA_stepsOf_18 : decode c_LA_stepsOf 18 = .ok (.ifCond .eq 10, 3) := by decide +kernel
theorem d_LA_stepsOf_21 : decode c_LA_stepsOf 21 = .ok (.aload_n 1, 1) := by decide +kernel
theorem d_LA_stepsOf_22 : decode c_LA_stepsOf 22 = .ok (.iload_n 2, 1) := by decide +kernel
theorem d_LA_stepsOf_23 : decode c_LA_stepsOf 23 = .ok (.iload_n 3, 1) := by decide +kernel
theorem d_LA_stepsOf_24 : decode c_LA_stepsOf 24 = .ok (.iastore, 1) := by decide +kernel
theorem d_LA_stepsOf_25 : decode c_LA_stepsOf 25 = .ok (.iinc 2 1, 3) := by decide +kernel
theorem d_LA_stepsOf_28 : decode c_LA_stepsOf 28 = .ok (.iinc 3 1, 3) := by decide +kernel
theorem d_LA_stepsOf_31 : decode c_LA_stepsOf 31 = .ok (.goto (-23), 3) := by decide +kernel
theorem d_LA_stepsOf_34 : decode c_LA_stepsOf 34 = .ok (.aload_n 1, 1) := by decide +kernel
theorem d_LA_stepsOf_35 : decode c_LA_stepsOf 35 = .ok (.iload_n 2, 1) := by decide +kernel
theorem d_LA_stepsOf_36 : decode c_LA_stepsOf 36 = .ok (.invokestatic 53, 3) := by decide +kernel
theorem d_LA_stepsOf_39 : decode c_LA_stepsOf 39 = .ok (.areturn, 1) := by decide +kernel
abbrev c_LA_haveNoDivisorInCommon : ByteArray := prog_2_method_4_code
abbrev y_LA_haveNoDivisorInCommon : MethodName := ⟨"StripeField$Layout", "haveNoDivisorInCommon", "(II)Z"⟩
theorem d_LA_haveNoDivisorInCommon_0 : decode c_LA_haveNoDivisorInCommon 0 = .ok (.iconst 2, 1) := by decide +kernel
theorem d_LA_haveNoDivisorInCommon_1 : decode c_LA_haveNoDivisorInCommon 1 = .ok (.istore_n 2, 1) := by decide +kernel
theorem d_LA_haveNoDivisorInCommon_2 : decode c_LA_haveNoDivisorInCommon 2 = .ok (.iload_n 2, 1) := by decide +kernel
theorem d_LA_haveNoDivisorInCommon_3 : decode c_LA_haveNoDivisorInCommon 3 = .ok (.iload_n 0, 1) := by decide +kernel
theorem d_LA_haveNoDivisorInCommon_4 : decode c_LA_haveNoDivisorInCommon 4 = .ok (.if_icmp .gt 23, 3) := by decide +kernel
theorem d_LA_haveNoDivisorInCommon_7 : decode c_LA_haveNoDivisorInCommon 7 = .ok (.iload_n 0, 1) := by decide +kernel
theorem d_LA_haveNoDivisorInCommon_8 : decode c_LA_haveNoDivisorInCommon 8 = .ok (.iload_n 2, 1) := by decide +kernel
theorem d_LA_haveNoDivisorInCommon_9 : decode c_LA_haveNoDivisorInCommon 9 = .ok (.irem, 1) := by decide +kernel
theorem d_LA_haveNoDivisorInCommon_10 : decode c_LA_haveNoDivisorInCommon 10 = .ok (.ifCond .ne 11, 3) := by decide +kernel
theorem d_LA_haveNoDivisorInCommon_13 : decode c_LA_haveNoDivisorInCommon 13 = .ok (.iload_n 1, 1) := by decide +kernel
theorem d_LA_haveNoDivisorInCommon_14 : decode c_LA_haveNoDivisorInCommon 14 = .ok (.iload_n 2, 1) := by decide +kernel
theorem d_LA_haveNoDivisorInCommon_15 : decode c_LA_haveNoDivisorInCommon 15 = .ok (.irem, 1) := by decide +kernel
theorem d_LA_haveNoDivisorInCommon_16 : decode c_LA_haveNoDivisorInCommon 16 = .ok (.ifCond .ne 5, 3) := by decide +kernel
theorem d_LA_haveNoDivisorInCommon_19 : decode c_LA_haveNoDivisorInCommon 19 = .ok (.iconst 0, 1) := by decide +kernel
theorem d_LA_haveNoDivisorInCommon_20 : decode c_LA_haveNoDivisorInCommon 20 = .ok (.ireturn, 1) := by decide +kernel
theorem d_LA_haveNoDivisorInCommon_21 : decode c_LA_haveNoDivisorInCommon 21 = .ok (.iinc 2 1, 3) := by decide +kernel
theorem d_LA_haveNoDivisorInCommon_24 : decode c_LA_haveNoDivisorInCommon 24 = .ok (.goto (-22), 3) := by decide +kernel
theorem d_LA_haveNoDivisorInCommon_27 : decode c_LA_haveNoDivisorInCommon 27 = .ok (.iconst 1, 1) := by decide +kernel
theorem d_LA_haveNoDivisorInCommon_28 : decode c_LA_haveNoDivisorInCommon 28 = .ok (.ireturn, 1) := by decide +kernel
abbrev c_AR_copyOf : ByteArray := prog_17_method_123_code
abbrev y_AR_copyOf : MethodName := ⟨"java/util/Arrays", "copyOf", "([II)[I"⟩
theorem d_AR_copyOf_0 : decode c_AR_copyOf 0 = .ok (.iload_n 1, 1) := by decide +kernel
theorem d_AR_copyOf_1 : decode c_AR_copyOf 1 = .ok (.aload_n 0, 1) := by decide +kernel
theorem d_AR_copyOf_2 : decode c_AR_copyOf 2 = .ok (.arraylength, 1) := by decide +kernel
theorem d_AR_copyOf_3 : decode c_AR_copyOf 3 = .ok (.if_icmp .ne 11, 3) := by decide +kernel
theorem d_AR_copyOf_6 : decode c_AR_copyOf 6 = .ok (.aload_n 0, 1) := by decide +kernel
theorem d_AR_copyOf_7 : decode c_AR_copyOf 7 = .ok (.invokevirtual 316, 3) := by decide +kernel
theorem d_AR_copyOf_10 : decode c_AR_copyOf 10 = .ok (.checkcast 317, 3) := by decide +kernel
theorem d_AR_copyOf_13 : decode c_AR_copyOf 13 = .ok (.areturn, 1) := by decide +kernel
theorem d_AR_copyOf_14 : decode c_AR_copyOf 14 = .ok (.iload_n 1, 1) := by decide +kernel
theorem d_AR_copyOf_15 : decode c_AR_copyOf 15 = .ok (.newarray .int, 2) := by decide +kernel
theorem d_AR_copyOf_17 : decode c_AR_copyOf 17 = .ok (.astore_n 2, 1) := by decide +kernel
theorem d_AR_copyOf_18 : decode c_AR_copyOf 18 = .ok (.aload_n 0, 1) := by decide +kernel
theorem d_AR_copyOf_19 : decode c_AR_copyOf 19 = .ok (.iconst 0, 1) := by decide +kernel
theorem d_AR_copyOf_20 : decode c_AR_copyOf 20 = .ok (.aload_n 2, 1) := by decide +kernel
theorem d_AR_copyOf_21 : decode c_AR_copyOf 21 = .ok (.iconst 0, 1) := by decide +kernel
theorem d_AR_copyOf_22 : decode c_AR_copyOf 22 = .ok (.aload_n 0, 1) := by decide +kernel
theorem d_AR_copyOf_23 : decode c_AR_copyOf 23 = .ok (.arraylength, 1) := by decide +kernel
theorem d_AR_copyOf_24 : decode c_AR_copyOf 24 = .ok (.iload_n 1, 1) := by decide +kernel
theorem d_AR_copyOf_25 : decode c_AR_copyOf 25 = .ok (.invokestatic 304, 3) := by decide +kernel
theorem d_AR_copyOf_28 : decode c_AR_copyOf 28 = .ok (.invokestatic 150, 3) := by decide +kernel
theorem d_AR_copyOf_31 : decode c_AR_copyOf 31 = .ok (.aload_n 2, 1) := by decide +kernel
theorem d_AR_copyOf_32 : decode c_AR_copyOf 32 = .ok (.areturn, 1) := by decide +kernel
abbrev c_MA_min : ByteArray := prog_12_method_69_code
abbrev y_MA_min : MethodName := ⟨"java/lang/Math", "min", "(II)I"⟩
theorem d_MA_min_0 : decode c_MA_min 0 = .ok (.iload_n 0, 1) := by decide +kernel
theorem d_MA_min_1 : decode c_MA_min 1 = .ok (.iload_n 1, 1) := by decide +kernel
theorem d_MA_min_2 : decode c_MA_min 2 = .ok (.if_icmp .gt 7, 3) := by decide +kernel
theorem d_MA_min_5 : decode c_MA_min 5 = .ok (.iload_n 0, 1) := by decide +kernel
theorem d_MA_min_6 : decode c_MA_min 6 = .ok (.goto 4, 3) := by decide +kernel
theorem d_MA_min_9 : decode c_MA_min 9 = .ok (.iload_n 1, 1) := by decide +kernel
theorem d_MA_min_10 : decode c_MA_min 10 = .ok (.ireturn, 1) := by decide +kernel
abbrev c_RK_init : ByteArray := prog_5_method_1_code
abbrev y_RK_init : MethodName := ⟨"StripeField$Rack", "<init>", "(LStripeField$Layout;)V"⟩
theorem d_RK_init_0 : decode c_RK_init 0 = .ok (.aload_n 0, 1) := by decide +kernel
theorem d_RK_init_1 : decode c_RK_init 1 = .ok (.invokespecial 3, 3) := by decide +kernel
theorem d_RK_init_4 : decode c_RK_init 4 = .ok (.aload_n 0, 1) := by decide +kernel
theorem d_RK_init_5 : decode c_RK_init 5 = .ok (.aload_n 1, 1) := by decide +kernel
theorem d_RK_init_6 : decode c_RK_init 6 = .ok (.putfield 9, 3) := by decide +kernel
theorem d_RK_init_9 : decode c_RK_init 9 = .ok (.aload_n 0, 1) := by decide +kernel
theorem d_RK_init_10 : decode c_RK_init 10 = .ok (.aload_n 1, 1) := by decide +kernel
theorem d_RK_init_11 : decode c_RK_init 11 = .ok (.getfield 15, 3) := by decide +kernel
theorem d_RK_init_14 : decode c_RK_init 14 = .ok (.newarray .boolean, 2) := by decide +kernel
theorem d_RK_init_16 : decode c_RK_init 16 = .ok (.putfield 21, 3) := by decide +kernel
theorem d_RK_init_19 : decode c_RK_init 19 = .ok (.aload_n 0, 1) := by decide +kernel
theorem d_RK_init_20 : decode c_RK_init 20 = .ok (.aload_n 1, 1) := by decide +kernel
theorem d_RK_init_21 : decode c_RK_init 21 = .ok (.getfield 25, 3) := by decide +kernel
theorem d_RK_init_24 : decode c_RK_init 24 = .ok (.bipush 9, 2) := by decide +kernel
theorem d_RK_init_26 : decode c_RK_init 26 = .ok (.imul, 1) := by decide +kernel
theorem d_RK_init_27 : decode c_RK_init 27 = .ok (.newarray .long, 2) := by decide +kernel
theorem d_RK_init_29 : decode c_RK_init 29 = .ok (.putfield 28, 3) := by decide +kernel
theorem d_RK_init_32 : decode c_RK_init 32 = .ok (.aload_n 0, 1) := by decide +kernel
theorem d_RK_init_33 : decode c_RK_init 33 = .ok (.aload_n 1, 1) := by decide +kernel
theorem d_RK_init_34 : decode c_RK_init 34 = .ok (.getfield 25, 3) := by decide +kernel
theorem d_RK_init_37 : decode c_RK_init 37 = .ok (.bipush 9, 2) := by decide +kernel
theorem d_RK_init_39 : decode c_RK_init 39 = .ok (.imul, 1) := by decide +kernel
theorem d_RK_init_40 : decode c_RK_init 40 = .ok (.newarray .long, 2) := by decide +kernel
theorem d_RK_init_42 : decode c_RK_init 42 = .ok (.putfield 32, 3) := by decide +kernel
theorem d_RK_init_45 : decode c_RK_init 45 = .ok (.aload_n 0, 1) := by decide +kernel
theorem d_RK_init_46 : decode c_RK_init 46 = .ok (.aload_n 1, 1) := by decide +kernel
theorem d_RK_init_47 : decode c_RK_init 47 = .ok (.getfield 25, 3) := by decide +kernel
theorem d_RK_init_50 : decode c_RK_init 50 = .ok (.newarray .boolean, 2) := by decide +kernel
theorem d_RK_init_52 : decode c_RK_init 52 = .ok (.putfield 35, 3) := by decide +kernel
theorem d_RK_init_55 : decode c_RK_init 55 = .ok (.aload_n 0, 1) := by decide +kernel
theorem d_RK_init_56 : decode c_RK_init 56 = .ok (.aload_n 1, 1) := by decide +kernel
theorem d_RK_init_57 : decode c_RK_init 57 = .ok (.getfield 25, 3) := by decide +kernel
theorem d_RK_init_60 : decode c_RK_init 60 = .ok (.newarray .boolean, 2) := by decide +kernel
theorem d_RK_init_62 : decode c_RK_init 62 = .ok (.putfield 38, 3) := by decide +kernel
theorem d_RK_init_65 : decode c_RK_init 65 = .ok (.iconst 0, 1) := by decide +kernel
theorem d_RK_init_66 : decode c_RK_init 66 = .ok (.istore_n 2, 1) := by decide +kernel
theorem d_RK_init_67 : decode c_RK_init 67 = .ok (.iload_n 2, 1) := by decide +kernel
theorem d_RK_init_68 : decode c_RK_init 68 = .ok (.aload_n 1, 1) := by decide +kernel
theorem d_RK_init_69 : decode c_RK_init 69 = .ok (.getfield 15, 3) := by decide +kernel
theorem d_RK_init_72 : decode c_RK_init 72 = .ok (.if_icmp .ge 16, 3) := by decide +kernel
theorem d_RK_init_75 : decode c_RK_init 75 = .ok (.aload_n 0, 1) := by decide +kernel
theorem d_RK_init_76 : decode c_RK_init 76 = .ok (.getfield 21, 3) := by decide +kernel
theorem d_RK_init_79 : decode c_RK_init 79 = .ok (.iload_n 2, 1) := by decide +kernel
theorem d_RK_init_80 : decode c_RK_init 80 = .ok (.iconst 1, 1) := by decide +kernel
theorem d_RK_init_81 : decode c_RK_init 81 = .ok (.bastore, 1) := by decide +kernel
theorem d_RK_init_82 : decode c_RK_init 82 = .ok (.iinc 2 1, 3) := by decide +kernel
theorem d_RK_init_85 : decode c_RK_init 85 = .ok (.goto (-18), 3) := by decide +kernel
theorem d_RK_init_88 : decode c_RK_init 88 = .ok (.aload_n 0, 1) := by decide +kernel
theorem d_RK_init_89 : decode c_RK_init 89 = .ok (.invokevirtual 41, 3) := by decide +kernel
theorem d_RK_init_92 : decode c_RK_init 92 = .ok (.return_, 1) := by decide +kernel
abbrev c_RK_writeAll : ByteArray := prog_5_method_2_code
abbrev y_RK_writeAll : MethodName := ⟨"StripeField$Rack", "writeAll", "()V"⟩
theorem d_RK_writeAll_0 : decode c_RK_writeAll 0 = .ok (.bipush 8, 2) := by decide +kernel
theorem d_RK_writeAll_2 : decode c_RK_writeAll 2 = .ok (.newarray .long, 2) := by decide +kernel
theorem d_RK_writeAll_4 : decode c_RK_writeAll 4 = .ok (.astore_n 1, 1) := by decide +kernel
theorem d_RK_writeAll_5 : decode c_RK_writeAll 5 = .ok (.iconst 0, 1) := by decide +kernel
theorem d_RK_writeAll_6 : decode c_RK_writeAll 6 = .ok (.istore_n 2, 1) := by decide +kernel
theorem d_RK_writeAll_7 : decode c_RK_writeAll 7 = .ok (.iload_n 2, 1) := by decide +kernel
theorem d_RK_writeAll_8 : decode c_RK_writeAll 8 = .ok (.aload_n 0, 1) := by decide +kernel
theorem d_RK_writeAll_9 : decode c_RK_writeAll 9 = .ok (.getfield 9, 3) := by decide +kernel
theorem d_RK_writeAll_12 : decode c_RK_writeAll 12 = .ok (.getfield 15, 3) := by decide +kernel
theorem d_RK_writeAll_15 : decode c_RK_writeAll 15 = .ok (.if_icmp .ge 87, 3) := by decide +kernel
theorem d_RK_writeAll_18 : decode c_RK_writeAll 18 = .ok (.aload_n 0, 1) := by decide +kernel
theorem d_RK_writeAll_19 : decode c_RK_writeAll 19 = .ok (.getfield 9, 3) := by decide +kernel
theorem d_RK_writeAll_22 : decode c_RK_writeAll 22 = .ok (.getfield 44, 3) := by decide +kernel
theorem d_RK_writeAll_25 : decode c_RK_writeAll 25 = .ok (.iload_n 2, 1) := by decide +kernel
theorem d_RK_writeAll_26 : decode c_RK_writeAll 26 = .ok (.iaload, 1) := by decide +kernel
theorem d_RK_writeAll_27 : decode c_RK_writeAll 27 = .ok (.istore_n 3, 1) := by decide +kernel
theorem d_RK_writeAll_28 : decode c_RK_writeAll 28 = .ok (.aload_n 0, 1) := by decide +kernel
theorem d_RK_writeAll_29 : decode c_RK_writeAll 29 = .ok (.iload_n 3, 1) := by decide +kernel
theorem d_RK_writeAll_30 : decode c_RK_writeAll 30 = .ok (.aload_n 1, 1) := by decide +kernel
theorem d_RK_writeAll_31 : decode c_RK_writeAll 31 = .ok (.iload_n 2, 1) := by decide +kernel
theorem d_RK_writeAll_32 : decode c_RK_writeAll 32 = .ok (.aload_n 0, 1) := by decide +kernel
theorem d_RK_writeAll_33 : decode c_RK_writeAll 33 = .ok (.getfield 9, 3) := by decide +kernel
theorem d_RK_writeAll_36 : decode c_RK_writeAll 36 = .ok (.getfield 48, 3) := by decide +kernel
theorem d_RK_writeAll_39 : decode c_RK_writeAll 39 = .ok (.if_icmp .ge 9, 3) := by decide +kernel
theorem d_RK_writeAll_42 : decode c_RK_writeAll 42 = .ok (.iload_n 2, 1) := by decide +kernel
theorem d_RK_writeAll_43 : decode c_RK_writeAll 43 = .ok (.iconst 1, 1) := by decide +kernel
theorem d_RK_writeAll_44 : decode c_RK_writeAll 44 = .ok (.iadd, 1) := by decide +kernel
theorem d_RK_writeAll_45 : decode c_RK_writeAll 45 = .ok (.goto 4, 3) := by decide +kernel
theorem d_RK_writeAll_48 : decode c_RK_writeAll 48 = .ok (.iconst 0, 1) := by decide +kernel
theorem d_RK_writeAll_49 : decode c_RK_writeAll 49 = .ok (.invokevirtual 51, 3) := by decide +kernel
theorem d_RK_writeAll_52 : decode c_RK_writeAll 52 = .ok (.iconst 1, 1) := by decide +kernel
theorem d_RK_writeAll_53 : decode c_RK_writeAll 53 = .ok (.istore 4, 2) := by decide +kernel
theorem d_RK_writeAll_55 : decode c_RK_writeAll 55 = .ok (.iload 4, 2) := by decide +kernel
theorem d_RK_writeAll_57 : decode c_RK_writeAll 57 = .ok (.aload_n 0, 1) := by decide +kernel
theorem d_RK_writeAll_58 : decode c_RK_writeAll 58 = .ok (.getfield 9, 3) := by decide +kernel
theorem d_RK_writeAll_61 : decode c_RK_writeAll 61 = .ok (.getfield 55, 3) := by decide +kernel
theorem d_RK_writeAll_64 : decode c_RK_writeAll 64 = .ok (.if_icmp .ge 32, 3) := by decide +kernel
theorem d_RK_writeAll_67 : decode c_RK_writeAll 67 = .ok (.aload_n 0, 1) := by decide +kernel
theorem d_RK_writeAll_68 : decode c_RK_writeAll 68 = .ok (.iload_n 3, 1) := by decide +kernel
theorem d_RK_writeAll_69 : decode c_RK_writeAll 69 = .ok (.aload_n 0, 1) := by decide +kernel
theorem d_RK_writeAll_70 : decode c_RK_writeAll 70 = .ok (.getfield 9, 3) := by decide +kernel
theorem d_RK_writeAll_73 : decode c_RK_writeAll 73 = .ok (.getfield 44, 3) := by decide +kernel
theorem d_RK_writeAll_76 : decode c_RK_writeAll 76 = .ok (.aload_n 0, 1) := by decide +kernel
theorem d_RK_writeAll_77 : decode c_RK_writeAll 77 = .ok (.getfield 9, 3) := by decide +kernel
theorem d_RK_writeAll_80 : decode c_RK_writeAll 80 = .ok (.iload 4, 2) := by decide +kernel
theorem d_RK_writeAll_82 : decode c_RK_writeAll 82 = .ok (.iload_n 2, 1) := by decide +kernel
theorem d_RK_writeAll_83 : decode c_RK_writeAll 83 = .ok (.invokevirtual 58, 3) := by decide +kernel
theorem d_RK_writeAll_86 : decode c_RK_writeAll 86 = .ok (.iaload, 1) := by decide +kernel
theorem d_RK_writeAll_87 : decode c_RK_writeAll 87 = .ok (.invokevirtual 62, 3) := by decide +kernel
theorem d_RK_writeAll_90 : decode c_RK_writeAll 90 = .ok (.iinc 4 1, 3) := by decide +kernel
theorem d_RK_writeAll_93 : decode c_RK_writeAll 93 = .ok (.goto (-38), 3) := by decide +kernel
theorem d_RK_writeAll_96 : decode c_RK_writeAll 96 = .ok (.iinc 2 1, 3) := by decide +kernel
theorem d_RK_writeAll_99 : decode c_RK_writeAll 99 = .ok (.goto (-92), 3) := by decide +kernel
theorem d_RK_writeAll_102 : decode c_RK_writeAll 102 = .ok (.aload_n 0, 1) := by decide +kernel
theorem d_RK_writeAll_103 : decode c_RK_writeAll 103 = .ok (.aload_n 0, 1) := by decide +kernel
theorem d_RK_writeAll_104 : decode c_RK_writeAll 104 = .ok (.getfield 9, 3) := by decide +kernel
theorem d_RK_writeAll_107 : decode c_RK_writeAll 107 = .ok (.iconst 0, 1) := by decide +kernel
theorem d_RK_writeAll_108 : decode c_RK_writeAll 108 = .ok (.invokevirtual 66, 3) := by decide +kernel
theorem d_RK_writeAll_111 : decode c_RK_writeAll 111 = .ok (.aload_n 1, 1) := by decide +kernel
theorem d_RK_writeAll_112 : decode c_RK_writeAll 112 = .ok (.iconst 0, 1) := by decide +kernel
theorem d_RK_writeAll_113 : decode c_RK_writeAll 113 = .ok (.invokevirtual 51, 3) := by decide +kernel
theorem d_RK_writeAll_116 : decode c_RK_writeAll 116 = .ok (.iconst 1, 1) := by decide +kernel
theorem d_RK_writeAll_117 : decode c_RK_writeAll 117 = .ok (.istore_n 2, 1) := by decide +kernel
theorem d_RK_writeAll_118 : decode c_RK_writeAll 118 = .ok (.iload_n 2, 1) := by decide +kernel
theorem d_RK_writeAll_119 : decode c_RK_writeAll 119 = .ok (.aload_n 0, 1) := by decide +kernel
theorem d_RK_writeAll_120 : decode c_RK_writeAll 120 = .ok (.getfield 9, 3) := by decide +kernel
theorem d_RK_writeAll_123 : decode c_RK_writeAll 123 = .ok (.getfield 15, 3) := by decide +kernel
theorem d_RK_writeAll_126 : decode c_RK_writeAll 126 = .ok (.if_icmp .ge 29, 3) := by decide +kernel
theorem d_RK_writeAll_129 : decode c_RK_writeAll 129 = .ok (.aload_n 0, 1) := by decide +kernel
theorem d_RK_writeAll_130 : decode c_RK_writeAll 130 = .ok (.aload_n 0, 1) := by decide +kernel
theorem d_RK_writeAll_131 : decode c_RK_writeAll 131 = .ok (.getfield 9, 3) := by decide +kernel
theorem d_RK_writeAll_134 : decode c_RK_writeAll 134 = .ok (.iconst 0, 1) := by decide +kernel
theorem d_RK_writeAll_135 : decode c_RK_writeAll 135 = .ok (.invokevirtual 66, 3) := by decide +kernel
theorem d_RK_writeAll_138 : decode c_RK_writeAll 138 = .ok (.aload_n 0, 1) := by decide +kernel
theorem d_RK_writeAll_139 : decode c_RK_writeAll 139 = .ok (.getfield 9, 3) := by decide +kernel
theorem d_RK_writeAll_142 : decode c_RK_writeAll 142 = .ok (.iload_n 2, 1) := by decide +kernel
theorem d_RK_writeAll_143 : decode c_RK_writeAll 143 = .ok (.invokevirtual 66, 3) := by decide +kernel
theorem d_RK_writeAll_146 : decode c_RK_writeAll 146 = .ok (.invokevirtual 62, 3) := by decide +kernel
theorem d_RK_writeAll_149 : decode c_RK_writeAll 149 = .ok (.iinc 2 1, 3) := by decide +kernel
theorem d_RK_writeAll_152 : decode c_RK_writeAll 152 = .ok (.goto (-34), 3) := by decide +kernel
theorem d_RK_writeAll_155 : decode c_RK_writeAll 155 = .ok (.return_, 1) := by decide +kernel
abbrev c_RK_store : ByteArray := prog_5_method_4_code
abbrev y_RK_store : MethodName := ⟨"StripeField$Rack", "store", "(I[JI)V"⟩
theorem d_RK_store_0 : decode c_RK_store 0 = .ok (.iload_n 1, 1) := by decide +kernel
theorem d_RK_store_1 : decode c_RK_store 1 = .ok (.iconst (-1), 1) := by decide +kernel
theorem d_RK_store_2 : decode c_RK_store 2 = .ok (.if_icmp .ne 4, 3) := by decide +kernel
theorem d_RK_store_5 : decode c_RK_store 5 = .ok (.return_, 1) := by decide +kernel
theorem d_RK_store_6 : decode c_RK_store 6 = .ok (.iload_n 1, 1) := by decide +kernel
theorem d_RK_store_7 : decode c_RK_store 7 = .ok (.bipush 9, 2) := by decide +kernel
theorem d_RK_store_9 : decode c_RK_store 9 = .ok (.imul, 1) := by decide +kernel
theorem d_RK_store_10 : decode c_RK_store 10 = .ok (.istore 4, 2) := by decide +kernel
theorem d_RK_store_12 : decode c_RK_store 12 = .ok (.iconst 0, 1) := by decide +kernel
theorem d_RK_store_13 : decode c_RK_store 13 = .ok (.istore 5, 2) := by decide +kernel
theorem d_RK_store_15 : decode c_RK_store 15 = .ok (.iload 5, 2) := by decide +kernel
theorem d_RK_store_17 : decode c_RK_store 17 = .ok (.bipush 8, 2) := by decide +kernel
theorem d_RK_store_19 : decode c_RK_store 19 = .ok (.if_icmp .ge 34, 3) := by decide +kernel
theorem d_RK_store_22 : decode c_RK_store 22 = .ok (.aload_n 0, 1) := by decide +kernel
theorem d_RK_store_23 : decode c_RK_store 23 = .ok (.getfield 28, 3) := by decide +kernel
theorem d_RK_store_26 : decode c_RK_store 26 = .ok (.iload 4, 2) := by decide +kernel
theorem d_RK_store_28 : decode c_RK_store 28 = .ok (.iload 5, 2) := by decide +kernel
theorem d_RK_store_30 : decode c_RK_store 30 = .ok (.iadd, 1) := by decide +kernel
theorem d_RK_store_31 : decode c_RK_store 31 = .ok (.aload_n 2, 1) := by decide +kernel
theorem d_RK_store_32 : decode c_RK_store 32 = .ok (.iload 5, 2) := by decide +kernel
theorem d_RK_store_34 : decode c_RK_store 34 = .ok (.laload, 1) := by decide +kernel
theorem d_RK_store_35 : decode c_RK_store 35 = .ok (.lastore, 1) := by decide +kernel
theorem d_RK_store_36 : decode c_RK_store 36 = .ok (.aload_n 0, 1) := by decide +kernel
theorem d_RK_store_37 : decode c_RK_store 37 = .ok (.getfield 32, 3) := by decide +kernel
theorem d_RK_store_40 : decode c_RK_store 40 = .ok (.iload 4, 2) := by decide +kernel
theorem d_RK_store_42 : decode c_RK_store 42 = .ok (.iload 5, 2) := by decide +kernel
theorem d_RK_store_44 : decode c_RK_store 44 = .ok (.iadd, 1) := by decide +kernel
theorem d_RK_store_45 : decode c_RK_store 45 = .ok (.lconst 0, 1) := by decide +kernel
theorem d_RK_store_46 : decode c_RK_store 46 = .ok (.lastore, 1) := by decide +kernel
theorem d_RK_store_47 : decode c_RK_store 47 = .ok (.iinc 5 1, 3) := by decide +kernel
theorem d_RK_store_50 : decode c_RK_store 50 = .ok (.goto (-35), 3) := by decide +kernel
theorem d_RK_store_53 : decode c_RK_store 53 = .ok (.iload 4, 2) := by decide +kernel
theorem d_RK_store_55 : decode c_RK_store 55 = .ok (.bipush 8, 2) := by decide +kernel
theorem d_RK_store_57 : decode c_RK_store 57 = .ok (.iadd, 1) := by decide +kernel
theorem d_RK_store_58 : decode c_RK_store 58 = .ok (.istore 5, 2) := by decide +kernel
theorem d_RK_store_60 : decode c_RK_store 60 = .ok (.aload_n 0, 1) := by decide +kernel
theorem d_RK_store_61 : decode c_RK_store 61 = .ok (.getfield 32, 3) := by decide +kernel
theorem d_RK_store_64 : decode c_RK_store 64 = .ok (.iload 5, 2) := by decide +kernel
theorem d_RK_store_66 : decode c_RK_store 66 = .ok (.lconst 0, 1) := by decide +kernel
theorem d_RK_store_67 : decode c_RK_store 67 = .ok (.lastore, 1) := by decide +kernel
theorem d_RK_store_68 : decode c_RK_store 68 = .ok (.aload_n 0, 1) := by decide +kernel
theorem d_RK_store_69 : decode c_RK_store 69 = .ok (.getfield 28, 3) := by decide +kernel
theorem d_RK_store_72 : decode c_RK_store 72 = .ok (.iload 5, 2) := by decide +kernel
theorem d_RK_store_74 : decode c_RK_store 74 = .ok (.iload_n 3, 1) := by decide +kernel
theorem d_RK_store_75 : decode c_RK_store 75 = .ok (.i2l, 1) := by decide +kernel
theorem d_RK_store_76 : decode c_RK_store 76 = .ok (.lastore, 1) := by decide +kernel
theorem d_RK_store_77 : decode c_RK_store 77 = .ok (.aload_n 0, 1) := by decide +kernel
theorem d_RK_store_78 : decode c_RK_store 78 = .ok (.getfield 28, 3) := by decide +kernel
theorem d_RK_store_81 : decode c_RK_store 81 = .ok (.iload 5, 2) := by decide +kernel
theorem d_RK_store_83 : decode c_RK_store 83 = .ok (.dup2, 1) := by decide +kernel
theorem d_RK_store_84 : decode c_RK_store 84 = .ok (.laload, 1) := by decide +kernel
theorem d_RK_store_85 : decode c_RK_store 85 = .ok (.aload_n 0, 1) := by decide +kernel
theorem d_RK_store_86 : decode c_RK_store 86 = .ok (.iload_n 1, 1) := by decide +kernel
theorem d_RK_store_87 : decode c_RK_store 87 = .ok (.invokevirtual 76, 3) := by decide +kernel
theorem d_RK_store_90 : decode c_RK_store 90 = .ok (.i2l, 1) := by decide +kernel
theorem d_RK_store_91 : decode c_RK_store 91 = .ok (.ldc2_w 79, 3) := by decide +kernel
theorem d_RK_store_94 : decode c_RK_store 94 = .ok (.land, 1) := by decide +kernel
theorem d_RK_store_95 : decode c_RK_store 95 = .ok (.bipush 16, 2) := by decide +kernel
theorem d_RK_store_97 : decode c_RK_store 97 = .ok (.lshl, 1) := by decide +kernel
theorem d_RK_store_98 : decode c_RK_store 98 = .ok (.lor, 1) := by decide +kernel
theorem d_RK_store_99 : decode c_RK_store 99 = .ok (.lastore, 1) := by decide +kernel
theorem d_RK_store_100 : decode c_RK_store 100 = .ok (.aload_n 0, 1) := by decide +kernel
theorem d_RK_store_101 : decode c_RK_store 101 = .ok (.getfield 35, 3) := by decide +kernel
theorem d_RK_store_104 : decode c_RK_store 104 = .ok (.iload_n 1, 1) := by decide +kernel
theorem d_RK_store_105 : decode c_RK_store 105 = .ok (.iconst 1, 1) := by decide +kernel
theorem d_RK_store_106 : decode c_RK_store 106 = .ok (.bastore, 1) := by decide +kernel
theorem d_RK_store_107 : decode c_RK_store 107 = .ok (.aload_n 0, 1) := by decide +kernel
theorem d_RK_store_108 : decode c_RK_store 108 = .ok (.getfield 38, 3) := by decide +kernel
theorem d_RK_store_111 : decode c_RK_store 111 = .ok (.iload_n 1, 1) := by decide +kernel
theorem d_RK_store_112 : decode c_RK_store 112 = .ok (.iconst 1, 1) := by decide +kernel
theorem d_RK_store_113 : decode c_RK_store 113 = .ok (.bastore, 1) := by decide +kernel
theorem d_RK_store_114 : decode c_RK_store 114 = .ok (.return_, 1) := by decide +kernel
abbrev c_RK_checkOf : ByteArray := prog_5_method_5_code
abbrev y_RK_checkOf : MethodName := ⟨"StripeField$Rack", "checkOf", "(I)I"⟩
theorem d_RK_checkOf_0 : decode c_RK_checkOf 0 = .ok (.iconst (-1), 1) := by decide +kernel
theorem d_RK_checkOf_1 : decode c_RK_checkOf 1 = .ok (.istore_n 2, 1) := by decide +kernel
theorem d_RK_checkOf_2 : decode c_RK_checkOf 2 = .ok (.iconst 0, 1) := by decide +kernel
theorem d_RK_checkOf_3 : decode c_RK_checkOf 3 = .ok (.istore_n 3, 1) := by decide +kernel
theorem d_RK_checkOf_4 : decode c_RK_checkOf 4 = .ok (.iload_n 3, 1) := by decide +kernel
theorem d_RK_checkOf_5 : decode c_RK_checkOf 5 = .ok (.bipush 66, 2) := by decide +kernel
theorem d_RK_checkOf_7 : decode c_RK_checkOf 7 = .ok (.if_icmp .ge 73, 3) := by decide +kernel
theorem d_RK_checkOf_10 : decode c_RK_checkOf 10 = .ok (.iload_n 2, 1) := by decide +kernel
theorem d_RK_checkOf_11 : decode c_RK_checkOf 11 = .ok (.aload_n 0, 1) := by decide +kernel
theorem d_RK_checkOf_12 : decode c_RK_checkOf 12 = .ok (.getfield 28, 3) := by decide +kernel
theorem d_RK_checkOf_15 : decode c_RK_checkOf 15 = .ok (.iload_n 1, 1) := by decide +kernel
theorem d_RK_checkOf_16 : decode c_RK_checkOf 16 = .ok (.bipush 9, 2) := by decide +kernel
theorem d_RK_checkOf_18 : decode c_RK_checkOf 18 = .ok (.imul, 1) := by decide +kernel
theorem d_RK_checkOf_19 : decode c_RK_checkOf 19 = .ok (.iload_n 3, 1) := by decide +kernel
theorem d_RK_checkOf_20 : decode c_RK_checkOf 20 = .ok (.iconst 3, 1) := by decide +kernel
theorem d_RK_checkOf_21 : decode c_RK_checkOf 21 = .ok (.iushr, 1) := by decide +kernel
theorem d_RK_checkOf_22 : decode c_RK_checkOf 22 = .ok (.iadd, 1) := by decide +kernel
theorem d_RK_checkOf_23 : decode c_RK_checkOf 23 = .ok (.laload, 1) := by decide +kernel
theorem d_RK_checkOf_24 : decode c_RK_checkOf 24 = .ok (.bipush 8, 2) := by decide +kernel
theorem d_RK_checkOf_26 : decode c_RK_checkOf 26 = .ok (.iload_n 3, 1) := by decide +kernel
theorem d_RK_checkOf_27 : decode c_RK_checkOf 27 = .ok (.bipush 7, 2) := by decide +kernel
theorem d_RK_checkOf_29 : decode c_RK_checkOf 29 = .ok (.iand, 1) := by decide +kernel
theorem d_RK_checkOf_30 : decode c_RK_checkOf 30 = .ok (.imul, 1) := by decide +kernel
theorem d_RK_checkOf_31 : decode c_RK_checkOf 31 = .ok (.lushr, 1) := by decide +kernel
theorem d_RK_checkOf_32 : decode c_RK_checkOf 32 = .ok (.l2i, 1) := by decide +kernel
theorem d_RK_checkOf_33 : decode c_RK_checkOf 33 = .ok (.sipush 255, 3) := by decide +kernel
theorem d_RK_checkOf_36 : decode c_RK_checkOf 36 = .ok (.iand, 1) := by decide +kernel
theorem d_RK_checkOf_37 : decode c_RK_checkOf 37 = .ok (.ixor, 1) := by decide +kernel
theorem d_RK_checkOf_38 : decode c_RK_checkOf 38 = .ok (.istore_n 2, 1) := by decide +kernel
theorem d_RK_checkOf_39 : decode c_RK_checkOf 39 = .ok (.iconst 0, 1) := by decide +kernel
theorem d_RK_checkOf_40 : decode c_RK_checkOf 40 = .ok (.istore 4, 2) := by decide +kernel
theorem d_RK_checkOf_42 : decode c_RK_checkOf 42 = .ok (.iload 4, 2) := by decide +kernel
theorem d_RK_checkOf_44 : decode c_RK_checkOf 44 = .ok (.bipush 8, 2) := by decide +kernel
theorem d_RK_checkOf_46 : decode c_RK_checkOf 46 = .ok (.if_icmp .ge 28, 3) := by decide +kernel
theorem d_RK_checkOf_49 : decode c_RK_checkOf 49 = .ok (.iload_n 2, 1) := by decide +kernel
theorem d_RK_checkOf_50 : decode c_RK_checkOf 50 = .ok (.iconst 1, 1) := by decide +kernel
theorem d_RK_checkOf_51 : decode c_RK_checkOf 51 = .ok (.iand, 1) := by decide +kernel
theorem d_RK_checkOf_52 : decode c_RK_checkOf 52 = .ok (.ifCond .eq 12, 3) := by decide +kernel
theorem d_RK_checkOf_55 : decode c_RK_checkOf 55 = .ok (.iload_n 2, 1) := by decide +kernel
theorem d_RK_checkOf_56 : decode c_RK_checkOf 56 = .ok (.iconst 1, 1) := by decide +kernel
theorem d_RK_checkOf_57 : decode c_RK_checkOf 57 = .ok (.iushr, 1) := by decide +kernel
theorem d_RK_checkOf_58 : decode c_RK_checkOf 58 = .ok (.ldc 81, 2) := by decide +kernel
theorem d_RK_checkOf_60 : decode c_RK_checkOf 60 = .ok (.ixor, 1) := by decide +kernel
theorem d_RK_checkOf_61 : decode c_RK_checkOf 61 = .ok (.goto 6, 3) := by decide +kernel
theorem d_RK_checkOf_64 : decode c_RK_checkOf 64 = .ok (.iload_n 2, 1) := by decide +kernel
theorem d_RK_checkOf_65 : decode c_RK_checkOf 65 = .ok (.iconst 1, 1) := by decide +kernel
theorem d_RK_checkOf_66 : decode c_RK_checkOf 66 = .ok (.iushr, 1) := by decide +kernel
theorem d_RK_checkOf_67 : decode c_RK_checkOf 67 = .ok (.istore_n 2, 1) := by decide +kernel
theorem d_RK_checkOf_68 : decode c_RK_checkOf 68 = .ok (.iinc 4 1, 3) := by decide +kernel
theorem d_RK_checkOf_71 : decode c_RK_checkOf 71 = .ok (.goto (-29), 3) := by decide +kernel
theorem d_RK_checkOf_74 : decode c_RK_checkOf 74 = .ok (.iinc 3 1, 3) := by decide +kernel
theorem d_RK_checkOf_77 : decode c_RK_checkOf 77 = .ok (.goto (-73), 3) := by decide +kernel
theorem d_RK_checkOf_80 : decode c_RK_checkOf 80 = .ok (.iload_n 2, 1) := by decide +kernel
theorem d_RK_checkOf_81 : decode c_RK_checkOf 81 = .ok (.iconst (-1), 1) := by decide +kernel
theorem d_RK_checkOf_82 : decode c_RK_checkOf 82 = .ok (.ixor, 1) := by decide +kernel
theorem d_RK_checkOf_83 : decode c_RK_checkOf 83 = .ok (.ireturn, 1) := by decide +kernel
abbrev c_LA_slot : ByteArray := prog_2_method_8_code
abbrev y_LA_slot : MethodName := ⟨"StripeField$Layout", "slot", "(II)I"⟩
theorem d_LA_slot_0 : decode c_LA_slot 0 = .ok (.iload_n 1, 1) := by decide +kernel
theorem d_LA_slot_1 : decode c_LA_slot 1 = .ok (.aload_n 0, 1) := by decide +kernel
theorem d_LA_slot_2 : decode c_LA_slot 2 = .ok (.getfield 7, 3) := by decide +kernel
theorem d_LA_slot_5 : decode c_LA_slot 5 = .ok (.imul, 1) := by decide +kernel
theorem d_LA_slot_6 : decode c_LA_slot 6 = .ok (.iload_n 2, 1) := by decide +kernel
theorem d_LA_slot_7 : decode c_LA_slot 7 = .ok (.iadd, 1) := by decide +kernel
theorem d_LA_slot_8 : decode c_LA_slot 8 = .ok (.ireturn, 1) := by decide +kernel
abbrev c_RK_storeLike : ByteArray := prog_5_method_3_code
abbrev y_RK_storeLike : MethodName := ⟨"StripeField$Rack", "storeLike", "(II)V"⟩
theorem d_RK_storeLike_0 : decode c_RK_storeLike 0 = .ok (.aload_n 0, 1) := by decide +kernel
theorem d_RK_storeLike_1 : decode c_RK_storeLike 1 = .ok (.getfield 28, 3) := by decide +kernel
theorem d_RK_storeLike_4 : decode c_RK_storeLike 4 = .ok (.iload_n 1, 1) := by decide +kernel
theorem d_RK_storeLike_5 : decode c_RK_storeLike 5 = .ok (.bipush 9, 2) := by decide +kernel
theorem d_RK_storeLike_7 : decode c_RK_storeLike 7 = .ok (.imul, 1) := by decide +kernel
theorem d_RK_storeLike_8 : decode c_RK_storeLike 8 = .ok (.aload_n 0, 1) := by decide +kernel
theorem d_RK_storeLike_9 : decode c_RK_storeLike 9 = .ok (.getfield 28, 3) := by decide +kernel
theorem d_RK_storeLike_12 : decode c_RK_storeLike 12 = .ok (.iload_n 2, 1) := by decide +kernel
theorem d_RK_storeLike_13 : decode c_RK_storeLike 13 = .ok (.bipush 9, 2) := by decide +kernel
theorem d_RK_storeLike_15 : decode c_RK_storeLike 15 = .ok (.imul, 1) := by decide +kernel
theorem d_RK_storeLike_16 : decode c_RK_storeLike 16 = .ok (.bipush 9, 2) := by decide +kernel
theorem d_RK_storeLike_18 : decode c_RK_storeLike 18 = .ok (.invokestatic 70, 3) := by decide +kernel
theorem d_RK_storeLike_21 : decode c_RK_storeLike 21 = .ok (.aload_n 0, 1) := by decide +kernel
theorem d_RK_storeLike_22 : decode c_RK_storeLike 22 = .ok (.getfield 35, 3) := by decide +kernel
theorem d_RK_storeLike_25 : decode c_RK_storeLike 25 = .ok (.iload_n 2, 1) := by decide +kernel
theorem d_RK_storeLike_26 : decode c_RK_storeLike 26 = .ok (.iconst 1, 1) := by decide +kernel
theorem d_RK_storeLike_27 : decode c_RK_storeLike 27 = .ok (.bastore, 1) := by decide +kernel
theorem d_RK_storeLike_28 : decode c_RK_storeLike 28 = .ok (.aload_n 0, 1) := by decide +kernel
theorem d_RK_storeLike_29 : decode c_RK_storeLike 29 = .ok (.getfield 38, 3) := by decide +kernel
theorem d_RK_storeLike_32 : decode c_RK_storeLike 32 = .ok (.iload_n 2, 1) := by decide +kernel
theorem d_RK_storeLike_33 : decode c_RK_storeLike 33 = .ok (.iconst 1, 1) := by decide +kernel
theorem d_RK_storeLike_34 : decode c_RK_storeLike 34 = .ok (.bastore, 1) := by decide +kernel
theorem d_RK_storeLike_35 : decode c_RK_storeLike 35 = .ok (.return_, 1) := by decide +kernel
abbrev c_LA_logOf : ByteArray := prog_2_method_7_code
abbrev y_LA_logOf : MethodName := ⟨"StripeField$Layout", "logOf", "(I)I"⟩
theorem d_LA_logOf_0 : decode c_LA_logOf 0 = .ok (.aload_n 0, 1) := by decide +kernel
theorem d_LA_logOf_1 : decode c_LA_logOf 1 = .ok (.iload_n 1, 1) := by decide +kernel
theorem d_LA_logOf_2 : decode c_LA_logOf 2 = .ok (.aload_n 0, 1) := by decide +kernel
theorem d_LA_logOf_3 : decode c_LA_logOf 3 = .ok (.getfield 16, 3) := by decide +kernel
theorem d_LA_logOf_6 : decode c_LA_logOf 6 = .ok (.invokevirtual 59, 3) := by decide +kernel
theorem d_LA_logOf_9 : decode c_LA_logOf 9 = .ok (.ireturn, 1) := by decide +kernel
abbrev c_LA_cell : ByteArray := prog_2_method_5_code
abbrev y_LA_cell : MethodName := ⟨"StripeField$Layout", "cell", "(II)I"⟩
theorem d_LA_cell_0 : decode c_LA_cell 0 = .ok (.iload_n 1, 1) := by decide +kernel
theorem d_LA_cell_1 : decode c_LA_cell 1 = .ok (.aload_n 0, 1) := by decide +kernel
theorem d_LA_cell_2 : decode c_LA_cell 2 = .ok (.getfield 16, 3) := by decide +kernel
theorem d_LA_cell_5 : decode c_LA_cell 5 = .ok (.iconst 1, 1) := by decide +kernel
theorem d_LA_cell_6 : decode c_LA_cell 6 = .ok (.iadd, 1) := by decide +kernel
theorem d_LA_cell_7 : decode c_LA_cell 7 = .ok (.imul, 1) := by decide +kernel
theorem d_LA_cell_8 : decode c_LA_cell 8 = .ok (.iload_n 2, 1) := by decide +kernel
theorem d_LA_cell_9 : decode c_LA_cell 9 = .ok (.iadd, 1) := by decide +kernel
theorem d_LA_cell_10 : decode c_LA_cell 10 = .ok (.ireturn, 1) := by decide +kernel
abbrev c_PL_init : ByteArray := prog_3_method_1_code
abbrev y_PL_init : MethodName := ⟨"StripeField$Places", "<init>", "(LStripeField$Layout;LStripeField$Rack;)V"⟩
theorem d_PL_init_0 : decode c_PL_init 0 = .ok (.aload_n 0, 1) := by decide +kernel
theorem d_PL_init_1 : decode c_PL_init 1 = .ok (.invokespecial 3, 3) := by decide +kernel
theorem d_PL_init_4 : decode c_PL_init 4 = .ok (.aload_n 0, 1) := by decide +kernel
theorem d_PL_init_5 : decode c_PL_init 5 = .ok (.aload_n 1, 1) := by decide +kernel
theorem d_PL_init_6 : decode c_PL_init 6 = .ok (.putfield 9, 3) := by decide +kernel
theorem d_PL_init_9 : decode c_PL_init 9 = .ok (.aload_n 0, 1) := by decide +kernel
theorem d_PL_init_10 : decode c_PL_init 10 = .ok (.aload_n 2, 1) := by decide +kernel
theorem d_PL_init_11 : decode c_PL_init 11 = .ok (.putfield 15, 3) := by decide +kernel
theorem d_PL_init_14 : decode c_PL_init 14 = .ok (.aload_n 0, 1) := by decide +kernel
theorem d_PL_init_15 : decode c_PL_init 15 = .ok (.aload_n 1, 1) := by decide +kernel
theorem d_PL_init_16 : decode c_PL_init 16 = .ok (.getfield 19, 3) := by decide +kernel
theorem d_PL_init_19 : decode c_PL_init 19 = .ok (.aload_n 1, 1) := by decide +kernel
theorem d_PL_init_20 : decode c_PL_init 20 = .ok (.getfield 25, 3) := by decide +kernel
theorem d_PL_init_23 : decode c_PL_init 23 = .ok (.imul, 1) := by decide +kernel
theorem d_PL_init_24 : decode c_PL_init 24 = .ok (.newarray .int, 2) := by decide +kernel
theorem d_PL_init_26 : decode c_PL_init 26 = .ok (.putfield 28, 3) := by decide +kernel
theorem d_PL_init_29 : decode c_PL_init 29 = .ok (.aload_n 0, 1) := by decide +kernel
theorem d_PL_init_30 : decode c_PL_init 30 = .ok (.aload_n 1, 1) := by decide +kernel
theorem d_PL_init_31 : decode c_PL_init 31 = .ok (.getfield 32, 3) := by decide +kernel
theorem d_PL_init_34 : decode c_PL_init 34 = .ok (.newarray .int, 2) := by decide +kernel
theorem d_PL_init_36 : decode c_PL_init 36 = .ok (.putfield 35, 3) := by decide +kernel
theorem d_PL_init_39 : decode c_PL_init 39 = .ok (.aload_n 0, 1) := by decide +kernel
theorem d_PL_init_40 : decode c_PL_init 40 = .ok (.invokevirtual 38, 3) := by decide +kernel
theorem d_PL_init_43 : decode c_PL_init 43 = .ok (.return_, 1) := by decide +kernel
abbrev c_PL_find : ByteArray := prog_3_method_2_code
abbrev y_PL_find : MethodName := ⟨"StripeField$Places", "find", "()V"⟩
theorem d_PL_find_0 : decode c_PL_find 0 = .ok (.aload_n 0, 1) := by decide +kernel
theorem d_PL_find_1 : decode c_PL_find 1 = .ok (.getfield 28, 3) := by decide +kernel
theorem d_PL_find_4 : decode c_PL_find 4 = .ok (.iconst (-1), 1) := by decide +kernel
theorem d_PL_find_5 : decode c_PL_find 5 = .ok (.invokestatic 41, 3) := by decide +kernel
theorem d_PL_find_8 : decode c_PL_find 8 = .ok (.aload_n 0, 1) := by decide +kernel
theorem d_PL_find_9 : decode c_PL_find 9 = .ok (.getfield 35, 3) := by decide +kernel
theorem d_PL_find_12 : decode c_PL_find 12 = .ok (.iconst (-1), 1) := by decide +kernel
theorem d_PL_find_13 : decode c_PL_find 13 = .ok (.invokestatic 41, 3) := by decide +kernel
theorem d_PL_find_16 : decode c_PL_find 16 = .ok (.iconst 0, 1) := by decide +kernel
theorem d_PL_find_17 : decode c_PL_find 17 = .ok (.istore_n 1, 1) := by decide +kernel
theorem d_PL_find_18 : decode c_PL_find 18 = .ok (.iload_n 1, 1) := by decide +kernel
theorem d_PL_find_19 : decode c_PL_find 19 = .ok (.aload_n 0, 1) := by decide +kernel
theorem d_PL_find_20 : decode c_PL_find 20 = .ok (.getfield 9, 3) := by decide +kernel
theorem d_PL_find_23 : decode c_PL_find 23 = .ok (.getfield 19, 3) := by decide +kernel
theorem d_PL_find_26 : decode c_PL_find 26 = .ok (.if_icmp .ge 72, 3) := by decide +kernel
theorem d_PL_find_29 : decode c_PL_find 29 = .ok (.iconst 0, 1) := by decide +kernel
theorem d_PL_find_30 : decode c_PL_find 30 = .ok (.istore_n 2, 1) := by decide +kernel
theorem d_PL_find_31 : decode c_PL_find 31 = .ok (.iload_n 2, 1) := by decide +kernel
theorem d_PL_find_32 : decode c_PL_find 32 = .ok (.aload_n 0, 1) := by decide +kernel
theorem d_PL_find_33 : decode c_PL_find 33 = .ok (.getfield 9, 3) := by decide +kernel
theorem d_PL_find_36 : decode c_PL_find 36 = .ok (.getfield 47, 3) := by decide +kernel
theorem d_PL_find_39 : decode c_PL_find 39 = .ok (.if_icmp .ge 53, 3) := by decide +kernel
theorem d_PL_find_42 : decode c_PL_find 42 = .ok (.aload_n 0, 1) := by decide +kernel
theorem d_PL_find_43 : decode c_PL_find 43 = .ok (.getfield 9, 3) := by decide +kernel
theorem d_PL_find_46 : decode c_PL_find 46 = .ok (.iload_n 1, 1) := by decide +kernel
theorem d_PL_find_47 : decode c_PL_find 47 = .ok (.iload_n 2, 1) := by decide +kernel
theorem d_PL_find_48 : decode c_PL_find 48 = .ok (.invokevirtual 50, 3) := by decide +kernel
theorem d_PL_find_51 : decode c_PL_find 51 = .ok (.istore_n 3, 1) := by decide +kernel
theorem d_PL_find_52 : decode c_PL_find 52 = .ok (.aload_n 0, 1) := by decide +kernel
theorem d_PL_find_53 : decode c_PL_find 53 = .ok (.getfield 28, 3) := by decide +kernel
theorem d_PL_find_56 : decode c_PL_find 56 = .ok (.iload_n 3, 1) := by decide +kernel
theorem d_PL_find_57 : decode c_PL_find 57 = .ok (.aload_n 0, 1) := by decide +kernel
theorem d_PL_find_58 : decode c_PL_find 58 = .ok (.iload_n 1, 1) := by decide +kernel
theorem d_PL_find_59 : decode c_PL_find 59 = .ok (.iload_n 3, 1) := by decide +kernel
theorem d_PL_find_60 : decode c_PL_find 60 = .ok (.invokevirtual 54, 3) := by decide +kernel
theorem d_PL_find_63 : decode c_PL_find 63 = .ok (.iastore, 1) := by decide +kernel
theorem d_PL_find_64 : decode c_PL_find 64 = .ok (.aload_n 0, 1) := by decide +kernel
theorem d_PL_find_65 : decode c_PL_find 65 = .ok (.getfield 28, 3) := by decide +kernel
theorem d_PL_find_68 : decode c_PL_find 68 = .ok (.iload_n 3, 1) := by decide +kernel
theorem d_PL_find_69 : decode c_PL_find 69 = .ok (.iaload, 1) := by decide +kernel
theorem d_PL_find_70 : decode c_PL_find 70 = .ok (.iconst (-1), 1) := by decide +kernel
theorem d_PL_find_71 : decode c_PL_find 71 = .ok (.if_icmp .eq 15, 3) := by decide +kernel
theorem d_PL_find_74 : decode c_PL_find 74 = .ok (.aload_n 0, 1) := by decide +kernel
theorem d_PL_find_75 : decode c_PL_find 75 = .ok (.getfield 35, 3) := by decide +kernel
theorem d_PL_find_78 : decode c_PL_find 78 = .ok (.aload_n 0, 1) := by decide +kernel
theorem d_PL_find_79 : decode c_PL_find 79 = .ok (.getfield 28, 3) := by decide +kernel
theorem d_PL_find_82 : decode c_PL_find 82 = .ok (.iload_n 3, 1) := by decide +kernel
theorem d_PL_find_83 : decode c_PL_find 83 = .ok (.iaload, 1) := by decide +kernel
theorem d_PL_find_84 : decode c_PL_find 84 = .ok (.iload_n 3, 1) := by decide +kernel
theorem d_PL_find_85 : decode c_PL_find 85 = .ok (.iastore, 1) := by decide +kernel
theorem d_PL_find_86 : decode c_PL_find 86 = .ok (.iinc 2 1, 3) := by decide +kernel
theorem d_PL_find_89 : decode c_PL_find 89 = .ok (.goto (-58), 3) := by decide +kernel
theorem d_PL_find_92 : decode c_PL_find 92 = .ok (.iinc 1 1, 3) := by decide +kernel
theorem d_PL_find_95 : decode c_PL_find 95 = .ok (.goto (-77), 3) := by decide +kernel
theorem d_PL_find_98 : decode c_PL_find 98 = .ok (.return_, 1) := by decide +kernel
abbrev c_AR_fillI : ByteArray := prog_17_method_103_code
abbrev y_AR_fillI : MethodName := ⟨"java/util/Arrays", "fill", "([II)V"⟩
theorem d_AR_fillI_0 : decode c_AR_fillI 0 = .ok (.iconst 0, 1) := by decide +kernel
theorem d_AR_fillI_1 : decode c_AR_fillI 1 = .ok (.istore_n 2, 1) := by decide +kernel
theorem d_AR_fillI_2 : decode c_AR_fillI 2 = .ok (.aload_n 0, 1) := by decide +kernel
theorem d_AR_fillI_3 : decode c_AR_fillI 3 = .ok (.arraylength, 1) := by decide +kernel
theorem d_AR_fillI_4 : decode c_AR_fillI 4 = .ok (.istore_n 3, 1) := by decide +kernel
theorem d_AR_fillI_5 : decode c_AR_fillI 5 = .ok (.iload_n 2, 1) := by decide +kernel
theorem d_AR_fillI_6 : decode c_AR_fillI 6 = .ok (.iload_n 3, 1) := by decide +kernel
theorem d_AR_fillI_7 : decode c_AR_fillI 7 = .ok (.if_icmp .ge 13, 3) := by decide +kernel
theorem d_AR_fillI_10 : decode c_AR_fillI 10 = .ok (.aload_n 0, 1) := by decide +kernel
theorem d_AR_fillI_11 : decode c_AR_fillI 11 = .ok (.iload_n 2, 1) := by decide +kernel
theorem d_AR_fillI_12 : decode c_AR_fillI 12 = .ok (.iload_n 1, 1) := by decide +kernel
theorem d_AR_fillI_13 : decode c_AR_fillI 13 = .ok (.iastore, 1) := by decide +kernel
theorem d_AR_fillI_14 : decode c_AR_fillI 14 = .ok (.iinc 2 1, 3) := by decide +kernel
theorem d_AR_fillI_17 : decode c_AR_fillI 17 = .ok (.goto (-12), 3) := by decide +kernel
theorem d_AR_fillI_20 : decode c_AR_fillI 20 = .ok (.return_, 1) := by decide +kernel
abbrev c_PL_found : ByteArray := prog_3_method_3_code
abbrev y_PL_found : MethodName := ⟨"StripeField$Places", "found", "(II)I"⟩
theorem d_PL_found_0 : decode c_PL_found 0 = .ok (.aload_n 0, 1) := by decide +kernel
theorem d_PL_found_1 : decode c_PL_found 1 = .ok (.getfield 15, 3) := by decide +kernel
theorem d_PL_found_4 : decode c_PL_found 4 = .ok (.aload_n 0, 1) := by decide +kernel
theorem d_PL_found_5 : decode c_PL_found 5 = .ok (.getfield 9, 3) := by decide +kernel
theorem d_PL_found_8 : decode c_PL_found 8 = .ok (.getfield 57, 3) := by decide +kernel
theorem d_PL_found_11 : decode c_PL_found 11 = .ok (.iload_n 2, 1) := by decide +kernel
theorem d_PL_found_12 : decode c_PL_found 12 = .ok (.iaload, 1) := by decide +kernel
theorem d_PL_found_13 : decode c_PL_found 13 = .ok (.invokevirtual 60, 3) := by decide +kernel
theorem d_PL_found_16 : decode c_PL_found 16 = .ok (.ifCond .eq 13, 3) := by decide +kernel
theorem d_PL_found_19 : decode c_PL_found 19 = .ok (.aload_n 0, 1) := by decide +kernel
theorem d_PL_found_20 : decode c_PL_found 20 = .ok (.getfield 9, 3) := by decide +kernel
theorem d_PL_found_23 : decode c_PL_found 23 = .ok (.getfield 57, 3) := by decide +kernel
theorem d_PL_found_26 : decode c_PL_found 26 = .ok (.iload_n 2, 1) := by decide +kernel
theorem d_PL_found_27 : decode c_PL_found 27 = .ok (.iaload, 1) := by decide +kernel
theorem d_PL_found_28 : decode c_PL_found 28 = .ok (.ireturn, 1) := by decide +kernel
theorem d_PL_found_29 : decode c_PL_found 29 = .ok (.aload_n 0, 1) := by decide +kernel
theorem d_PL_found_30 : decode c_PL_found 30 = .ok (.getfield 9, 3) := by decide +kernel
theorem d_PL_found_33 : decode c_PL_found 33 = .ok (.getfield 47, 3) := by decide +kernel
theorem d_PL_found_36 : decode c_PL_found 36 = .ok (.istore_n 3, 1) := by decide +kernel
theorem d_PL_found_37 : decode c_PL_found 37 = .ok (.iload_n 3, 1) := by decide +kernel
theorem d_PL_found_38 : decode c_PL_found 38 = .ok (.aload_n 0, 1) := by decide +kernel
theorem d_PL_found_39 : decode c_PL_found 39 = .ok (.getfield 9, 3) := by decide +kernel
theorem d_PL_found_42 : decode c_PL_found 42 = .ok (.getfield 25, 3) := by decide +kernel
theorem d_PL_found_45 : decode c_PL_found 45 = .ok (.if_icmp .ge 63, 3) := by decide +kernel
theorem d_PL_found_48 : decode c_PL_found 48 = .ok (.aload_n 0, 1) := by decide +kernel
theorem d_PL_found_49 : decode c_PL_found 49 = .ok (.getfield 9, 3) := by decide +kernel
theorem d_PL_found_52 : decode c_PL_found 52 = .ok (.getfield 57, 3) := by decide +kernel
theorem d_PL_found_55 : decode c_PL_found 55 = .ok (.aload_n 0, 1) := by decide +kernel
theorem d_PL_found_56 : decode c_PL_found 56 = .ok (.getfield 9, 3) := by decide +kernel
theorem d_PL_found_59 : decode c_PL_found 59 = .ok (.iload_n 1, 1) := by decide +kernel
theorem d_PL_found_60 : decode c_PL_found 60 = .ok (.iload_n 3, 1) := by decide +kernel
theorem d_PL_found_61 : decode c_PL_found 61 = .ok (.invokevirtual 50, 3) := by decide +kernel
theorem d_PL_found_64 : decode c_PL_found 64 = .ok (.iaload, 1) := by decide +kernel
theorem d_PL_found_65 : decode c_PL_found 65 = .ok (.istore 4, 2) := by decide +kernel
theorem d_PL_found_67 : decode c_PL_found 67 = .ok (.aload_n 0, 1) := by decide +kernel
theorem d_PL_found_68 : decode c_PL_found 68 = .ok (.getfield 15, 3) := by decide +kernel
theorem d_PL_found_71 : decode c_PL_found 71 = .ok (.iload 4, 2) := by decide +kernel
theorem d_PL_found_73 : decode c_PL_found 73 = .ok (.invokevirtual 66, 3) := by decide +kernel
theorem d_PL_found_76 : decode c_PL_found 76 = .ok (.ifCond .eq 26, 3) := by decide +kernel
theorem d_PL_found_79 : decode c_PL_found 79 = .ok (.aload_n 0, 1) := by decide +kernel
theorem d_PL_found_80 : decode c_PL_found 80 = .ok (.getfield 15, 3) := by decide +kernel
theorem d_PL_found_83 : decode c_PL_found 83 = .ok (.iload 4, 2) := by decide +kernel
theorem d_PL_found_85 : decode c_PL_found 85 = .ok (.invokevirtual 69, 3) := by decide +kernel
theorem d_PL_found_88 : decode c_PL_found 88 = .ok (.aload_n 0, 1) := by decide +kernel
theorem d_PL_found_89 : decode c_PL_found 89 = .ok (.getfield 9, 3) := by decide +kernel
theorem d_PL_found_92 : decode c_PL_found 92 = .ok (.iload_n 2, 1) := by decide +kernel
theorem d_PL_found_93 : decode c_PL_found 93 = .ok (.invokevirtual 73, 3) := by decide +kernel
theorem d_PL_found_96 : decode c_PL_found 96 = .ok (.if_icmp .ne 6, 3) := by decide +kernel
theorem d_PL_found_99 : decode c_PL_found 99 = .ok (.iload 4, 2) := by decide +kernel
theorem d_PL_found_101 : decode c_PL_found 101 = .ok (.ireturn, 1) := by decide +kernel
theorem d_PL_found_102 : decode c_PL_found 102 = .ok (.iinc 3 1, 3) := by decide +kernel
theorem d_PL_found_105 : decode c_PL_found 105 = .ok (.goto (-68), 3) := by decide +kernel
theorem d_PL_found_108 : decode c_PL_found 108 = .ok (.iconst (-1), 1) := by decide +kernel
theorem d_PL_found_109 : decode c_PL_found 109 = .ok (.ireturn, 1) := by decide +kernel
abbrev c_RK_isWritten : ByteArray := prog_5_method_9_code
abbrev y_RK_isWritten : MethodName := ⟨"StripeField$Rack", "isWritten", "(I)Z"⟩
theorem d_RK_isWritten_0 : decode c_RK_isWritten 0 = .ok (.aload_n 0, 1) := by decide +kernel
theorem d_RK_isWritten_1 : decode c_RK_isWritten 1 = .ok (.getfield 35, 3) := by decide +kernel
theorem d_RK_isWritten_4 : decode c_RK_isWritten 4 = .ok (.iload_n 1, 1) := by decide +kernel
theorem d_RK_isWritten_5 : decode c_RK_isWritten 5 = .ok (.baload, 1) := by decide +kernel
theorem d_RK_isWritten_6 : decode c_RK_isWritten 6 = .ok (.ireturn, 1) := by decide +kernel
abbrev c_RK_isValid : ByteArray := prog_5_method_10_code
abbrev y_RK_isValid : MethodName := ⟨"StripeField$Rack", "isValid", "(I)Z"⟩
theorem d_RK_isValid_0 : decode c_RK_isValid 0 = .ok (.iload_n 1, 1) := by decide +kernel
theorem d_RK_isValid_1 : decode c_RK_isValid 1 = .ok (.iconst (-1), 1) := by decide +kernel
theorem d_RK_isValid_2 : decode c_RK_isValid 2 = .ok (.if_icmp .eq 16, 3) := by decide +kernel
theorem d_RK_isValid_5 : decode c_RK_isValid 5 = .ok (.aload_n 0, 1) := by decide +kernel
theorem d_RK_isValid_6 : decode c_RK_isValid 6 = .ok (.getfield 38, 3) := by decide +kernel
theorem d_RK_isValid_9 : decode c_RK_isValid 9 = .ok (.iload_n 1, 1) := by decide +kernel
theorem d_RK_isValid_10 : decode c_RK_isValid 10 = .ok (.baload, 1) := by decide +kernel
theorem d_RK_isValid_11 : decode c_RK_isValid 11 = .ok (.ifCond .eq 7, 3) := by decide +kernel
theorem d_RK_isValid_14 : decode c_RK_isValid 14 = .ok (.iconst 1, 1) := by decide +kernel
theorem d_RK_isValid_15 : decode c_RK_isValid 15 = .ok (.goto 4, 3) := by decide +kernel
theorem d_RK_isValid_18 : decode c_RK_isValid 18 = .ok (.iconst 0, 1) := by decide +kernel
theorem d_RK_isValid_19 : decode c_RK_isValid 19 = .ok (.ireturn, 1) := by decide +kernel
abbrev c_RK_tag : ByteArray := prog_5_method_11_code
abbrev y_RK_tag : MethodName := ⟨"StripeField$Rack", "tag", "(I)I"⟩
theorem d_RK_tag_0 : decode c_RK_tag 0 = .ok (.aload_n 0, 1) := by decide +kernel
theorem d_RK_tag_1 : decode c_RK_tag 1 = .ok (.getfield 28, 3) := by decide +kernel
theorem d_RK_tag_4 : decode c_RK_tag 4 = .ok (.iload_n 1, 1) := by decide +kernel
theorem d_RK_tag_5 : decode c_RK_tag 5 = .ok (.bipush 9, 2) := by decide +kernel
theorem d_RK_tag_7 : decode c_RK_tag 7 = .ok (.imul, 1) := by decide +kernel
theorem d_RK_tag_8 : decode c_RK_tag 8 = .ok (.bipush 8, 2) := by decide +kernel
theorem d_RK_tag_10 : decode c_RK_tag 10 = .ok (.iadd, 1) := by decide +kernel
theorem d_RK_tag_11 : decode c_RK_tag 11 = .ok (.laload, 1) := by decide +kernel
theorem d_RK_tag_12 : decode c_RK_tag 12 = .ok (.ldc2_w 89, 3) := by decide +kernel
theorem d_RK_tag_15 : decode c_RK_tag 15 = .ok (.land, 1) := by decide +kernel
theorem d_RK_tag_16 : decode c_RK_tag 16 = .ok (.l2i, 1) := by decide +kernel
theorem d_RK_tag_17 : decode c_RK_tag 17 = .ok (.ireturn, 1) := by decide +kernel
abbrev c_LA_tagOf : ByteArray := prog_2_method_12_code
abbrev y_LA_tagOf : MethodName := ⟨"StripeField$Layout", "tagOf", "(I)I"⟩
theorem d_LA_tagOf_0 : decode c_LA_tagOf 0 = .ok (.iload_n 1, 1) := by decide +kernel
theorem d_LA_tagOf_1 : decode c_LA_tagOf 1 = .ok (.aload_n 0, 1) := by decide +kernel
theorem d_LA_tagOf_2 : decode c_LA_tagOf 2 = .ok (.getfield 7, 3) := by decide +kernel
theorem d_LA_tagOf_5 : decode c_LA_tagOf 5 = .ok (.irem, 1) := by decide +kernel
theorem d_LA_tagOf_6 : decode c_LA_tagOf 6 = .ok (.iconst 1, 1) := by decide +kernel
theorem d_LA_tagOf_7 : decode c_LA_tagOf 7 = .ok (.iadd, 1) := by decide +kernel
theorem d_LA_tagOf_8 : decode c_LA_tagOf 8 = .ok (.ireturn, 1) := by decide +kernel
abbrev c_PW_init : ByteArray := prog_4_method_1_code
abbrev y_PW_init : MethodName := ⟨"StripeField$Power", "<init>", "()V"⟩
theorem d_PW_init_0 : decode c_PW_init 0 = .ok (.aload_n 0, 1) := by decide +kernel
theorem d_PW_init_1 : decode c_PW_init 1 = .ok (.invokespecial 1, 3) := by decide +kernel
theorem d_PW_init_4 : decode c_PW_init 4 = .ok (.aload_n 0, 1) := by decide +kernel
theorem d_PW_init_5 : decode c_PW_init 5 = .ok (.iconst 1, 1) := by decide +kernel
theorem d_PW_init_6 : decode c_PW_init 6 = .ok (.putfield 7, 3) := by decide +kernel
theorem d_PW_init_9 : decode c_PW_init 9 = .ok (.return_, 1) := by decide +kernel
abbrev c_AR_fillJ : ByteArray := prog_17_method_101_code
abbrev y_AR_fillJ : MethodName := ⟨"java/util/Arrays", "fill", "([JJ)V"⟩
theorem d_AR_fillJ_0 : decode c_AR_fillJ 0 = .ok (.iconst 0, 1) := by decide +kernel
theorem d_AR_fillJ_1 : decode c_AR_fillJ 1 = .ok (.istore_n 3, 1) := by decide +kernel
theorem d_AR_fillJ_2 : decode c_AR_fillJ 2 = .ok (.aload_n 0, 1) := by decide +kernel
theorem d_AR_fillJ_3 : decode c_AR_fillJ 3 = .ok (.arraylength, 1) := by decide +kernel
theorem d_AR_fillJ_4 : decode c_AR_fillJ 4 = .ok (.istore 4, 2) := by decide +kernel
theorem d_AR_fillJ_6 : decode c_AR_fillJ 6 = .ok (.iload_n 3, 1) := by decide +kernel
theorem d_AR_fillJ_7 : decode c_AR_fillJ 7 = .ok (.iload 4, 2) := by decide +kernel
theorem d_AR_fillJ_9 : decode c_AR_fillJ 9 = .ok (.if_icmp .ge 13, 3) := by decide +kernel
theorem d_AR_fillJ_12 : decode c_AR_fillJ 12 = .ok (.aload_n 0, 1) := by decide +kernel
theorem d_AR_fillJ_13 : decode c_AR_fillJ 13 = .ok (.iload_n 3, 1) := by decide +kernel
theorem d_AR_fillJ_14 : decode c_AR_fillJ 14 = .ok (.lload_n 1, 1) := by decide +kernel
theorem d_AR_fillJ_15 : decode c_AR_fillJ 15 = .ok (.lastore, 1) := by decide +kernel
theorem d_AR_fillJ_16 : decode c_AR_fillJ 16 = .ok (.iinc 3 1, 3) := by decide +kernel
theorem d_AR_fillJ_19 : decode c_AR_fillJ 19 = .ok (.goto (-13), 3) := by decide +kernel
theorem d_AR_fillJ_22 : decode c_AR_fillJ 22 = .ok (.return_, 1) := by decide +kernel
abbrev c_LA_stripeOfBlock : ByteArray := prog_2_method_13_code
abbrev y_LA_stripeOfBlock : MethodName := ⟨"StripeField$Layout", "stripeOfBlock", "(I)I"⟩
theorem d_LA_stripeOfBlock_0 : decode c_LA_stripeOfBlock 0 = .ok (.iload_n 1, 1) := by decide +kernel
theorem d_LA_stripeOfBlock_1 : decode c_LA_stripeOfBlock 1 = .ok (.aload_n 0, 1) := by decide +kernel
theorem d_LA_stripeOfBlock_2 : decode c_LA_stripeOfBlock 2 = .ok (.getfield 25, 3) := by decide +kernel
theorem d_LA_stripeOfBlock_5 : decode c_LA_stripeOfBlock 5 = .ok (.idiv, 1) := by decide +kernel
theorem d_LA_stripeOfBlock_6 : decode c_LA_stripeOfBlock 6 = .ok (.ireturn, 1) := by decide +kernel
abbrev c_LA_columnOfBlock : ByteArray := prog_2_method_14_code
abbrev y_LA_columnOfBlock : MethodName := ⟨"StripeField$Layout", "columnOfBlock", "(I)I"⟩
theorem d_LA_columnOfBlock_0 : decode c_LA_columnOfBlock 0 = .ok (.iload_n 1, 1) := by decide +kernel
theorem d_LA_columnOfBlock_1 : decode c_LA_columnOfBlock 1 = .ok (.aload_n 0, 1) := by decide +kernel
theorem d_LA_columnOfBlock_2 : decode c_LA_columnOfBlock 2 = .ok (.getfield 25, 3) := by decide +kernel
theorem d_LA_columnOfBlock_5 : decode c_LA_columnOfBlock 5 = .ok (.irem, 1) := by decide +kernel
theorem d_LA_columnOfBlock_6 : decode c_LA_columnOfBlock 6 = .ok (.ireturn, 1) := by decide +kernel
abbrev c_LA_slotOf : ByteArray := prog_2_method_9_code
abbrev y_LA_slotOf : MethodName := ⟨"StripeField$Layout", "slotOf", "(II)I"⟩
theorem d_LA_slotOf_0 : decode c_LA_slotOf 0 = .ok (.aload_n 0, 1) := by decide +kernel
theorem d_LA_slotOf_1 : decode c_LA_slotOf 1 = .ok (.iload_n 1, 1) := by decide +kernel
theorem d_LA_slotOf_2 : decode c_LA_slotOf 2 = .ok (.aload_n 0, 1) := by decide +kernel
theorem d_LA_slotOf_3 : decode c_LA_slotOf 3 = .ok (.getfield 19, 3) := by decide +kernel
theorem d_LA_slotOf_6 : decode c_LA_slotOf 6 = .ok (.idiv, 1) := by decide +kernel
theorem d_LA_slotOf_7 : decode c_LA_slotOf 7 = .ok (.aload_n 0, 1) := by decide +kernel
theorem d_LA_slotOf_8 : decode c_LA_slotOf 8 = .ok (.getfield 13, 3) := by decide +kernel
theorem d_LA_slotOf_11 : decode c_LA_slotOf 11 = .ok (.iload_n 1, 1) := by decide +kernel
theorem d_LA_slotOf_12 : decode c_LA_slotOf 12 = .ok (.aload_n 0, 1) := by decide +kernel
theorem d_LA_slotOf_13 : decode c_LA_slotOf 13 = .ok (.getfield 19, 3) := by decide +kernel
theorem d_LA_slotOf_16 : decode c_LA_slotOf 16 = .ok (.irem, 1) := by decide +kernel
theorem d_LA_slotOf_17 : decode c_LA_slotOf 17 = .ok (.imul, 1) := by decide +kernel
theorem d_LA_slotOf_18 : decode c_LA_slotOf 18 = .ok (.iload_n 2, 1) := by decide +kernel
theorem d_LA_slotOf_19 : decode c_LA_slotOf 19 = .ok (.iadd, 1) := by decide +kernel
theorem d_LA_slotOf_20 : decode c_LA_slotOf 20 = .ok (.invokevirtual 63, 3) := by decide +kernel
theorem d_LA_slotOf_23 : decode c_LA_slotOf 23 = .ok (.ireturn, 1) := by decide +kernel
abbrev c_PW_spendWrite : ByteArray := prog_4_method_3_code
abbrev y_PW_spendWrite : MethodName := ⟨"StripeField$Power", "spendWrite", "()Z"⟩
theorem d_PW_spendWrite_0 : decode c_PW_spendWrite 0 = .ok (.aload_n 0, 1) := by decide +kernel
theorem d_PW_spendWrite_1 : decode c_PW_spendWrite 1 = .ok (.getfield 13, 3) := by decide +kernel
theorem d_PW_spendWrite_4 : decode c_PW_spendWrite 4 = .ok (.iconst 1, 1) := by decide +kernel
theorem d_PW_spendWrite_5 : decode c_PW_spendWrite 5 = .ok (.if_icmp .ne 9, 3) := by decide +kernel
theorem d_PW_spendWrite_8 : decode c_PW_spendWrite 8 = .ok (.aload_n 0, 1) := by decide +kernel
theorem d_PW_spendWrite_9 : decode c_PW_spendWrite 9 = .ok (.invokevirtual 17, 3) := by decide +kernel
theorem d_PW_spendWrite_12 : decode c_PW_spendWrite 12 = .ok (.iconst 0, 1) := by decide +kernel
theorem d_PW_spendWrite_13 : decode c_PW_spendWrite 13 = .ok (.ireturn, 1) := by decide +kernel
theorem d_PW_spendWrite_14 : decode c_PW_spendWrite 14 = .ok (.aload_n 0, 1) := by decide +kernel
theorem d_PW_spendWrite_15 : decode c_PW_spendWrite 15 = .ok (.getfield 13, 3) := by decide +kernel
theorem d_PW_spendWrite_18 : decode c_PW_spendWrite 18 = .ok (.iconst 1, 1) := by decide +kernel
theorem d_PW_spendWrite_19 : decode c_PW_spendWrite 19 = .ok (.if_icmp .le 13, 3) := by decide +kernel
theorem d_PW_spendWrite_22 : decode c_PW_spendWrite 22 = .ok (.aload_n 0, 1) := by decide +kernel
theorem d_PW_spendWrite_23 : decode c_PW_spendWrite 23 = .ok (.dup, 1) := by decide +kernel
theorem d_PW_spendWrite_24 : decode c_PW_spendWrite 24 = .ok (.getfield 13, 3) := by decide +kernel
theorem d_PW_spendWrite_27 : decode c_PW_spendWrite 27 = .ok (.iconst 1, 1) := by decide +kernel
theorem d_PW_spendWrite_28 : decode c_PW_spendWrite 28 = .ok (.isub, 1) := by decide +kernel
theorem d_PW_spendWrite_29 : decode c_PW_spendWrite 29 = .ok (.putfield 13, 3) := by decide +kernel
theorem d_PW_spendWrite_32 : decode c_PW_spendWrite 32 = .ok (.aload_n 0, 1) := by decide +kernel
theorem d_PW_spendWrite_33 : decode c_PW_spendWrite 33 = .ok (.dup, 1) := by decide +kernel
theorem d_PW_spendWrite_34 : decode c_PW_spendWrite 34 = .ok (.getfield 20, 3) := by decide +kernel
theorem d_PW_spendWrite_37 : decode c_PW_spendWrite 37 = .ok (.iconst 1, 1) := by decide +kernel
theorem d_PW_spendWrite_38 : decode c_PW_spendWrite 38 = .ok (.iadd, 1) := by decide +kernel
theorem d_PW_spendWrite_39 : decode c_PW_spendWrite 39 = .ok (.putfield 20, 3) := by decide +kernel
theorem d_PW_spendWrite_42 : decode c_PW_spendWrite 42 = .ok (.iconst 1, 1) := by decide +kernel
theorem d_PW_spendWrite_43 : decode c_PW_spendWrite 43 = .ok (.ireturn, 1) := by decide +kernel
abbrev c_PW_cut : ByteArray := prog_4_method_2_code
abbrev y_PW_cut : MethodName := ⟨"StripeField$Power", "cut", "()V"⟩
theorem d_PW_cut_0 : decode c_PW_cut 0 = .ok (.aload_n 0, 1) := by decide +kernel
theorem d_PW_cut_1 : decode c_PW_cut 1 = .ok (.iconst 0, 1) := by decide +kernel
theorem d_PW_cut_2 : decode c_PW_cut 2 = .ok (.putfield 7, 3) := by decide +kernel
theorem d_PW_cut_5 : decode c_PW_cut 5 = .ok (.aload_n 0, 1) := by decide +kernel
theorem d_PW_cut_6 : decode c_PW_cut 6 = .ok (.iconst 0, 1) := by decide +kernel
theorem d_PW_cut_7 : decode c_PW_cut 7 = .ok (.putfield 13, 3) := by decide +kernel
theorem d_PW_cut_10 : decode c_PW_cut 10 = .ok (.return_, 1) := by decide +kernel
abbrev c_RK_addTo : ByteArray := prog_5_method_12_code
abbrev y_RK_addTo : MethodName := ⟨"StripeField$Rack", "addTo", "([JI)V"⟩
theorem d_RK_addTo_0 : decode c_RK_addTo 0 = .ok (.iconst 0, 1) := by decide +kernel
theorem d_RK_addTo_1 : decode c_RK_addTo 1 = .ok (.istore_n 3, 1) := by decide +kernel
theorem d_RK_addTo_2 : decode c_RK_addTo 2 = .ok (.iload_n 3, 1) := by decide +kernel
theorem d_RK_addTo_3 : decode c_RK_addTo 3 = .ok (.bipush 8, 2) := by decide +kernel
theorem d_RK_addTo_5 : decode c_RK_addTo 5 = .ok (.if_icmp .ge 26, 3) := by decide +kernel
theorem d_RK_addTo_8 : decode c_RK_addTo 8 = .ok (.aload_n 1, 1) := by decide +kernel
theorem d_RK_addTo_9 : decode c_RK_addTo 9 = .ok (.iload_n 3, 1) := by decide +kernel
theorem d_RK_addTo_10 : decode c_RK_addTo 10 = .ok (.dup2, 1) := by decide +kernel
theorem d_RK_addTo_11 : decode c_RK_addTo 11 = .ok (.laload, 1) := by decide +kernel
theorem d_RK_addTo_12 : decode c_RK_addTo 12 = .ok (.aload_n 0, 1) := by decide +kernel
theorem d_RK_addTo_13 : decode c_RK_addTo 13 = .ok (.getfield 28, 3) := by decide +kernel
theorem d_RK_addTo_16 : decode c_RK_addTo 16 = .ok (.iload_n 2, 1) := by decide +kernel
theorem d_RK_addTo_17 : decode c_RK_addTo 17 = .ok (.bipush 9, 2) := by decide +kernel
theorem d_RK_addTo_19 : decode c_RK_addTo 19 = .ok (.imul, 1) := by decide +kernel
theorem d_RK_addTo_20 : decode c_RK_addTo 20 = .ok (.iload_n 3, 1) := by decide +kernel
theorem d_RK_addTo_21 : decode c_RK_addTo 21 = .ok (.iadd, 1) := by decide +kernel
theorem d_RK_addTo_22 : decode c_RK_addTo 22 = .ok (.laload, 1) := by decide +kernel
theorem d_RK_addTo_23 : decode c_RK_addTo 23 = .ok (.lxor, 1) := by decide +kernel
theorem d_RK_addTo_24 : decode c_RK_addTo 24 = .ok (.lastore, 1) := by decide +kernel
theorem d_RK_addTo_25 : decode c_RK_addTo 25 = .ok (.iinc 3 1, 3) := by decide +kernel
theorem d_RK_addTo_28 : decode c_RK_addTo 28 = .ok (.goto (-26), 3) := by decide +kernel
theorem d_RK_addTo_31 : decode c_RK_addTo 31 = .ok (.return_, 1) := by decide +kernel
abbrev c_LA_diskOf : ByteArray := prog_2_method_6_code
abbrev y_LA_diskOf : MethodName := ⟨"StripeField$Layout", "diskOf", "(I)I"⟩
theorem d_LA_diskOf_0 : decode c_LA_diskOf 0 = .ok (.iload_n 1, 1) := by decide +kernel
theorem d_LA_diskOf_1 : decode c_LA_diskOf 1 = .ok (.aload_n 0, 1) := by decide +kernel
theorem d_LA_diskOf_2 : decode c_LA_diskOf 2 = .ok (.getfield 16, 3) := by decide +kernel
theorem d_LA_diskOf_5 : decode c_LA_diskOf 5 = .ok (.iconst 1, 1) := by decide +kernel
theorem d_LA_diskOf_6 : decode c_LA_diskOf 6 = .ok (.iadd, 1) := by decide +kernel
theorem d_LA_diskOf_7 : decode c_LA_diskOf 7 = .ok (.idiv, 1) := by decide +kernel
theorem d_LA_diskOf_8 : decode c_LA_diskOf 8 = .ok (.ireturn, 1) := by decide +kernel
abbrev c_RK_removeDisk : ByteArray := prog_5_method_8_code
abbrev y_RK_removeDisk : MethodName := ⟨"StripeField$Rack", "removeDisk", "(I)V"⟩
theorem d_RK_removeDisk_0 : decode c_RK_removeDisk 0 = .ok (.aload_n 0, 1) := by decide +kernel
theorem d_RK_removeDisk_1 : decode c_RK_removeDisk 1 = .ok (.getfield 21, 3) := by decide +kernel
theorem d_RK_removeDisk_4 : decode c_RK_removeDisk 4 = .ok (.iload_n 1, 1) := by decide +kernel
theorem d_RK_removeDisk_5 : decode c_RK_removeDisk 5 = .ok (.iconst 0, 1) := by decide +kernel
theorem d_RK_removeDisk_6 : decode c_RK_removeDisk 6 = .ok (.bastore, 1) := by decide +kernel
theorem d_RK_removeDisk_7 : decode c_RK_removeDisk 7 = .ok (.aload_n 0, 1) := by decide +kernel
theorem d_RK_removeDisk_8 : decode c_RK_removeDisk 8 = .ok (.getfield 9, 3) := by decide +kernel
theorem d_RK_removeDisk_11 : decode c_RK_removeDisk 11 = .ok (.iload_n 1, 1) := by decide +kernel
theorem d_RK_removeDisk_12 : decode c_RK_removeDisk 12 = .ok (.iconst 0, 1) := by decide +kernel
theorem d_RK_removeDisk_13 : decode c_RK_removeDisk 13 = .ok (.invokevirtual 86, 3) := by decide +kernel
theorem d_RK_removeDisk_16 : decode c_RK_removeDisk 16 = .ok (.istore_n 2, 1) := by decide +kernel
theorem d_RK_removeDisk_17 : decode c_RK_removeDisk 17 = .ok (.iload_n 2, 1) := by decide +kernel
theorem d_RK_removeDisk_18 : decode c_RK_removeDisk 18 = .ok (.istore_n 3, 1) := by decide +kernel
theorem d_RK_removeDisk_19 : decode c_RK_removeDisk 19 = .ok (.iload_n 3, 1) := by decide +kernel
theorem d_RK_removeDisk_20 : decode c_RK_removeDisk 20 = .ok (.aload_n 0, 1) := by decide +kernel
theorem d_RK_removeDisk_21 : decode c_RK_removeDisk 21 = .ok (.getfield 9, 3) := by decide +kernel
theorem d_RK_removeDisk_24 : decode c_RK_removeDisk 24 = .ok (.iload_n 1, 1) := by decide +kernel
theorem d_RK_removeDisk_25 : decode c_RK_removeDisk 25 = .ok (.invokevirtual 66, 3) := by decide +kernel
theorem d_RK_removeDisk_28 : decode c_RK_removeDisk 28 = .ok (.if_icmp .gt 23, 3) := by decide +kernel
theorem d_RK_removeDisk_31 : decode c_RK_removeDisk 31 = .ok (.aload_n 0, 1) := by decide +kernel
theorem d_RK_removeDisk_32 : decode c_RK_removeDisk 32 = .ok (.getfield 35, 3) := by decide +kernel
theorem d_RK_removeDisk_35 : decode c_RK_removeDisk 35 = .ok (.iload_n 3, 1) := by decide +kernel
theorem d_RK_removeDisk_36 : decode c_RK_removeDisk 36 = .ok (.iconst 0, 1) := by decide +kernel
theorem d_RK_removeDisk_37 : decode c_RK_removeDisk 37 = .ok (.bastore, 1) := by decide +kernel
theorem d_RK_removeDisk_38 : decode c_RK_removeDisk 38 = .ok (.aload_n 0, 1) := by decide +kernel
theorem d_RK_removeDisk_39 : decode c_RK_removeDisk 39 = .ok (.getfield 38, 3) := by decide +kernel
theorem d_RK_removeDisk_42 : decode c_RK_removeDisk 42 = .ok (.iload_n 3, 1) := by decide +kernel
theorem d_RK_removeDisk_43 : decode c_RK_removeDisk 43 = .ok (.iconst 0, 1) := by decide +kernel
theorem d_RK_removeDisk_44 : decode c_RK_removeDisk 44 = .ok (.bastore, 1) := by decide +kernel
theorem d_RK_removeDisk_45 : decode c_RK_removeDisk 45 = .ok (.iinc 3 1, 3) := by decide +kernel
theorem d_RK_removeDisk_48 : decode c_RK_removeDisk 48 = .ok (.goto (-29), 3) := by decide +kernel
theorem d_RK_removeDisk_51 : decode c_RK_removeDisk 51 = .ok (.return_, 1) := by decide +kernel
abbrev c_PL_dropDisk : ByteArray := prog_3_method_5_code
abbrev y_PL_dropDisk : MethodName := ⟨"StripeField$Places", "dropDisk", "(I)V"⟩
theorem d_PL_dropDisk_0 : decode c_PL_dropDisk 0 = .ok (.iconst 0, 1) := by decide +kernel
theorem d_PL_dropDisk_1 : decode c_PL_dropDisk 1 = .ok (.istore_n 2, 1) := by decide +kernel
theorem d_PL_dropDisk_2 : decode c_PL_dropDisk 2 = .ok (.iload_n 2, 1) := by decide +kernel
theorem d_PL_dropDisk_3 : decode c_PL_dropDisk 3 = .ok (.aload_n 0, 1) := by decide +kernel
theorem d_PL_dropDisk_4 : decode c_PL_dropDisk 4 = .ok (.getfield 9, 3) := by decide +kernel
theorem d_PL_dropDisk_7 : decode c_PL_dropDisk 7 = .ok (.getfield 19, 3) := by decide +kernel
theorem d_PL_dropDisk_10 : decode c_PL_dropDisk 10 = .ok (.if_icmp .ge 48, 3) := by decide +kernel
theorem d_PL_dropDisk_13 : decode c_PL_dropDisk 13 = .ok (.aload_n 0, 1) := by decide +kernel
theorem d_PL_dropDisk_14 : decode c_PL_dropDisk 14 = .ok (.getfield 9, 3) := by decide +kernel
theorem d_PL_dropDisk_17 : decode c_PL_dropDisk 17 = .ok (.iload_n 1, 1) := by decide +kernel
theorem d_PL_dropDisk_18 : decode c_PL_dropDisk 18 = .ok (.iload_n 2, 1) := by decide +kernel
theorem d_PL_dropDisk_19 : decode c_PL_dropDisk 19 = .ok (.invokevirtual 76, 3) := by decide +kernel
theorem d_PL_dropDisk_22 : decode c_PL_dropDisk 22 = .ok (.istore_n 3, 1) := by decide +kernel
theorem d_PL_dropDisk_23 : decode c_PL_dropDisk 23 = .ok (.aload_n 0, 1) := by decide +kernel
theorem d_PL_dropDisk_24 : decode c_PL_dropDisk 24 = .ok (.getfield 35, 3) := by decide +kernel
theorem d_PL_dropDisk_27 : decode c_PL_dropDisk 27 = .ok (.iload_n 3, 1) := by decide +kernel
theorem d_PL_dropDisk_28 : decode c_PL_dropDisk 28 = .ok (.iaload, 1) := by decide +kernel
theorem d_PL_dropDisk_29 : decode c_PL_dropDisk 29 = .ok (.iconst (-1), 1) := by decide +kernel
theorem d_PL_dropDisk_30 : decode c_PL_dropDisk 30 = .ok (.if_icmp .eq 22, 3) := by decide +kernel
theorem d_PL_dropDisk_33 : decode c_PL_dropDisk 33 = .ok (.aload_n 0, 1) := by decide +kernel
theorem d_PL_dropDisk_34 : decode c_PL_dropDisk 34 = .ok (.getfield 28, 3) := by decide +kernel
theorem d_PL_dropDisk_37 : decode c_PL_dropDisk 37 = .ok (.aload_n 0, 1) := by decide +kernel
theorem d_PL_dropDisk_38 : decode c_PL_dropDisk 38 = .ok (.getfield 35, 3) := by decide +kernel
theorem d_PL_dropDisk_41 : decode c_PL_dropDisk 41 = .ok (.iload_n 3, 1) := by decide +kernel
theorem d_PL_dropDisk_42 : decode c_PL_dropDisk 42 = .ok (.iaload, 1) := by decide +kernel
theorem d_PL_dropDisk_43 : decode c_PL_dropDisk 43 = .ok (.iconst (-1), 1) := by decide +kernel
theorem d_PL_dropDisk_44 : decode c_PL_dropDisk 44 = .ok (.iastore, 1) := by decide +kernel
theorem d_PL_dropDisk_45 : decode c_PL_dropDisk 45 = .ok (.aload_n 0, 1) := by decide +kernel
theorem d_PL_dropDisk_46 : decode c_PL_dropDisk 46 = .ok (.getfield 35, 3) := by decide +kernel
theorem d_PL_dropDisk_49 : decode c_PL_dropDisk 49 = .ok (.iload_n 3, 1) := by decide +kernel
theorem d_PL_dropDisk_50 : decode c_PL_dropDisk 50 = .ok (.iconst (-1), 1) := by decide +kernel
theorem d_PL_dropDisk_51 : decode c_PL_dropDisk 51 = .ok (.iastore, 1) := by decide +kernel
theorem d_PL_dropDisk_52 : decode c_PL_dropDisk 52 = .ok (.iinc 2 1, 3) := by decide +kernel
theorem d_PL_dropDisk_55 : decode c_PL_dropDisk 55 = .ok (.goto (-53), 3) := by decide +kernel
theorem d_PL_dropDisk_58 : decode c_PL_dropDisk 58 = .ok (.return_, 1) := by decide +kernel
abbrev c_RK_damage : ByteArray := prog_5_method_6_code
abbrev y_RK_damage : MethodName := ⟨"StripeField$Rack", "damage", "(IIIJ)V"⟩
theorem d_RK_damage_0 : decode c_RK_damage 0 = .ok (.aload_n 0, 1) := by decide +kernel
theorem d_RK_damage_1 : decode c_RK_damage 1 = .ok (.getfield 28, 3) := by decide +kernel
theorem d_RK_damage_4 : decode c_RK_damage 4 = .ok (.iload_n 1, 1) := by decide +kernel
theorem d_RK_damage_5 : decode c_RK_damage 5 = .ok (.bipush 9, 2) := by decide +kernel
theorem d_RK_damage_7 : decode c_RK_damage 7 = .ok (.imul, 1) := by decide +kernel
theorem d_RK_damage_8 : decode c_RK_damage 8 = .ok (.iload_n 2, 1) := by decide +kernel
theorem d_RK_damage_9 : decode c_RK_damage 9 = .ok (.iload_n 3, 1) := by decide +kernel
theorem d_RK_damage_10 : decode c_RK_damage 10 = .ok (.lload 4, 2) := by decide +kernel
theorem d_RK_damage_12 : decode c_RK_damage 12 = .ok (.invokestatic 82, 3) := by decide +kernel
theorem d_RK_damage_15 : decode c_RK_damage 15 = .ok (.aload_n 0, 1) := by decide +kernel
theorem d_RK_damage_16 : decode c_RK_damage 16 = .ok (.getfield 32, 3) := by decide +kernel
theorem d_RK_damage_19 : decode c_RK_damage 19 = .ok (.iload_n 1, 1) := by decide +kernel
theorem d_RK_damage_20 : decode c_RK_damage 20 = .ok (.bipush 9, 2) := by decide +kernel
theorem d_RK_damage_22 : decode c_RK_damage 22 = .ok (.imul, 1) := by decide +kernel
theorem d_RK_damage_23 : decode c_RK_damage 23 = .ok (.iload_n 2, 1) := by decide +kernel
theorem d_RK_damage_24 : decode c_RK_damage 24 = .ok (.iload_n 3, 1) := by decide +kernel
theorem d_RK_damage_25 : decode c_RK_damage 25 = .ok (.lload 4, 2) := by decide +kernel
theorem d_RK_damage_27 : decode c_RK_damage 27 = .ok (.invokestatic 82, 3) := by decide +kernel
theorem d_RK_damage_30 : decode c_RK_damage 30 = .ok (.aload_n 0, 1) := by decide +kernel
theorem d_RK_damage_31 : decode c_RK_damage 31 = .ok (.getfield 28, 3) := by decide +kernel
theorem d_RK_damage_34 : decode c_RK_damage 34 = .ok (.iload_n 1, 1) := by decide +kernel
theorem d_RK_damage_35 : decode c_RK_damage 35 = .ok (.bipush 9, 2) := by decide +kernel
theorem d_RK_damage_37 : decode c_RK_damage 37 = .ok (.imul, 1) := by decide +kernel
theorem d_RK_damage_38 : decode c_RK_damage 38 = .ok (.bipush 8, 2) := by decide +kernel
theorem d_RK_damage_40 : decode c_RK_damage 40 = .ok (.iadd, 1) := by decide +kernel
theorem d_RK_damage_41 : decode c_RK_damage 41 = .ok (.laload, 1) := by decide +kernel
theorem d_RK_damage_42 : decode c_RK_damage 42 = .ok (.bipush 16, 2) := by decide +kernel
theorem d_RK_damage_44 : decode c_RK_damage 44 = .ok (.lushr, 1) := by decide +kernel
theorem d_RK_damage_45 : decode c_RK_damage 45 = .ok (.lstore 6, 2) := by decide +kernel
theorem d_RK_damage_47 : decode c_RK_damage 47 = .ok (.aload_n 0, 1) := by decide +kernel
theorem d_RK_damage_48 : decode c_RK_damage 48 = .ok (.getfield 38, 3) := by decide +kernel
theorem d_RK_damage_51 : decode c_RK_damage 51 = .ok (.iload_n 1, 1) := by decide +kernel
theorem d_RK_damage_52 : decode c_RK_damage 52 = .ok (.lload 6, 2) := by decide +kernel
theorem d_RK_damage_54 : decode c_RK_damage 54 = .ok (.aload_n 0, 1) := by decide +kernel
theorem d_RK_damage_55 : decode c_RK_damage 55 = .ok (.iload_n 1, 1) := by decide +kernel
theorem d_RK_damage_56 : decode c_RK_damage 56 = .ok (.invokevirtual 76, 3) := by decide +kernel
theorem d_RK_damage_59 : decode c_RK_damage 59 = .ok (.i2l, 1) := by decide +kernel
theorem d_RK_damage_60 : decode c_RK_damage 60 = .ok (.ldc2_w 79, 3) := by decide +kernel
theorem d_RK_damage_63 : decode c_RK_damage 63 = .ok (.land, 1) := by decide +kernel
theorem d_RK_damage_64 : decode c_RK_damage 64 = .ok (.lcmp, 1) := by decide +kernel
theorem d_RK_damage_65 : decode c_RK_damage 65 = .ok (.ifCond .ne 7, 3) := by decide +kernel
theorem d_RK_damage_68 : decode c_RK_damage 68 = .ok (.iconst 1, 1) := by decide +kernel
theorem d_RK_damage_69 : decode c_RK_damage 69 = .ok (.goto 4, 3) := by decide +kernel
theorem d_RK_damage_72 : decode c_RK_damage 72 = .ok (.iconst 0, 1) := by decide +kernel
theorem d_RK_damage_73 : decode c_RK_damage 73 = .ok (.bastore, 1) := by decide +kernel
theorem d_RK_damage_74 : decode c_RK_damage 74 = .ok (.return_, 1) := by decide +kernel
abbrev c_RK_isAsWritten : ByteArray := prog_5_method_7_code
abbrev y_RK_isAsWritten : MethodName := ⟨"StripeField$Rack", "isAsWritten", "(I)Z"⟩
theorem d_RK_isAsWritten_0 : decode c_RK_isAsWritten 0 = .ok (.iconst 0, 1) := by decide +kernel
theorem d_RK_isAsWritten_1 : decode c_RK_isAsWritten 1 = .ok (.istore_n 2, 1) := by decide +kernel
theorem d_RK_isAsWritten_2 : decode c_RK_isAsWritten 2 = .ok (.iload_n 2, 1) := by decide +kernel
theorem d_RK_isAsWritten_3 : decode c_RK_isAsWritten 3 = .ok (.bipush 9, 2) := by decide +kernel
theorem d_RK_isAsWritten_5 : decode c_RK_isAsWritten 5 = .ok (.if_icmp .ge 27, 3) := by decide +kernel
theorem d_RK_isAsWritten_8 : decode c_RK_isAsWritten 8 = .ok (.aload_n 0, 1) := by decide +kernel
theorem d_RK_isAsWritten_9 : decode c_RK_isAsWritten 9 = .ok (.getfield 32, 3) := by decide +kernel
theorem d_RK_isAsWritten_12 : decode c_RK_isAsWritten 12 = .ok (.iload_n 1, 1) := by decide +kernel
theorem d_RK_isAsWritten_13 : decode c_RK_isAsWritten 13 = .ok (.bipush 9, 2) := by decide +kernel
theorem d_RK_isAsWritten_15 : decode c_RK_isAsWritten 15 = .ok (.imul, 1) := by decide +kernel
theorem d_RK_isAsWritten_16 : decode c_RK_isAsWritten 16 = .ok (.iload_n 2, 1) := by decide +kernel
theorem d_RK_isAsWritten_17 : decode c_RK_isAsWritten 17 = .ok (.iadd, 1) := by decide +kernel
theorem d_RK_isAsWritten_18 : decode c_RK_isAsWritten 18 = .ok (.laload, 1) := by decide +kernel
theorem d_RK_isAsWritten_19 : decode c_RK_isAsWritten 19 = .ok (.lconst 0, 1) := by decide +kernel
theorem d_RK_isAsWritten_20 : decode c_RK_isAsWritten 20 = .ok (.lcmp, 1) := by decide +kernel
theorem d_RK_isAsWritten_21 : decode c_RK_isAsWritten 21 = .ok (.ifCond .eq 5, 3) := by decide +kernel
theorem d_RK_isAsWritten_24 : decode c_RK_isAsWritten 24 = .ok (.iconst 0, 1) := by decide +kernel
theorem d_RK_isAsWritten_25 : decode c_RK_isAsWritten 25 = .ok (.ireturn, 1) := by decide +kernel
theorem d_RK_isAsWritten_26 : decode c_RK_isAsWritten 26 = .ok (.iinc 2 1, 3) := by decide +kernel
theorem d_RK_isAsWritten_29 : decode c_RK_isAsWritten 29 = .ok (.goto (-27), 3) := by decide +kernel
theorem d_RK_isAsWritten_32 : decode c_RK_isAsWritten 32 = .ok (.iconst 1, 1) := by decide +kernel
theorem d_RK_isAsWritten_33 : decode c_RK_isAsWritten 33 = .ok (.ireturn, 1) := by decide +kernel
abbrev c_LA_stripeOfSlot : ByteArray := prog_2_method_10_code
abbrev y_LA_stripeOfSlot : MethodName := ⟨"StripeField$Layout", "stripeOfSlot", "(I)I"⟩
theorem d_LA_stripeOfSlot_0 : decode c_LA_stripeOfSlot 0 = .ok (.iload_n 1, 1) := by decide +kernel
theorem d_LA_stripeOfSlot_1 : decode c_LA_stripeOfSlot 1 = .ok (.aload_n 0, 1) := by decide +kernel
theorem d_LA_stripeOfSlot_2 : decode c_LA_stripeOfSlot 2 = .ok (.getfield 7, 3) := by decide +kernel
theorem d_LA_stripeOfSlot_5 : decode c_LA_stripeOfSlot 5 = .ok (.idiv, 1) := by decide +kernel
theorem d_LA_stripeOfSlot_6 : decode c_LA_stripeOfSlot 6 = .ok (.aload_n 0, 1) := by decide +kernel
theorem d_LA_stripeOfSlot_7 : decode c_LA_stripeOfSlot 7 = .ok (.getfield 19, 3) := by decide +kernel
theorem d_LA_stripeOfSlot_10 : decode c_LA_stripeOfSlot 10 = .ok (.imul, 1) := by decide +kernel
theorem d_LA_stripeOfSlot_11 : decode c_LA_stripeOfSlot 11 = .ok (.iload_n 1, 1) := by decide +kernel
theorem d_LA_stripeOfSlot_12 : decode c_LA_stripeOfSlot 12 = .ok (.aload_n 0, 1) := by decide +kernel
theorem d_LA_stripeOfSlot_13 : decode c_LA_stripeOfSlot 13 = .ok (.getfield 7, 3) := by decide +kernel
theorem d_LA_stripeOfSlot_16 : decode c_LA_stripeOfSlot 16 = .ok (.irem, 1) := by decide +kernel
theorem d_LA_stripeOfSlot_17 : decode c_LA_stripeOfSlot 17 = .ok (.aload_n 0, 1) := by decide +kernel
theorem d_LA_stripeOfSlot_18 : decode c_LA_stripeOfSlot 18 = .ok (.getfield 13, 3) := by decide +kernel
theorem d_LA_stripeOfSlot_21 : decode c_LA_stripeOfSlot 21 = .ok (.idiv, 1) := by decide +kernel
theorem d_LA_stripeOfSlot_22 : decode c_LA_stripeOfSlot 22 = .ok (.iadd, 1) := by decide +kernel
theorem d_LA_stripeOfSlot_23 : decode c_LA_stripeOfSlot 23 = .ok (.ireturn, 1) := by decide +kernel
abbrev c_LA_columnOfSlot : ByteArray := prog_2_method_11_code
abbrev y_LA_columnOfSlot : MethodName := ⟨"StripeField$Layout", "columnOfSlot", "(I)I"⟩
theorem d_LA_columnOfSlot_0 : decode c_LA_columnOfSlot 0 = .ok (.iload_n 1, 1) := by decide +kernel
theorem d_LA_columnOfSlot_1 : decode c_LA_columnOfSlot 1 = .ok (.aload_n 0, 1) := by decide +kernel
theorem d_LA_columnOfSlot_2 : decode c_LA_columnOfSlot 2 = .ok (.getfield 7, 3) := by decide +kernel
theorem d_LA_columnOfSlot_5 : decode c_LA_columnOfSlot 5 = .ok (.irem, 1) := by decide +kernel
theorem d_LA_columnOfSlot_6 : decode c_LA_columnOfSlot 6 = .ok (.aload_n 0, 1) := by decide +kernel
theorem d_LA_columnOfSlot_7 : decode c_LA_columnOfSlot 7 = .ok (.getfield 13, 3) := by decide +kernel
theorem d_LA_columnOfSlot_10 : decode c_LA_columnOfSlot 10 = .ok (.irem, 1) := by decide +kernel
theorem d_LA_columnOfSlot_11 : decode c_LA_columnOfSlot 11 = .ok (.ireturn, 1) := by decide +kernel
abbrev c_PL_firstFreeSpare : ByteArray := prog_3_method_7_code
abbrev y_PL_firstFreeSpare : MethodName := ⟨"StripeField$Places", "firstFreeSpare", "(I)I"⟩
theorem d_PL_firstFreeSpare_0 : decode c_PL_firstFreeSpare 0 = .ok (.aload_n 0, 1) := by decide +kernel
theorem d_PL_firstFreeSpare_1 : decode c_PL_firstFreeSpare 1 = .ok (.getfield 9, 3) := by decide +kernel
theorem d_PL_firstFreeSpare_4 : decode c_PL_firstFreeSpare 4 = .ok (.getfield 47, 3) := by decide +kernel
theorem d_PL_firstFreeSpare_7 : decode c_PL_firstFreeSpare 7 = .ok (.istore_n 2, 1) := by decide +kernel
theorem d_PL_firstFreeSpare_8 : decode c_PL_firstFreeSpare 8 = .ok (.iload_n 2, 1) := by decide +kernel
theorem d_PL_firstFreeSpare_9 : decode c_PL_firstFreeSpare 9 = .ok (.aload_n 0, 1) := by decide +kernel
theorem d_PL_firstFreeSpare_10 : decode c_PL_firstFreeSpare 10 = .ok (.getfield 9, 3) := by decide +kernel
theorem d_PL_firstFreeSpare_13 : decode c_PL_firstFreeSpare 13 = .ok (.getfield 25, 3) := by decide +kernel
theorem d_PL_firstFreeSpare_16 : decode c_PL_firstFreeSpare 16 = .ok (.if_icmp .ge 37, 3) := by decide +kernel
theorem d_PL_firstFreeSpare_19 : decode c_PL_firstFreeSpare 19 = .ok (.aload_n 0, 1) := by decide +kernel
theorem d_PL_firstFreeSpare_20 : decode c_PL_firstFreeSpare 20 = .ok (.getfield 9, 3) := by decide +kernel
theorem d_PL_firstFreeSpare_23 : decode c_PL_firstFreeSpare 23 = .ok (.getfield 57, 3) := by decide +kernel
theorem d_PL_firstFreeSpare_26 : decode c_PL_firstFreeSpare 26 = .ok (.aload_n 0, 1) := by decide +kernel
theorem d_PL_firstFreeSpare_27 : decode c_PL_firstFreeSpare 27 = .ok (.getfield 9, 3) := by decide +kernel
theorem d_PL_firstFreeSpare_30 : decode c_PL_firstFreeSpare 30 = .ok (.iload_n 1, 1) := by decide +kernel
theorem d_PL_firstFreeSpare_31 : decode c_PL_firstFreeSpare 31 = .ok (.iload_n 2, 1) := by decide +kernel
theorem d_PL_firstFreeSpare_32 : decode c_PL_firstFreeSpare 32 = .ok (.invokevirtual 50, 3) := by decide +kernel
theorem d_PL_firstFreeSpare_35 : decode c_PL_firstFreeSpare 35 = .ok (.iaload, 1) := by decide +kernel
theorem d_PL_firstFreeSpare_36 : decode c_PL_firstFreeSpare 36 = .ok (.istore_n 3, 1) := by decide +kernel
theorem d_PL_firstFreeSpare_37 : decode c_PL_firstFreeSpare 37 = .ok (.aload_n 0, 1) := by decide +kernel
theorem d_PL_firstFreeSpare_38 : decode c_PL_firstFreeSpare 38 = .ok (.iload_n 3, 1) := by decide +kernel
theorem d_PL_firstFreeSpare_39 : decode c_PL_firstFreeSpare 39 = .ok (.invokevirtual 86, 3) := by decide +kernel
theorem d_PL_firstFreeSpare_42 : decode c_PL_firstFreeSpare 42 = .ok (.ifCond .eq 5, 3) := by decide +kernel
theorem d_PL_firstFreeSpare_45 : decode c_PL_firstFreeSpare 45 = .ok (.iload_n 3, 1) := by decide +kernel
theorem d_PL_firstFreeSpare_46 : decode c_PL_firstFreeSpare 46 = .ok (.ireturn, 1) := by decide +kernel
theorem d_PL_firstFreeSpare_47 : decode c_PL_firstFreeSpare 47 = .ok (.iinc 2 1, 3) := by decide +kernel
theorem d_PL_firstFreeSpare_50 : decode c_PL_firstFreeSpare 50 = .ok (.goto (-42), 3) := by decide +kernel
theorem d_PL_firstFreeSpare_53 : decode c_PL_firstFreeSpare 53 = .ok (.iconst (-1), 1) := by decide +kernel
theorem d_PL_firstFreeSpare_54 : decode c_PL_firstFreeSpare 54 = .ok (.ireturn, 1) := by decide +kernel
abbrev c_PL_isFree : ByteArray := prog_3_method_6_code
abbrev y_PL_isFree : MethodName := ⟨"StripeField$Places", "isFree", "(I)Z"⟩
theorem d_PL_isFree_0 : decode c_PL_isFree 0 = .ok (.aload_n 0, 1) := by decide +kernel
theorem d_PL_isFree_1 : decode c_PL_isFree 1 = .ok (.getfield 35, 3) := by decide +kernel
theorem d_PL_isFree_4 : decode c_PL_isFree 4 = .ok (.iload_n 1, 1) := by decide +kernel
theorem d_PL_isFree_5 : decode c_PL_isFree 5 = .ok (.iaload, 1) := by decide +kernel
theorem d_PL_isFree_6 : decode c_PL_isFree 6 = .ok (.iconst (-1), 1) := by decide +kernel
theorem d_PL_isFree_7 : decode c_PL_isFree 7 = .ok (.if_icmp .ne 26, 3) := by decide +kernel
theorem d_PL_isFree_10 : decode c_PL_isFree 10 = .ok (.aload_n 0, 1) := by decide +kernel
theorem d_PL_isFree_11 : decode c_PL_isFree 11 = .ok (.getfield 15, 3) := by decide +kernel
theorem d_PL_isFree_14 : decode c_PL_isFree 14 = .ok (.getfield 79, 3) := by decide +kernel
theorem d_PL_isFree_17 : decode c_PL_isFree 17 = .ok (.aload_n 0, 1) := by decide +kernel
theorem d_PL_isFree_18 : decode c_PL_isFree 18 = .ok (.getfield 9, 3) := by decide +kernel
theorem d_PL_isFree_21 : decode c_PL_isFree 21 = .ok (.iload_n 1, 1) := by decide +kernel
theorem d_PL_isFree_22 : decode c_PL_isFree 22 = .ok (.invokevirtual 83, 3) := by decide +kernel
theorem d_PL_isFree_25 : decode c_PL_isFree 25 = .ok (.baload, 1) := by decide +kernel
theorem d_PL_isFree_26 : decode c_PL_isFree 26 = .ok (.ifCond .eq 7, 3) := by decide +kernel
theorem d_PL_isFree_29 : decode c_PL_isFree 29 = .ok (.iconst 1, 1) := by decide +kernel
theorem d_PL_isFree_30 : decode c_PL_isFree 30 = .ok (.goto 4, 3) := by decide +kernel
theorem d_PL_isFree_33 : decode c_PL_isFree 33 = .ok (.iconst 0, 1) := by decide +kernel
theorem d_PL_isFree_34 : decode c_PL_isFree 34 = .ok (.ireturn, 1) := by decide +kernel
abbrev c_PL_firstToRebuild : ByteArray := prog_3_method_8_code
abbrev y_PL_firstToRebuild : MethodName := ⟨"StripeField$Places", "firstToRebuild", "(I)I"⟩
theorem d_PL_firstToRebuild_0 : decode c_PL_firstToRebuild 0 = .ok (.iconst 0, 1) := by decide +kernel
theorem d_PL_firstToRebuild_1 : decode c_PL_firstToRebuild 1 = .ok (.istore_n 2, 1) := by decide +kernel
theorem d_PL_firstToRebuild_2 : decode c_PL_firstToRebuild 2 = .ok (.iload_n 2, 1) := by decide +kernel
theorem d_PL_firstToRebuild_3 : decode c_PL_firstToRebuild 3 = .ok (.aload_n 0, 1) := by decide +kernel
theorem d_PL_firstToRebuild_4 : decode c_PL_firstToRebuild 4 = .ok (.getfield 9, 3) := by decide +kernel
theorem d_PL_firstToRebuild_7 : decode c_PL_firstToRebuild 7 = .ok (.getfield 47, 3) := by decide +kernel
theorem d_PL_firstToRebuild_10 : decode c_PL_firstToRebuild 10 = .ok (.if_icmp .ge 58, 3) := by decide +kernel
theorem d_PL_firstToRebuild_13 : decode c_PL_firstToRebuild 13 = .ok (.aload_n 0, 1) := by decide +kernel
theorem d_PL_firstToRebuild_14 : decode c_PL_firstToRebuild 14 = .ok (.getfield 9, 3) := by decide +kernel
theorem d_PL_firstToRebuild_17 : decode c_PL_firstToRebuild 17 = .ok (.iload_n 1, 1) := by decide +kernel
theorem d_PL_firstToRebuild_18 : decode c_PL_firstToRebuild 18 = .ok (.iload_n 2, 1) := by decide +kernel
theorem d_PL_firstToRebuild_19 : decode c_PL_firstToRebuild 19 = .ok (.invokevirtual 50, 3) := by decide +kernel
theorem d_PL_firstToRebuild_22 : decode c_PL_firstToRebuild 22 = .ok (.istore_n 3, 1) := by decide +kernel
theorem d_PL_firstToRebuild_23 : decode c_PL_firstToRebuild 23 = .ok (.aload_n 0, 1) := by decide +kernel
theorem d_PL_firstToRebuild_24 : decode c_PL_firstToRebuild 24 = .ok (.getfield 28, 3) := by decide +kernel
theorem d_PL_firstToRebuild_27 : decode c_PL_firstToRebuild 27 = .ok (.iload_n 3, 1) := by decide +kernel
theorem d_PL_firstToRebuild_28 : decode c_PL_firstToRebuild 28 = .ok (.iaload, 1) := by decide +kernel
theorem d_PL_firstToRebuild_29 : decode c_PL_firstToRebuild 29 = .ok (.iconst (-1), 1) := by decide +kernel
theorem d_PL_firstToRebuild_30 : decode c_PL_firstToRebuild 30 = .ok (.if_icmp .ne 32, 3) := by decide +kernel
theorem d_PL_firstToRebuild_33 : decode c_PL_firstToRebuild 33 = .ok (.aload_n 0, 1) := by decide +kernel
theorem d_PL_firstToRebuild_34 : decode c_PL_firstToRebuild 34 = .ok (.getfield 15, 3) := by decide +kernel
theorem d_PL_firstToRebuild_37 : decode c_PL_firstToRebuild 37 = .ok (.getfield 79, 3) := by decide +kernel
theorem d_PL_firstToRebuild_40 : decode c_PL_firstToRebuild 40 = .ok (.aload_n 0, 1) := by decide +kernel
theorem d_PL_firstToRebuild_41 : decode c_PL_firstToRebuild 41 = .ok (.getfield 9, 3) := by decide +kernel
theorem d_PL_firstToRebuild_44 : decode c_PL_firstToRebuild 44 = .ok (.aload_n 0, 1) := by decide +kernel
theorem d_PL_firstToRebuild_45 : decode c_PL_firstToRebuild 45 = .ok (.getfield 9, 3) := by decide +kernel
theorem d_PL_firstToRebuild_48 : decode c_PL_firstToRebuild 48 = .ok (.getfield 57, 3) := by decide +kernel
theorem d_PL_firstToRebuild_51 : decode c_PL_firstToRebuild 51 = .ok (.iload_n 3, 1) := by decide +kernel
theorem d_PL_firstToRebuild_52 : decode c_PL_firstToRebuild 52 = .ok (.iaload, 1) := by decide +kernel
theorem d_PL_firstToRebuild_53 : decode c_PL_firstToRebuild 53 = .ok (.invokevirtual 83, 3) := by decide +kernel
theorem d_PL_firstToRebuild_56 : decode c_PL_firstToRebuild 56 = .ok (.baload, 1) := by decide +kernel
theorem d_PL_firstToRebuild_57 : decode c_PL_firstToRebuild 57 = .ok (.ifCond .ne 5, 3) := by decide +kernel
theorem d_PL_firstToRebuild_60 : decode c_PL_firstToRebuild 60 = .ok (.iload_n 3, 1) := by decide +kernel
theorem d_PL_firstToRebuild_61 : decode c_PL_firstToRebuild 61 = .ok (.ireturn, 1) := by decide +kernel
theorem d_PL_firstToRebuild_62 : decode c_PL_firstToRebuild 62 = .ok (.iinc 2 1, 3) := by decide +kernel
theorem d_PL_firstToRebuild_65 : decode c_PL_firstToRebuild 65 = .ok (.goto (-63), 3) := by decide +kernel
theorem d_PL_firstToRebuild_68 : decode c_PL_firstToRebuild 68 = .ok (.iconst (-1), 1) := by decide +kernel
theorem d_PL_firstToRebuild_69 : decode c_PL_firstToRebuild 69 = .ok (.ireturn, 1) := by decide +kernel
abbrev c_PL_move : ByteArray := prog_3_method_4_code
abbrev y_PL_move : MethodName := ⟨"StripeField$Places", "move", "(II)V"⟩
theorem d_PL_move_0 : decode c_PL_move 0 = .ok (.aload_n 0, 1) := by decide +kernel
theorem d_PL_move_1 : decode c_PL_move 1 = .ok (.getfield 28, 3) := by decide +kernel
theorem d_PL_move_4 : decode c_PL_move 4 = .ok (.iload_n 1, 1) := by decide +kernel
theorem d_PL_move_5 : decode c_PL_move 5 = .ok (.iaload, 1) := by decide +kernel
theorem d_PL_move_6 : decode c_PL_move 6 = .ok (.iconst (-1), 1) := by decide +kernel
theorem d_PL_move_7 : decode c_PL_move 7 = .ok (.if_icmp .eq 15, 3) := by decide +kernel
theorem d_PL_move_10 : decode c_PL_move 10 = .ok (.aload_n 0, 1) := by decide +kernel
theorem d_PL_move_11 : decode c_PL_move 11 = .ok (.getfield 35, 3) := by decide +kernel
theorem d_PL_move_14 : decode c_PL_move 14 = .ok (.aload_n 0, 1) := by decide +kernel
theorem d_PL_move_15 : decode c_PL_move 15 = .ok (.getfield 28, 3) := by decide +kernel
theorem d_PL_move_18 : decode c_PL_move 18 = .ok (.iload_n 1, 1) := by decide +kernel
theorem d_PL_move_19 : decode c_PL_move 19 = .ok (.iaload, 1) := by decide +kernel
theorem d_PL_move_20 : decode c_PL_move 20 = .ok (.iconst (-1), 1) := by decide +kernel
theorem d_PL_move_21 : decode c_PL_move 21 = .ok (.iastore, 1) := by decide +kernel
theorem d_PL_move_22 : decode c_PL_move 22 = .ok (.aload_n 0, 1) := by decide +kernel
theorem d_PL_move_23 : decode c_PL_move 23 = .ok (.getfield 28, 3) := by decide +kernel
theorem d_PL_move_26 : decode c_PL_move 26 = .ok (.iload_n 1, 1) := by decide +kernel
theorem d_PL_move_27 : decode c_PL_move 27 = .ok (.iload_n 2, 1) := by decide +kernel
theorem d_PL_move_28 : decode c_PL_move 28 = .ok (.iastore, 1) := by decide +kernel
theorem d_PL_move_29 : decode c_PL_move 29 = .ok (.aload_n 0, 1) := by decide +kernel
theorem d_PL_move_30 : decode c_PL_move 30 = .ok (.getfield 35, 3) := by decide +kernel
theorem d_PL_move_33 : decode c_PL_move 33 = .ok (.iload_n 2, 1) := by decide +kernel
theorem d_PL_move_34 : decode c_PL_move 34 = .ok (.iload_n 1, 1) := by decide +kernel
theorem d_PL_move_35 : decode c_PL_move 35 = .ok (.iastore, 1) := by decide +kernel
theorem d_PL_move_36 : decode c_PL_move 36 = .ok (.return_, 1) := by decide +kernel
abbrev c_PL_firstToCopyBack : ByteArray := prog_3_method_9_code
abbrev y_PL_firstToCopyBack : MethodName := ⟨"StripeField$Places", "firstToCopyBack", "()I"⟩
theorem d_PL_firstToCopyBack_0 : decode c_PL_firstToCopyBack 0 = .ok (.iconst 0, 1) := by decide +kernel
theorem d_PL_firstToCopyBack_1 : decode c_PL_firstToCopyBack 1 = .ok (.istore_n 1, 1) := by decide +kernel
theorem d_PL_firstToCopyBack_2 : decode c_PL_firstToCopyBack 2 = .ok (.iload_n 1, 1) := by decide +kernel
theorem d_PL_firstToCopyBack_3 : decode c_PL_firstToCopyBack 3 = .ok (.aload_n 0, 1) := by decide +kernel
theorem d_PL_firstToCopyBack_4 : decode c_PL_firstToCopyBack 4 = .ok (.getfield 9, 3) := by decide +kernel
theorem d_PL_firstToCopyBack_7 : decode c_PL_firstToCopyBack 7 = .ok (.getfield 19, 3) := by decide +kernel
theorem d_PL_firstToCopyBack_10 : decode c_PL_firstToCopyBack 10 = .ok (.if_icmp .ge 83, 3) := by decide +kernel
theorem d_PL_firstToCopyBack_13 : decode c_PL_firstToCopyBack 13 = .ok (.iconst 0, 1) := by decide +kernel
theorem d_PL_firstToCopyBack_14 : decode c_PL_firstToCopyBack 14 = .ok (.istore_n 2, 1) := by decide +kernel
theorem d_PL_firstToCopyBack_15 : decode c_PL_firstToCopyBack 15 = .ok (.iload_n 2, 1) := by decide +kernel
theorem d_PL_firstToCopyBack_16 : decode c_PL_firstToCopyBack 16 = .ok (.aload_n 0, 1) := by decide +kernel
theorem d_PL_firstToCopyBack_17 : decode c_PL_firstToCopyBack 17 = .ok (.getfield 9, 3) := by decide +kernel
theorem d_PL_firstToCopyBack_20 : decode c_PL_firstToCopyBack 20 = .ok (.getfield 47, 3) := by decide +kernel
theorem d_PL_firstToCopyBack_23 : decode c_PL_firstToCopyBack 23 = .ok (.if_icmp .ge 64, 3) := by decide +kernel
theorem d_PL_firstToCopyBack_26 : decode c_PL_firstToCopyBack 26 = .ok (.aload_n 0, 1) := by decide +kernel
theorem d_PL_firstToCopyBack_27 : decode c_PL_firstToCopyBack 27 = .ok (.getfield 9, 3) := by decide +kernel
theorem d_PL_firstToCopyBack_30 : decode c_PL_firstToCopyBack 30 = .ok (.iload_n 1, 1) := by decide +kernel
theorem d_PL_firstToCopyBack_31 : decode c_PL_firstToCopyBack 31 = .ok (.iload_n 2, 1) := by decide +kernel
theorem d_PL_firstToCopyBack_32 : decode c_PL_firstToCopyBack 32 = .ok (.invokevirtual 50, 3) := by decide +kernel
theorem d_PL_firstToCopyBack_35 : decode c_PL_firstToCopyBack 35 = .ok (.istore_n 3, 1) := by decide +kernel
theorem d_PL_firstToCopyBack_36 : decode c_PL_firstToCopyBack 36 = .ok (.aload_n 0, 1) := by decide +kernel
theorem d_PL_firstToCopyBack_37 : decode c_PL_firstToCopyBack 37 = .ok (.getfield 9, 3) := by decide +kernel
theorem d_PL_firstToCopyBack_40 : decode c_PL_firstToCopyBack 40 = .ok (.getfield 57, 3) := by decide +kernel
theorem d_PL_firstToCopyBack_43 : decode c_PL_firstToCopyBack 43 = .ok (.iload_n 3, 1) := by decide +kernel
theorem d_PL_firstToCopyBack_44 : decode c_PL_firstToCopyBack 44 = .ok (.iaload, 1) := by decide +kernel
theorem d_PL_firstToCopyBack_45 : decode c_PL_firstToCopyBack 45 = .ok (.istore 4, 2) := by decide +kernel
theorem d_PL_firstToCopyBack_47 : decode c_PL_firstToCopyBack 47 = .ok (.aload_n 0, 1) := by decide +kernel
theorem d_PL_firstToCopyBack_48 : decode c_PL_firstToCopyBack 48 = .ok (.getfield 15, 3) := by decide +kernel
theorem d_PL_firstToCopyBack_51 : decode c_PL_firstToCopyBack 51 = .ok (.getfield 79, 3) := by decide +kernel
theorem d_PL_firstToCopyBack_54 : decode c_PL_firstToCopyBack 54 = .ok (.aload_n 0, 1) := by decide +kernel
theorem d_PL_firstToCopyBack_55 : decode c_PL_firstToCopyBack 55 = .ok (.getfield 9, 3) := by decide +kernel
theorem d_PL_firstToCopyBack_58 : decode c_PL_firstToCopyBack 58 = .ok (.iload 4, 2) := by decide +kernel
theorem d_PL_firstToCopyBack_60 : decode c_PL_firstToCopyBack 60 = .ok (.invokevirtual 83, 3) := by decide +kernel
theorem d_PL_firstToCopyBack_63 : decode c_PL_firstToCopyBack 63 = .ok (.baload, 1) := by decide +kernel
theorem d_PL_firstToCopyBack_64 : decode c_PL_firstToCopyBack 64 = .ok (.ifCond .eq 17, 3) := by decide +kernel
theorem d_PL_firstToCopyBack_67 : decode c_PL_firstToCopyBack 67 = .ok (.aload_n 0, 1) := by decide +kernel
theorem d_PL_firstToCopyBack_68 : decode c_PL_firstToCopyBack 68 = .ok (.getfield 15, 3) := by decide +kernel
theorem d_PL_firstToCopyBack_71 : decode c_PL_firstToCopyBack 71 = .ok (.iload 4, 2) := by decide +kernel
theorem d_PL_firstToCopyBack_73 : decode c_PL_firstToCopyBack 73 = .ok (.invokevirtual 60, 3) := by decide +kernel
theorem d_PL_firstToCopyBack_76 : decode c_PL_firstToCopyBack 76 = .ok (.ifCond .ne 5, 3) := by decide +kernel
theorem d_PL_firstToCopyBack_79 : decode c_PL_firstToCopyBack 79 = .ok (.iload_n 3, 1) := by decide +kernel
theorem d_PL_firstToCopyBack_80 : decode c_PL_firstToCopyBack 80 = .ok (.ireturn, 1) := by decide +kernel
theorem d_PL_firstToCopyBack_81 : decode c_PL_firstToCopyBack 81 = .ok (.iinc 2 1, 3) := by decide +kernel
theorem d_PL_firstToCopyBack_84 : decode c_PL_firstToCopyBack 84 = .ok (.goto (-69), 3) := by decide +kernel
theorem d_PL_firstToCopyBack_87 : decode c_PL_firstToCopyBack 87 = .ok (.iinc 1 1, 3) := by decide +kernel
theorem d_PL_firstToCopyBack_90 : decode c_PL_firstToCopyBack 90 = .ok (.goto (-88), 3) := by decide +kernel
theorem d_PL_firstToCopyBack_93 : decode c_PL_firstToCopyBack 93 = .ok (.iconst (-1), 1) := by decide +kernel
theorem d_PL_firstToCopyBack_94 : decode c_PL_firstToCopyBack 94 = .ok (.ireturn, 1) := by decide +kernel
abbrev c_PL_countLost : ByteArray := prog_3_method_10_code
abbrev y_PL_countLost : MethodName := ⟨"StripeField$Places", "countLost", "()I"⟩
theorem d_PL_countLost_0 : decode c_PL_countLost 0 = .ok (.aload_n 0, 1) := by decide +kernel
theorem d_PL_countLost_1 : decode c_PL_countLost 1 = .ok (.getfield 9, 3) := by decide +kernel
theorem d_PL_countLost_4 : decode c_PL_countLost 4 = .ok (.getfield 19, 3) := by decide +kernel
theorem d_PL_countLost_7 : decode c_PL_countLost 7 = .ok (.aload_n 0, 1) := by decide +kernel
theorem d_PL_countLost_8 : decode c_PL_countLost 8 = .ok (.getfield 9, 3) := by decide +kernel
theorem d_PL_countLost_11 : decode c_PL_countLost 11 = .ok (.getfield 47, 3) := by decide +kernel
theorem d_PL_countLost_14 : decode c_PL_countLost 14 = .ok (.imul, 1) := by decide +kernel
theorem d_PL_countLost_15 : decode c_PL_countLost 15 = .ok (.aload_n 0, 1) := by decide +kernel
theorem d_PL_countLost_16 : decode c_PL_countLost 16 = .ok (.iconst 0, 1) := by decide +kernel
theorem d_PL_countLost_17 : decode c_PL_countLost 17 = .ok (.invokevirtual 89, 3) := by decide +kernel
theorem d_PL_countLost_20 : decode c_PL_countLost 20 = .ok (.isub, 1) := by decide +kernel
theorem d_PL_countLost_21 : decode c_PL_countLost 21 = .ok (.ireturn, 1) := by decide +kernel
abbrev c_PL_countPlaces : ByteArray := prog_3_method_12_code
abbrev y_PL_countPlaces : MethodName := ⟨"StripeField$Places", "countPlaces", "(Z)I"⟩
theorem d_PL_countPlaces_0 : decode c_PL_countPlaces 0 = .ok (.iconst 0, 1) := by decide +kernel
theorem d_PL_countPlaces_1 : decode c_PL_countPlaces 1 = .ok (.istore_n 2, 1) := by decide +kernel
theorem d_PL_countPlaces_2 : decode c_PL_countPlaces 2 = .ok (.iconst 0, 1) := by decide +kernel
theorem d_PL_countPlaces_3 : decode c_PL_countPlaces 3 = .ok (.istore_n 3, 1) := by decide +kernel
theorem d_PL_countPlaces_4 : decode c_PL_countPlaces 4 = .ok (.iload_n 3, 1) := by decide +kernel
theorem d_PL_countPlaces_5 : decode c_PL_countPlaces 5 = .ok (.aload_n 0, 1) := by decide +kernel
theorem d_PL_countPlaces_6 : decode c_PL_countPlaces 6 = .ok (.getfield 9, 3) := by decide +kernel
theorem d_PL_countPlaces_9 : decode c_PL_countPlaces 9 = .ok (.getfield 32, 3) := by decide +kernel
theorem d_PL_countPlaces_12 : decode c_PL_countPlaces 12 = .ok (.if_icmp .ge 37, 3) := by decide +kernel
theorem d_PL_countPlaces_15 : decode c_PL_countPlaces 15 = .ok (.aload_n 0, 1) := by decide +kernel
theorem d_PL_countPlaces_16 : decode c_PL_countPlaces 16 = .ok (.getfield 35, 3) := by decide +kernel
theorem d_PL_countPlaces_19 : decode c_PL_countPlaces 19 = .ok (.iload_n 3, 1) := by decide +kernel
theorem d_PL_countPlaces_20 : decode c_PL_countPlaces 20 = .ok (.iaload, 1) := by decide +kernel
theorem d_PL_countPlaces_21 : decode c_PL_countPlaces 21 = .ok (.iconst (-1), 1) := by decide +kernel
theorem d_PL_countPlaces_22 : decode c_PL_countPlaces 22 = .ok (.if_icmp .eq 21, 3) := by decide +kernel
theorem d_PL_countPlaces_25 : decode c_PL_countPlaces 25 = .ok (.iload_n 1, 1) := by decide +kernel
theorem d_PL_countPlaces_26 : decode c_PL_countPlaces 26 = .ok (.ifCond .eq 14, 3) := by decide +kernel
theorem d_PL_countPlaces_29 : decode c_PL_countPlaces 29 = .ok (.aload_n 0, 1) := by decide +kernel
theorem d_PL_countPlaces_30 : decode c_PL_countPlaces 30 = .ok (.getfield 15, 3) := by decide +kernel
theorem d_PL_countPlaces_33 : decode c_PL_countPlaces 33 = .ok (.iload_n 3, 1) := by decide +kernel
theorem d_PL_countPlaces_34 : decode c_PL_countPlaces 34 = .ok (.invokevirtual 66, 3) := by decide +kernel
theorem d_PL_countPlaces_37 : decode c_PL_countPlaces 37 = .ok (.ifCond .eq 6, 3) := by decide +kernel
theorem d_PL_countPlaces_40 : decode c_PL_countPlaces 40 = .ok (.iinc 2 1, 3) := by decide +kernel
theorem d_PL_countPlaces_43 : decode c_PL_countPlaces 43 = .ok (.iinc 3 1, 3) := by decide +kernel
theorem d_PL_countPlaces_46 : decode c_PL_countPlaces 46 = .ok (.goto (-42), 3) := by decide +kernel
theorem d_PL_countPlaces_49 : decode c_PL_countPlaces 49 = .ok (.iload_n 2, 1) := by decide +kernel
theorem d_PL_countPlaces_50 : decode c_PL_countPlaces 50 = .ok (.ireturn, 1) := by decide +kernel
abbrev c_PL_countSpoilt : ByteArray := prog_3_method_11_code
abbrev y_PL_countSpoilt : MethodName := ⟨"StripeField$Places", "countSpoilt", "()I"⟩
theorem d_PL_countSpoilt_0 : decode c_PL_countSpoilt 0 = .ok (.aload_n 0, 1) := by decide +kernel
theorem d_PL_countSpoilt_1 : decode c_PL_countSpoilt 1 = .ok (.iconst 0, 1) := by decide +kernel
theorem d_PL_countSpoilt_2 : decode c_PL_countSpoilt 2 = .ok (.invokevirtual 89, 3) := by decide +kernel
theorem d_PL_countSpoilt_5 : decode c_PL_countSpoilt 5 = .ok (.aload_n 0, 1) := by decide +kernel
theorem d_PL_countSpoilt_6 : decode c_PL_countSpoilt 6 = .ok (.iconst 1, 1) := by decide +kernel
theorem d_PL_countSpoilt_7 : decode c_PL_countSpoilt 7 = .ok (.invokevirtual 89, 3) := by decide +kernel
theorem d_PL_countSpoilt_10 : decode c_PL_countSpoilt 10 = .ok (.isub, 1) := by decide +kernel
theorem d_PL_countSpoilt_11 : decode c_PL_countSpoilt 11 = .ok (.ireturn, 1) := by decide +kernel
abbrev c_PL_countFreeSpares : ByteArray := prog_3_method_13_code
abbrev y_PL_countFreeSpares : MethodName := ⟨"StripeField$Places", "countFreeSpares", "()I"⟩
theorem d_PL_countFreeSpares_0 : decode c_PL_countFreeSpares 0 = .ok (.iconst 0, 1) := by decide +kernel
theorem d_PL_countFreeSpares_1 : decode c_PL_countFreeSpares 1 = .ok (.istore_n 1, 1) := by decide +kernel
theorem d_PL_countFreeSpares_2 : decode c_PL_countFreeSpares 2 = .ok (.iconst 0, 1) := by decide +kernel
theorem d_PL_countFreeSpares_3 : decode c_PL_countFreeSpares 3 = .ok (.istore_n 2, 1) := by decide +kernel
theorem d_PL_countFreeSpares_4 : decode c_PL_countFreeSpares 4 = .ok (.iload_n 2, 1) := by decide +kernel
theorem d_PL_countFreeSpares_5 : decode c_PL_countFreeSpares 5 = .ok (.aload_n 0, 1) := by decide +kernel
theorem d_PL_countFreeSpares_6 : decode c_PL_countFreeSpares 6 = .ok (.getfield 9, 3) := by decide +kernel
theorem d_PL_countFreeSpares_9 : decode c_PL_countFreeSpares 9 = .ok (.getfield 19, 3) := by decide +kernel
theorem d_PL_countFreeSpares_12 : decode c_PL_countFreeSpares 12 = .ok (.if_icmp .ge 61, 3) := by decide +kernel
theorem d_PL_countFreeSpares_15 : decode c_PL_countFreeSpares 15 = .ok (.aload_n 0, 1) := by decide +kernel
theorem d_PL_countFreeSpares_16 : decode c_PL_countFreeSpares 16 = .ok (.getfield 9, 3) := by decide +kernel
theorem d_PL_countFreeSpares_19 : decode c_PL_countFreeSpares 19 = .ok (.getfield 47, 3) := by decide +kernel
theorem d_PL_countFreeSpares_22 : decode c_PL_countFreeSpares 22 = .ok (.istore_n 3, 1) := by decide +kernel
theorem d_PL_countFreeSpares_23 : decode c_PL_countFreeSpares 23 = .ok (.iload_n 3, 1) := by decide +kernel
theorem d_PL_countFreeSpares_24 : decode c_PL_countFreeSpares 24 = .ok (.aload_n 0, 1) := by decide +kernel
theorem d_PL_countFreeSpares_25 : decode c_PL_countFreeSpares 25 = .ok (.getfield 9, 3) := by decide +kernel
theorem d_PL_countFreeSpares_28 : decode c_PL_countFreeSpares 28 = .ok (.getfield 25, 3) := by decide +kernel
theorem d_PL_countFreeSpares_31 : decode c_PL_countFreeSpares 31 = .ok (.if_icmp .ge 36, 3) := by decide +kernel
theorem d_PL_countFreeSpares_34 : decode c_PL_countFreeSpares 34 = .ok (.aload_n 0, 1) := by decide +kernel
theorem d_PL_countFreeSpares_35 : decode c_PL_countFreeSpares 35 = .ok (.aload_n 0, 1) := by decide +kernel
theorem d_PL_countFreeSpares_36 : decode c_PL_countFreeSpares 36 = .ok (.getfield 9, 3) := by decide +kernel
theorem d_PL_countFreeSpares_39 : decode c_PL_countFreeSpares 39 = .ok (.getfield 57, 3) := by decide +kernel
theorem d_PL_countFreeSpares_42 : decode c_PL_countFreeSpares 42 = .ok (.aload_n 0, 1) := by decide +kernel
theorem d_PL_countFreeSpares_43 : decode c_PL_countFreeSpares 43 = .ok (.getfield 9, 3) := by decide +kernel
theorem d_PL_countFreeSpares_46 : decode c_PL_countFreeSpares 46 = .ok (.iload_n 2, 1) := by decide +kernel
theorem d_PL_countFreeSpares_47 : decode c_PL_countFreeSpares 47 = .ok (.iload_n 3, 1) := by decide +kernel
theorem d_PL_countFreeSpares_48 : decode c_PL_countFreeSpares 48 = .ok (.invokevirtual 50, 3) := by decide +kernel
theorem d_PL_countFreeSpares_51 : decode c_PL_countFreeSpares 51 = .ok (.iaload, 1) := by decide +kernel
theorem d_PL_countFreeSpares_52 : decode c_PL_countFreeSpares 52 = .ok (.invokevirtual 86, 3) := by decide +kernel
theorem d_PL_countFreeSpares_55 : decode c_PL_countFreeSpares 55 = .ok (.ifCond .eq 6, 3) := by decide +kernel
theorem d_PL_countFreeSpares_58 : decode c_PL_countFreeSpares 58 = .ok (.iinc 1 1, 3) := by decide +kernel
theorem d_PL_countFreeSpares_61 : decode c_PL_countFreeSpares 61 = .ok (.iinc 3 1, 3) := by decide +kernel
theorem d_PL_countFreeSpares_64 : decode c_PL_countFreeSpares 64 = .ok (.goto (-41), 3) := by decide +kernel
theorem d_PL_countFreeSpares_67 : decode c_PL_countFreeSpares 67 = .ok (.iinc 2 1, 3) := by decide +kernel
theorem d_PL_countFreeSpares_70 : decode c_PL_countFreeSpares 70 = .ok (.goto (-66), 3) := by decide +kernel
theorem d_PL_countFreeSpares_73 : decode c_PL_countFreeSpares 73 = .ok (.iload_n 1, 1) := by decide +kernel
theorem d_PL_countFreeSpares_74 : decode c_PL_countFreeSpares 74 = .ok (.ireturn, 1) := by decide +kernel
abbrev c_RK_countLive : ByteArray := prog_5_method_13_code
abbrev y_RK_countLive : MethodName := ⟨"StripeField$Rack", "countLive", "()I"⟩
theorem d_RK_countLive_0 : decode c_RK_countLive 0 = .ok (.iconst 0, 1) := by decide +kernel
theorem d_RK_countLive_1 : decode c_RK_countLive 1 = .ok (.istore_n 1, 1) := by decide +kernel
theorem d_RK_countLive_2 : decode c_RK_countLive 2 = .ok (.iconst 0, 1) := by decide +kernel
theorem d_RK_countLive_3 : decode c_RK_countLive 3 = .ok (.istore_n 2, 1) := by decide +kernel
theorem d_RK_countLive_4 : decode c_RK_countLive 4 = .ok (.iload_n 2, 1) := by decide +kernel
theorem d_RK_countLive_5 : decode c_RK_countLive 5 = .ok (.aload_n 0, 1) := by decide +kernel
theorem d_RK_countLive_6 : decode c_RK_countLive 6 = .ok (.getfield 9, 3) := by decide +kernel
theorem d_RK_countLive_9 : decode c_RK_countLive 9 = .ok (.getfield 15, 3) := by decide +kernel
theorem d_RK_countLive_12 : decode c_RK_countLive 12 = .ok (.if_icmp .ge 21, 3) := by decide +kernel
theorem d_RK_countLive_15 : decode c_RK_countLive 15 = .ok (.aload_n 0, 1) := by decide +kernel
theorem d_RK_countLive_16 : decode c_RK_countLive 16 = .ok (.getfield 21, 3) := by decide +kernel
theorem d_RK_countLive_19 : decode c_RK_countLive 19 = .ok (.iload_n 2, 1) := by decide +kernel
theorem d_RK_countLive_20 : decode c_RK_countLive 20 = .ok (.baload, 1) := by decide +kernel
theorem d_RK_countLive_21 : decode c_RK_countLive 21 = .ok (.ifCond .eq 6, 3) := by decide +kernel
theorem d_RK_countLive_24 : decode c_RK_countLive 24 = .ok (.iinc 1 1, 3) := by decide +kernel
theorem d_RK_countLive_27 : decode c_RK_countLive 27 = .ok (.iinc 2 1, 3) := by decide +kernel
theorem d_RK_countLive_30 : decode c_RK_countLive 30 = .ok (.goto (-26), 3) := by decide +kernel
theorem d_RK_countLive_33 : decode c_RK_countLive 33 = .ok (.iload_n 1, 1) := by decide +kernel
theorem d_RK_countLive_34 : decode c_RK_countLive 34 = .ok (.ireturn, 1) := by decide +kernel
end
section
abbrev c_SF_init : ByteArray := prog_1_method_1_code
abbrev y_SF_init : MethodName := ⟨"StripeField", "<init>", "(III)V"⟩
theorem d_SF_init_0 : decode c_SF_init 0 = .ok (.aload_n 0, 1) := by decide +kernel
theorem d_SF_init_1 : decode c_SF_init 1 = .ok (.invokespecial 1, 3) := by decide +kernel
theorem d_SF_init_4 : decode c_SF_init 4 = .ok (.aload_n 0, 1) := by decide +kernel
theorem d_SF_init_5 : decode c_SF_init 5 = .ok (.new 7, 3) := by decide +kernel
theorem d_SF_init_8 : decode c_SF_init 8 = .ok (.dup, 1) := by decide +kernel
theorem d_SF_init_9 : decode c_SF_init 9 = .ok (.iload_n 1, 1) := by decide +kernel
theorem d_SF_init_10 : decode c_SF_init 10 = .ok (.iload_n 2, 1) := by decide +kernel
theorem d_SF_init_11 : decode c_SF_init 11 = .ok (.iload_n 3, 1) := by decide +kernel
theorem d_SF_init_12 : decode c_SF_init 12 = .ok (.invokespecial 9, 3) := by decide +kernel
theorem d_SF_init_15 : decode c_SF_init 15 = .ok (.putfield 12, 3) := by decide +kernel
theorem d_SF_init_18 : decode c_SF_init 18 = .ok (.aload_n 0, 1) := by decide +kernel
theorem d_SF_init_19 : decode c_SF_init 19 = .ok (.new 18, 3) := by decide +kernel
theorem d_SF_init_22 : decode c_SF_init 22 = .ok (.dup, 1) := by decide +kernel
theorem d_SF_init_23 : decode c_SF_init 23 = .ok (.aload_n 0, 1) := by decide +kernel
theorem d_SF_init_24 : decode c_SF_init 24 = .ok (.getfield 12, 3) := by decide +kernel
theorem d_SF_init_27 : decode c_SF_init 27 = .ok (.invokespecial 20, 3) := by decide +kernel
theorem d_SF_init_30 : decode c_SF_init 30 = .ok (.putfield 23, 3) := by decide +kernel
theorem d_SF_init_33 : decode c_SF_init 33 = .ok (.aload_n 0, 1) := by decide +kernel
theorem d_SF_init_34 : decode c_SF_init 34 = .ok (.new 27, 3) := by decide +kernel
theorem d_SF_init_37 : decode c_SF_init 37 = .ok (.dup, 1) := by decide +kernel
theorem d_SF_init_38 : decode c_SF_init 38 = .ok (.aload_n 0, 1) := by decide +kernel
theorem d_SF_init_39 : decode c_SF_init 39 = .ok (.getfield 12, 3) := by decide +kernel
theorem d_SF_init_42 : decode c_SF_init 42 = .ok (.aload_n 0, 1) := by decide +kernel
theorem d_SF_init_43 : decode c_SF_init 43 = .ok (.getfield 23, 3) := by decide +kernel
theorem d_SF_init_46 : decode c_SF_init 46 = .ok (.invokespecial 29, 3) := by decide +kernel
theorem d_SF_init_49 : decode c_SF_init 49 = .ok (.putfield 32, 3) := by decide +kernel
theorem d_SF_init_52 : decode c_SF_init 52 = .ok (.aload_n 0, 1) := by decide +kernel
theorem d_SF_init_53 : decode c_SF_init 53 = .ok (.new 36, 3) := by decide +kernel
theorem d_SF_init_56 : decode c_SF_init 56 = .ok (.dup, 1) := by decide +kernel
theorem d_SF_init_57 : decode c_SF_init 57 = .ok (.invokespecial 38, 3) := by decide +kernel
theorem d_SF_init_60 : decode c_SF_init 60 = .ok (.putfield 39, 3) := by decide +kernel
theorem d_SF_init_63 : decode c_SF_init 63 = .ok (.aload_n 0, 1) := by decide +kernel
theorem d_SF_init_64 : decode c_SF_init 64 = .ok (.bipush 8, 2) := by decide +kernel
theorem d_SF_init_66 : decode c_SF_init 66 = .ok (.newarray .long, 2) := by decide +kernel
theorem d_SF_init_68 : decode c_SF_init 68 = .ok (.putfield 43, 3) := by decide +kernel
theorem d_SF_init_71 : decode c_SF_init 71 = .ok (.aload_n 0, 1) := by decide +kernel
theorem d_SF_init_72 : decode c_SF_init 72 = .ok (.bipush 8, 2) := by decide +kernel
theorem d_SF_init_74 : decode c_SF_init 74 = .ok (.newarray .long, 2) := by decide +kernel
theorem d_SF_init_76 : decode c_SF_init 76 = .ok (.putfield 47, 3) := by decide +kernel
theorem d_SF_init_79 : decode c_SF_init 79 = .ok (.aload_n 0, 1) := by decide +kernel
theorem d_SF_init_80 : decode c_SF_init 80 = .ok (.bipush 8, 2) := by decide +kernel
theorem d_SF_init_82 : decode c_SF_init 82 = .ok (.newarray .long, 2) := by decide +kernel
theorem d_SF_init_84 : decode c_SF_init 84 = .ok (.putfield 50, 3) := by decide +kernel
theorem d_SF_init_87 : decode c_SF_init 87 = .ok (.aload_n 0, 1) := by decide +kernel
theorem d_SF_init_88 : decode c_SF_init 88 = .ok (.bipush 8, 2) := by decide +kernel
theorem d_SF_init_90 : decode c_SF_init 90 = .ok (.newarray .long, 2) := by decide +kernel
theorem d_SF_init_92 : decode c_SF_init 92 = .ok (.putfield 53, 3) := by decide +kernel
theorem d_SF_init_95 : decode c_SF_init 95 = .ok (.return_, 1) := by decide +kernel
abbrev c_SF_feed : ByteArray := prog_1_method_2_code
abbrev y_SF_feed : MethodName := ⟨"StripeField", "feed", "(IJ)I"⟩
theorem d_SF_feed_0 : decode c_SF_feed 0 = .ok (.iload_n 1, 1) := by decide +kernel
theorem d_SF_feed_1 : decode c_SF_feed 1 = .ok (.iconst 1, 1) := by decide +kernel
theorem d_SF_feed_2 : decode c_SF_feed 2 = .ok (.if_icmp .lt 9, 3) := by decide +kernel
theorem d_SF_feed_5 : decode c_SF_feed 5 = .ok (.iload_n 1, 1) := by decide +kernel
theorem d_SF_feed_6 : decode c_SF_feed 6 = .ok (.bipush 8, 2) := by decide +kernel
theorem d_SF_feed_8 : decode c_SF_feed 8 = .ok (.if_icmp .le 13, 3) := by decide +kernel
theorem d_SF_feed_11 : decode c_SF_feed 11 = .ok (.new 56, 3) := by decide +kernel
theorem d_SF_feed_14 : decode c_SF_feed 14 = .ok (.dup, 1) := by decide +kernel
theorem d_SF_feed_15 : decode c_SF_feed 15 = .ok (.ldc 58, 2) := by decide +kernel
theorem d_SF_feed_17 : decode c_SF_feed 17 = .ok (.invokespecial 60, 3) := by decide +kernel
theorem d_SF_feed_20 : decode c_SF_feed 20 = .ok (.athrow, 1) := by decide +kernel
theorem d_SF_feed_21 : decode c_SF_feed 21 = .ok (.aload_n 0, 1) := by decide +kernel
theorem d_SF_feed_22 : decode c_SF_feed 22 = .ok (.getfield 63, 3) := by decide +kernel
theorem d_SF_feed_25 : decode c_SF_feed 25 = .ok (.iload_n 1, 1) := by decide +kernel
theorem d_SF_feed_26 : decode c_SF_feed 26 = .ok (.iadd, 1) := by decide +kernel
theorem d_SF_feed_27 : decode c_SF_feed 27 = .ok (.bipush 64, 2) := by decide +kernel
theorem d_SF_feed_29 : decode c_SF_feed 29 = .ok (.if_icmp .le 13, 3) := by decide +kernel
theorem d_SF_feed_32 : decode c_SF_feed 32 = .ok (.new 67, 3) := by decide +kernel
theorem d_SF_feed_35 : decode c_SF_feed 35 = .ok (.dup, 1) := by decide +kernel
theorem d_SF_feed_36 : decode c_SF_feed 36 = .ok (.ldc 69, 2) := by decide +kernel
theorem d_SF_feed_38 : decode c_SF_feed 38 = .ok (.invokespecial 71, 3) := by decide +kernel
theorem d_SF_feed_41 : decode c_SF_feed 41 = .ok (.athrow, 1) := by decide +kernel
theorem d_SF_feed_42 : decode c_SF_feed 42 = .ok (.aload_n 0, 1) := by decide +kernel
theorem d_SF_feed_43 : decode c_SF_feed 43 = .ok (.getfield 43, 3) := by decide +kernel
theorem d_SF_feed_46 : decode c_SF_feed 46 = .ok (.iconst 0, 1) := by decide +kernel
theorem d_SF_feed_47 : decode c_SF_feed 47 = .ok (.aload_n 0, 1) := by decide +kernel
theorem d_SF_feed_48 : decode c_SF_feed 48 = .ok (.getfield 63, 3) := by decide +kernel
theorem d_SF_feed_51 : decode c_SF_feed 51 = .ok (.iload_n 1, 1) := by decide +kernel
theorem d_SF_feed_52 : decode c_SF_feed 52 = .ok (.lload_n 2, 1) := by decide +kernel
theorem d_SF_feed_53 : decode c_SF_feed 53 = .ok (.invokestatic 72, 3) := by decide +kernel
theorem d_SF_feed_56 : decode c_SF_feed 56 = .ok (.aload_n 0, 1) := by decide +kernel
theorem d_SF_feed_57 : decode c_SF_feed 57 = .ok (.dup, 1) := by decide +kernel
theorem d_SF_feed_58 : decode c_SF_feed 58 = .ok (.getfield 63, 3) := by decide +kernel
theorem d_SF_feed_61 : decode c_SF_feed 61 = .ok (.iload_n 1, 1) := by decide +kernel
theorem d_SF_feed_62 : decode c_SF_feed 62 = .ok (.iadd, 1) := by decide +kernel
theorem d_SF_feed_63 : decode c_SF_feed 63 = .ok (.putfield 63, 3) := by decide +kernel
theorem d_SF_feed_66 : decode c_SF_feed 66 = .ok (.aload_n 0, 1) := by decide +kernel
theorem d_SF_feed_67 : decode c_SF_feed 67 = .ok (.getfield 63, 3) := by decide +kernel
theorem d_SF_feed_70 : decode c_SF_feed 70 = .ok (.ireturn, 1) := by decide +kernel
abbrev c_SF_xorBytes : ByteArray := prog_1_method_36_code
abbrev y_SF_xorBytes : MethodName := ⟨"StripeField", "xorBytes", "([JIIIJ)V"⟩
theorem d_SF_xorBytes_0 : decode c_SF_xorBytes 0 = .ok (.iconst 0, 1) := by decide +kernel
theorem d_SF_xorBytes_1 : decode c_SF_xorBytes 1 = .ok (.istore 6, 2) := by decide +kernel
theorem d_SF_xorBytes_3 : decode c_SF_xorBytes 3 = .ok (.iload 6, 2) := by decide +kernel
theorem d_SF_xorBytes_5 : decode c_SF_xorBytes 5 = .ok (.iload_n 3, 1) := by decide +kernel
theorem d_SF_xorBytes_6 : decode c_SF_xorBytes 6 = .ok (.if_icmp .ge 49, 3) := by decide +kernel
theorem d_SF_xorBytes_9 : decode c_SF_xorBytes 9 = .ok (.lload 4, 2) := by decide +kernel
theorem d_SF_xorBytes_11 : decode c_SF_xorBytes 11 = .ok (.bipush 8, 2) := by decide +kernel
theorem d_SF_xorBytes_13 : decode c_SF_xorBytes 13 = .ok (.iload 6, 2) := by decide +kernel
theorem d_SF_xorBytes_15 : decode c_SF_xorBytes 15 = .ok (.imul, 1) := by decide +kernel
theorem d_SF_xorBytes_16 : decode c_SF_xorBytes 16 = .ok (.lushr, 1) := by decide +kernel
theorem d_SF_xorBytes_17 : decode c_SF_xorBytes 17 = .ok (.ldc2_w 329, 3) := by decide +kernel
theorem d_SF_xorBytes_20 : decode c_SF_xorBytes 20 = .ok (.land, 1) := by decide +kernel
theorem d_SF_xorBytes_21 : decode c_SF_xorBytes 21 = .ok (.lstore 7, 2) := by decide +kernel
theorem d_SF_xorBytes_23 : decode c_SF_xorBytes 23 = .ok (.aload_n 0, 1) := by decide +kernel
theorem d_SF_xorBytes_24 : decode c_SF_xorBytes 24 = .ok (.iload_n 1, 1) := by decide +kernel
theorem d_SF_xorBytes_25 : decode c_SF_xorBytes 25 = .ok (.iload_n 2, 1) := by decide +kernel
theorem d_SF_xorBytes_26 : decode c_SF_xorBytes 26 = .ok (.iload 6, 2) := by decide +kernel
theorem d_SF_xorBytes_28 : decode c_SF_xorBytes 28 = .ok (.iadd, 1) := by decide +kernel
theorem d_SF_xorBytes_29 : decode c_SF_xorBytes 29 = .ok (.iconst 3, 1) := by decide +kernel
theorem d_SF_xorBytes_30 : decode c_SF_xorBytes 30 = .ok (.iushr, 1) := by decide +kernel
theorem d_SF_xorBytes_31 : decode c_SF_xorBytes 31 = .ok (.iadd, 1) := by decide +kernel
theorem d_SF_xorBytes_32 : decode c_SF_xorBytes 32 = .ok (.dup2, 1) := by decide +kernel
theorem d_SF_xorBytes_33 : decode c_SF_xorBytes 33 = .ok (.laload, 1) := by decide +kernel
theorem d_SF_xorBytes_34 : decode c_SF_xorBytes 34 = .ok (.lload 7, 2) := by decide +kernel
theorem d_SF_xorBytes_36 : decode c_SF_xorBytes 36 = .ok (.bipush 8, 2) := by decide +kernel
theorem d_SF_xorBytes_38 : decode c_SF_xorBytes 38 = .ok (.iload_n 2, 1) := by decide +kernel
theorem d_SF_xorBytes_39 : decode c_SF_xorBytes 39 = .ok (.iload 6, 2) := by decide +kernel
theorem d_SF_xorBytes_41 : decode c_SF_xorBytes 41 = .ok (.iadd, 1) := by decide +kernel
theorem d_SF_xorBytes_42 : decode c_SF_xorBytes 42 = .ok (.bipush 7, 2) := by decide +kernel
theorem d_SF_xorBytes_44 : decode c_SF_xorBytes 44 = .ok (.iand, 1) := by decide +kernel
theorem d_SF_xorBytes_45 : decode c_SF_xorBytes 45 = .ok (.imul, 1) := by decide +kernel
theorem d_SF_xorBytes_46 : decode c_SF_xorBytes 46 = .ok (.lshl, 1) := by decide +kernel
theorem d_SF_xorBytes_47 : decode c_SF_xorBytes 47 = .ok (.lxor, 1) := by decide +kernel
theorem d_SF_xorBytes_48 : decode c_SF_xorBytes 48 = .ok (.lastore, 1) := by decide +kernel
theorem d_SF_xorBytes_49 : decode c_SF_xorBytes 49 = .ok (.iinc 6 1, 3) := by decide +kernel
theorem d_SF_xorBytes_52 : decode c_SF_xorBytes 52 = .ok (.goto (-49), 3) := by decide +kernel
theorem d_SF_xorBytes_55 : decode c_SF_xorBytes 55 = .ok (.return_, 1) := by decide +kernel
abbrev c_SF_write : ByteArray := prog_1_method_3_code
abbrev y_SF_write : MethodName := ⟨"StripeField", "write", "(I)Z"⟩
theorem d_SF_write_0 : decode c_SF_write 0 = .ok (.iload_n 1, 1) := by decide +kernel
theorem d_SF_write_1 : decode c_SF_write 1 = .ok (.ifCond .lt 14, 3) := by decide +kernel
theorem d_SF_write_4 : decode c_SF_write 4 = .ok (.iload_n 1, 1) := by decide +kernel
theorem d_SF_write_5 : decode c_SF_write 5 = .ok (.aload_n 0, 1) := by decide +kernel
theorem d_SF_write_6 : decode c_SF_write 6 = .ok (.getfield 12, 3) := by decide +kernel
theorem d_SF_write_9 : decode c_SF_write 9 = .ok (.getfield 76, 3) := by decide +kernel
theorem d_SF_write_12 : decode c_SF_write 12 = .ok (.if_icmp .lt 13, 3) := by decide +kernel
theorem d_SF_write_15 : decode c_SF_write 15 = .ok (.new 56, 3) := by decide +kernel
theorem d_SF_write_18 : decode c_SF_write 18 = .ok (.dup, 1) := by decide +kernel
theorem d_SF_write_19 : decode c_SF_write 19 = .ok (.ldc 79, 2) := by decide +kernel
theorem d_SF_write_21 : decode c_SF_write 21 = .ok (.invokespecial 60, 3) := by decide +kernel
theorem d_SF_write_24 : decode c_SF_write 24 = .ok (.athrow, 1) := by decide +kernel
theorem d_SF_write_25 : decode c_SF_write 25 = .ok (.aload_n 0, 1) := by decide +kernel
theorem d_SF_write_26 : decode c_SF_write 26 = .ok (.getfield 39, 3) := by decide +kernel
theorem d_SF_write_29 : decode c_SF_write 29 = .ok (.getfield 81, 3) := by decide +kernel
theorem d_SF_write_32 : decode c_SF_write 32 = .ok (.ifCond .ne 13, 3) := by decide +kernel
theorem d_SF_write_35 : decode c_SF_write 35 = .ok (.new 67, 3) := by decide +kernel
theorem d_SF_write_38 : decode c_SF_write 38 = .ok (.dup, 1) := by decide +kernel
theorem d_SF_write_39 : decode c_SF_write 39 = .ok (.ldc 85, 2) := by decide +kernel
theorem d_SF_write_41 : decode c_SF_write 41 = .ok (.invokespecial 71, 3) := by decide +kernel
theorem d_SF_write_44 : decode c_SF_write 44 = .ok (.athrow, 1) := by decide +kernel
theorem d_SF_write_45 : decode c_SF_write 45 = .ok (.aload_n 0, 1) := by decide +kernel
theorem d_SF_write_46 : decode c_SF_write 46 = .ok (.invokevirtual 87, 3) := by decide +kernel
theorem d_SF_write_49 : decode c_SF_write 49 = .ok (.aload_n 0, 1) := by decide +kernel
theorem d_SF_write_50 : decode c_SF_write 50 = .ok (.aload_n 0, 1) := by decide +kernel
theorem d_SF_write_51 : decode c_SF_write 51 = .ok (.getfield 12, 3) := by decide +kernel
theorem d_SF_write_54 : decode c_SF_write 54 = .ok (.iload_n 1, 1) := by decide +kernel
theorem d_SF_write_55 : decode c_SF_write 55 = .ok (.invokevirtual 90, 3) := by decide +kernel
theorem d_SF_write_58 : decode c_SF_write 58 = .ok (.aload_n 0, 1) := by decide +kernel
theorem d_SF_write_59 : decode c_SF_write 59 = .ok (.getfield 12, 3) := by decide +kernel
theorem d_SF_write_62 : decode c_SF_write 62 = .ok (.iload_n 1, 1) := by decide +kernel
theorem d_SF_write_63 : decode c_SF_write 63 = .ok (.invokevirtual 94, 3) := by decide +kernel
theorem d_SF_write_66 : decode c_SF_write 66 = .ok (.invokevirtual 97, 3) := by decide +kernel
theorem d_SF_write_69 : decode c_SF_write 69 = .ok (.ireturn, 1) := by decide +kernel
abbrev c_SF_takeTape : ByteArray := prog_1_method_17_code
abbrev y_SF_takeTape : MethodName := ⟨"StripeField", "takeTape", "()V"⟩
theorem d_SF_takeTape_0 : decode c_SF_takeTape 0 = .ok (.aload_n 0, 1) := by decide +kernel
theorem d_SF_takeTape_1 : decode c_SF_takeTape 1 = .ok (.getfield 43, 3) := by decide +kernel
theorem d_SF_takeTape_4 : decode c_SF_takeTape 4 = .ok (.iconst 0, 1) := by decide +kernel
theorem d_SF_takeTape_5 : decode c_SF_takeTape 5 = .ok (.aload_n 0, 1) := by decide +kernel
theorem d_SF_takeTape_6 : decode c_SF_takeTape 6 = .ok (.getfield 47, 3) := by decide +kernel
theorem d_SF_takeTape_9 : decode c_SF_takeTape 9 = .ok (.iconst 0, 1) := by decide +kernel
theorem d_SF_takeTape_10 : decode c_SF_takeTape 10 = .ok (.bipush 8, 2) := by decide +kernel
theorem d_SF_takeTape_12 : decode c_SF_takeTape 12 = .ok (.invokestatic 259, 3) := by decide +kernel
theorem d_SF_takeTape_15 : decode c_SF_takeTape 15 = .ok (.aload_n 0, 1) := by decide +kernel
theorem d_SF_takeTape_16 : decode c_SF_takeTape 16 = .ok (.getfield 43, 3) := by decide +kernel
theorem d_SF_takeTape_19 : decode c_SF_takeTape 19 = .ok (.lconst 0, 1) := by decide +kernel
theorem d_SF_takeTape_20 : decode c_SF_takeTape 20 = .ok (.invokestatic 103, 3) := by decide +kernel
theorem d_SF_takeTape_23 : decode c_SF_takeTape 23 = .ok (.aload_n 0, 1) := by decide +kernel
theorem d_SF_takeTape_24 : decode c_SF_takeTape 24 = .ok (.iconst 0, 1) := by decide +kernel
theorem d_SF_takeTape_25 : decode c_SF_takeTape 25 = .ok (.putfield 63, 3) := by decide +kernel
theorem d_SF_takeTape_28 : decode c_SF_takeTape 28 = .ok (.return_, 1) := by decide +kernel
abbrev c_SF_writeFresh : ByteArray := prog_1_method_18_code
abbrev y_SF_writeFresh : MethodName := ⟨"StripeField", "writeFresh", "(II)Z"⟩
theorem d_SF_writeFresh_0 : decode c_SF_writeFresh 0 = .ok (.aload_n 0, 1) := by decide +kernel
theorem d_SF_writeFresh_1 : decode c_SF_writeFresh 1 = .ok (.getfield 50, 3) := by decide +kernel
theorem d_SF_writeFresh_4 : decode c_SF_writeFresh 4 = .ok (.lconst 0, 1) := by decide +kernel
theorem d_SF_writeFresh_5 : decode c_SF_writeFresh 5 = .ok (.invokestatic 103, 3) := by decide +kernel
theorem d_SF_writeFresh_8 : decode c_SF_writeFresh 8 = .ok (.aload_n 0, 1) := by decide +kernel
theorem d_SF_writeFresh_9 : decode c_SF_writeFresh 9 = .ok (.iload_n 1, 1) := by decide +kernel
theorem d_SF_writeFresh_10 : decode c_SF_writeFresh 10 = .ok (.aload_n 0, 1) := by decide +kernel
theorem d_SF_writeFresh_11 : decode c_SF_writeFresh 11 = .ok (.getfield 12, 3) := by decide +kernel
theorem d_SF_writeFresh_14 : decode c_SF_writeFresh 14 = .ok (.getfield 265, 3) := by decide +kernel
theorem d_SF_writeFresh_17 : decode c_SF_writeFresh 17 = .ok (.invokevirtual 268, 3) := by decide +kernel
theorem d_SF_writeFresh_20 : decode c_SF_writeFresh 20 = .ok (.iconst (-1), 1) := by decide +kernel
theorem d_SF_writeFresh_21 : decode c_SF_writeFresh 21 = .ok (.if_icmp .ne 14, 3) := by decide +kernel
theorem d_SF_writeFresh_24 : decode c_SF_writeFresh 24 = .ok (.aload_n 0, 1) := by decide +kernel
theorem d_SF_writeFresh_25 : decode c_SF_writeFresh 25 = .ok (.iload_n 1, 1) := by decide +kernel
theorem d_SF_writeFresh_26 : decode c_SF_writeFresh 26 = .ok (.iload_n 2, 1) := by decide +kernel
theorem d_SF_writeFresh_27 : decode c_SF_writeFresh 27 = .ok (.aload_n 0, 1) := by decide +kernel
theorem d_SF_writeFresh_28 : decode c_SF_writeFresh 28 = .ok (.getfield 47, 3) := by decide +kernel
theorem d_SF_writeFresh_31 : decode c_SF_writeFresh 31 = .ok (.invokevirtual 216, 3) := by decide +kernel
theorem d_SF_writeFresh_34 : decode c_SF_writeFresh 34 = .ok (.ireturn, 1) := by decide +kernel
theorem d_SF_writeFresh_35 : decode c_SF_writeFresh 35 = .ok (.iconst 0, 1) := by decide +kernel
theorem d_SF_writeFresh_36 : decode c_SF_writeFresh 36 = .ok (.istore_n 3, 1) := by decide +kernel
theorem d_SF_writeFresh_37 : decode c_SF_writeFresh 37 = .ok (.iload_n 3, 1) := by decide +kernel
theorem d_SF_writeFresh_38 : decode c_SF_writeFresh 38 = .ok (.aload_n 0, 1) := by decide +kernel
theorem d_SF_writeFresh_39 : decode c_SF_writeFresh 39 = .ok (.getfield 12, 3) := by decide +kernel
theorem d_SF_writeFresh_42 : decode c_SF_writeFresh 42 = .ok (.getfield 265, 3) := by decide +kernel
theorem d_SF_writeFresh_45 : decode c_SF_writeFresh 45 = .ok (.if_icmp .ge 20, 3) := by decide +kernel
theorem d_SF_writeFresh_48 : decode c_SF_writeFresh 48 = .ok (.iload_n 3, 1) := by decide +kernel
theorem d_SF_writeFresh_49 : decode c_SF_writeFresh 49 = .ok (.iload_n 2, 1) := by decide +kernel
theorem d_SF_writeFresh_50 : decode c_SF_writeFresh 50 = .ok (.if_icmp .eq 9, 3) := by decide +kernel
theorem d_SF_writeFresh_53 : decode c_SF_writeFresh 53 = .ok (.aload_n 0, 1) := by decide +kernel
theorem d_SF_writeFresh_54 : decode c_SF_writeFresh 54 = .ok (.iload_n 1, 1) := by decide +kernel
theorem d_SF_writeFresh_55 : decode c_SF_writeFresh 55 = .ok (.iload_n 3, 1) := by decide +kernel
theorem d_SF_writeFresh_56 : decode c_SF_writeFresh 56 = .ok (.invokevirtual 109, 3) := by decide +kernel
theorem d_SF_writeFresh_59 : decode c_SF_writeFresh 59 = .ok (.iinc 3 1, 3) := by decide +kernel
theorem d_SF_writeFresh_62 : decode c_SF_writeFresh 62 = .ok (.goto (-25), 3) := by decide +kernel
theorem d_SF_writeFresh_65 : decode c_SF_writeFresh 65 = .ok (.aload_n 0, 1) := by decide +kernel
theorem d_SF_writeFresh_66 : decode c_SF_writeFresh 66 = .ok (.iload_n 1, 1) := by decide +kernel
theorem d_SF_writeFresh_67 : decode c_SF_writeFresh 67 = .ok (.iload_n 2, 1) := by decide +kernel
theorem d_SF_writeFresh_68 : decode c_SF_writeFresh 68 = .ok (.invokevirtual 268, 3) := by decide +kernel
theorem d_SF_writeFresh_71 : decode c_SF_writeFresh 71 = .ok (.iconst (-1), 1) := by decide +kernel
theorem d_SF_writeFresh_72 : decode c_SF_writeFresh 72 = .ok (.if_icmp .ne 24, 3) := by decide +kernel
theorem d_SF_writeFresh_75 : decode c_SF_writeFresh 75 = .ok (.aload_n 0, 1) := by decide +kernel
theorem d_SF_writeFresh_76 : decode c_SF_writeFresh 76 = .ok (.invokevirtual 271, 3) := by decide +kernel
theorem d_SF_writeFresh_79 : decode c_SF_writeFresh 79 = .ok (.aload_n 0, 1) := by decide +kernel
theorem d_SF_writeFresh_80 : decode c_SF_writeFresh 80 = .ok (.iload_n 1, 1) := by decide +kernel
theorem d_SF_writeFresh_81 : decode c_SF_writeFresh 81 = .ok (.aload_n 0, 1) := by decide +kernel
theorem d_SF_writeFresh_82 : decode c_SF_writeFresh 82 = .ok (.getfield 12, 3) := by decide +kernel
theorem d_SF_writeFresh_85 : decode c_SF_writeFresh 85 = .ok (.getfield 265, 3) := by decide +kernel
theorem d_SF_writeFresh_88 : decode c_SF_writeFresh 88 = .ok (.aload_n 0, 1) := by decide +kernel
theorem d_SF_writeFresh_89 : decode c_SF_writeFresh 89 = .ok (.getfield 50, 3) := by decide +kernel
theorem d_SF_writeFresh_92 : decode c_SF_writeFresh 92 = .ok (.invokevirtual 216, 3) := by decide +kernel
theorem d_SF_writeFresh_95 : decode c_SF_writeFresh 95 = .ok (.ireturn, 1) := by decide +kernel
theorem d_SF_writeFresh_96 : decode c_SF_writeFresh 96 = .ok (.aload_n 0, 1) := by decide +kernel
theorem d_SF_writeFresh_97 : decode c_SF_writeFresh 97 = .ok (.iload_n 1, 1) := by decide +kernel
theorem d_SF_writeFresh_98 : decode c_SF_writeFresh 98 = .ok (.iload_n 2, 1) := by decide +kernel
theorem d_SF_writeFresh_99 : decode c_SF_writeFresh 99 = .ok (.invokevirtual 274, 3) := by decide +kernel
theorem d_SF_writeFresh_102 : decode c_SF_writeFresh 102 = .ok (.ireturn, 1) := by decide +kernel
abbrev c_SF_placeOf : ByteArray := prog_1_method_23_code
abbrev y_SF_placeOf : MethodName := ⟨"StripeField", "placeOf", "(II)I"⟩
theorem d_SF_placeOf_0 : decode c_SF_placeOf 0 = .ok (.aload_n 0, 1) := by decide +kernel
theorem d_SF_placeOf_1 : decode c_SF_placeOf 1 = .ok (.getfield 32, 3) := by decide +kernel
theorem d_SF_placeOf_4 : decode c_SF_placeOf 4 = .ok (.getfield 197, 3) := by decide +kernel
theorem d_SF_placeOf_7 : decode c_SF_placeOf 7 = .ok (.aload_n 0, 1) := by decide +kernel
theorem d_SF_placeOf_8 : decode c_SF_placeOf 8 = .ok (.getfield 12, 3) := by decide +kernel
theorem d_SF_placeOf_11 : decode c_SF_placeOf 11 = .ok (.iload_n 1, 1) := by decide +kernel
theorem d_SF_placeOf_12 : decode c_SF_placeOf 12 = .ok (.iload_n 2, 1) := by decide +kernel
theorem d_SF_placeOf_13 : decode c_SF_placeOf 13 = .ok (.invokevirtual 287, 3) := by decide +kernel
theorem d_SF_placeOf_16 : decode c_SF_placeOf 16 = .ok (.iaload, 1) := by decide +kernel
theorem d_SF_placeOf_17 : decode c_SF_placeOf 17 = .ok (.ireturn, 1) := by decide +kernel
abbrev c_SF_putColumn : ByteArray := prog_1_method_25_code
abbrev y_SF_putColumn : MethodName := ⟨"StripeField", "putColumn", "(II[J)Z"⟩
theorem d_SF_putColumn_0 : decode c_SF_putColumn 0 = .ok (.aload_n 0, 1) := by decide +kernel
theorem d_SF_putColumn_1 : decode c_SF_putColumn 1 = .ok (.getfield 12, 3) := by decide +kernel
theorem d_SF_putColumn_4 : decode c_SF_putColumn 4 = .ok (.iload_n 1, 1) := by decide +kernel
theorem d_SF_putColumn_5 : decode c_SF_putColumn 5 = .ok (.iload_n 2, 1) := by decide +kernel
theorem d_SF_putColumn_6 : decode c_SF_putColumn 6 = .ok (.invokevirtual 287, 3) := by decide +kernel
theorem d_SF_putColumn_9 : decode c_SF_putColumn 9 = .ok (.istore 4, 2) := by decide +kernel
theorem d_SF_putColumn_11 : decode c_SF_putColumn 11 = .ok (.aload_n 0, 1) := by decide +kernel
theorem d_SF_putColumn_12 : decode c_SF_putColumn 12 = .ok (.aload_n 0, 1) := by decide +kernel
theorem d_SF_putColumn_13 : decode c_SF_putColumn 13 = .ok (.getfield 32, 3) := by decide +kernel
theorem d_SF_putColumn_16 : decode c_SF_putColumn 16 = .ok (.getfield 197, 3) := by decide +kernel
theorem d_SF_putColumn_19 : decode c_SF_putColumn 19 = .ok (.iload 4, 2) := by decide +kernel
theorem d_SF_putColumn_21 : decode c_SF_putColumn 21 = .ok (.iaload, 1) := by decide +kernel
theorem d_SF_putColumn_22 : decode c_SF_putColumn 22 = .ok (.aload_n 3, 1) := by decide +kernel
theorem d_SF_putColumn_23 : decode c_SF_putColumn 23 = .ok (.aload_n 0, 1) := by decide +kernel
theorem d_SF_putColumn_24 : decode c_SF_putColumn 24 = .ok (.getfield 12, 3) := by decide +kernel
theorem d_SF_putColumn_27 : decode c_SF_putColumn 27 = .ok (.iload 4, 2) := by decide +kernel
theorem d_SF_putColumn_29 : decode c_SF_putColumn 29 = .ok (.invokevirtual 297, 3) := by decide +kernel
theorem d_SF_putColumn_32 : decode c_SF_putColumn 32 = .ok (.invokevirtual 203, 3) := by decide +kernel
theorem d_SF_putColumn_35 : decode c_SF_putColumn 35 = .ok (.ireturn, 1) := by decide +kernel
abbrev c_SF_putCell : ByteArray := prog_1_method_24_code
abbrev y_SF_putCell : MethodName := ⟨"StripeField", "putCell", "(I[JI)Z"⟩
theorem d_SF_putCell_0 : decode c_SF_putCell 0 = .ok (.aload_n 0, 1) := by decide +kernel
theorem d_SF_putCell_1 : decode c_SF_putCell 1 = .ok (.getfield 39, 3) := by decide +kernel
theorem d_SF_putCell_4 : decode c_SF_putCell 4 = .ok (.invokevirtual 290, 3) := by decide +kernel
theorem d_SF_putCell_7 : decode c_SF_putCell 7 = .ok (.ifCond .ne 5, 3) := by decide +kernel
theorem d_SF_putCell_10 : decode c_SF_putCell 10 = .ok (.iconst 0, 1) := by decide +kernel
theorem d_SF_putCell_11 : decode c_SF_putCell 11 = .ok (.ireturn, 1) := by decide +kernel
theorem d_SF_putCell_12 : decode c_SF_putCell 12 = .ok (.aload_n 0, 1) := by decide +kernel
theorem d_SF_putCell_13 : decode c_SF_putCell 13 = .ok (.getfield 23, 3) := by decide +kernel
theorem d_SF_putCell_16 : decode c_SF_putCell 16 = .ok (.iload_n 1, 1) := by decide +kernel
theorem d_SF_putCell_17 : decode c_SF_putCell 17 = .ok (.aload_n 2, 1) := by decide +kernel
theorem d_SF_putCell_18 : decode c_SF_putCell 18 = .ok (.iload_n 3, 1) := by decide +kernel
theorem d_SF_putCell_19 : decode c_SF_putCell 19 = .ok (.invokevirtual 293, 3) := by decide +kernel
theorem d_SF_putCell_22 : decode c_SF_putCell 22 = .ok (.iconst 1, 1) := by decide +kernel
theorem d_SF_putCell_23 : decode c_SF_putCell 23 = .ok (.ireturn, 1) := by decide +kernel
abbrev c_SF_addRead : ByteArray := prog_1_method_21_code
abbrev y_SF_addRead : MethodName := ⟨"StripeField", "addRead", "(II)V"⟩
theorem d_SF_addRead_0 : decode c_SF_addRead 0 = .ok (.aload_n 0, 1) := by decide +kernel
theorem d_SF_addRead_1 : decode c_SF_addRead 1 = .ok (.iload_n 1, 1) := by decide +kernel
theorem d_SF_addRead_2 : decode c_SF_addRead 2 = .ok (.iload_n 2, 1) := by decide +kernel
theorem d_SF_addRead_3 : decode c_SF_addRead 3 = .ok (.invokevirtual 268, 3) := by decide +kernel
theorem d_SF_addRead_6 : decode c_SF_addRead 6 = .ok (.istore_n 3, 1) := by decide +kernel
theorem d_SF_addRead_7 : decode c_SF_addRead 7 = .ok (.aload_n 0, 1) := by decide +kernel
theorem d_SF_addRead_8 : decode c_SF_addRead 8 = .ok (.getfield 23, 3) := by decide +kernel
theorem d_SF_addRead_11 : decode c_SF_addRead 11 = .ok (.iload_n 3, 1) := by decide +kernel
theorem d_SF_addRead_12 : decode c_SF_addRead 12 = .ok (.invokevirtual 280, 3) := by decide +kernel
theorem d_SF_addRead_15 : decode c_SF_addRead 15 = .ok (.ifCond .eq 18, 3) := by decide +kernel
theorem d_SF_addRead_18 : decode c_SF_addRead 18 = .ok (.aload_n 0, 1) := by decide +kernel
theorem d_SF_addRead_19 : decode c_SF_addRead 19 = .ok (.getfield 23, 3) := by decide +kernel
theorem d_SF_addRead_22 : decode c_SF_addRead 22 = .ok (.aload_n 0, 1) := by decide +kernel
theorem d_SF_addRead_23 : decode c_SF_addRead 23 = .ok (.getfield 50, 3) := by decide +kernel
theorem d_SF_addRead_26 : decode c_SF_addRead 26 = .ok (.iload_n 3, 1) := by decide +kernel
theorem d_SF_addRead_27 : decode c_SF_addRead 27 = .ok (.invokevirtual 283, 3) := by decide +kernel
theorem d_SF_addRead_30 : decode c_SF_addRead 30 = .ok (.goto 9, 3) := by decide +kernel
theorem d_SF_addRead_33 : decode c_SF_addRead 33 = .ok (.aload_n 0, 1) := by decide +kernel
theorem d_SF_addRead_34 : decode c_SF_addRead 34 = .ok (.iload_n 1, 1) := by decide +kernel
theorem d_SF_addRead_35 : decode c_SF_addRead 35 = .ok (.iload_n 2, 1) := by decide +kernel
theorem d_SF_addRead_36 : decode c_SF_addRead 36 = .ok (.invokevirtual 213, 3) := by decide +kernel
theorem d_SF_addRead_39 : decode c_SF_addRead 39 = .ok (.return_, 1) := by decide +kernel
abbrev c_SF_addOthers : ByteArray := prog_1_method_22_code
abbrev y_SF_addOthers : MethodName := ⟨"StripeField", "addOthers", "(II)V"⟩
theorem d_SF_addOthers_0 : decode c_SF_addOthers 0 = .ok (.iconst 0, 1) := by decide +kernel
theorem d_SF_addOthers_1 : decode c_SF_addOthers 1 = .ok (.istore_n 3, 1) := by decide +kernel
theorem d_SF_addOthers_2 : decode c_SF_addOthers 2 = .ok (.iload_n 3, 1) := by decide +kernel
theorem d_SF_addOthers_3 : decode c_SF_addOthers 3 = .ok (.aload_n 0, 1) := by decide +kernel
theorem d_SF_addOthers_4 : decode c_SF_addOthers 4 = .ok (.getfield 12, 3) := by decide +kernel
theorem d_SF_addOthers_7 : decode c_SF_addOthers 7 = .ok (.getfield 238, 3) := by decide +kernel
theorem d_SF_addOthers_10 : decode c_SF_addOthers 10 = .ok (.if_icmp .ge 41, 3) := by decide +kernel
theorem d_SF_addOthers_13 : decode c_SF_addOthers 13 = .ok (.aload_n 0, 1) := by decide +kernel
theorem d_SF_addOthers_14 : decode c_SF_addOthers 14 = .ok (.iload_n 1, 1) := by decide +kernel
theorem d_SF_addOthers_15 : decode c_SF_addOthers 15 = .ok (.iload_n 3, 1) := by decide +kernel
theorem d_SF_addOthers_16 : decode c_SF_addOthers 16 = .ok (.invokevirtual 268, 3) := by decide +kernel
theorem d_SF_addOthers_19 : decode c_SF_addOthers 19 = .ok (.istore 4, 2) := by decide +kernel
theorem d_SF_addOthers_21 : decode c_SF_addOthers 21 = .ok (.iload_n 3, 1) := by decide +kernel
theorem d_SF_addOthers_22 : decode c_SF_addOthers 22 = .ok (.iload_n 2, 1) := by decide +kernel
theorem d_SF_addOthers_23 : decode c_SF_addOthers 23 = .ok (.if_icmp .eq 22, 3) := by decide +kernel
theorem d_SF_addOthers_26 : decode c_SF_addOthers 26 = .ok (.iload 4, 2) := by decide +kernel
theorem d_SF_addOthers_28 : decode c_SF_addOthers 28 = .ok (.iconst (-1), 1) := by decide +kernel
theorem d_SF_addOthers_29 : decode c_SF_addOthers 29 = .ok (.if_icmp .eq 16, 3) := by decide +kernel
theorem d_SF_addOthers_32 : decode c_SF_addOthers 32 = .ok (.aload_n 0, 1) := by decide +kernel
theorem d_SF_addOthers_33 : decode c_SF_addOthers 33 = .ok (.getfield 23, 3) := by decide +kernel
theorem d_SF_addOthers_36 : decode c_SF_addOthers 36 = .ok (.aload_n 0, 1) := by decide +kernel
theorem d_SF_addOthers_37 : decode c_SF_addOthers 37 = .ok (.getfield 50, 3) := by decide +kernel
theorem d_SF_addOthers_40 : decode c_SF_addOthers 40 = .ok (.iload 4, 2) := by decide +kernel
theorem d_SF_addOthers_42 : decode c_SF_addOthers 42 = .ok (.invokevirtual 283, 3) := by decide +kernel
theorem d_SF_addOthers_45 : decode c_SF_addOthers 45 = .ok (.iinc 3 1, 3) := by decide +kernel
theorem d_SF_addOthers_48 : decode c_SF_addOthers 48 = .ok (.goto (-46), 3) := by decide +kernel
theorem d_SF_addOthers_51 : decode c_SF_addOthers 51 = .ok (.return_, 1) := by decide +kernel
abbrev c_SF_addFresh : ByteArray := prog_1_method_20_code
abbrev y_SF_addFresh : MethodName := ⟨"StripeField", "addFresh", "()V"⟩
theorem d_SF_addFresh_0 : decode c_SF_addFresh 0 = .ok (.iconst 0, 1) := by decide +kernel
theorem d_SF_addFresh_1 : decode c_SF_addFresh 1 = .ok (.istore_n 1, 1) := by decide +kernel
theorem d_SF_addFresh_2 : decode c_SF_addFresh 2 = .ok (.iload_n 1, 1) := by decide +kernel
theorem d_SF_addFresh_3 : decode c_SF_addFresh 3 = .ok (.bipush 8, 2) := by decide +kernel
theorem d_SF_addFresh_5 : decode c_SF_addFresh 5 = .ok (.if_icmp .ge 24, 3) := by decide +kernel
theorem d_SF_addFresh_8 : decode c_SF_addFresh 8 = .ok (.aload_n 0, 1) := by decide +kernel
theorem d_SF_addFresh_9 : decode c_SF_addFresh 9 = .ok (.getfield 50, 3) := by decide +kernel
theorem d_SF_addFresh_12 : decode c_SF_addFresh 12 = .ok (.iload_n 1, 1) := by decide +kernel
theorem d_SF_addFresh_13 : decode c_SF_addFresh 13 = .ok (.dup2, 1) := by decide +kernel
theorem d_SF_addFresh_14 : decode c_SF_addFresh 14 = .ok (.laload, 1) := by decide +kernel
theorem d_SF_addFresh_15 : decode c_SF_addFresh 15 = .ok (.aload_n 0, 1) := by decide +kernel
theorem d_SF_addFresh_16 : decode c_SF_addFresh 16 = .ok (.getfield 47, 3) := by decide +kernel
theorem d_SF_addFresh_19 : decode c_SF_addFresh 19 = .ok (.iload_n 1, 1) := by decide +kernel
theorem d_SF_addFresh_20 : decode c_SF_addFresh 20 = .ok (.laload, 1) := by decide +kernel
theorem d_SF_addFresh_21 : decode c_SF_addFresh 21 = .ok (.lxor, 1) := by decide +kernel
theorem d_SF_addFresh_22 : decode c_SF_addFresh 22 = .ok (.lastore, 1) := by decide +kernel
theorem d_SF_addFresh_23 : decode c_SF_addFresh 23 = .ok (.iinc 1 1, 3) := by decide +kernel
theorem d_SF_addFresh_26 : decode c_SF_addFresh 26 = .ok (.goto (-24), 3) := by decide +kernel
theorem d_SF_addFresh_29 : decode c_SF_addFresh 29 = .ok (.return_, 1) := by decide +kernel
abbrev c_SF_writeLogged : ByteArray := prog_1_method_19_code
abbrev y_SF_writeLogged : MethodName := ⟨"StripeField", "writeLogged", "(II)Z"⟩
theorem d_SF_writeLogged_0 : decode c_SF_writeLogged 0 = .ok (.aload_n 0, 1) := by decide +kernel
theorem d_SF_writeLogged_1 : decode c_SF_writeLogged 1 = .ok (.getfield 12, 3) := by decide +kernel
theorem d_SF_writeLogged_4 : decode c_SF_writeLogged 4 = .ok (.aload_n 0, 1) := by decide +kernel
theorem d_SF_writeLogged_5 : decode c_SF_writeLogged 5 = .ok (.getfield 12, 3) := by decide +kernel
theorem d_SF_writeLogged_8 : decode c_SF_writeLogged 8 = .ok (.aload_n 0, 1) := by decide +kernel
theorem d_SF_writeLogged_9 : decode c_SF_writeLogged 9 = .ok (.iload_n 1, 1) := by decide +kernel
theorem d_SF_writeLogged_10 : decode c_SF_writeLogged 10 = .ok (.aload_n 0, 1) := by decide +kernel
theorem d_SF_writeLogged_11 : decode c_SF_writeLogged 11 = .ok (.getfield 12, 3) := by decide +kernel
theorem d_SF_writeLogged_14 : decode c_SF_writeLogged 14 = .ok (.getfield 265, 3) := by decide +kernel
theorem d_SF_writeLogged_17 : decode c_SF_writeLogged 17 = .ok (.invokevirtual 268, 3) := by decide +kernel
theorem d_SF_writeLogged_20 : decode c_SF_writeLogged 20 = .ok (.invokevirtual 256, 3) := by decide +kernel
theorem d_SF_writeLogged_23 : decode c_SF_writeLogged 23 = .ok (.invokevirtual 277, 3) := by decide +kernel
theorem d_SF_writeLogged_26 : decode c_SF_writeLogged 26 = .ok (.istore_n 3, 1) := by decide +kernel
theorem d_SF_writeLogged_27 : decode c_SF_writeLogged 27 = .ok (.aload_n 0, 1) := by decide +kernel
theorem d_SF_writeLogged_28 : decode c_SF_writeLogged 28 = .ok (.iload_n 3, 1) := by decide +kernel
theorem d_SF_writeLogged_29 : decode c_SF_writeLogged 29 = .ok (.aload_n 0, 1) := by decide +kernel
theorem d_SF_writeLogged_30 : decode c_SF_writeLogged 30 = .ok (.getfield 50, 3) := by decide +kernel
theorem d_SF_writeLogged_33 : decode c_SF_writeLogged 33 = .ok (.iconst 1, 1) := by decide +kernel
theorem d_SF_writeLogged_34 : decode c_SF_writeLogged 34 = .ok (.bipush 8, 2) := by decide +kernel
theorem d_SF_writeLogged_36 : decode c_SF_writeLogged 36 = .ok (.iload_n 1, 1) := by decide +kernel
theorem d_SF_writeLogged_37 : decode c_SF_writeLogged 37 = .ok (.imul, 1) := by decide +kernel
theorem d_SF_writeLogged_38 : decode c_SF_writeLogged 38 = .ok (.iadd, 1) := by decide +kernel
theorem d_SF_writeLogged_39 : decode c_SF_writeLogged 39 = .ok (.iload_n 2, 1) := by decide +kernel
theorem d_SF_writeLogged_40 : decode c_SF_writeLogged 40 = .ok (.iadd, 1) := by decide +kernel
theorem d_SF_writeLogged_41 : decode c_SF_writeLogged 41 = .ok (.invokevirtual 203, 3) := by decide +kernel
theorem d_SF_writeLogged_44 : decode c_SF_writeLogged 44 = .ok (.ifCond .ne 5, 3) := by decide +kernel
theorem d_SF_writeLogged_47 : decode c_SF_writeLogged 47 = .ok (.iconst 0, 1) := by decide +kernel
theorem d_SF_writeLogged_48 : decode c_SF_writeLogged 48 = .ok (.ireturn, 1) := by decide +kernel
theorem d_SF_writeLogged_49 : decode c_SF_writeLogged 49 = .ok (.aload_n 0, 1) := by decide +kernel
theorem d_SF_writeLogged_50 : decode c_SF_writeLogged 50 = .ok (.iload_n 1, 1) := by decide +kernel
theorem d_SF_writeLogged_51 : decode c_SF_writeLogged 51 = .ok (.iload_n 2, 1) := by decide +kernel
theorem d_SF_writeLogged_52 : decode c_SF_writeLogged 52 = .ok (.aload_n 0, 1) := by decide +kernel
theorem d_SF_writeLogged_53 : decode c_SF_writeLogged 53 = .ok (.getfield 47, 3) := by decide +kernel
theorem d_SF_writeLogged_56 : decode c_SF_writeLogged 56 = .ok (.invokevirtual 216, 3) := by decide +kernel
theorem d_SF_writeLogged_59 : decode c_SF_writeLogged 59 = .ok (.ifCond .ne 5, 3) := by decide +kernel
theorem d_SF_writeLogged_62 : decode c_SF_writeLogged 62 = .ok (.iconst 0, 1) := by decide +kernel
theorem d_SF_writeLogged_63 : decode c_SF_writeLogged 63 = .ok (.ireturn, 1) := by decide +kernel
theorem d_SF_writeLogged_64 : decode c_SF_writeLogged 64 = .ok (.aload_n 0, 1) := by decide +kernel
theorem d_SF_writeLogged_65 : decode c_SF_writeLogged 65 = .ok (.invokevirtual 271, 3) := by decide +kernel
theorem d_SF_writeLogged_68 : decode c_SF_writeLogged 68 = .ok (.aload_n 0, 1) := by decide +kernel
theorem d_SF_writeLogged_69 : decode c_SF_writeLogged 69 = .ok (.iload_n 1, 1) := by decide +kernel
theorem d_SF_writeLogged_70 : decode c_SF_writeLogged 70 = .ok (.aload_n 0, 1) := by decide +kernel
theorem d_SF_writeLogged_71 : decode c_SF_writeLogged 71 = .ok (.getfield 12, 3) := by decide +kernel
theorem d_SF_writeLogged_74 : decode c_SF_writeLogged 74 = .ok (.getfield 265, 3) := by decide +kernel
theorem d_SF_writeLogged_77 : decode c_SF_writeLogged 77 = .ok (.aload_n 0, 1) := by decide +kernel
theorem d_SF_writeLogged_78 : decode c_SF_writeLogged 78 = .ok (.getfield 50, 3) := by decide +kernel
theorem d_SF_writeLogged_81 : decode c_SF_writeLogged 81 = .ok (.invokevirtual 216, 3) := by decide +kernel
theorem d_SF_writeLogged_84 : decode c_SF_writeLogged 84 = .ok (.ifCond .eq 20, 3) := by decide +kernel
theorem d_SF_writeLogged_87 : decode c_SF_writeLogged 87 = .ok (.aload_n 0, 1) := by decide +kernel
theorem d_SF_writeLogged_88 : decode c_SF_writeLogged 88 = .ok (.iload_n 3, 1) := by decide +kernel
theorem d_SF_writeLogged_89 : decode c_SF_writeLogged 89 = .ok (.aload_n 0, 1) := by decide +kernel
theorem d_SF_writeLogged_90 : decode c_SF_writeLogged 90 = .ok (.getfield 53, 3) := by decide +kernel
theorem d_SF_writeLogged_93 : decode c_SF_writeLogged 93 = .ok (.iconst 0, 1) := by decide +kernel
theorem d_SF_writeLogged_94 : decode c_SF_writeLogged 94 = .ok (.invokevirtual 203, 3) := by decide +kernel
theorem d_SF_writeLogged_97 : decode c_SF_writeLogged 97 = .ok (.ifCond .eq 7, 3) := by decide +kernel
theorem d_SF_writeLogged_100 : decode c_SF_writeLogged 100 = .ok (.iconst 1, 1) := by decide +kernel
theorem d_SF_writeLogged_101 : decode c_SF_writeLogged 101 = .ok (.goto 4, 3) := by decide +kernel
theorem d_SF_writeLogged_104 : decode c_SF_writeLogged 104 = .ok (.iconst 0, 1) := by decide +kernel
theorem d_SF_writeLogged_105 : decode c_SF_writeLogged 105 = .ok (.ireturn, 1) := by decide +kernel
abbrev c_SF_read : ByteArray := prog_1_method_4_code
abbrev y_SF_read : MethodName := ⟨"StripeField", "read", "(II)J"⟩
theorem d_SF_read_0 : decode c_SF_read 0 = .ok (.iload_n 1, 1) := by decide +kernel
theorem d_SF_read_1 : decode c_SF_read 1 = .ok (.ifCond .lt 14, 3) := by decide +kernel
theorem d_SF_read_4 : decode c_SF_read 4 = .ok (.iload_n 1, 1) := by decide +kernel
theorem d_SF_read_5 : decode c_SF_read 5 = .ok (.aload_n 0, 1) := by decide +kernel
theorem d_SF_read_6 : decode c_SF_read 6 = .ok (.getfield 12, 3) := by decide +kernel
theorem d_SF_read_9 : decode c_SF_read 9 = .ok (.getfield 76, 3) := by decide +kernel
theorem d_SF_read_12 : decode c_SF_read 12 = .ok (.if_icmp .lt 13, 3) := by decide +kernel
theorem d_SF_read_15 : decode c_SF_read 15 = .ok (.new 56, 3) := by decide +kernel
theorem d_SF_read_18 : decode c_SF_read 18 = .ok (.dup, 1) := by decide +kernel
theorem d_SF_read_19 : decode c_SF_read 19 = .ok (.ldc 79, 2) := by decide +kernel
theorem d_SF_read_21 : decode c_SF_read 21 = .ok (.invokespecial 60, 3) := by decide +kernel
theorem d_SF_read_24 : decode c_SF_read 24 = .ok (.athrow, 1) := by decide +kernel
theorem d_SF_read_25 : decode c_SF_read 25 = .ok (.iload_n 2, 1) := by decide +kernel
theorem d_SF_read_26 : decode c_SF_read 26 = .ok (.ifCond .lt 9, 3) := by decide +kernel
theorem d_SF_read_29 : decode c_SF_read 29 = .ok (.iload_n 2, 1) := by decide +kernel
theorem d_SF_read_30 : decode c_SF_read 30 = .ok (.bipush 8, 2) := by decide +kernel
theorem d_SF_read_32 : decode c_SF_read 32 = .ok (.if_icmp .lt 13, 3) := by decide +kernel
theorem d_SF_read_35 : decode c_SF_read 35 = .ok (.new 56, 3) := by decide +kernel
theorem d_SF_read_38 : decode c_SF_read 38 = .ok (.dup, 1) := by decide +kernel
theorem d_SF_read_39 : decode c_SF_read 39 = .ok (.ldc 101, 2) := by decide +kernel
theorem d_SF_read_41 : decode c_SF_read 41 = .ok (.invokespecial 60, 3) := by decide +kernel
theorem d_SF_read_44 : decode c_SF_read 44 = .ok (.athrow, 1) := by decide +kernel
theorem d_SF_read_45 : decode c_SF_read 45 = .ok (.aload_n 0, 1) := by decide +kernel
theorem d_SF_read_46 : decode c_SF_read 46 = .ok (.getfield 39, 3) := by decide +kernel
theorem d_SF_read_49 : decode c_SF_read 49 = .ok (.getfield 81, 3) := by decide +kernel
theorem d_SF_read_52 : decode c_SF_read 52 = .ok (.ifCond .ne 13, 3) := by decide +kernel
theorem d_SF_read_55 : decode c_SF_read 55 = .ok (.new 67, 3) := by decide +kernel
theorem d_SF_read_58 : decode c_SF_read 58 = .ok (.dup, 1) := by decide +kernel
theorem d_SF_read_59 : decode c_SF_read 59 = .ok (.ldc 85, 2) := by decide +kernel
theorem d_SF_read_61 : decode c_SF_read 61 = .ok (.invokespecial 71, 3) := by decide +kernel
theorem d_SF_read_64 : decode c_SF_read 64 = .ok (.athrow, 1) := by decide +kernel
theorem d_SF_read_65 : decode c_SF_read 65 = .ok (.aload_n 0, 1) := by decide +kernel
theorem d_SF_read_66 : decode c_SF_read 66 = .ok (.getfield 50, 3) := by decide +kernel
theorem d_SF_read_69 : decode c_SF_read 69 = .ok (.lconst 0, 1) := by decide +kernel
theorem d_SF_read_70 : decode c_SF_read 70 = .ok (.invokestatic 103, 3) := by decide +kernel
theorem d_SF_read_73 : decode c_SF_read 73 = .ok (.aload_n 0, 1) := by decide +kernel
theorem d_SF_read_74 : decode c_SF_read 74 = .ok (.aload_n 0, 1) := by decide +kernel
theorem d_SF_read_75 : decode c_SF_read 75 = .ok (.getfield 12, 3) := by decide +kernel
theorem d_SF_read_78 : decode c_SF_read 78 = .ok (.iload_n 1, 1) := by decide +kernel
theorem d_SF_read_79 : decode c_SF_read 79 = .ok (.invokevirtual 90, 3) := by decide +kernel
theorem d_SF_read_82 : decode c_SF_read 82 = .ok (.aload_n 0, 1) := by decide +kernel
theorem d_SF_read_83 : decode c_SF_read 83 = .ok (.getfield 12, 3) := by decide +kernel
theorem d_SF_read_86 : decode c_SF_read 86 = .ok (.iload_n 1, 1) := by decide +kernel
theorem d_SF_read_87 : decode c_SF_read 87 = .ok (.invokevirtual 94, 3) := by decide +kernel
theorem d_SF_read_90 : decode c_SF_read 90 = .ok (.invokevirtual 109, 3) := by decide +kernel
theorem d_SF_read_93 : decode c_SF_read 93 = .ok (.aload_n 0, 1) := by decide +kernel
theorem d_SF_read_94 : decode c_SF_read 94 = .ok (.getfield 50, 3) := by decide +kernel
theorem d_SF_read_97 : decode c_SF_read 97 = .ok (.iload_n 2, 1) := by decide +kernel
theorem d_SF_read_98 : decode c_SF_read 98 = .ok (.laload, 1) := by decide +kernel
theorem d_SF_read_99 : decode c_SF_read 99 = .ok (.lreturn, 1) := by decide +kernel
abbrev c_SF_lose : ByteArray := prog_1_method_5_code
abbrev y_SF_lose : MethodName := ⟨"StripeField", "lose", "(I)V"⟩
theorem d_SF_lose_0 : decode c_SF_lose 0 = .ok (.iload_n 1, 1) := by decide +kernel
theorem d_SF_lose_1 : decode c_SF_lose 1 = .ok (.ifCond .ge 13, 3) := by decide +kernel
theorem d_SF_lose_4 : decode c_SF_lose 4 = .ok (.new 56, 3) := by decide +kernel
theorem d_SF_lose_7 : decode c_SF_lose 7 = .ok (.dup, 1) := by decide +kernel
theorem d_SF_lose_8 : decode c_SF_lose 8 = .ok (.ldc 113, 2) := by decide +kernel
theorem d_SF_lose_10 : decode c_SF_lose 10 = .ok (.invokespecial 60, 3) := by decide +kernel
theorem d_SF_lose_13 : decode c_SF_lose 13 = .ok (.athrow, 1) := by decide +kernel
theorem d_SF_lose_14 : decode c_SF_lose 14 = .ok (.aload_n 0, 1) := by decide +kernel
theorem d_SF_lose_15 : decode c_SF_lose 15 = .ok (.getfield 39, 3) := by decide +kernel
theorem d_SF_lose_18 : decode c_SF_lose 18 = .ok (.iload_n 1, 1) := by decide +kernel
theorem d_SF_lose_19 : decode c_SF_lose 19 = .ok (.putfield 115, 3) := by decide +kernel
theorem d_SF_lose_22 : decode c_SF_lose 22 = .ok (.return_, 1) := by decide +kernel
abbrev c_SF_off : ByteArray := prog_1_method_6_code
abbrev y_SF_off : MethodName := ⟨"StripeField", "off", "()V"⟩
theorem d_SF_off_0 : decode c_SF_off 0 = .ok (.aload_n 0, 1) := by decide +kernel
theorem d_SF_off_1 : decode c_SF_off 1 = .ok (.getfield 39, 3) := by decide +kernel
theorem d_SF_off_4 : decode c_SF_off 4 = .ok (.getfield 81, 3) := by decide +kernel
theorem d_SF_off_7 : decode c_SF_off 7 = .ok (.ifCond .ne 13, 3) := by decide +kernel
theorem d_SF_off_10 : decode c_SF_off 10 = .ok (.new 67, 3) := by decide +kernel
theorem d_SF_off_13 : decode c_SF_off 13 = .ok (.dup, 1) := by decide +kernel
theorem d_SF_off_14 : decode c_SF_off 14 = .ok (.ldc 85, 2) := by decide +kernel
theorem d_SF_off_16 : decode c_SF_off 16 = .ok (.invokespecial 71, 3) := by decide +kernel
theorem d_SF_off_19 : decode c_SF_off 19 = .ok (.athrow, 1) := by decide +kernel
theorem d_SF_off_20 : decode c_SF_off 20 = .ok (.aload_n 0, 1) := by decide +kernel
theorem d_SF_off_21 : decode c_SF_off 21 = .ok (.getfield 39, 3) := by decide +kernel
theorem d_SF_off_24 : decode c_SF_off 24 = .ok (.invokevirtual 118, 3) := by decide +kernel
theorem d_SF_off_27 : decode c_SF_off 27 = .ok (.return_, 1) := by decide +kernel
abbrev c_SF_open : ByteArray := prog_1_method_7_code
abbrev y_SF_open : MethodName := ⟨"StripeField", "open", "()Z"⟩
theorem d_SF_open_0 : decode c_SF_open 0 = .ok (.aload_n 0, 1) := by decide +kernel
theorem d_SF_open_1 : decode c_SF_open 1 = .ok (.getfield 39, 3) := by decide +kernel
theorem d_SF_open_4 : decode c_SF_open 4 = .ok (.getfield 81, 3) := by decide +kernel
theorem d_SF_open_7 : decode c_SF_open 7 = .ok (.ifCond .eq 13, 3) := by decide +kernel
theorem d_SF_open_10 : decode c_SF_open 10 = .ok (.new 67, 3) := by decide +kernel
theorem d_SF_open_13 : decode c_SF_open 13 = .ok (.dup, 1) := by decide +kernel
theorem d_SF_open_14 : decode c_SF_open 14 = .ok (.ldc 121, 2) := by decide +kernel
theorem d_SF_open_16 : decode c_SF_open 16 = .ok (.invokespecial 71, 3) := by decide +kernel
theorem d_SF_open_19 : decode c_SF_open 19 = .ok (.athrow, 1) := by decide +kernel
theorem d_SF_open_20 : decode c_SF_open 20 = .ok (.aload_n 0, 1) := by decide +kernel
theorem d_SF_open_21 : decode c_SF_open 21 = .ok (.getfield 39, 3) := by decide +kernel
theorem d_SF_open_24 : decode c_SF_open 24 = .ok (.iconst 1, 1) := by decide +kernel
theorem d_SF_open_25 : decode c_SF_open 25 = .ok (.putfield 81, 3) := by decide +kernel
theorem d_SF_open_28 : decode c_SF_open 28 = .ok (.aload_n 0, 1) := by decide +kernel
theorem d_SF_open_29 : decode c_SF_open 29 = .ok (.iconst 0, 1) := by decide +kernel
theorem d_SF_open_30 : decode c_SF_open 30 = .ok (.putfield 123, 3) := by decide +kernel
theorem d_SF_open_33 : decode c_SF_open 33 = .ok (.aload_n 0, 1) := by decide +kernel
theorem d_SF_open_34 : decode c_SF_open 34 = .ok (.getfield 32, 3) := by decide +kernel
theorem d_SF_open_37 : decode c_SF_open 37 = .ok (.invokevirtual 126, 3) := by decide +kernel
theorem d_SF_open_40 : decode c_SF_open 40 = .ok (.aload_n 0, 1) := by decide +kernel
theorem d_SF_open_41 : decode c_SF_open 41 = .ok (.invokevirtual 129, 3) := by decide +kernel
theorem d_SF_open_44 : decode c_SF_open 44 = .ok (.ifCond .eq 14, 3) := by decide +kernel
theorem d_SF_open_47 : decode c_SF_open 47 = .ok (.aload_n 0, 1) := by decide +kernel
theorem d_SF_open_48 : decode c_SF_open 48 = .ok (.invokevirtual 133, 3) := by decide +kernel
theorem d_SF_open_51 : decode c_SF_open 51 = .ok (.ifCond .eq 7, 3) := by decide +kernel
theorem d_SF_open_54 : decode c_SF_open 54 = .ok (.iconst 1, 1) := by decide +kernel
theorem d_SF_open_55 : decode c_SF_open 55 = .ok (.goto 4, 3) := by decide +kernel
theorem d_SF_open_58 : decode c_SF_open 58 = .ok (.iconst 0, 1) := by decide +kernel
theorem d_SF_open_59 : decode c_SF_open 59 = .ok (.ireturn, 1) := by decide +kernel
abbrev c_SF_replayLogs : ByteArray := prog_1_method_27_code
abbrev y_SF_replayLogs : MethodName := ⟨"StripeField", "replayLogs", "()Z"⟩
theorem d_SF_replayLogs_0 : decode c_SF_replayLogs 0 = .ok (.iconst 0, 1) := by decide +kernel
theorem d_SF_replayLogs_1 : decode c_SF_replayLogs 1 = .ok (.istore_n 1, 1) := by decide +kernel
theorem d_SF_replayLogs_2 : decode c_SF_replayLogs 2 = .ok (.iload_n 1, 1) := by decide +kernel
theorem d_SF_replayLogs_3 : decode c_SF_replayLogs 3 = .ok (.aload_n 0, 1) := by decide +kernel
theorem d_SF_replayLogs_4 : decode c_SF_replayLogs 4 = .ok (.getfield 12, 3) := by decide +kernel
theorem d_SF_replayLogs_7 : decode c_SF_replayLogs 7 = .ok (.getfield 136, 3) := by decide +kernel
theorem d_SF_replayLogs_10 : decode c_SF_replayLogs 10 = .ok (.if_icmp .ge 60, 3) := by decide +kernel
theorem d_SF_replayLogs_13 : decode c_SF_replayLogs 13 = .ok (.aload_n 0, 1) := by decide +kernel
theorem d_SF_replayLogs_14 : decode c_SF_replayLogs 14 = .ok (.getfield 12, 3) := by decide +kernel
theorem d_SF_replayLogs_17 : decode c_SF_replayLogs 17 = .ok (.iload_n 1, 1) := by decide +kernel
theorem d_SF_replayLogs_18 : decode c_SF_replayLogs 18 = .ok (.invokevirtual 277, 3) := by decide +kernel
theorem d_SF_replayLogs_21 : decode c_SF_replayLogs 21 = .ok (.istore_n 2, 1) := by decide +kernel
theorem d_SF_replayLogs_22 : decode c_SF_replayLogs 22 = .ok (.aload_n 0, 1) := by decide +kernel
theorem d_SF_replayLogs_23 : decode c_SF_replayLogs 23 = .ok (.getfield 23, 3) := by decide +kernel
theorem d_SF_replayLogs_26 : decode c_SF_replayLogs 26 = .ok (.iload_n 2, 1) := by decide +kernel
theorem d_SF_replayLogs_27 : decode c_SF_replayLogs 27 = .ok (.invokevirtual 280, 3) := by decide +kernel
theorem d_SF_replayLogs_30 : decode c_SF_replayLogs 30 = .ok (.ifCond .eq 14, 3) := by decide +kernel
theorem d_SF_replayLogs_33 : decode c_SF_replayLogs 33 = .ok (.aload_n 0, 1) := by decide +kernel
theorem d_SF_replayLogs_34 : decode c_SF_replayLogs 34 = .ok (.getfield 23, 3) := by decide +kernel
theorem d_SF_replayLogs_37 : decode c_SF_replayLogs 37 = .ok (.iload_n 2, 1) := by decide +kernel
theorem d_SF_replayLogs_38 : decode c_SF_replayLogs 38 = .ok (.invokevirtual 309, 3) := by decide +kernel
theorem d_SF_replayLogs_41 : decode c_SF_replayLogs 41 = .ok (.goto 4, 3) := by decide +kernel
theorem d_SF_replayLogs_44 : decode c_SF_replayLogs 44 = .ok (.iconst 0, 1) := by decide +kernel
theorem d_SF_replayLogs_45 : decode c_SF_replayLogs 45 = .ok (.istore_n 3, 1) := by decide +kernel
theorem d_SF_replayLogs_46 : decode c_SF_replayLogs 46 = .ok (.iload_n 3, 1) := by decide +kernel
theorem d_SF_replayLogs_47 : decode c_SF_replayLogs 47 = .ok (.ifCond .le 17, 3) := by decide +kernel
theorem d_SF_replayLogs_50 : decode c_SF_replayLogs 50 = .ok (.aload_n 0, 1) := by decide +kernel
theorem d_SF_replayLogs_51 : decode c_SF_replayLogs 51 = .ok (.iload_n 1, 1) := by decide +kernel
theorem d_SF_replayLogs_52 : decode c_SF_replayLogs 52 = .ok (.iload_n 2, 1) := by decide +kernel
theorem d_SF_replayLogs_53 : decode c_SF_replayLogs 53 = .ok (.iload_n 3, 1) := by decide +kernel
theorem d_SF_replayLogs_54 : decode c_SF_replayLogs 54 = .ok (.iconst 1, 1) := by decide +kernel
theorem d_SF_replayLogs_55 : decode c_SF_replayLogs 55 = .ok (.isub, 1) := by decide +kernel
theorem d_SF_replayLogs_56 : decode c_SF_replayLogs 56 = .ok (.invokevirtual 312, 3) := by decide +kernel
theorem d_SF_replayLogs_59 : decode c_SF_replayLogs 59 = .ok (.ifCond .ne 5, 3) := by decide +kernel
theorem d_SF_replayLogs_62 : decode c_SF_replayLogs 62 = .ok (.iconst 0, 1) := by decide +kernel
theorem d_SF_replayLogs_63 : decode c_SF_replayLogs 63 = .ok (.ireturn, 1) := by decide +kernel
theorem d_SF_replayLogs_64 : decode c_SF_replayLogs 64 = .ok (.iinc 1 1, 3) := by decide +kernel
theorem d_SF_replayLogs_67 : decode c_SF_replayLogs 67 = .ok (.goto (-65), 3) := by decide +kernel
theorem d_SF_replayLogs_70 : decode c_SF_replayLogs 70 = .ok (.iconst 1, 1) := by decide +kernel
theorem d_SF_replayLogs_71 : decode c_SF_replayLogs 71 = .ok (.ireturn, 1) := by decide +kernel
abbrev c_SF_replayLog : ByteArray := prog_1_method_28_code
abbrev y_SF_replayLog : MethodName := ⟨"StripeField", "replayLog", "(III)Z"⟩
theorem d_SF_replayLog_0 : decode c_SF_replayLog 0 = .ok (.iload_n 3, 1) := by decide +kernel
theorem d_SF_replayLog_1 : decode c_SF_replayLog 1 = .ok (.bipush 8, 2) := by decide +kernel
theorem d_SF_replayLog_3 : decode c_SF_replayLog 3 = .ok (.idiv, 1) := by decide +kernel
theorem d_SF_replayLog_4 : decode c_SF_replayLog 4 = .ok (.istore 4, 2) := by decide +kernel
theorem d_SF_replayLog_6 : decode c_SF_replayLog 6 = .ok (.iload_n 3, 1) := by decide +kernel
theorem d_SF_replayLog_7 : decode c_SF_replayLog 7 = .ok (.bipush 8, 2) := by decide +kernel
theorem d_SF_replayLog_9 : decode c_SF_replayLog 9 = .ok (.irem, 1) := by decide +kernel
theorem d_SF_replayLog_10 : decode c_SF_replayLog 10 = .ok (.istore 5, 2) := by decide +kernel
theorem d_SF_replayLog_12 : decode c_SF_replayLog 12 = .ok (.aload_n 0, 1) := by decide +kernel
theorem d_SF_replayLog_13 : decode c_SF_replayLog 13 = .ok (.iload_n 1, 1) := by decide +kernel
theorem d_SF_replayLog_14 : decode c_SF_replayLog 14 = .ok (.iload 4, 2) := by decide +kernel
theorem d_SF_replayLog_16 : decode c_SF_replayLog 16 = .ok (.iload 5, 2) := by decide +kernel
theorem d_SF_replayLog_18 : decode c_SF_replayLog 18 = .ok (.invokevirtual 316, 3) := by decide +kernel
theorem d_SF_replayLog_21 : decode c_SF_replayLog 21 = .ok (.ifCond .eq 64, 3) := by decide +kernel
theorem d_SF_replayLog_24 : decode c_SF_replayLog 24 = .ok (.aload_n 0, 1) := by decide +kernel
theorem d_SF_replayLog_25 : decode c_SF_replayLog 25 = .ok (.getfield 50, 3) := by decide +kernel
theorem d_SF_replayLog_28 : decode c_SF_replayLog 28 = .ok (.lconst 0, 1) := by decide +kernel
theorem d_SF_replayLog_29 : decode c_SF_replayLog 29 = .ok (.invokestatic 103, 3) := by decide +kernel
theorem d_SF_replayLog_32 : decode c_SF_replayLog 32 = .ok (.aload_n 0, 1) := by decide +kernel
theorem d_SF_replayLog_33 : decode c_SF_replayLog 33 = .ok (.getfield 23, 3) := by decide +kernel
theorem d_SF_replayLog_36 : decode c_SF_replayLog 36 = .ok (.aload_n 0, 1) := by decide +kernel
theorem d_SF_replayLog_37 : decode c_SF_replayLog 37 = .ok (.getfield 50, 3) := by decide +kernel
theorem d_SF_replayLog_40 : decode c_SF_replayLog 40 = .ok (.iload_n 2, 1) := by decide +kernel
theorem d_SF_replayLog_41 : decode c_SF_replayLog 41 = .ok (.invokevirtual 283, 3) := by decide +kernel
theorem d_SF_replayLog_44 : decode c_SF_replayLog 44 = .ok (.aload_n 0, 1) := by decide +kernel
theorem d_SF_replayLog_45 : decode c_SF_replayLog 45 = .ok (.getfield 23, 3) := by decide +kernel
theorem d_SF_replayLog_48 : decode c_SF_replayLog 48 = .ok (.aload_n 0, 1) := by decide +kernel
theorem d_SF_replayLog_49 : decode c_SF_replayLog 49 = .ok (.getfield 50, 3) := by decide +kernel
theorem d_SF_replayLog_52 : decode c_SF_replayLog 52 = .ok (.aload_n 0, 1) := by decide +kernel
theorem d_SF_replayLog_53 : decode c_SF_replayLog 53 = .ok (.iload 4, 2) := by decide +kernel
theorem d_SF_replayLog_55 : decode c_SF_replayLog 55 = .ok (.iload 5, 2) := by decide +kernel
theorem d_SF_replayLog_57 : decode c_SF_replayLog 57 = .ok (.invokevirtual 268, 3) := by decide +kernel
theorem d_SF_replayLog_60 : decode c_SF_replayLog 60 = .ok (.invokevirtual 283, 3) := by decide +kernel
theorem d_SF_replayLog_63 : decode c_SF_replayLog 63 = .ok (.aload_n 0, 1) := by decide +kernel
theorem d_SF_replayLog_64 : decode c_SF_replayLog 64 = .ok (.iload 4, 2) := by decide +kernel
theorem d_SF_replayLog_66 : decode c_SF_replayLog 66 = .ok (.aload_n 0, 1) := by decide +kernel
theorem d_SF_replayLog_67 : decode c_SF_replayLog 67 = .ok (.getfield 12, 3) := by decide +kernel
theorem d_SF_replayLog_70 : decode c_SF_replayLog 70 = .ok (.getfield 265, 3) := by decide +kernel
theorem d_SF_replayLog_73 : decode c_SF_replayLog 73 = .ok (.aload_n 0, 1) := by decide +kernel
theorem d_SF_replayLog_74 : decode c_SF_replayLog 74 = .ok (.getfield 50, 3) := by decide +kernel
theorem d_SF_replayLog_77 : decode c_SF_replayLog 77 = .ok (.invokevirtual 216, 3) := by decide +kernel
theorem d_SF_replayLog_80 : decode c_SF_replayLog 80 = .ok (.ifCond .ne 5, 3) := by decide +kernel
theorem d_SF_replayLog_83 : decode c_SF_replayLog 83 = .ok (.iconst 0, 1) := by decide +kernel
theorem d_SF_replayLog_84 : decode c_SF_replayLog 84 = .ok (.ireturn, 1) := by decide +kernel
theorem d_SF_replayLog_85 : decode c_SF_replayLog 85 = .ok (.aload_n 0, 1) := by decide +kernel
theorem d_SF_replayLog_86 : decode c_SF_replayLog 86 = .ok (.iload_n 2, 1) := by decide +kernel
theorem d_SF_replayLog_87 : decode c_SF_replayLog 87 = .ok (.aload_n 0, 1) := by decide +kernel
theorem d_SF_replayLog_88 : decode c_SF_replayLog 88 = .ok (.getfield 53, 3) := by decide +kernel
theorem d_SF_replayLog_91 : decode c_SF_replayLog 91 = .ok (.iconst 0, 1) := by decide +kernel
theorem d_SF_replayLog_92 : decode c_SF_replayLog 92 = .ok (.invokevirtual 203, 3) := by decide +kernel
theorem d_SF_replayLog_95 : decode c_SF_replayLog 95 = .ok (.ireturn, 1) := by decide +kernel
abbrev c_SF_canReplay : ByteArray := prog_1_method_29_code
abbrev y_SF_canReplay : MethodName := ⟨"StripeField", "canReplay", "(III)Z"⟩
theorem d_SF_canReplay_0 : decode c_SF_canReplay 0 = .ok (.iload_n 2, 1) := by decide +kernel
theorem d_SF_canReplay_1 : decode c_SF_canReplay 1 = .ok (.aload_n 0, 1) := by decide +kernel
theorem d_SF_canReplay_2 : decode c_SF_canReplay 2 = .ok (.getfield 12, 3) := by decide +kernel
theorem d_SF_canReplay_5 : decode c_SF_canReplay 5 = .ok (.getfield 207, 3) := by decide +kernel
theorem d_SF_canReplay_8 : decode c_SF_canReplay 8 = .ok (.if_icmp .ge 14, 3) := by decide +kernel
theorem d_SF_canReplay_11 : decode c_SF_canReplay 11 = .ok (.iload_n 3, 1) := by decide +kernel
theorem d_SF_canReplay_12 : decode c_SF_canReplay 12 = .ok (.aload_n 0, 1) := by decide +kernel
theorem d_SF_canReplay_13 : decode c_SF_canReplay 13 = .ok (.getfield 12, 3) := by decide +kernel
theorem d_SF_canReplay_16 : decode c_SF_canReplay 16 = .ok (.getfield 265, 3) := by decide +kernel
theorem d_SF_canReplay_19 : decode c_SF_canReplay 19 = .ok (.if_icmp .lt 5, 3) := by decide +kernel
theorem d_SF_canReplay_22 : decode c_SF_canReplay 22 = .ok (.iconst 0, 1) := by decide +kernel
theorem d_SF_canReplay_23 : decode c_SF_canReplay 23 = .ok (.ireturn, 1) := by decide +kernel
theorem d_SF_canReplay_24 : decode c_SF_canReplay 24 = .ok (.aload_n 0, 1) := by decide +kernel
theorem d_SF_canReplay_25 : decode c_SF_canReplay 25 = .ok (.iload_n 2, 1) := by decide +kernel
theorem d_SF_canReplay_26 : decode c_SF_canReplay 26 = .ok (.aload_n 0, 1) := by decide +kernel
theorem d_SF_canReplay_27 : decode c_SF_canReplay 27 = .ok (.getfield 12, 3) := by decide +kernel
theorem d_SF_canReplay_30 : decode c_SF_canReplay 30 = .ok (.getfield 265, 3) := by decide +kernel
theorem d_SF_canReplay_33 : decode c_SF_canReplay 33 = .ok (.invokevirtual 268, 3) := by decide +kernel
theorem d_SF_canReplay_36 : decode c_SF_canReplay 36 = .ok (.istore 4, 2) := by decide +kernel
theorem d_SF_canReplay_38 : decode c_SF_canReplay 38 = .ok (.iload 4, 2) := by decide +kernel
theorem d_SF_canReplay_40 : decode c_SF_canReplay 40 = .ok (.iconst (-1), 1) := by decide +kernel
theorem d_SF_canReplay_41 : decode c_SF_canReplay 41 = .ok (.if_icmp .eq 36, 3) := by decide +kernel
theorem d_SF_canReplay_44 : decode c_SF_canReplay 44 = .ok (.aload_n 0, 1) := by decide +kernel
theorem d_SF_canReplay_45 : decode c_SF_canReplay 45 = .ok (.getfield 12, 3) := by decide +kernel
theorem d_SF_canReplay_48 : decode c_SF_canReplay 48 = .ok (.iload 4, 2) := by decide +kernel
theorem d_SF_canReplay_50 : decode c_SF_canReplay 50 = .ok (.invokevirtual 256, 3) := by decide +kernel
theorem d_SF_canReplay_53 : decode c_SF_canReplay 53 = .ok (.iload_n 1, 1) := by decide +kernel
theorem d_SF_canReplay_54 : decode c_SF_canReplay 54 = .ok (.if_icmp .ne 23, 3) := by decide +kernel
theorem d_SF_canReplay_57 : decode c_SF_canReplay 57 = .ok (.aload_n 0, 1) := by decide +kernel
theorem d_SF_canReplay_58 : decode c_SF_canReplay 58 = .ok (.getfield 23, 3) := by decide +kernel
theorem d_SF_canReplay_61 : decode c_SF_canReplay 61 = .ok (.aload_n 0, 1) := by decide +kernel
theorem d_SF_canReplay_62 : decode c_SF_canReplay 62 = .ok (.iload_n 2, 1) := by decide +kernel
theorem d_SF_canReplay_63 : decode c_SF_canReplay 63 = .ok (.iload_n 3, 1) := by decide +kernel
theorem d_SF_canReplay_64 : decode c_SF_canReplay 64 = .ok (.invokevirtual 268, 3) := by decide +kernel
theorem d_SF_canReplay_67 : decode c_SF_canReplay 67 = .ok (.invokevirtual 280, 3) := by decide +kernel
theorem d_SF_canReplay_70 : decode c_SF_canReplay 70 = .ok (.ifCond .eq 7, 3) := by decide +kernel
theorem d_SF_canReplay_73 : decode c_SF_canReplay 73 = .ok (.iconst 1, 1) := by decide +kernel
theorem d_SF_canReplay_74 : decode c_SF_canReplay 74 = .ok (.goto 4, 3) := by decide +kernel
theorem d_SF_canReplay_77 : decode c_SF_canReplay 77 = .ok (.iconst 0, 1) := by decide +kernel
theorem d_SF_canReplay_78 : decode c_SF_canReplay 78 = .ok (.ireturn, 1) := by decide +kernel
abbrev c_SF_clearFreeSpares : ByteArray := prog_1_method_30_code
abbrev y_SF_clearFreeSpares : MethodName := ⟨"StripeField", "clearFreeSpares", "()Z"⟩
theorem d_SF_clearFreeSpares_0 : decode c_SF_clearFreeSpares 0 = .ok (.iconst 0, 1) := by decide +kernel
theorem d_SF_clearFreeSpares_1 : decode c_SF_clearFreeSpares 1 = .ok (.istore_n 1, 1) := by decide +kernel
theorem d_SF_clearFreeSpares_2 : decode c_SF_clearFreeSpares 2 = .ok (.iload_n 1, 1) := by decide +kernel
theorem d_SF_clearFreeSpares_3 : decode c_SF_clearFreeSpares 3 = .ok (.aload_n 0, 1) := by decide +kernel
theorem d_SF_clearFreeSpares_4 : decode c_SF_clearFreeSpares 4 = .ok (.getfield 12, 3) := by decide +kernel
theorem d_SF_clearFreeSpares_7 : decode c_SF_clearFreeSpares 7 = .ok (.getfield 159, 3) := by decide +kernel
theorem d_SF_clearFreeSpares_10 : decode c_SF_clearFreeSpares 10 = .ok (.if_icmp .ge 114, 3) := by decide +kernel
theorem d_SF_clearFreeSpares_13 : decode c_SF_clearFreeSpares 13 = .ok (.aload_n 0, 1) := by decide +kernel
theorem d_SF_clearFreeSpares_14 : decode c_SF_clearFreeSpares 14 = .ok (.getfield 12, 3) := by decide +kernel
theorem d_SF_clearFreeSpares_17 : decode c_SF_clearFreeSpares 17 = .ok (.getfield 248, 3) := by decide +kernel
theorem d_SF_clearFreeSpares_20 : decode c_SF_clearFreeSpares 20 = .ok (.istore_n 2, 1) := by decide +kernel
theorem d_SF_clearFreeSpares_21 : decode c_SF_clearFreeSpares 21 = .ok (.iload_n 2, 1) := by decide +kernel
theorem d_SF_clearFreeSpares_22 : decode c_SF_clearFreeSpares 22 = .ok (.aload_n 0, 1) := by decide +kernel
theorem d_SF_clearFreeSpares_23 : decode c_SF_clearFreeSpares 23 = .ok (.getfield 12, 3) := by decide +kernel
theorem d_SF_clearFreeSpares_26 : decode c_SF_clearFreeSpares 26 = .ok (.getfield 136, 3) := by decide +kernel
theorem d_SF_clearFreeSpares_29 : decode c_SF_clearFreeSpares 29 = .ok (.if_icmp .ge 89, 3) := by decide +kernel
theorem d_SF_clearFreeSpares_32 : decode c_SF_clearFreeSpares 32 = .ok (.aload_n 0, 1) := by decide +kernel
theorem d_SF_clearFreeSpares_33 : decode c_SF_clearFreeSpares 33 = .ok (.getfield 12, 3) := by decide +kernel
theorem d_SF_clearFreeSpares_36 : decode c_SF_clearFreeSpares 36 = .ok (.getfield 200, 3) := by decide +kernel
theorem d_SF_clearFreeSpares_39 : decode c_SF_clearFreeSpares 39 = .ok (.aload_n 0, 1) := by decide +kernel
theorem d_SF_clearFreeSpares_40 : decode c_SF_clearFreeSpares 40 = .ok (.getfield 12, 3) := by decide +kernel
theorem d_SF_clearFreeSpares_43 : decode c_SF_clearFreeSpares 43 = .ok (.iload_n 1, 1) := by decide +kernel
theorem d_SF_clearFreeSpares_44 : decode c_SF_clearFreeSpares 44 = .ok (.iload_n 2, 1) := by decide +kernel
theorem d_SF_clearFreeSpares_45 : decode c_SF_clearFreeSpares 45 = .ok (.invokevirtual 253, 3) := by decide +kernel
theorem d_SF_clearFreeSpares_48 : decode c_SF_clearFreeSpares 48 = .ok (.iaload, 1) := by decide +kernel
theorem d_SF_clearFreeSpares_49 : decode c_SF_clearFreeSpares 49 = .ok (.istore_n 3, 1) := by decide +kernel
theorem d_SF_clearFreeSpares_50 : decode c_SF_clearFreeSpares 50 = .ok (.aload_n 0, 1) := by decide +kernel
theorem d_SF_clearFreeSpares_51 : decode c_SF_clearFreeSpares 51 = .ok (.getfield 32, 3) := by decide +kernel
theorem d_SF_clearFreeSpares_54 : decode c_SF_clearFreeSpares 54 = .ok (.getfield 176, 3) := by decide +kernel
theorem d_SF_clearFreeSpares_57 : decode c_SF_clearFreeSpares 57 = .ok (.iload_n 3, 1) := by decide +kernel
theorem d_SF_clearFreeSpares_58 : decode c_SF_clearFreeSpares 58 = .ok (.iaload, 1) := by decide +kernel
theorem d_SF_clearFreeSpares_59 : decode c_SF_clearFreeSpares 59 = .ok (.iconst (-1), 1) := by decide +kernel
theorem d_SF_clearFreeSpares_60 : decode c_SF_clearFreeSpares 60 = .ok (.if_icmp .ne 29, 3) := by decide +kernel
theorem d_SF_clearFreeSpares_63 : decode c_SF_clearFreeSpares 63 = .ok (.aload_n 0, 1) := by decide +kernel
theorem d_SF_clearFreeSpares_64 : decode c_SF_clearFreeSpares 64 = .ok (.getfield 23, 3) := by decide +kernel
theorem d_SF_clearFreeSpares_67 : decode c_SF_clearFreeSpares 67 = .ok (.iload_n 3, 1) := by decide +kernel
theorem d_SF_clearFreeSpares_68 : decode c_SF_clearFreeSpares 68 = .ok (.invokevirtual 280, 3) := by decide +kernel
theorem d_SF_clearFreeSpares_71 : decode c_SF_clearFreeSpares 71 = .ok (.ifCond .eq 18, 3) := by decide +kernel
theorem d_SF_clearFreeSpares_74 : decode c_SF_clearFreeSpares 74 = .ok (.aload_n 0, 1) := by decide +kernel
theorem d_SF_clearFreeSpares_75 : decode c_SF_clearFreeSpares 75 = .ok (.getfield 23, 3) := by decide +kernel
theorem d_SF_clearFreeSpares_78 : decode c_SF_clearFreeSpares 78 = .ok (.iload_n 3, 1) := by decide +kernel
theorem d_SF_clearFreeSpares_79 : decode c_SF_clearFreeSpares 79 = .ok (.invokevirtual 309, 3) := by decide +kernel
theorem d_SF_clearFreeSpares_82 : decode c_SF_clearFreeSpares 82 = .ok (.ifCond .le 7, 3) := by decide +kernel
theorem d_SF_clearFreeSpares_85 : decode c_SF_clearFreeSpares 85 = .ok (.iconst 1, 1) := by decide +kernel
theorem d_SF_clearFreeSpares_86 : decode c_SF_clearFreeSpares 86 = .ok (.goto 4, 3) := by decide +kernel
theorem d_SF_clearFreeSpares_89 : decode c_SF_clearFreeSpares 89 = .ok (.iconst 0, 1) := by decide +kernel
theorem d_SF_clearFreeSpares_90 : decode c_SF_clearFreeSpares 90 = .ok (.istore 4, 2) := by decide +kernel
theorem d_SF_clearFreeSpares_92 : decode c_SF_clearFreeSpares 92 = .ok (.iload 4, 2) := by decide +kernel
theorem d_SF_clearFreeSpares_94 : decode c_SF_clearFreeSpares 94 = .ok (.ifCond .eq 18, 3) := by decide +kernel
theorem d_SF_clearFreeSpares_97 : decode c_SF_clearFreeSpares 97 = .ok (.aload_n 0, 1) := by decide +kernel
theorem d_SF_clearFreeSpares_98 : decode c_SF_clearFreeSpares 98 = .ok (.iload_n 3, 1) := by decide +kernel
theorem d_SF_clearFreeSpares_99 : decode c_SF_clearFreeSpares 99 = .ok (.aload_n 0, 1) := by decide +kernel
theorem d_SF_clearFreeSpares_100 : decode c_SF_clearFreeSpares 100 = .ok (.getfield 53, 3) := by decide +kernel
theorem d_SF_clearFreeSpares_103 : decode c_SF_clearFreeSpares 103 = .ok (.iconst 0, 1) := by decide +kernel
theorem d_SF_clearFreeSpares_104 : decode c_SF_clearFreeSpares 104 = .ok (.invokevirtual 203, 3) := by decide +kernel
theorem d_SF_clearFreeSpares_107 : decode c_SF_clearFreeSpares 107 = .ok (.ifCond .ne 5, 3) := by decide +kernel
theorem d_SF_clearFreeSpares_110 : decode c_SF_clearFreeSpares 110 = .ok (.iconst 0, 1) := by decide +kernel
theorem d_SF_clearFreeSpares_111 : decode c_SF_clearFreeSpares 111 = .ok (.ireturn, 1) := by decide +kernel
theorem d_SF_clearFreeSpares_112 : decode c_SF_clearFreeSpares 112 = .ok (.iinc 2 1, 3) := by decide +kernel
theorem d_SF_clearFreeSpares_115 : decode c_SF_clearFreeSpares 115 = .ok (.goto (-94), 3) := by decide +kernel
theorem d_SF_clearFreeSpares_118 : decode c_SF_clearFreeSpares 118 = .ok (.iinc 1 1, 3) := by decide +kernel
theorem d_SF_clearFreeSpares_121 : decode c_SF_clearFreeSpares 121 = .ok (.goto (-119), 3) := by decide +kernel
theorem d_SF_clearFreeSpares_124 : decode c_SF_clearFreeSpares 124 = .ok (.iconst 1, 1) := by decide +kernel
theorem d_SF_clearFreeSpares_125 : decode c_SF_clearFreeSpares 125 = .ok (.ireturn, 1) := by decide +kernel
abbrev c_SF_fail : ByteArray := prog_1_method_8_code
abbrev y_SF_fail : MethodName := ⟨"StripeField", "fail", "(I)Z"⟩
theorem d_SF_fail_0 : decode c_SF_fail 0 = .ok (.iload_n 1, 1) := by decide +kernel
theorem d_SF_fail_1 : decode c_SF_fail 1 = .ok (.ifCond .lt 14, 3) := by decide +kernel
theorem d_SF_fail_4 : decode c_SF_fail 4 = .ok (.iload_n 1, 1) := by decide +kernel
theorem d_SF_fail_5 : decode c_SF_fail 5 = .ok (.aload_n 0, 1) := by decide +kernel
theorem d_SF_fail_6 : decode c_SF_fail 6 = .ok (.getfield 12, 3) := by decide +kernel
theorem d_SF_fail_9 : decode c_SF_fail 9 = .ok (.getfield 136, 3) := by decide +kernel
theorem d_SF_fail_12 : decode c_SF_fail 12 = .ok (.if_icmp .lt 13, 3) := by decide +kernel
theorem d_SF_fail_15 : decode c_SF_fail 15 = .ok (.new 56, 3) := by decide +kernel
theorem d_SF_fail_18 : decode c_SF_fail 18 = .ok (.dup, 1) := by decide +kernel
theorem d_SF_fail_19 : decode c_SF_fail 19 = .ok (.ldc 139, 2) := by decide +kernel
theorem d_SF_fail_21 : decode c_SF_fail 21 = .ok (.invokespecial 60, 3) := by decide +kernel
theorem d_SF_fail_24 : decode c_SF_fail 24 = .ok (.athrow, 1) := by decide +kernel
theorem d_SF_fail_25 : decode c_SF_fail 25 = .ok (.aload_n 0, 1) := by decide +kernel
theorem d_SF_fail_26 : decode c_SF_fail 26 = .ok (.getfield 23, 3) := by decide +kernel
theorem d_SF_fail_29 : decode c_SF_fail 29 = .ok (.getfield 141, 3) := by decide +kernel
theorem d_SF_fail_32 : decode c_SF_fail 32 = .ok (.iload_n 1, 1) := by decide +kernel
theorem d_SF_fail_33 : decode c_SF_fail 33 = .ok (.baload, 1) := by decide +kernel
theorem d_SF_fail_34 : decode c_SF_fail 34 = .ok (.ifCond .ne 5, 3) := by decide +kernel
theorem d_SF_fail_37 : decode c_SF_fail 37 = .ok (.iconst 0, 1) := by decide +kernel
theorem d_SF_fail_38 : decode c_SF_fail 38 = .ok (.ireturn, 1) := by decide +kernel
theorem d_SF_fail_39 : decode c_SF_fail 39 = .ok (.aload_n 0, 1) := by decide +kernel
theorem d_SF_fail_40 : decode c_SF_fail 40 = .ok (.invokevirtual 145, 3) := by decide +kernel
theorem d_SF_fail_43 : decode c_SF_fail 43 = .ok (.aload_n 0, 1) := by decide +kernel
theorem d_SF_fail_44 : decode c_SF_fail 44 = .ok (.iload_n 1, 1) := by decide +kernel
theorem d_SF_fail_45 : decode c_SF_fail 45 = .ok (.invokevirtual 148, 3) := by decide +kernel
theorem d_SF_fail_48 : decode c_SF_fail 48 = .ok (.ifCond .eq 5, 3) := by decide +kernel
theorem d_SF_fail_51 : decode c_SF_fail 51 = .ok (.iconst 0, 1) := by decide +kernel
theorem d_SF_fail_52 : decode c_SF_fail 52 = .ok (.ireturn, 1) := by decide +kernel
theorem d_SF_fail_53 : decode c_SF_fail 53 = .ok (.aload_n 0, 1) := by decide +kernel
theorem d_SF_fail_54 : decode c_SF_fail 54 = .ok (.getfield 23, 3) := by decide +kernel
theorem d_SF_fail_57 : decode c_SF_fail 57 = .ok (.iload_n 1, 1) := by decide +kernel
theorem d_SF_fail_58 : decode c_SF_fail 58 = .ok (.invokevirtual 152, 3) := by decide +kernel
theorem d_SF_fail_61 : decode c_SF_fail 61 = .ok (.aload_n 0, 1) := by decide +kernel
theorem d_SF_fail_62 : decode c_SF_fail 62 = .ok (.getfield 32, 3) := by decide +kernel
theorem d_SF_fail_65 : decode c_SF_fail 65 = .ok (.iload_n 1, 1) := by decide +kernel
theorem d_SF_fail_66 : decode c_SF_fail 66 = .ok (.invokevirtual 156, 3) := by decide +kernel
theorem d_SF_fail_69 : decode c_SF_fail 69 = .ok (.iconst 1, 1) := by decide +kernel
theorem d_SF_fail_70 : decode c_SF_fail 70 = .ok (.ireturn, 1) := by decide +kernel
abbrev c_SF_findPlacesIfOff : ByteArray := prog_1_method_16_code
abbrev y_SF_findPlacesIfOff : MethodName := ⟨"StripeField", "findPlacesIfOff", "()V"⟩
theorem d_SF_findPlacesIfOff_0 : decode c_SF_findPlacesIfOff 0 = .ok (.aload_n 0, 1) := by decide +kernel
theorem d_SF_findPlacesIfOff_1 : decode c_SF_findPlacesIfOff 1 = .ok (.getfield 39, 3) := by decide +kernel
theorem d_SF_findPlacesIfOff_4 : decode c_SF_findPlacesIfOff 4 = .ok (.getfield 81, 3) := by decide +kernel
theorem d_SF_findPlacesIfOff_7 : decode c_SF_findPlacesIfOff 7 = .ok (.ifCond .ne 10, 3) := by decide +kernel
theorem d_SF_findPlacesIfOff_10 : decode c_SF_findPlacesIfOff 10 = .ok (.aload_n 0, 1) := by decide +kernel
theorem d_SF_findPlacesIfOff_11 : decode c_SF_findPlacesIfOff 11 = .ok (.getfield 32, 3) := by decide +kernel
theorem d_SF_findPlacesIfOff_14 : decode c_SF_findPlacesIfOff 14 = .ok (.invokevirtual 126, 3) := by decide +kernel
theorem d_SF_findPlacesIfOff_17 : decode c_SF_findPlacesIfOff 17 = .ok (.return_, 1) := by decide +kernel
abbrev c_SF_wouldBreakWithout : ByteArray := prog_1_method_31_code
abbrev y_SF_wouldBreakWithout : MethodName := ⟨"StripeField", "wouldBreakWithout", "(I)Z"⟩
theorem d_SF_wouldBreakWithout_0 : decode c_SF_wouldBreakWithout 0 = .ok (.iconst 0, 1) := by decide +kernel
theorem d_SF_wouldBreakWithout_1 : decode c_SF_wouldBreakWithout 1 = .ok (.istore_n 2, 1) := by decide +kernel
theorem d_SF_wouldBreakWithout_2 : decode c_SF_wouldBreakWithout 2 = .ok (.iload_n 2, 1) := by decide +kernel
theorem d_SF_wouldBreakWithout_3 : decode c_SF_wouldBreakWithout 3 = .ok (.aload_n 0, 1) := by decide +kernel
theorem d_SF_wouldBreakWithout_4 : decode c_SF_wouldBreakWithout 4 = .ok (.getfield 12, 3) := by decide +kernel
theorem d_SF_wouldBreakWithout_7 : decode c_SF_wouldBreakWithout 7 = .ok (.getfield 207, 3) := by decide +kernel
theorem d_SF_wouldBreakWithout_10 : decode c_SF_wouldBreakWithout 10 = .ok (.if_icmp .ge 76, 3) := by decide +kernel
theorem d_SF_wouldBreakWithout_13 : decode c_SF_wouldBreakWithout 13 = .ok (.iconst 0, 1) := by decide +kernel
theorem d_SF_wouldBreakWithout_14 : decode c_SF_wouldBreakWithout 14 = .ok (.istore_n 3, 1) := by decide +kernel
theorem d_SF_wouldBreakWithout_15 : decode c_SF_wouldBreakWithout 15 = .ok (.iconst 0, 1) := by decide +kernel
theorem d_SF_wouldBreakWithout_16 : decode c_SF_wouldBreakWithout 16 = .ok (.istore 4, 2) := by decide +kernel
theorem d_SF_wouldBreakWithout_18 : decode c_SF_wouldBreakWithout 18 = .ok (.iload 4, 2) := by decide +kernel
theorem d_SF_wouldBreakWithout_20 : decode c_SF_wouldBreakWithout 20 = .ok (.aload_n 0, 1) := by decide +kernel
theorem d_SF_wouldBreakWithout_21 : decode c_SF_wouldBreakWithout 21 = .ok (.getfield 12, 3) := by decide +kernel
theorem d_SF_wouldBreakWithout_24 : decode c_SF_wouldBreakWithout 24 = .ok (.getfield 238, 3) := by decide +kernel
theorem d_SF_wouldBreakWithout_27 : decode c_SF_wouldBreakWithout 27 = .ok (.if_icmp .ge 46, 3) := by decide +kernel
theorem d_SF_wouldBreakWithout_30 : decode c_SF_wouldBreakWithout 30 = .ok (.aload_n 0, 1) := by decide +kernel
theorem d_SF_wouldBreakWithout_31 : decode c_SF_wouldBreakWithout 31 = .ok (.iload_n 2, 1) := by decide +kernel
theorem d_SF_wouldBreakWithout_32 : decode c_SF_wouldBreakWithout 32 = .ok (.iload 4, 2) := by decide +kernel
theorem d_SF_wouldBreakWithout_34 : decode c_SF_wouldBreakWithout 34 = .ok (.invokevirtual 268, 3) := by decide +kernel
theorem d_SF_wouldBreakWithout_37 : decode c_SF_wouldBreakWithout 37 = .ok (.istore 5, 2) := by decide +kernel
theorem d_SF_wouldBreakWithout_39 : decode c_SF_wouldBreakWithout 39 = .ok (.aload_n 0, 1) := by decide +kernel
theorem d_SF_wouldBreakWithout_40 : decode c_SF_wouldBreakWithout 40 = .ok (.getfield 23, 3) := by decide +kernel
theorem d_SF_wouldBreakWithout_43 : decode c_SF_wouldBreakWithout 43 = .ok (.iload 5, 2) := by decide +kernel
theorem d_SF_wouldBreakWithout_45 : decode c_SF_wouldBreakWithout 45 = .ok (.invokevirtual 280, 3) := by decide +kernel
theorem d_SF_wouldBreakWithout_48 : decode c_SF_wouldBreakWithout 48 = .ok (.ifCond .eq 16, 3) := by decide +kernel
theorem d_SF_wouldBreakWithout_51 : decode c_SF_wouldBreakWithout 51 = .ok (.aload_n 0, 1) := by decide +kernel
theorem d_SF_wouldBreakWithout_52 : decode c_SF_wouldBreakWithout 52 = .ok (.getfield 12, 3) := by decide +kernel
theorem d_SF_wouldBreakWithout_55 : decode c_SF_wouldBreakWithout 55 = .ok (.iload 5, 2) := by decide +kernel
theorem d_SF_wouldBreakWithout_57 : decode c_SF_wouldBreakWithout 57 = .ok (.invokevirtual 256, 3) := by decide +kernel
theorem d_SF_wouldBreakWithout_60 : decode c_SF_wouldBreakWithout 60 = .ok (.iload_n 1, 1) := by decide +kernel
theorem d_SF_wouldBreakWithout_61 : decode c_SF_wouldBreakWithout 61 = .ok (.if_icmp .ne 6, 3) := by decide +kernel
theorem d_SF_wouldBreakWithout_64 : decode c_SF_wouldBreakWithout 64 = .ok (.iinc 3 1, 3) := by decide +kernel
theorem d_SF_wouldBreakWithout_67 : decode c_SF_wouldBreakWithout 67 = .ok (.iinc 4 1, 3) := by decide +kernel
theorem d_SF_wouldBreakWithout_70 : decode c_SF_wouldBreakWithout 70 = .ok (.goto (-52), 3) := by decide +kernel
theorem d_SF_wouldBreakWithout_73 : decode c_SF_wouldBreakWithout 73 = .ok (.iload_n 3, 1) := by decide +kernel
theorem d_SF_wouldBreakWithout_74 : decode c_SF_wouldBreakWithout 74 = .ok (.iconst 1, 1) := by decide +kernel
theorem d_SF_wouldBreakWithout_75 : decode c_SF_wouldBreakWithout 75 = .ok (.if_icmp .le 5, 3) := by decide +kernel
theorem d_SF_wouldBreakWithout_78 : decode c_SF_wouldBreakWithout 78 = .ok (.iconst 1, 1) := by decide +kernel
theorem d_SF_wouldBreakWithout_79 : decode c_SF_wouldBreakWithout 79 = .ok (.ireturn, 1) := by decide +kernel
theorem d_SF_wouldBreakWithout_80 : decode c_SF_wouldBreakWithout 80 = .ok (.iinc 2 1, 3) := by decide +kernel
theorem d_SF_wouldBreakWithout_83 : decode c_SF_wouldBreakWithout 83 = .ok (.goto (-81), 3) := by decide +kernel
theorem d_SF_wouldBreakWithout_86 : decode c_SF_wouldBreakWithout 86 = .ok (.iconst 0, 1) := by decide +kernel
theorem d_SF_wouldBreakWithout_87 : decode c_SF_wouldBreakWithout 87 = .ok (.ireturn, 1) := by decide +kernel
abbrev c_SF_replace : ByteArray := prog_1_method_9_code
abbrev y_SF_replace : MethodName := ⟨"StripeField", "replace", "(I)Z"⟩
theorem d_SF_replace_0 : decode c_SF_replace 0 = .ok (.iload_n 1, 1) := by decide +kernel
theorem d_SF_replace_1 : decode c_SF_replace 1 = .ok (.ifCond .lt 14, 3) := by decide +kernel
theorem d_SF_replace_4 : decode c_SF_replace 4 = .ok (.iload_n 1, 1) := by decide +kernel
theorem d_SF_replace_5 : decode c_SF_replace 5 = .ok (.aload_n 0, 1) := by decide +kernel
theorem d_SF_replace_6 : decode c_SF_replace 6 = .ok (.getfield 12, 3) := by decide +kernel
theorem d_SF_replace_9 : decode c_SF_replace 9 = .ok (.getfield 136, 3) := by decide +kernel
theorem d_SF_replace_12 : decode c_SF_replace 12 = .ok (.if_icmp .lt 13, 3) := by decide +kernel
theorem d_SF_replace_15 : decode c_SF_replace 15 = .ok (.new 56, 3) := by decide +kernel
theorem d_SF_replace_18 : decode c_SF_replace 18 = .ok (.dup, 1) := by decide +kernel
theorem d_SF_replace_19 : decode c_SF_replace 19 = .ok (.ldc 139, 2) := by decide +kernel
theorem d_SF_replace_21 : decode c_SF_replace 21 = .ok (.invokespecial 60, 3) := by decide +kernel
theorem d_SF_replace_24 : decode c_SF_replace 24 = .ok (.athrow, 1) := by decide +kernel
theorem d_SF_replace_25 : decode c_SF_replace 25 = .ok (.aload_n 0, 1) := by decide +kernel
theorem d_SF_replace_26 : decode c_SF_replace 26 = .ok (.getfield 23, 3) := by decide +kernel
theorem d_SF_replace_29 : decode c_SF_replace 29 = .ok (.getfield 141, 3) := by decide +kernel
theorem d_SF_replace_32 : decode c_SF_replace 32 = .ok (.iload_n 1, 1) := by decide +kernel
theorem d_SF_replace_33 : decode c_SF_replace 33 = .ok (.baload, 1) := by decide +kernel
theorem d_SF_replace_34 : decode c_SF_replace 34 = .ok (.ifCond .eq 5, 3) := by decide +kernel
theorem d_SF_replace_37 : decode c_SF_replace 37 = .ok (.iconst 0, 1) := by decide +kernel
theorem d_SF_replace_38 : decode c_SF_replace 38 = .ok (.ireturn, 1) := by decide +kernel
theorem d_SF_replace_39 : decode c_SF_replace 39 = .ok (.aload_n 0, 1) := by decide +kernel
theorem d_SF_replace_40 : decode c_SF_replace 40 = .ok (.getfield 23, 3) := by decide +kernel
theorem d_SF_replace_43 : decode c_SF_replace 43 = .ok (.getfield 141, 3) := by decide +kernel
theorem d_SF_replace_46 : decode c_SF_replace 46 = .ok (.iload_n 1, 1) := by decide +kernel
theorem d_SF_replace_47 : decode c_SF_replace 47 = .ok (.iconst 1, 1) := by decide +kernel
theorem d_SF_replace_48 : decode c_SF_replace 48 = .ok (.bastore, 1) := by decide +kernel
theorem d_SF_replace_49 : decode c_SF_replace 49 = .ok (.iconst 1, 1) := by decide +kernel
theorem d_SF_replace_50 : decode c_SF_replace 50 = .ok (.ireturn, 1) := by decide +kernel
abbrev c_SF_spoil : ByteArray := prog_1_method_10_code
abbrev y_SF_spoil : MethodName := ⟨"StripeField", "spoil", "(IIIIJ)Z"⟩
theorem d_SF_spoil_0 : decode c_SF_spoil 0 = .ok (.iload_n 1, 1) := by decide +kernel
theorem d_SF_spoil_1 : decode c_SF_spoil 1 = .ok (.ifCond .lt 14, 3) := by decide +kernel
theorem d_SF_spoil_4 : decode c_SF_spoil 4 = .ok (.iload_n 1, 1) := by decide +kernel
theorem d_SF_spoil_5 : decode c_SF_spoil 5 = .ok (.aload_n 0, 1) := by decide +kernel
theorem d_SF_spoil_6 : decode c_SF_spoil 6 = .ok (.getfield 12, 3) := by decide +kernel
theorem d_SF_spoil_9 : decode c_SF_spoil 9 = .ok (.getfield 136, 3) := by decide +kernel
theorem d_SF_spoil_12 : decode c_SF_spoil 12 = .ok (.if_icmp .lt 13, 3) := by decide +kernel
theorem d_SF_spoil_15 : decode c_SF_spoil 15 = .ok (.new 56, 3) := by decide +kernel
theorem d_SF_spoil_18 : decode c_SF_spoil 18 = .ok (.dup, 1) := by decide +kernel
theorem d_SF_spoil_19 : decode c_SF_spoil 19 = .ok (.ldc 139, 2) := by decide +kernel
theorem d_SF_spoil_21 : decode c_SF_spoil 21 = .ok (.invokespecial 60, 3) := by decide +kernel
theorem d_SF_spoil_24 : decode c_SF_spoil 24 = .ok (.athrow, 1) := by decide +kernel
theorem d_SF_spoil_25 : decode c_SF_spoil 25 = .ok (.iload_n 2, 1) := by decide +kernel
theorem d_SF_spoil_26 : decode c_SF_spoil 26 = .ok (.ifCond .lt 14, 3) := by decide +kernel
theorem d_SF_spoil_29 : decode c_SF_spoil 29 = .ok (.iload_n 2, 1) := by decide +kernel
theorem d_SF_spoil_30 : decode c_SF_spoil 30 = .ok (.aload_n 0, 1) := by decide +kernel
theorem d_SF_spoil_31 : decode c_SF_spoil 31 = .ok (.getfield 12, 3) := by decide +kernel
theorem d_SF_spoil_34 : decode c_SF_spoil 34 = .ok (.getfield 159, 3) := by decide +kernel
theorem d_SF_spoil_37 : decode c_SF_spoil 37 = .ok (.if_icmp .lt 13, 3) := by decide +kernel
theorem d_SF_spoil_40 : decode c_SF_spoil 40 = .ok (.new 56, 3) := by decide +kernel
theorem d_SF_spoil_43 : decode c_SF_spoil 43 = .ok (.dup, 1) := by decide +kernel
theorem d_SF_spoil_44 : decode c_SF_spoil 44 = .ok (.ldc 162, 2) := by decide +kernel
theorem d_SF_spoil_46 : decode c_SF_spoil 46 = .ok (.invokespecial 60, 3) := by decide +kernel
theorem d_SF_spoil_49 : decode c_SF_spoil 49 = .ok (.athrow, 1) := by decide +kernel
theorem d_SF_spoil_50 : decode c_SF_spoil 50 = .ok (.iload 4, 2) := by decide +kernel
theorem d_SF_spoil_52 : decode c_SF_spoil 52 = .ok (.iconst 1, 1) := by decide +kernel
theorem d_SF_spoil_53 : decode c_SF_spoil 53 = .ok (.if_icmp .lt 10, 3) := by decide +kernel
theorem d_SF_spoil_56 : decode c_SF_spoil 56 = .ok (.iload 4, 2) := by decide +kernel
theorem d_SF_spoil_58 : decode c_SF_spoil 58 = .ok (.bipush 8, 2) := by decide +kernel
theorem d_SF_spoil_60 : decode c_SF_spoil 60 = .ok (.if_icmp .le 13, 3) := by decide +kernel
theorem d_SF_spoil_63 : decode c_SF_spoil 63 = .ok (.new 56, 3) := by decide +kernel
theorem d_SF_spoil_66 : decode c_SF_spoil 66 = .ok (.dup, 1) := by decide +kernel
theorem d_SF_spoil_67 : decode c_SF_spoil 67 = .ok (.ldc 58, 2) := by decide +kernel
theorem d_SF_spoil_69 : decode c_SF_spoil 69 = .ok (.invokespecial 60, 3) := by decide +kernel
theorem d_SF_spoil_72 : decode c_SF_spoil 72 = .ok (.athrow, 1) := by decide +kernel
theorem d_SF_spoil_73 : decode c_SF_spoil 73 = .ok (.iload_n 3, 1) := by decide +kernel
theorem d_SF_spoil_74 : decode c_SF_spoil 74 = .ok (.ifCond .lt 12, 3) := by decide +kernel
theorem d_SF_spoil_77 : decode c_SF_spoil 77 = .ok (.iload_n 3, 1) := by decide +kernel
theorem d_SF_spoil_78 : decode c_SF_spoil 78 = .ok (.bipush 70, 2) := by decide +kernel
theorem d_SF_spoil_80 : decode c_SF_spoil 80 = .ok (.iload 4, 2) := by decide +kernel
theorem d_SF_spoil_82 : decode c_SF_spoil 82 = .ok (.isub, 1) := by decide +kernel
theorem d_SF_spoil_83 : decode c_SF_spoil 83 = .ok (.if_icmp .le 13, 3) := by decide +kernel
theorem d_SF_spoil_86 : decode c_SF_spoil 86 = .ok (.new 56, 3) := by decide +kernel
theorem d_SF_spoil_89 : decode c_SF_spoil 89 = .ok (.dup, 1) := by decide +kernel
theorem d_SF_spoil_90 : decode c_SF_spoil 90 = .ok (.ldc 164, 2) := by decide +kernel
theorem d_SF_spoil_92 : decode c_SF_spoil 92 = .ok (.invokespecial 60, 3) := by decide +kernel
theorem d_SF_spoil_95 : decode c_SF_spoil 95 = .ok (.athrow, 1) := by decide +kernel
theorem d_SF_spoil_96 : decode c_SF_spoil 96 = .ok (.iload 4, 2) := by decide +kernel
theorem d_SF_spoil_98 : decode c_SF_spoil 98 = .ok (.lload 5, 2) := by decide +kernel
theorem d_SF_spoil_100 : decode c_SF_spoil 100 = .ok (.invokestatic 166, 3) := by decide +kernel
theorem d_SF_spoil_103 : decode c_SF_spoil 103 = .ok (.lconst 0, 1) := by decide +kernel
theorem d_SF_spoil_104 : decode c_SF_spoil 104 = .ok (.lcmp, 1) := by decide +kernel
theorem d_SF_spoil_105 : decode c_SF_spoil 105 = .ok (.ifCond .ne 13, 3) := by decide +kernel
theorem d_SF_spoil_108 : decode c_SF_spoil 108 = .ok (.new 56, 3) := by decide +kernel
theorem d_SF_spoil_111 : decode c_SF_spoil 111 = .ok (.dup, 1) := by decide +kernel
theorem d_SF_spoil_112 : decode c_SF_spoil 112 = .ok (.ldc 170, 2) := by decide +kernel
theorem d_SF_spoil_114 : decode c_SF_spoil 114 = .ok (.invokespecial 60, 3) := by decide +kernel
theorem d_SF_spoil_117 : decode c_SF_spoil 117 = .ok (.athrow, 1) := by decide +kernel
theorem d_SF_spoil_118 : decode c_SF_spoil 118 = .ok (.aload_n 0, 1) := by decide +kernel
theorem d_SF_spoil_119 : decode c_SF_spoil 119 = .ok (.getfield 12, 3) := by decide +kernel
theorem d_SF_spoil_122 : decode c_SF_spoil 122 = .ok (.iload_n 1, 1) := by decide +kernel
theorem d_SF_spoil_123 : decode c_SF_spoil 123 = .ok (.iload_n 2, 1) := by decide +kernel
theorem d_SF_spoil_124 : decode c_SF_spoil 124 = .ok (.invokevirtual 172, 3) := by decide +kernel
theorem d_SF_spoil_127 : decode c_SF_spoil 127 = .ok (.istore 7, 2) := by decide +kernel
theorem d_SF_spoil_129 : decode c_SF_spoil 129 = .ok (.aload_n 0, 1) := by decide +kernel
theorem d_SF_spoil_130 : decode c_SF_spoil 130 = .ok (.getfield 39, 3) := by decide +kernel
theorem d_SF_spoil_133 : decode c_SF_spoil 133 = .ok (.getfield 81, 3) := by decide +kernel
theorem d_SF_spoil_136 : decode c_SF_spoil 136 = .ok (.ifCond .eq 29, 3) := by decide +kernel
theorem d_SF_spoil_139 : decode c_SF_spoil 139 = .ok (.aload_n 0, 1) := by decide +kernel
theorem d_SF_spoil_140 : decode c_SF_spoil 140 = .ok (.getfield 23, 3) := by decide +kernel
theorem d_SF_spoil_143 : decode c_SF_spoil 143 = .ok (.getfield 141, 3) := by decide +kernel
theorem d_SF_spoil_146 : decode c_SF_spoil 146 = .ok (.iload_n 1, 1) := by decide +kernel
theorem d_SF_spoil_147 : decode c_SF_spoil 147 = .ok (.baload, 1) := by decide +kernel
theorem d_SF_spoil_148 : decode c_SF_spoil 148 = .ok (.ifCond .eq 17, 3) := by decide +kernel
theorem d_SF_spoil_151 : decode c_SF_spoil 151 = .ok (.aload_n 0, 1) := by decide +kernel
theorem d_SF_spoil_152 : decode c_SF_spoil 152 = .ok (.getfield 32, 3) := by decide +kernel
theorem d_SF_spoil_155 : decode c_SF_spoil 155 = .ok (.getfield 176, 3) := by decide +kernel
theorem d_SF_spoil_158 : decode c_SF_spoil 158 = .ok (.iload 7, 2) := by decide +kernel
theorem d_SF_spoil_160 : decode c_SF_spoil 160 = .ok (.iaload, 1) := by decide +kernel
theorem d_SF_spoil_161 : decode c_SF_spoil 161 = .ok (.iconst (-1), 1) := by decide +kernel
theorem d_SF_spoil_162 : decode c_SF_spoil 162 = .ok (.if_icmp .ne 5, 3) := by decide +kernel
theorem d_SF_spoil_165 : decode c_SF_spoil 165 = .ok (.iconst 0, 1) := by decide +kernel
theorem d_SF_spoil_166 : decode c_SF_spoil 166 = .ok (.ireturn, 1) := by decide +kernel
theorem d_SF_spoil_167 : decode c_SF_spoil 167 = .ok (.aload_n 0, 1) := by decide +kernel
theorem d_SF_spoil_168 : decode c_SF_spoil 168 = .ok (.iload 7, 2) := by decide +kernel
theorem d_SF_spoil_170 : decode c_SF_spoil 170 = .ok (.iload_n 3, 1) := by decide +kernel
theorem d_SF_spoil_171 : decode c_SF_spoil 171 = .ok (.iload 4, 2) := by decide +kernel
theorem d_SF_spoil_173 : decode c_SF_spoil 173 = .ok (.lload 5, 2) := by decide +kernel
theorem d_SF_spoil_175 : decode c_SF_spoil 175 = .ok (.invokevirtual 180, 3) := by decide +kernel
theorem d_SF_spoil_178 : decode c_SF_spoil 178 = .ok (.ireturn, 1) := by decide +kernel
abbrev c_SF_lowestBytes : ByteArray := prog_1_method_37_code
abbrev y_SF_lowestBytes : MethodName := ⟨"StripeField", "lowestBytes", "(IJ)J"⟩
theorem d_SF_lowestBytes_0 : decode c_SF_lowestBytes 0 = .ok (.iload_n 0, 1) := by decide +kernel
theorem d_SF_lowestBytes_1 : decode c_SF_lowestBytes 1 = .ok (.bipush 8, 2) := by decide +kernel
theorem d_SF_lowestBytes_3 : decode c_SF_lowestBytes 3 = .ok (.if_icmp .lt 7, 3) := by decide +kernel
theorem d_SF_lowestBytes_6 : decode c_SF_lowestBytes 6 = .ok (.lload_n 1, 1) := by decide +kernel
theorem d_SF_lowestBytes_7 : decode c_SF_lowestBytes 7 = .ok (.goto 13, 3) := by decide +kernel
theorem d_SF_lowestBytes_10 : decode c_SF_lowestBytes 10 = .ok (.lload_n 1, 1) := by decide +kernel
theorem d_SF_lowestBytes_11 : decode c_SF_lowestBytes 11 = .ok (.lconst 1, 1) := by decide +kernel
theorem d_SF_lowestBytes_12 : decode c_SF_lowestBytes 12 = .ok (.bipush 8, 2) := by decide +kernel
theorem d_SF_lowestBytes_14 : decode c_SF_lowestBytes 14 = .ok (.iload_n 0, 1) := by decide +kernel
theorem d_SF_lowestBytes_15 : decode c_SF_lowestBytes 15 = .ok (.imul, 1) := by decide +kernel
theorem d_SF_lowestBytes_16 : decode c_SF_lowestBytes 16 = .ok (.lshl, 1) := by decide +kernel
theorem d_SF_lowestBytes_17 : decode c_SF_lowestBytes 17 = .ok (.lconst 1, 1) := by decide +kernel
theorem d_SF_lowestBytes_18 : decode c_SF_lowestBytes 18 = .ok (.lsub, 1) := by decide +kernel
theorem d_SF_lowestBytes_19 : decode c_SF_lowestBytes 19 = .ok (.land, 1) := by decide +kernel
theorem d_SF_lowestBytes_20 : decode c_SF_lowestBytes 20 = .ok (.lreturn, 1) := by decide +kernel
abbrev c_SF_spoilPlace : ByteArray := prog_1_method_32_code
abbrev y_SF_spoilPlace : MethodName := ⟨"StripeField", "spoilPlace", "(IIIJ)Z"⟩
theorem d_SF_spoilPlace_0 : decode c_SF_spoilPlace 0 = .ok (.aload_n 0, 1) := by decide +kernel
theorem d_SF_spoilPlace_1 : decode c_SF_spoilPlace 1 = .ok (.getfield 23, 3) := by decide +kernel
theorem d_SF_spoilPlace_4 : decode c_SF_spoilPlace 4 = .ok (.iload_n 1, 1) := by decide +kernel
theorem d_SF_spoilPlace_5 : decode c_SF_spoilPlace 5 = .ok (.iload_n 2, 1) := by decide +kernel
theorem d_SF_spoilPlace_6 : decode c_SF_spoilPlace 6 = .ok (.iload_n 3, 1) := by decide +kernel
theorem d_SF_spoilPlace_7 : decode c_SF_spoilPlace 7 = .ok (.lload 4, 2) := by decide +kernel
theorem d_SF_spoilPlace_9 : decode c_SF_spoilPlace 9 = .ok (.invokevirtual 319, 3) := by decide +kernel
theorem d_SF_spoilPlace_12 : decode c_SF_spoilPlace 12 = .ok (.aload_n 0, 1) := by decide +kernel
theorem d_SF_spoilPlace_13 : decode c_SF_spoilPlace 13 = .ok (.getfield 23, 3) := by decide +kernel
theorem d_SF_spoilPlace_16 : decode c_SF_spoilPlace 16 = .ok (.iload_n 1, 1) := by decide +kernel
theorem d_SF_spoilPlace_17 : decode c_SF_spoilPlace 17 = .ok (.invokevirtual 280, 3) := by decide +kernel
theorem d_SF_spoilPlace_20 : decode c_SF_spoilPlace 20 = .ok (.ifCond .eq 14, 3) := by decide +kernel
theorem d_SF_spoilPlace_23 : decode c_SF_spoilPlace 23 = .ok (.aload_n 0, 1) := by decide +kernel
theorem d_SF_spoilPlace_24 : decode c_SF_spoilPlace 24 = .ok (.getfield 23, 3) := by decide +kernel
theorem d_SF_spoilPlace_27 : decode c_SF_spoilPlace 27 = .ok (.iload_n 1, 1) := by decide +kernel
theorem d_SF_spoilPlace_28 : decode c_SF_spoilPlace 28 = .ok (.invokevirtual 323, 3) := by decide +kernel
theorem d_SF_spoilPlace_31 : decode c_SF_spoilPlace 31 = .ok (.goto 16, 3) := by decide +kernel
theorem d_SF_spoilPlace_34 : decode c_SF_spoilPlace 34 = .ok (.aload_n 0, 1) := by decide +kernel
theorem d_SF_spoilPlace_35 : decode c_SF_spoilPlace 35 = .ok (.aload_n 0, 1) := by decide +kernel
theorem d_SF_spoilPlace_36 : decode c_SF_spoilPlace 36 = .ok (.getfield 32, 3) := by decide +kernel
theorem d_SF_spoilPlace_39 : decode c_SF_spoilPlace 39 = .ok (.getfield 176, 3) := by decide +kernel
theorem d_SF_spoilPlace_42 : decode c_SF_spoilPlace 42 = .ok (.iload_n 1, 1) := by decide +kernel
theorem d_SF_spoilPlace_43 : decode c_SF_spoilPlace 43 = .ok (.iaload, 1) := by decide +kernel
theorem d_SF_spoilPlace_44 : decode c_SF_spoilPlace 44 = .ok (.invokevirtual 326, 3) := by decide +kernel
theorem d_SF_spoilPlace_47 : decode c_SF_spoilPlace 47 = .ok (.istore 6, 2) := by decide +kernel
theorem d_SF_spoilPlace_49 : decode c_SF_spoilPlace 49 = .ok (.iload 6, 2) := by decide +kernel
theorem d_SF_spoilPlace_51 : decode c_SF_spoilPlace 51 = .ok (.ifCond .ne 15, 3) := by decide +kernel
theorem d_SF_spoilPlace_54 : decode c_SF_spoilPlace 54 = .ok (.aload_n 0, 1) := by decide +kernel
theorem d_SF_spoilPlace_55 : decode c_SF_spoilPlace 55 = .ok (.getfield 23, 3) := by decide +kernel
theorem d_SF_spoilPlace_58 : decode c_SF_spoilPlace 58 = .ok (.iload_n 1, 1) := by decide +kernel
theorem d_SF_spoilPlace_59 : decode c_SF_spoilPlace 59 = .ok (.iload_n 2, 1) := by decide +kernel
theorem d_SF_spoilPlace_60 : decode c_SF_spoilPlace 60 = .ok (.iload_n 3, 1) := by decide +kernel
theorem d_SF_spoilPlace_61 : decode c_SF_spoilPlace 61 = .ok (.lload 4, 2) := by decide +kernel
theorem d_SF_spoilPlace_63 : decode c_SF_spoilPlace 63 = .ok (.invokevirtual 319, 3) := by decide +kernel
theorem d_SF_spoilPlace_66 : decode c_SF_spoilPlace 66 = .ok (.iload 6, 2) := by decide +kernel
theorem d_SF_spoilPlace_68 : decode c_SF_spoilPlace 68 = .ok (.ireturn, 1) := by decide +kernel
abbrev c_SF_othersAreValid : ByteArray := prog_1_method_33_code
abbrev y_SF_othersAreValid : MethodName := ⟨"StripeField", "othersAreValid", "(I)Z"⟩
theorem d_SF_othersAreValid_0 : decode c_SF_othersAreValid 0 = .ok (.aload_n 0, 1) := by decide +kernel
theorem d_SF_othersAreValid_1 : decode c_SF_othersAreValid 1 = .ok (.getfield 12, 3) := by decide +kernel
theorem d_SF_othersAreValid_4 : decode c_SF_othersAreValid 4 = .ok (.iload_n 1, 1) := by decide +kernel
theorem d_SF_othersAreValid_5 : decode c_SF_othersAreValid 5 = .ok (.invokevirtual 300, 3) := by decide +kernel
theorem d_SF_othersAreValid_8 : decode c_SF_othersAreValid 8 = .ok (.istore_n 2, 1) := by decide +kernel
theorem d_SF_othersAreValid_9 : decode c_SF_othersAreValid 9 = .ok (.aload_n 0, 1) := by decide +kernel
theorem d_SF_othersAreValid_10 : decode c_SF_othersAreValid 10 = .ok (.getfield 12, 3) := by decide +kernel
theorem d_SF_othersAreValid_13 : decode c_SF_othersAreValid 13 = .ok (.iload_n 1, 1) := by decide +kernel
theorem d_SF_othersAreValid_14 : decode c_SF_othersAreValid 14 = .ok (.invokevirtual 303, 3) := by decide +kernel
theorem d_SF_othersAreValid_17 : decode c_SF_othersAreValid 17 = .ok (.istore_n 3, 1) := by decide +kernel
theorem d_SF_othersAreValid_18 : decode c_SF_othersAreValid 18 = .ok (.iconst 0, 1) := by decide +kernel
theorem d_SF_othersAreValid_19 : decode c_SF_othersAreValid 19 = .ok (.istore 4, 2) := by decide +kernel
theorem d_SF_othersAreValid_21 : decode c_SF_othersAreValid 21 = .ok (.iload 4, 2) := by decide +kernel
theorem d_SF_othersAreValid_23 : decode c_SF_othersAreValid 23 = .ok (.aload_n 0, 1) := by decide +kernel
theorem d_SF_othersAreValid_24 : decode c_SF_othersAreValid 24 = .ok (.getfield 12, 3) := by decide +kernel
theorem d_SF_othersAreValid_27 : decode c_SF_othersAreValid 27 = .ok (.getfield 238, 3) := by decide +kernel
theorem d_SF_othersAreValid_30 : decode c_SF_othersAreValid 30 = .ok (.if_icmp .ge 34, 3) := by decide +kernel
theorem d_SF_othersAreValid_33 : decode c_SF_othersAreValid 33 = .ok (.iload 4, 2) := by decide +kernel
theorem d_SF_othersAreValid_35 : decode c_SF_othersAreValid 35 = .ok (.iload_n 3, 1) := by decide +kernel
theorem d_SF_othersAreValid_36 : decode c_SF_othersAreValid 36 = .ok (.if_icmp .eq 22, 3) := by decide +kernel
theorem d_SF_othersAreValid_39 : decode c_SF_othersAreValid 39 = .ok (.aload_n 0, 1) := by decide +kernel
theorem d_SF_othersAreValid_40 : decode c_SF_othersAreValid 40 = .ok (.getfield 23, 3) := by decide +kernel
theorem d_SF_othersAreValid_43 : decode c_SF_othersAreValid 43 = .ok (.aload_n 0, 1) := by decide +kernel
theorem d_SF_othersAreValid_44 : decode c_SF_othersAreValid 44 = .ok (.iload_n 2, 1) := by decide +kernel
theorem d_SF_othersAreValid_45 : decode c_SF_othersAreValid 45 = .ok (.iload 4, 2) := by decide +kernel
theorem d_SF_othersAreValid_47 : decode c_SF_othersAreValid 47 = .ok (.invokevirtual 268, 3) := by decide +kernel
theorem d_SF_othersAreValid_50 : decode c_SF_othersAreValid 50 = .ok (.invokevirtual 280, 3) := by decide +kernel
theorem d_SF_othersAreValid_53 : decode c_SF_othersAreValid 53 = .ok (.ifCond .ne 5, 3) := by decide +kernel
theorem d_SF_othersAreValid_56 : decode c_SF_othersAreValid 56 = .ok (.iconst 0, 1) := by decide +kernel
theorem d_SF_othersAreValid_57 : decode c_SF_othersAreValid 57 = .ok (.ireturn, 1) := by decide +kernel
theorem d_SF_othersAreValid_58 : decode c_SF_othersAreValid 58 = .ok (.iinc 4 1, 3) := by decide +kernel
theorem d_SF_othersAreValid_61 : decode c_SF_othersAreValid 61 = .ok (.goto (-40), 3) := by decide +kernel
theorem d_SF_othersAreValid_64 : decode c_SF_othersAreValid 64 = .ok (.iconst 1, 1) := by decide +kernel
theorem d_SF_othersAreValid_65 : decode c_SF_othersAreValid 65 = .ok (.ireturn, 1) := by decide +kernel
abbrev c_SF_rebuild : ByteArray := prog_1_method_11_code
abbrev y_SF_rebuild : MethodName := ⟨"StripeField", "rebuild", "()I"⟩
theorem d_SF_rebuild_0 : decode c_SF_rebuild 0 = .ok (.aload_n 0, 1) := by decide +kernel
theorem d_SF_rebuild_1 : decode c_SF_rebuild 1 = .ok (.getfield 39, 3) := by decide +kernel
theorem d_SF_rebuild_4 : decode c_SF_rebuild 4 = .ok (.getfield 81, 3) := by decide +kernel
theorem d_SF_rebuild_7 : decode c_SF_rebuild 7 = .ok (.ifCond .ne 13, 3) := by decide +kernel
theorem d_SF_rebuild_10 : decode c_SF_rebuild 10 = .ok (.new 67, 3) := by decide +kernel
theorem d_SF_rebuild_13 : decode c_SF_rebuild 13 = .ok (.dup, 1) := by decide +kernel
theorem d_SF_rebuild_14 : decode c_SF_rebuild 14 = .ok (.ldc 85, 2) := by decide +kernel
theorem d_SF_rebuild_16 : decode c_SF_rebuild 16 = .ok (.invokespecial 71, 3) := by decide +kernel
theorem d_SF_rebuild_19 : decode c_SF_rebuild 19 = .ok (.athrow, 1) := by decide +kernel
theorem d_SF_rebuild_20 : decode c_SF_rebuild 20 = .ok (.iconst 0, 1) := by decide +kernel
theorem d_SF_rebuild_21 : decode c_SF_rebuild 21 = .ok (.istore_n 1, 1) := by decide +kernel
theorem d_SF_rebuild_22 : decode c_SF_rebuild 22 = .ok (.iload_n 1, 1) := by decide +kernel
theorem d_SF_rebuild_23 : decode c_SF_rebuild 23 = .ok (.aload_n 0, 1) := by decide +kernel
theorem d_SF_rebuild_24 : decode c_SF_rebuild 24 = .ok (.getfield 12, 3) := by decide +kernel
theorem d_SF_rebuild_27 : decode c_SF_rebuild 27 = .ok (.getfield 159, 3) := by decide +kernel
theorem d_SF_rebuild_30 : decode c_SF_rebuild 30 = .ok (.if_icmp .ge 56, 3) := by decide +kernel
theorem d_SF_rebuild_33 : decode c_SF_rebuild 33 = .ok (.aload_n 0, 1) := by decide +kernel
theorem d_SF_rebuild_34 : decode c_SF_rebuild 34 = .ok (.getfield 32, 3) := by decide +kernel
theorem d_SF_rebuild_37 : decode c_SF_rebuild 37 = .ok (.iload_n 1, 1) := by decide +kernel
theorem d_SF_rebuild_38 : decode c_SF_rebuild 38 = .ok (.invokevirtual 184, 3) := by decide +kernel
theorem d_SF_rebuild_41 : decode c_SF_rebuild 41 = .ok (.istore_n 2, 1) := by decide +kernel
theorem d_SF_rebuild_42 : decode c_SF_rebuild 42 = .ok (.iload_n 2, 1) := by decide +kernel
theorem d_SF_rebuild_43 : decode c_SF_rebuild 43 = .ok (.iconst (-1), 1) := by decide +kernel
theorem d_SF_rebuild_44 : decode c_SF_rebuild 44 = .ok (.if_icmp .ne 7, 3) := by decide +kernel
theorem d_SF_rebuild_47 : decode c_SF_rebuild 47 = .ok (.iconst (-1), 1) := by decide +kernel
theorem d_SF_rebuild_48 : decode c_SF_rebuild 48 = .ok (.goto 11, 3) := by decide +kernel
theorem d_SF_rebuild_51 : decode c_SF_rebuild 51 = .ok (.aload_n 0, 1) := by decide +kernel
theorem d_SF_rebuild_52 : decode c_SF_rebuild 52 = .ok (.getfield 32, 3) := by decide +kernel
theorem d_SF_rebuild_55 : decode c_SF_rebuild 55 = .ok (.iload_n 1, 1) := by decide +kernel
theorem d_SF_rebuild_56 : decode c_SF_rebuild 56 = .ok (.invokevirtual 187, 3) := by decide +kernel
theorem d_SF_rebuild_59 : decode c_SF_rebuild 59 = .ok (.istore_n 3, 1) := by decide +kernel
theorem d_SF_rebuild_60 : decode c_SF_rebuild 60 = .ok (.iload_n 3, 1) := by decide +kernel
theorem d_SF_rebuild_61 : decode c_SF_rebuild 61 = .ok (.iconst (-1), 1) := by decide +kernel
theorem d_SF_rebuild_62 : decode c_SF_rebuild 62 = .ok (.if_icmp .eq 18, 3) := by decide +kernel
theorem d_SF_rebuild_65 : decode c_SF_rebuild 65 = .ok (.aload_n 0, 1) := by decide +kernel
theorem d_SF_rebuild_66 : decode c_SF_rebuild 66 = .ok (.iload_n 3, 1) := by decide +kernel
theorem d_SF_rebuild_67 : decode c_SF_rebuild 67 = .ok (.iload_n 2, 1) := by decide +kernel
theorem d_SF_rebuild_68 : decode c_SF_rebuild 68 = .ok (.invokevirtual 190, 3) := by decide +kernel
theorem d_SF_rebuild_71 : decode c_SF_rebuild 71 = .ok (.ifCond .eq 7, 3) := by decide +kernel
theorem d_SF_rebuild_74 : decode c_SF_rebuild 74 = .ok (.iconst 1, 1) := by decide +kernel
theorem d_SF_rebuild_75 : decode c_SF_rebuild 75 = .ok (.goto 4, 3) := by decide +kernel
theorem d_SF_rebuild_78 : decode c_SF_rebuild 78 = .ok (.iconst (-1), 1) := by decide +kernel
theorem d_SF_rebuild_79 : decode c_SF_rebuild 79 = .ok (.ireturn, 1) := by decide +kernel
theorem d_SF_rebuild_80 : decode c_SF_rebuild 80 = .ok (.iinc 1 1, 3) := by decide +kernel
theorem d_SF_rebuild_83 : decode c_SF_rebuild 83 = .ok (.goto (-61), 3) := by decide +kernel
theorem d_SF_rebuild_86 : decode c_SF_rebuild 86 = .ok (.iconst 0, 1) := by decide +kernel
theorem d_SF_rebuild_87 : decode c_SF_rebuild 87 = .ok (.ireturn, 1) := by decide +kernel
abbrev c_SF_moveTo : ByteArray := prog_1_method_26_code
abbrev y_SF_moveTo : MethodName := ⟨"StripeField", "moveTo", "(II)Z"⟩
theorem d_SF_moveTo_0 : decode c_SF_moveTo 0 = .ok (.aload_n 0, 1) := by decide +kernel
theorem d_SF_moveTo_1 : decode c_SF_moveTo 1 = .ok (.getfield 50, 3) := by decide +kernel
theorem d_SF_moveTo_4 : decode c_SF_moveTo 4 = .ok (.lconst 0, 1) := by decide +kernel
theorem d_SF_moveTo_5 : decode c_SF_moveTo 5 = .ok (.invokestatic 103, 3) := by decide +kernel
theorem d_SF_moveTo_8 : decode c_SF_moveTo 8 = .ok (.aload_n 0, 1) := by decide +kernel
theorem d_SF_moveTo_9 : decode c_SF_moveTo 9 = .ok (.aload_n 0, 1) := by decide +kernel
theorem d_SF_moveTo_10 : decode c_SF_moveTo 10 = .ok (.getfield 12, 3) := by decide +kernel
theorem d_SF_moveTo_13 : decode c_SF_moveTo 13 = .ok (.iload_n 1, 1) := by decide +kernel
theorem d_SF_moveTo_14 : decode c_SF_moveTo 14 = .ok (.invokevirtual 300, 3) := by decide +kernel
theorem d_SF_moveTo_17 : decode c_SF_moveTo 17 = .ok (.aload_n 0, 1) := by decide +kernel
theorem d_SF_moveTo_18 : decode c_SF_moveTo 18 = .ok (.getfield 12, 3) := by decide +kernel
theorem d_SF_moveTo_21 : decode c_SF_moveTo 21 = .ok (.iload_n 1, 1) := by decide +kernel
theorem d_SF_moveTo_22 : decode c_SF_moveTo 22 = .ok (.invokevirtual 303, 3) := by decide +kernel
theorem d_SF_moveTo_25 : decode c_SF_moveTo 25 = .ok (.invokevirtual 109, 3) := by decide +kernel
theorem d_SF_moveTo_28 : decode c_SF_moveTo 28 = .ok (.aload_n 0, 1) := by decide +kernel
theorem d_SF_moveTo_29 : decode c_SF_moveTo 29 = .ok (.iload_n 2, 1) := by decide +kernel
theorem d_SF_moveTo_30 : decode c_SF_moveTo 30 = .ok (.aload_n 0, 1) := by decide +kernel
theorem d_SF_moveTo_31 : decode c_SF_moveTo 31 = .ok (.getfield 50, 3) := by decide +kernel
theorem d_SF_moveTo_34 : decode c_SF_moveTo 34 = .ok (.aload_n 0, 1) := by decide +kernel
theorem d_SF_moveTo_35 : decode c_SF_moveTo 35 = .ok (.getfield 12, 3) := by decide +kernel
theorem d_SF_moveTo_38 : decode c_SF_moveTo 38 = .ok (.iload_n 1, 1) := by decide +kernel
theorem d_SF_moveTo_39 : decode c_SF_moveTo 39 = .ok (.invokevirtual 297, 3) := by decide +kernel
theorem d_SF_moveTo_42 : decode c_SF_moveTo 42 = .ok (.invokevirtual 203, 3) := by decide +kernel
theorem d_SF_moveTo_45 : decode c_SF_moveTo 45 = .ok (.ifCond .ne 5, 3) := by decide +kernel
theorem d_SF_moveTo_48 : decode c_SF_moveTo 48 = .ok (.iconst 0, 1) := by decide +kernel
theorem d_SF_moveTo_49 : decode c_SF_moveTo 49 = .ok (.ireturn, 1) := by decide +kernel
theorem d_SF_moveTo_50 : decode c_SF_moveTo 50 = .ok (.aload_n 0, 1) := by decide +kernel
theorem d_SF_moveTo_51 : decode c_SF_moveTo 51 = .ok (.getfield 32, 3) := by decide +kernel
theorem d_SF_moveTo_54 : decode c_SF_moveTo 54 = .ok (.iload_n 1, 1) := by decide +kernel
theorem d_SF_moveTo_55 : decode c_SF_moveTo 55 = .ok (.iload_n 2, 1) := by decide +kernel
theorem d_SF_moveTo_56 : decode c_SF_moveTo 56 = .ok (.invokevirtual 306, 3) := by decide +kernel
theorem d_SF_moveTo_59 : decode c_SF_moveTo 59 = .ok (.iconst 1, 1) := by decide +kernel
theorem d_SF_moveTo_60 : decode c_SF_moveTo 60 = .ok (.ireturn, 1) := by decide +kernel
abbrev c_SF_copyBack : ByteArray := prog_1_method_12_code
abbrev y_SF_copyBack : MethodName := ⟨"StripeField", "copyBack", "()I"⟩
theorem d_SF_copyBack_0 : decode c_SF_copyBack 0 = .ok (.aload_n 0, 1) := by decide +kernel
theorem d_SF_copyBack_1 : decode c_SF_copyBack 1 = .ok (.getfield 39, 3) := by decide +kernel
theorem d_SF_copyBack_4 : decode c_SF_copyBack 4 = .ok (.getfield 81, 3) := by decide +kernel
theorem d_SF_copyBack_7 : decode c_SF_copyBack 7 = .ok (.ifCond .ne 13, 3) := by decide +kernel
theorem d_SF_copyBack_10 : decode c_SF_copyBack 10 = .ok (.new 67, 3) := by decide +kernel
theorem d_SF_copyBack_13 : decode c_SF_copyBack 13 = .ok (.dup, 1) := by decide +kernel
theorem d_SF_copyBack_14 : decode c_SF_copyBack 14 = .ok (.ldc 85, 2) := by decide +kernel
theorem d_SF_copyBack_16 : decode c_SF_copyBack 16 = .ok (.invokespecial 71, 3) := by decide +kernel
theorem d_SF_copyBack_19 : decode c_SF_copyBack 19 = .ok (.athrow, 1) := by decide +kernel
theorem d_SF_copyBack_20 : decode c_SF_copyBack 20 = .ok (.aload_n 0, 1) := by decide +kernel
theorem d_SF_copyBack_21 : decode c_SF_copyBack 21 = .ok (.getfield 32, 3) := by decide +kernel
theorem d_SF_copyBack_24 : decode c_SF_copyBack 24 = .ok (.invokevirtual 193, 3) := by decide +kernel
theorem d_SF_copyBack_27 : decode c_SF_copyBack 27 = .ok (.istore_n 1, 1) := by decide +kernel
theorem d_SF_copyBack_28 : decode c_SF_copyBack 28 = .ok (.iload_n 1, 1) := by decide +kernel
theorem d_SF_copyBack_29 : decode c_SF_copyBack 29 = .ok (.iconst (-1), 1) := by decide +kernel
theorem d_SF_copyBack_30 : decode c_SF_copyBack 30 = .ok (.if_icmp .ne 5, 3) := by decide +kernel
theorem d_SF_copyBack_33 : decode c_SF_copyBack 33 = .ok (.iconst 0, 1) := by decide +kernel
theorem d_SF_copyBack_34 : decode c_SF_copyBack 34 = .ok (.ireturn, 1) := by decide +kernel
theorem d_SF_copyBack_35 : decode c_SF_copyBack 35 = .ok (.aload_n 0, 1) := by decide +kernel
theorem d_SF_copyBack_36 : decode c_SF_copyBack 36 = .ok (.getfield 32, 3) := by decide +kernel
theorem d_SF_copyBack_39 : decode c_SF_copyBack 39 = .ok (.getfield 197, 3) := by decide +kernel
theorem d_SF_copyBack_42 : decode c_SF_copyBack 42 = .ok (.iload_n 1, 1) := by decide +kernel
theorem d_SF_copyBack_43 : decode c_SF_copyBack 43 = .ok (.iaload, 1) := by decide +kernel
theorem d_SF_copyBack_44 : decode c_SF_copyBack 44 = .ok (.istore_n 2, 1) := by decide +kernel
theorem d_SF_copyBack_45 : decode c_SF_copyBack 45 = .ok (.aload_n 0, 1) := by decide +kernel
theorem d_SF_copyBack_46 : decode c_SF_copyBack 46 = .ok (.iload_n 1, 1) := by decide +kernel
theorem d_SF_copyBack_47 : decode c_SF_copyBack 47 = .ok (.aload_n 0, 1) := by decide +kernel
theorem d_SF_copyBack_48 : decode c_SF_copyBack 48 = .ok (.getfield 12, 3) := by decide +kernel
theorem d_SF_copyBack_51 : decode c_SF_copyBack 51 = .ok (.getfield 200, 3) := by decide +kernel
theorem d_SF_copyBack_54 : decode c_SF_copyBack 54 = .ok (.iload_n 1, 1) := by decide +kernel
theorem d_SF_copyBack_55 : decode c_SF_copyBack 55 = .ok (.iaload, 1) := by decide +kernel
theorem d_SF_copyBack_56 : decode c_SF_copyBack 56 = .ok (.invokevirtual 190, 3) := by decide +kernel
theorem d_SF_copyBack_59 : decode c_SF_copyBack 59 = .ok (.ifCond .ne 5, 3) := by decide +kernel
theorem d_SF_copyBack_62 : decode c_SF_copyBack 62 = .ok (.iconst (-1), 1) := by decide +kernel
theorem d_SF_copyBack_63 : decode c_SF_copyBack 63 = .ok (.ireturn, 1) := by decide +kernel
theorem d_SF_copyBack_64 : decode c_SF_copyBack 64 = .ok (.iload_n 2, 1) := by decide +kernel
theorem d_SF_copyBack_65 : decode c_SF_copyBack 65 = .ok (.iconst (-1), 1) := by decide +kernel
theorem d_SF_copyBack_66 : decode c_SF_copyBack 66 = .ok (.if_icmp .eq 16, 3) := by decide +kernel
theorem d_SF_copyBack_69 : decode c_SF_copyBack 69 = .ok (.aload_n 0, 1) := by decide +kernel
theorem d_SF_copyBack_70 : decode c_SF_copyBack 70 = .ok (.iload_n 2, 1) := by decide +kernel
theorem d_SF_copyBack_71 : decode c_SF_copyBack 71 = .ok (.aload_n 0, 1) := by decide +kernel
theorem d_SF_copyBack_72 : decode c_SF_copyBack 72 = .ok (.getfield 53, 3) := by decide +kernel
theorem d_SF_copyBack_75 : decode c_SF_copyBack 75 = .ok (.iconst 0, 1) := by decide +kernel
theorem d_SF_copyBack_76 : decode c_SF_copyBack 76 = .ok (.invokevirtual 203, 3) := by decide +kernel
theorem d_SF_copyBack_79 : decode c_SF_copyBack 79 = .ok (.ifCond .eq 7, 3) := by decide +kernel
theorem d_SF_copyBack_82 : decode c_SF_copyBack 82 = .ok (.iconst 1, 1) := by decide +kernel
theorem d_SF_copyBack_83 : decode c_SF_copyBack 83 = .ok (.goto 4, 3) := by decide +kernel
theorem d_SF_copyBack_86 : decode c_SF_copyBack 86 = .ok (.iconst (-1), 1) := by decide +kernel
theorem d_SF_copyBack_87 : decode c_SF_copyBack 87 = .ok (.ireturn, 1) := by decide +kernel
abbrev c_SF_scrub : ByteArray := prog_1_method_13_code
abbrev y_SF_scrub : MethodName := ⟨"StripeField", "scrub", "()I"⟩
theorem d_SF_scrub_0 : decode c_SF_scrub 0 = .ok (.aload_n 0, 1) := by decide +kernel
theorem d_SF_scrub_1 : decode c_SF_scrub 1 = .ok (.getfield 39, 3) := by decide +kernel
theorem d_SF_scrub_4 : decode c_SF_scrub 4 = .ok (.getfield 81, 3) := by decide +kernel
theorem d_SF_scrub_7 : decode c_SF_scrub 7 = .ok (.ifCond .ne 13, 3) := by decide +kernel
theorem d_SF_scrub_10 : decode c_SF_scrub 10 = .ok (.new 67, 3) := by decide +kernel
theorem d_SF_scrub_13 : decode c_SF_scrub 13 = .ok (.dup, 1) := by decide +kernel
theorem d_SF_scrub_14 : decode c_SF_scrub 14 = .ok (.ldc 85, 2) := by decide +kernel
theorem d_SF_scrub_16 : decode c_SF_scrub 16 = .ok (.invokespecial 71, 3) := by decide +kernel
theorem d_SF_scrub_19 : decode c_SF_scrub 19 = .ok (.athrow, 1) := by decide +kernel
theorem d_SF_scrub_20 : decode c_SF_scrub 20 = .ok (.aload_n 0, 1) := by decide +kernel
theorem d_SF_scrub_21 : decode c_SF_scrub 21 = .ok (.getfield 123, 3) := by decide +kernel
theorem d_SF_scrub_24 : decode c_SF_scrub 24 = .ok (.istore_n 1, 1) := by decide +kernel
theorem d_SF_scrub_25 : decode c_SF_scrub 25 = .ok (.aload_n 0, 1) := by decide +kernel
theorem d_SF_scrub_26 : decode c_SF_scrub 26 = .ok (.iload_n 1, 1) := by decide +kernel
theorem d_SF_scrub_27 : decode c_SF_scrub 27 = .ok (.iconst 1, 1) := by decide +kernel
theorem d_SF_scrub_28 : decode c_SF_scrub 28 = .ok (.iadd, 1) := by decide +kernel
theorem d_SF_scrub_29 : decode c_SF_scrub 29 = .ok (.aload_n 0, 1) := by decide +kernel
theorem d_SF_scrub_30 : decode c_SF_scrub 30 = .ok (.getfield 12, 3) := by decide +kernel
theorem d_SF_scrub_33 : decode c_SF_scrub 33 = .ok (.getfield 207, 3) := by decide +kernel
theorem d_SF_scrub_36 : decode c_SF_scrub 36 = .ok (.if_icmp .ge 9, 3) := by decide +kernel
theorem d_SF_scrub_39 : decode c_SF_scrub 39 = .ok (.iload_n 1, 1) := by decide +kernel
theorem d_SF_scrub_40 : decode c_SF_scrub 40 = .ok (.iconst 1, 1) := by decide +kernel
theorem d_SF_scrub_41 : decode c_SF_scrub 41 = .ok (.iadd, 1) := by decide +kernel
theorem d_SF_scrub_42 : decode c_SF_scrub 42 = .ok (.goto 4, 3) := by decide +kernel
theorem d_SF_scrub_45 : decode c_SF_scrub 45 = .ok (.iconst 0, 1) := by decide +kernel
theorem d_SF_scrub_46 : decode c_SF_scrub 46 = .ok (.putfield 123, 3) := by decide +kernel
theorem d_SF_scrub_49 : decode c_SF_scrub 49 = .ok (.aload_n 0, 1) := by decide +kernel
theorem d_SF_scrub_50 : decode c_SF_scrub 50 = .ok (.iload_n 1, 1) := by decide +kernel
theorem d_SF_scrub_51 : decode c_SF_scrub 51 = .ok (.invokevirtual 210, 3) := by decide +kernel
theorem d_SF_scrub_54 : decode c_SF_scrub 54 = .ok (.istore_n 2, 1) := by decide +kernel
theorem d_SF_scrub_55 : decode c_SF_scrub 55 = .ok (.iload_n 2, 1) := by decide +kernel
theorem d_SF_scrub_56 : decode c_SF_scrub 56 = .ok (.iconst (-1), 1) := by decide +kernel
theorem d_SF_scrub_57 : decode c_SF_scrub 57 = .ok (.if_icmp .eq 36, 3) := by decide +kernel
theorem d_SF_scrub_60 : decode c_SF_scrub 60 = .ok (.aload_n 0, 1) := by decide +kernel
theorem d_SF_scrub_61 : decode c_SF_scrub 61 = .ok (.getfield 50, 3) := by decide +kernel
theorem d_SF_scrub_64 : decode c_SF_scrub 64 = .ok (.lconst 0, 1) := by decide +kernel
theorem d_SF_scrub_65 : decode c_SF_scrub 65 = .ok (.invokestatic 103, 3) := by decide +kernel
theorem d_SF_scrub_68 : decode c_SF_scrub 68 = .ok (.aload_n 0, 1) := by decide +kernel
theorem d_SF_scrub_69 : decode c_SF_scrub 69 = .ok (.iload_n 1, 1) := by decide +kernel
theorem d_SF_scrub_70 : decode c_SF_scrub 70 = .ok (.iload_n 2, 1) := by decide +kernel
theorem d_SF_scrub_71 : decode c_SF_scrub 71 = .ok (.invokevirtual 213, 3) := by decide +kernel
theorem d_SF_scrub_74 : decode c_SF_scrub 74 = .ok (.aload_n 0, 1) := by decide +kernel
theorem d_SF_scrub_75 : decode c_SF_scrub 75 = .ok (.iload_n 1, 1) := by decide +kernel
theorem d_SF_scrub_76 : decode c_SF_scrub 76 = .ok (.iload_n 2, 1) := by decide +kernel
theorem d_SF_scrub_77 : decode c_SF_scrub 77 = .ok (.aload_n 0, 1) := by decide +kernel
theorem d_SF_scrub_78 : decode c_SF_scrub 78 = .ok (.getfield 50, 3) := by decide +kernel
theorem d_SF_scrub_81 : decode c_SF_scrub 81 = .ok (.invokevirtual 216, 3) := by decide +kernel
theorem d_SF_scrub_84 : decode c_SF_scrub 84 = .ok (.ifCond .eq 7, 3) := by decide +kernel
theorem d_SF_scrub_87 : decode c_SF_scrub 87 = .ok (.iconst 1, 1) := by decide +kernel
theorem d_SF_scrub_88 : decode c_SF_scrub 88 = .ok (.goto 4, 3) := by decide +kernel
theorem d_SF_scrub_91 : decode c_SF_scrub 91 = .ok (.iconst (-1), 1) := by decide +kernel
theorem d_SF_scrub_92 : decode c_SF_scrub 92 = .ok (.ireturn, 1) := by decide +kernel
theorem d_SF_scrub_93 : decode c_SF_scrub 93 = .ok (.aload_n 0, 1) := by decide +kernel
theorem d_SF_scrub_94 : decode c_SF_scrub 94 = .ok (.iload_n 1, 1) := by decide +kernel
theorem d_SF_scrub_95 : decode c_SF_scrub 95 = .ok (.invokevirtual 220, 3) := by decide +kernel
theorem d_SF_scrub_98 : decode c_SF_scrub 98 = .ok (.ifCond .eq 13, 3) := by decide +kernel
theorem d_SF_scrub_101 : decode c_SF_scrub 101 = .ok (.aload_n 0, 1) := by decide +kernel
theorem d_SF_scrub_102 : decode c_SF_scrub 102 = .ok (.dup, 1) := by decide +kernel
theorem d_SF_scrub_103 : decode c_SF_scrub 103 = .ok (.getfield 223, 3) := by decide +kernel
theorem d_SF_scrub_106 : decode c_SF_scrub 106 = .ok (.iconst 1, 1) := by decide +kernel
theorem d_SF_scrub_107 : decode c_SF_scrub 107 = .ok (.iadd, 1) := by decide +kernel
theorem d_SF_scrub_108 : decode c_SF_scrub 108 = .ok (.putfield 223, 3) := by decide +kernel
theorem d_SF_scrub_111 : decode c_SF_scrub 111 = .ok (.iconst 0, 1) := by decide +kernel
theorem d_SF_scrub_112 : decode c_SF_scrub 112 = .ok (.ireturn, 1) := by decide +kernel
abbrev c_SF_spoiltColumn : ByteArray := prog_1_method_34_code
abbrev y_SF_spoiltColumn : MethodName := ⟨"StripeField", "spoiltColumn", "(I)I"⟩
theorem d_SF_spoiltColumn_0 : decode c_SF_spoiltColumn 0 = .ok (.iconst 0, 1) := by decide +kernel
theorem d_SF_spoiltColumn_1 : decode c_SF_spoiltColumn 1 = .ok (.istore_n 2, 1) := by decide +kernel
theorem d_SF_spoiltColumn_2 : decode c_SF_spoiltColumn 2 = .ok (.iload_n 2, 1) := by decide +kernel
theorem d_SF_spoiltColumn_3 : decode c_SF_spoiltColumn 3 = .ok (.aload_n 0, 1) := by decide +kernel
theorem d_SF_spoiltColumn_4 : decode c_SF_spoiltColumn 4 = .ok (.getfield 12, 3) := by decide +kernel
theorem d_SF_spoiltColumn_7 : decode c_SF_spoiltColumn 7 = .ok (.getfield 238, 3) := by decide +kernel
theorem d_SF_spoiltColumn_10 : decode c_SF_spoiltColumn 10 = .ok (.if_icmp .ge 34, 3) := by decide +kernel
theorem d_SF_spoiltColumn_13 : decode c_SF_spoiltColumn 13 = .ok (.aload_n 0, 1) := by decide +kernel
theorem d_SF_spoiltColumn_14 : decode c_SF_spoiltColumn 14 = .ok (.iload_n 1, 1) := by decide +kernel
theorem d_SF_spoiltColumn_15 : decode c_SF_spoiltColumn 15 = .ok (.iload_n 2, 1) := by decide +kernel
theorem d_SF_spoiltColumn_16 : decode c_SF_spoiltColumn 16 = .ok (.invokevirtual 268, 3) := by decide +kernel
theorem d_SF_spoiltColumn_19 : decode c_SF_spoiltColumn 19 = .ok (.istore_n 3, 1) := by decide +kernel
theorem d_SF_spoiltColumn_20 : decode c_SF_spoiltColumn 20 = .ok (.iload_n 3, 1) := by decide +kernel
theorem d_SF_spoiltColumn_21 : decode c_SF_spoiltColumn 21 = .ok (.iconst (-1), 1) := by decide +kernel
theorem d_SF_spoiltColumn_22 : decode c_SF_spoiltColumn 22 = .ok (.if_icmp .eq 16, 3) := by decide +kernel
theorem d_SF_spoiltColumn_25 : decode c_SF_spoiltColumn 25 = .ok (.aload_n 0, 1) := by decide +kernel
theorem d_SF_spoiltColumn_26 : decode c_SF_spoiltColumn 26 = .ok (.getfield 23, 3) := by decide +kernel
theorem d_SF_spoiltColumn_29 : decode c_SF_spoiltColumn 29 = .ok (.iload_n 3, 1) := by decide +kernel
theorem d_SF_spoiltColumn_30 : decode c_SF_spoiltColumn 30 = .ok (.invokevirtual 280, 3) := by decide +kernel
theorem d_SF_spoiltColumn_33 : decode c_SF_spoiltColumn 33 = .ok (.ifCond .ne 5, 3) := by decide +kernel
theorem d_SF_spoiltColumn_36 : decode c_SF_spoiltColumn 36 = .ok (.iload_n 2, 1) := by decide +kernel
theorem d_SF_spoiltColumn_37 : decode c_SF_spoiltColumn 37 = .ok (.ireturn, 1) := by decide +kernel
theorem d_SF_spoiltColumn_38 : decode c_SF_spoiltColumn 38 = .ok (.iinc 2 1, 3) := by decide +kernel
theorem d_SF_spoiltColumn_41 : decode c_SF_spoiltColumn 41 = .ok (.goto (-39), 3) := by decide +kernel
theorem d_SF_spoiltColumn_44 : decode c_SF_spoiltColumn 44 = .ok (.iconst (-1), 1) := by decide +kernel
theorem d_SF_spoiltColumn_45 : decode c_SF_spoiltColumn 45 = .ok (.ireturn, 1) := by decide +kernel
abbrev c_SF_isHole : ByteArray := prog_1_method_35_code
abbrev y_SF_isHole : MethodName := ⟨"StripeField", "isHole", "(I)Z"⟩
theorem d_SF_isHole_0 : decode c_SF_isHole 0 = .ok (.aload_n 0, 1) := by decide +kernel
theorem d_SF_isHole_1 : decode c_SF_isHole 1 = .ok (.getfield 50, 3) := by decide +kernel
theorem d_SF_isHole_4 : decode c_SF_isHole 4 = .ok (.lconst 0, 1) := by decide +kernel
theorem d_SF_isHole_5 : decode c_SF_isHole 5 = .ok (.invokestatic 103, 3) := by decide +kernel
theorem d_SF_isHole_8 : decode c_SF_isHole 8 = .ok (.iconst 0, 1) := by decide +kernel
theorem d_SF_isHole_9 : decode c_SF_isHole 9 = .ok (.istore_n 2, 1) := by decide +kernel
theorem d_SF_isHole_10 : decode c_SF_isHole 10 = .ok (.iload_n 2, 1) := by decide +kernel
theorem d_SF_isHole_11 : decode c_SF_isHole 11 = .ok (.aload_n 0, 1) := by decide +kernel
theorem d_SF_isHole_12 : decode c_SF_isHole 12 = .ok (.getfield 12, 3) := by decide +kernel
theorem d_SF_isHole_15 : decode c_SF_isHole 15 = .ok (.getfield 238, 3) := by decide +kernel
theorem d_SF_isHole_18 : decode c_SF_isHole 18 = .ok (.if_icmp .ge 35, 3) := by decide +kernel
theorem d_SF_isHole_21 : decode c_SF_isHole 21 = .ok (.aload_n 0, 1) := by decide +kernel
theorem d_SF_isHole_22 : decode c_SF_isHole 22 = .ok (.iload_n 1, 1) := by decide +kernel
theorem d_SF_isHole_23 : decode c_SF_isHole 23 = .ok (.iload_n 2, 1) := by decide +kernel
theorem d_SF_isHole_24 : decode c_SF_isHole 24 = .ok (.invokevirtual 268, 3) := by decide +kernel
theorem d_SF_isHole_27 : decode c_SF_isHole 27 = .ok (.istore_n 3, 1) := by decide +kernel
theorem d_SF_isHole_28 : decode c_SF_isHole 28 = .ok (.iload_n 3, 1) := by decide +kernel
theorem d_SF_isHole_29 : decode c_SF_isHole 29 = .ok (.iconst (-1), 1) := by decide +kernel
theorem d_SF_isHole_30 : decode c_SF_isHole 30 = .ok (.if_icmp .ne 5, 3) := by decide +kernel
theorem d_SF_isHole_33 : decode c_SF_isHole 33 = .ok (.iconst 0, 1) := by decide +kernel
theorem d_SF_isHole_34 : decode c_SF_isHole 34 = .ok (.ireturn, 1) := by decide +kernel
theorem d_SF_isHole_35 : decode c_SF_isHole 35 = .ok (.aload_n 0, 1) := by decide +kernel
theorem d_SF_isHole_36 : decode c_SF_isHole 36 = .ok (.getfield 23, 3) := by decide +kernel
theorem d_SF_isHole_39 : decode c_SF_isHole 39 = .ok (.aload_n 0, 1) := by decide +kernel
theorem d_SF_isHole_40 : decode c_SF_isHole 40 = .ok (.getfield 50, 3) := by decide +kernel
theorem d_SF_isHole_43 : decode c_SF_isHole 43 = .ok (.iload_n 3, 1) := by decide +kernel
theorem d_SF_isHole_44 : decode c_SF_isHole 44 = .ok (.invokevirtual 283, 3) := by decide +kernel
theorem d_SF_isHole_47 : decode c_SF_isHole 47 = .ok (.iinc 2 1, 3) := by decide +kernel
theorem d_SF_isHole_50 : decode c_SF_isHole 50 = .ok (.goto (-40), 3) := by decide +kernel
theorem d_SF_isHole_53 : decode c_SF_isHole 53 = .ok (.iconst 0, 1) := by decide +kernel
theorem d_SF_isHole_54 : decode c_SF_isHole 54 = .ok (.istore_n 2, 1) := by decide +kernel
theorem d_SF_isHole_55 : decode c_SF_isHole 55 = .ok (.iload_n 2, 1) := by decide +kernel
theorem d_SF_isHole_56 : decode c_SF_isHole 56 = .ok (.bipush 8, 2) := by decide +kernel
theorem d_SF_isHole_58 : decode c_SF_isHole 58 = .ok (.if_icmp .ge 22, 3) := by decide +kernel
theorem d_SF_isHole_61 : decode c_SF_isHole 61 = .ok (.aload_n 0, 1) := by decide +kernel
theorem d_SF_isHole_62 : decode c_SF_isHole 62 = .ok (.getfield 50, 3) := by decide +kernel
theorem d_SF_isHole_65 : decode c_SF_isHole 65 = .ok (.iload_n 2, 1) := by decide +kernel
theorem d_SF_isHole_66 : decode c_SF_isHole 66 = .ok (.laload, 1) := by decide +kernel
theorem d_SF_isHole_67 : decode c_SF_isHole 67 = .ok (.lconst 0, 1) := by decide +kernel
theorem d_SF_isHole_68 : decode c_SF_isHole 68 = .ok (.lcmp, 1) := by decide +kernel
theorem d_SF_isHole_69 : decode c_SF_isHole 69 = .ok (.ifCond .eq 5, 3) := by decide +kernel
theorem d_SF_isHole_72 : decode c_SF_isHole 72 = .ok (.iconst 1, 1) := by decide +kernel
theorem d_SF_isHole_73 : decode c_SF_isHole 73 = .ok (.ireturn, 1) := by decide +kernel
theorem d_SF_isHole_74 : decode c_SF_isHole 74 = .ok (.iinc 2 1, 3) := by decide +kernel
theorem d_SF_isHole_77 : decode c_SF_isHole 77 = .ok (.goto (-22), 3) := by decide +kernel
theorem d_SF_isHole_80 : decode c_SF_isHole 80 = .ok (.iconst 0, 1) := by decide +kernel
theorem d_SF_isHole_81 : decode c_SF_isHole 81 = .ok (.ireturn, 1) := by decide +kernel
abbrev c_SF_look : ByteArray := prog_1_method_14_code
abbrev y_SF_look : MethodName := ⟨"StripeField", "look", "(I)I"⟩
theorem d_SF_look_0 : decode c_SF_look 0 = .ok (.iload_n 1, 1) := by decide +kernel
theorem d_SF_look_1 : decode c_SF_look 1 = .ok (.iconst 2, 1) := by decide +kernel
theorem d_SF_look_2 : decode c_SF_look 2 = .ok (.if_icmp .lt 12, 3) := by decide +kernel
theorem d_SF_look_5 : decode c_SF_look 5 = .ok (.iload_n 1, 1) := by decide +kernel
theorem d_SF_look_6 : decode c_SF_look 6 = .ok (.iconst 4, 1) := by decide +kernel
theorem d_SF_look_7 : decode c_SF_look 7 = .ok (.if_icmp .gt 7, 3) := by decide +kernel
theorem d_SF_look_10 : decode c_SF_look 10 = .ok (.aload_n 0, 1) := by decide +kernel
theorem d_SF_look_11 : decode c_SF_look 11 = .ok (.invokevirtual 145, 3) := by decide +kernel
theorem d_SF_look_14 : decode c_SF_look 14 = .ok (.iload_n 1, 1) := by decide +kernel
theorem d_SF_look_15 : decode c_SF_look 15 = .ok (.tableswitch 168 0 12 #[65, 81, 89, 97, 105, 113, 121, 126, 134, 139, 147, 155, 163], 65) := by decide +kernel
theorem d_SF_look_80 : decode c_SF_look 80 = .ok (.aload_n 0, 1) := by decide +kernel
theorem d_SF_look_81 : decode c_SF_look 81 = .ok (.getfield 39, 3) := by decide +kernel
theorem d_SF_look_84 : decode c_SF_look 84 = .ok (.getfield 81, 3) := by decide +kernel
theorem d_SF_look_87 : decode c_SF_look 87 = .ok (.ifCond .eq 7, 3) := by decide +kernel
theorem d_SF_look_90 : decode c_SF_look 90 = .ok (.iconst 1, 1) := by decide +kernel
theorem d_SF_look_91 : decode c_SF_look 91 = .ok (.goto 4, 3) := by decide +kernel
theorem d_SF_look_94 : decode c_SF_look 94 = .ok (.iconst 0, 1) := by decide +kernel
theorem d_SF_look_95 : decode c_SF_look 95 = .ok (.ireturn, 1) := by decide +kernel
theorem d_SF_look_96 : decode c_SF_look 96 = .ok (.aload_n 0, 1) := by decide +kernel
theorem d_SF_look_97 : decode c_SF_look 97 = .ok (.getfield 39, 3) := by decide +kernel
theorem d_SF_look_100 : decode c_SF_look 100 = .ok (.getfield 226, 3) := by decide +kernel
theorem d_SF_look_103 : decode c_SF_look 103 = .ok (.ireturn, 1) := by decide +kernel
theorem d_SF_look_104 : decode c_SF_look 104 = .ok (.aload_n 0, 1) := by decide +kernel
theorem d_SF_look_105 : decode c_SF_look 105 = .ok (.getfield 32, 3) := by decide +kernel
theorem d_SF_look_108 : decode c_SF_look 108 = .ok (.invokevirtual 229, 3) := by decide +kernel
theorem d_SF_look_111 : decode c_SF_look 111 = .ok (.ireturn, 1) := by decide +kernel
theorem d_SF_look_112 : decode c_SF_look 112 = .ok (.aload_n 0, 1) := by decide +kernel
theorem d_SF_look_113 : decode c_SF_look 113 = .ok (.getfield 32, 3) := by decide +kernel
theorem d_SF_look_116 : decode c_SF_look 116 = .ok (.invokevirtual 232, 3) := by decide +kernel
theorem d_SF_look_119 : decode c_SF_look 119 = .ok (.ireturn, 1) := by decide +kernel
theorem d_SF_look_120 : decode c_SF_look 120 = .ok (.aload_n 0, 1) := by decide +kernel
theorem d_SF_look_121 : decode c_SF_look 121 = .ok (.getfield 32, 3) := by decide +kernel
theorem d_SF_look_124 : decode c_SF_look 124 = .ok (.invokevirtual 235, 3) := by decide +kernel
theorem d_SF_look_127 : decode c_SF_look 127 = .ok (.ireturn, 1) := by decide +kernel
theorem d_SF_look_128 : decode c_SF_look 128 = .ok (.aload_n 0, 1) := by decide +kernel
theorem d_SF_look_129 : decode c_SF_look 129 = .ok (.getfield 12, 3) := by decide +kernel
theorem d_SF_look_132 : decode c_SF_look 132 = .ok (.getfield 76, 3) := by decide +kernel
theorem d_SF_look_135 : decode c_SF_look 135 = .ok (.ireturn, 1) := by decide +kernel
theorem d_SF_look_136 : decode c_SF_look 136 = .ok (.aload_n 0, 1) := by decide +kernel
theorem d_SF_look_137 : decode c_SF_look 137 = .ok (.getfield 223, 3) := by decide +kernel
theorem d_SF_look_140 : decode c_SF_look 140 = .ok (.ireturn, 1) := by decide +kernel
theorem d_SF_look_141 : decode c_SF_look 141 = .ok (.aload_n 0, 1) := by decide +kernel
theorem d_SF_look_142 : decode c_SF_look 142 = .ok (.getfield 12, 3) := by decide +kernel
theorem d_SF_look_145 : decode c_SF_look 145 = .ok (.getfield 207, 3) := by decide +kernel
theorem d_SF_look_148 : decode c_SF_look 148 = .ok (.ireturn, 1) := by decide +kernel
theorem d_SF_look_149 : decode c_SF_look 149 = .ok (.aload_n 0, 1) := by decide +kernel
theorem d_SF_look_150 : decode c_SF_look 150 = .ok (.getfield 123, 3) := by decide +kernel
theorem d_SF_look_153 : decode c_SF_look 153 = .ok (.ireturn, 1) := by decide +kernel
theorem d_SF_look_154 : decode c_SF_look 154 = .ok (.aload_n 0, 1) := by decide +kernel
theorem d_SF_look_155 : decode c_SF_look 155 = .ok (.getfield 12, 3) := by decide +kernel
theorem d_SF_look_158 : decode c_SF_look 158 = .ok (.getfield 238, 3) := by decide +kernel
theorem d_SF_look_161 : decode c_SF_look 161 = .ok (.ireturn, 1) := by decide +kernel
theorem d_SF_look_162 : decode c_SF_look 162 = .ok (.aload_n 0, 1) := by decide +kernel
theorem d_SF_look_163 : decode c_SF_look 163 = .ok (.getfield 12, 3) := by decide +kernel
theorem d_SF_look_166 : decode c_SF_look 166 = .ok (.getfield 136, 3) := by decide +kernel
theorem d_SF_look_169 : decode c_SF_look 169 = .ok (.ireturn, 1) := by decide +kernel
theorem d_SF_look_170 : decode c_SF_look 170 = .ok (.aload_n 0, 1) := by decide +kernel
theorem d_SF_look_171 : decode c_SF_look 171 = .ok (.getfield 23, 3) := by decide +kernel
theorem d_SF_look_174 : decode c_SF_look 174 = .ok (.invokevirtual 241, 3) := by decide +kernel
theorem d_SF_look_177 : decode c_SF_look 177 = .ok (.ireturn, 1) := by decide +kernel
theorem d_SF_look_178 : decode c_SF_look 178 = .ok (.aload_n 0, 1) := by decide +kernel
theorem d_SF_look_179 : decode c_SF_look 179 = .ok (.getfield 63, 3) := by decide +kernel
theorem d_SF_look_182 : decode c_SF_look 182 = .ok (.ireturn, 1) := by decide +kernel
theorem d_SF_look_183 : decode c_SF_look 183 = .ok (.new 56, 3) := by decide +kernel
theorem d_SF_look_186 : decode c_SF_look 186 = .ok (.dup, 1) := by decide +kernel
theorem d_SF_look_187 : decode c_SF_look 187 = .ok (.ldc 244, 2) := by decide +kernel
theorem d_SF_look_189 : decode c_SF_look 189 = .ok (.invokespecial 60, 3) := by decide +kernel
theorem d_SF_look_192 : decode c_SF_look 192 = .ok (.athrow, 1) := by decide +kernel
abbrev c_SF_place : ByteArray := prog_1_method_15_code
abbrev y_SF_place : MethodName := ⟨"StripeField", "place", "(II)I"⟩
theorem d_SF_place_0 : decode c_SF_place 0 = .ok (.iload_n 1, 1) := by decide +kernel
theorem d_SF_place_1 : decode c_SF_place 1 = .ok (.ifCond .lt 14, 3) := by decide +kernel
theorem d_SF_place_4 : decode c_SF_place 4 = .ok (.iload_n 1, 1) := by decide +kernel
theorem d_SF_place_5 : decode c_SF_place 5 = .ok (.aload_n 0, 1) := by decide +kernel
theorem d_SF_place_6 : decode c_SF_place 6 = .ok (.getfield 12, 3) := by decide +kernel
theorem d_SF_place_9 : decode c_SF_place 9 = .ok (.getfield 159, 3) := by decide +kernel
theorem d_SF_place_12 : decode c_SF_place 12 = .ok (.if_icmp .lt 13, 3) := by decide +kernel
theorem d_SF_place_15 : decode c_SF_place 15 = .ok (.new 56, 3) := by decide +kernel
theorem d_SF_place_18 : decode c_SF_place 18 = .ok (.dup, 1) := by decide +kernel
theorem d_SF_place_19 : decode c_SF_place 19 = .ok (.ldc 246, 2) := by decide +kernel
theorem d_SF_place_21 : decode c_SF_place 21 = .ok (.invokespecial 60, 3) := by decide +kernel
theorem d_SF_place_24 : decode c_SF_place 24 = .ok (.athrow, 1) := by decide +kernel
theorem d_SF_place_25 : decode c_SF_place 25 = .ok (.iload_n 2, 1) := by decide +kernel
theorem d_SF_place_26 : decode c_SF_place 26 = .ok (.ifCond .lt 14, 3) := by decide +kernel
theorem d_SF_place_29 : decode c_SF_place 29 = .ok (.iload_n 2, 1) := by decide +kernel
theorem d_SF_place_30 : decode c_SF_place 30 = .ok (.aload_n 0, 1) := by decide +kernel
theorem d_SF_place_31 : decode c_SF_place 31 = .ok (.getfield 12, 3) := by decide +kernel
theorem d_SF_place_34 : decode c_SF_place 34 = .ok (.getfield 248, 3) := by decide +kernel
theorem d_SF_place_37 : decode c_SF_place 37 = .ok (.if_icmp .lt 13, 3) := by decide +kernel
theorem d_SF_place_40 : decode c_SF_place 40 = .ok (.new 56, 3) := by decide +kernel
theorem d_SF_place_43 : decode c_SF_place 43 = .ok (.dup, 1) := by decide +kernel
theorem d_SF_place_44 : decode c_SF_place 44 = .ok (.ldc 251, 2) := by decide +kernel
theorem d_SF_place_46 : decode c_SF_place 46 = .ok (.invokespecial 60, 3) := by decide +kernel
theorem d_SF_place_49 : decode c_SF_place 49 = .ok (.athrow, 1) := by decide +kernel
theorem d_SF_place_50 : decode c_SF_place 50 = .ok (.aload_n 0, 1) := by decide +kernel
theorem d_SF_place_51 : decode c_SF_place 51 = .ok (.invokevirtual 145, 3) := by decide +kernel
theorem d_SF_place_54 : decode c_SF_place 54 = .ok (.aload_n 0, 1) := by decide +kernel
theorem d_SF_place_55 : decode c_SF_place 55 = .ok (.getfield 32, 3) := by decide +kernel
theorem d_SF_place_58 : decode c_SF_place 58 = .ok (.getfield 197, 3) := by decide +kernel
theorem d_SF_place_61 : decode c_SF_place 61 = .ok (.aload_n 0, 1) := by decide +kernel
theorem d_SF_place_62 : decode c_SF_place 62 = .ok (.getfield 12, 3) := by decide +kernel
theorem d_SF_place_65 : decode c_SF_place 65 = .ok (.iload_n 1, 1) := by decide +kernel
theorem d_SF_place_66 : decode c_SF_place 66 = .ok (.iload_n 2, 1) := by decide +kernel
theorem d_SF_place_67 : decode c_SF_place 67 = .ok (.invokevirtual 253, 3) := by decide +kernel
theorem d_SF_place_70 : decode c_SF_place 70 = .ok (.iaload, 1) := by decide +kernel
theorem d_SF_place_71 : decode c_SF_place 71 = .ok (.istore_n 3, 1) := by decide +kernel
theorem d_SF_place_72 : decode c_SF_place 72 = .ok (.iload_n 3, 1) := by decide +kernel
theorem d_SF_place_73 : decode c_SF_place 73 = .ok (.iconst (-1), 1) := by decide +kernel
theorem d_SF_place_74 : decode c_SF_place 74 = .ok (.if_icmp .ne 7, 3) := by decide +kernel
theorem d_SF_place_77 : decode c_SF_place 77 = .ok (.iconst (-1), 1) := by decide +kernel
theorem d_SF_place_78 : decode c_SF_place 78 = .ok (.goto 11, 3) := by decide +kernel
theorem d_SF_place_81 : decode c_SF_place 81 = .ok (.aload_n 0, 1) := by decide +kernel
theorem d_SF_place_82 : decode c_SF_place 82 = .ok (.getfield 12, 3) := by decide +kernel
theorem d_SF_place_85 : decode c_SF_place 85 = .ok (.iload_n 3, 1) := by decide +kernel
theorem d_SF_place_86 : decode c_SF_place 86 = .ok (.invokevirtual 256, 3) := by decide +kernel
theorem d_SF_place_89 : decode c_SF_place 89 = .ok (.ireturn, 1) := by decide +kernel
end
section
abbrev c_MD_init : ByteArray := prog_7_method_1_code
abbrev y_MD_init : MethodName := ⟨"StripeFieldModel", "<init>", "(III)V"⟩
theorem d_MD_init_0 : decode c_MD_init 0 = .ok (.aload_n 0, 1) := by decide +kernel
theorem d_MD_init_1 : decode c_MD_init 1 = .ok (.invokespecial 1, 3) := by decide +kernel
theorem d_MD_init_4 : decode c_MD_init 4 = .ok (.aload_n 0, 1) := by decide +kernel
theorem d_MD_init_5 : decode c_MD_init 5 = .ok (.bipush 16, 2) := by decide +kernel
theorem d_MD_init_7 : decode c_MD_init 7 = .ok (.newarray .int, 2) := by decide +kernel
theorem d_MD_init_9 : decode c_MD_init 9 = .ok (.putfield 7, 3) := by decide +kernel
theorem d_MD_init_12 : decode c_MD_init 12 = .ok (.aload_n 0, 1) := by decide +kernel
theorem d_MD_init_13 : decode c_MD_init 13 = .ok (.bipush 16, 2) := by decide +kernel
theorem d_MD_init_15 : decode c_MD_init 15 = .ok (.newarray .boolean, 2) := by decide +kernel
theorem d_MD_init_17 : decode c_MD_init 17 = .ok (.putfield 13, 3) := by decide +kernel
theorem d_MD_init_20 : decode c_MD_init 20 = .ok (.aload_n 0, 1) := by decide +kernel
theorem d_MD_init_21 : decode c_MD_init 21 = .ok (.sipush 1040, 3) := by decide +kernel
theorem d_MD_init_24 : decode c_MD_init 24 = .ok (.newarray .boolean, 2) := by decide +kernel
theorem d_MD_init_26 : decode c_MD_init 26 = .ok (.putfield 17, 3) := by decide +kernel
theorem d_MD_init_29 : decode c_MD_init 29 = .ok (.aload_n 0, 1) := by decide +kernel
theorem d_MD_init_30 : decode c_MD_init 30 = .ok (.sipush 1040, 3) := by decide +kernel
theorem d_MD_init_33 : decode c_MD_init 33 = .ok (.newarray .int, 2) := by decide +kernel
theorem d_MD_init_35 : decode c_MD_init 35 = .ok (.putfield 20, 3) := by decide +kernel
theorem d_MD_init_38 : decode c_MD_init 38 = .ok (.aload_n 0, 1) := by decide +kernel
theorem d_MD_init_39 : decode c_MD_init 39 = .ok (.ldc 23, 2) := by decide +kernel
theorem d_MD_init_41 : decode c_MD_init 41 = .ok (.newarray .byte, 2) := by decide +kernel
theorem d_MD_init_43 : decode c_MD_init 43 = .ok (.putfield 24, 3) := by decide +kernel
theorem d_MD_init_46 : decode c_MD_init 46 = .ok (.aload_n 0, 1) := by decide +kernel
theorem d_MD_init_47 : decode c_MD_init 47 = .ok (.sipush 1024, 3) := by decide +kernel
theorem d_MD_init_50 : decode c_MD_init 50 = .ok (.newarray .int, 2) := by decide +kernel
theorem d_MD_init_52 : decode c_MD_init 52 = .ok (.putfield 28, 3) := by decide +kernel
theorem d_MD_init_55 : decode c_MD_init 55 = .ok (.aload_n 0, 1) := by decide +kernel
theorem d_MD_init_56 : decode c_MD_init 56 = .ok (.iconst 1, 1) := by decide +kernel
theorem d_MD_init_57 : decode c_MD_init 57 = .ok (.putfield 31, 3) := by decide +kernel
theorem d_MD_init_60 : decode c_MD_init 60 = .ok (.aload_n 0, 1) := by decide +kernel
theorem d_MD_init_61 : decode c_MD_init 61 = .ok (.iconst (-1), 1) := by decide +kernel
theorem d_MD_init_62 : decode c_MD_init 62 = .ok (.putfield 35, 3) := by decide +kernel
theorem d_MD_init_65 : decode c_MD_init 65 = .ok (.aload_n 0, 1) := by decide +kernel
theorem d_MD_init_66 : decode c_MD_init 66 = .ok (.bipush 64, 2) := by decide +kernel
theorem d_MD_init_68 : decode c_MD_init 68 = .ok (.newarray .int, 2) := by decide +kernel
theorem d_MD_init_70 : decode c_MD_init 70 = .ok (.putfield 39, 3) := by decide +kernel
theorem d_MD_init_73 : decode c_MD_init 73 = .ok (.aload_n 0, 1) := by decide +kernel
theorem d_MD_init_74 : decode c_MD_init 74 = .ok (.ldc 42, 2) := by decide +kernel
theorem d_MD_init_76 : decode c_MD_init 76 = .ok (.newarray .int, 2) := by decide +kernel
theorem d_MD_init_78 : decode c_MD_init 78 = .ok (.putfield 43, 3) := by decide +kernel
theorem d_MD_init_81 : decode c_MD_init 81 = .ok (.aload_n 0, 1) := by decide +kernel
theorem d_MD_init_82 : decode c_MD_init 82 = .ok (.iconst (-1), 1) := by decide +kernel
theorem d_MD_init_83 : decode c_MD_init 83 = .ok (.putfield 46, 3) := by decide +kernel
theorem d_MD_init_86 : decode c_MD_init 86 = .ok (.aload_n 0, 1) := by decide +kernel
theorem d_MD_init_87 : decode c_MD_init 87 = .ok (.bipush 64, 2) := by decide +kernel
theorem d_MD_init_89 : decode c_MD_init 89 = .ok (.newarray .int, 2) := by decide +kernel
theorem d_MD_init_91 : decode c_MD_init 91 = .ok (.putfield 49, 3) := by decide +kernel
theorem d_MD_init_94 : decode c_MD_init 94 = .ok (.aload_n 0, 1) := by decide +kernel
theorem d_MD_init_95 : decode c_MD_init 95 = .ok (.iload_n 1, 1) := by decide +kernel
theorem d_MD_init_96 : decode c_MD_init 96 = .ok (.bipush 6, 2) := by decide +kernel
theorem d_MD_init_98 : decode c_MD_init 98 = .ok (.if_icmp .lt 9, 3) := by decide +kernel
theorem d_MD_init_101 : decode c_MD_init 101 = .ok (.iload_n 1, 1) := by decide +kernel
theorem d_MD_init_102 : decode c_MD_init 102 = .ok (.bipush 16, 2) := by decide +kernel
theorem d_MD_init_104 : decode c_MD_init 104 = .ok (.if_icmp .le 8, 3) := by decide +kernel
theorem d_MD_init_107 : decode c_MD_init 107 = .ok (.bipush 8, 2) := by decide +kernel
theorem d_MD_init_109 : decode c_MD_init 109 = .ok (.goto 4, 3) := by decide +kernel
theorem d_MD_init_112 : decode c_MD_init 112 = .ok (.iload_n 1, 1) := by decide +kernel
theorem d_MD_init_113 : decode c_MD_init 113 = .ok (.putfield 52, 3) := by decide +kernel
theorem d_MD_init_116 : decode c_MD_init 116 = .ok (.aload_n 0, 1) := by decide +kernel
theorem d_MD_init_117 : decode c_MD_init 117 = .ok (.iload_n 2, 1) := by decide +kernel
theorem d_MD_init_118 : decode c_MD_init 118 = .ok (.iconst 3, 1) := by decide +kernel
theorem d_MD_init_119 : decode c_MD_init 119 = .ok (.if_icmp .lt 17, 3) := by decide +kernel
theorem d_MD_init_122 : decode c_MD_init 122 = .ok (.iload_n 2, 1) := by decide +kernel
theorem d_MD_init_123 : decode c_MD_init 123 = .ok (.bipush 8, 2) := by decide +kernel
theorem d_MD_init_125 : decode c_MD_init 125 = .ok (.if_icmp .gt 11, 3) := by decide +kernel
theorem d_MD_init_128 : decode c_MD_init 128 = .ok (.iload_n 2, 1) := by decide +kernel
theorem d_MD_init_129 : decode c_MD_init 129 = .ok (.aload_n 0, 1) := by decide +kernel
theorem d_MD_init_130 : decode c_MD_init 130 = .ok (.getfield 52, 3) := by decide +kernel
theorem d_MD_init_133 : decode c_MD_init 133 = .ok (.if_icmp .lt 7, 3) := by decide +kernel
theorem d_MD_init_136 : decode c_MD_init 136 = .ok (.iconst 3, 1) := by decide +kernel
theorem d_MD_init_137 : decode c_MD_init 137 = .ok (.goto 4, 3) := by decide +kernel
theorem d_MD_init_140 : decode c_MD_init 140 = .ok (.iload_n 2, 1) := by decide +kernel
theorem d_MD_init_141 : decode c_MD_init 141 = .ok (.putfield 55, 3) := by decide +kernel
theorem d_MD_init_144 : decode c_MD_init 144 = .ok (.aload_n 0, 1) := by decide +kernel
theorem d_MD_init_145 : decode c_MD_init 145 = .ok (.iload_n 3, 1) := by decide +kernel
theorem d_MD_init_146 : decode c_MD_init 146 = .ok (.bipush 48, 2) := by decide +kernel
theorem d_MD_init_148 : decode c_MD_init 148 = .ok (.if_icmp .lt 9, 3) := by decide +kernel
theorem d_MD_init_151 : decode c_MD_init 151 = .ok (.iload_n 3, 1) := by decide +kernel
theorem d_MD_init_152 : decode c_MD_init 152 = .ok (.bipush 64, 2) := by decide +kernel
theorem d_MD_init_154 : decode c_MD_init 154 = .ok (.if_icmp .le 8, 3) := by decide +kernel
theorem d_MD_init_157 : decode c_MD_init 157 = .ok (.bipush 48, 2) := by decide +kernel
theorem d_MD_init_159 : decode c_MD_init 159 = .ok (.goto 4, 3) := by decide +kernel
theorem d_MD_init_162 : decode c_MD_init 162 = .ok (.iload_n 3, 1) := by decide +kernel
theorem d_MD_init_163 : decode c_MD_init 163 = .ok (.putfield 58, 3) := by decide +kernel
theorem d_MD_init_166 : decode c_MD_init 166 = .ok (.aload_n 0, 1) := by decide +kernel
theorem d_MD_init_167 : decode c_MD_init 167 = .ok (.aload_n 0, 1) := by decide +kernel
theorem d_MD_init_168 : decode c_MD_init 168 = .ok (.getfield 52, 3) := by decide +kernel
theorem d_MD_init_171 : decode c_MD_init 171 = .ok (.iconst 1, 1) := by decide +kernel
theorem d_MD_init_172 : decode c_MD_init 172 = .ok (.isub, 1) := by decide +kernel
theorem d_MD_init_173 : decode c_MD_init 173 = .ok (.aload_n 0, 1) := by decide +kernel
theorem d_MD_init_174 : decode c_MD_init 174 = .ok (.getfield 55, 3) := by decide +kernel
theorem d_MD_init_177 : decode c_MD_init 177 = .ok (.idiv, 1) := by decide +kernel
theorem d_MD_init_178 : decode c_MD_init 178 = .ok (.putfield 61, 3) := by decide +kernel
theorem d_MD_init_181 : decode c_MD_init 181 = .ok (.iconst 1, 1) := by decide +kernel
theorem d_MD_init_182 : decode c_MD_init 182 = .ok (.istore 4, 2) := by decide +kernel
theorem d_MD_init_184 : decode c_MD_init 184 = .ok (.iload 4, 2) := by decide +kernel
theorem d_MD_init_186 : decode c_MD_init 186 = .ok (.aload_n 0, 1) := by decide +kernel
theorem d_MD_init_187 : decode c_MD_init 187 = .ok (.getfield 52, 3) := by decide +kernel
theorem d_MD_init_190 : decode c_MD_init 190 = .ok (.if_icmp .ge 87, 3) := by decide +kernel
theorem d_MD_init_193 : decode c_MD_init 193 = .ok (.iconst 1, 1) := by decide +kernel
theorem d_MD_init_194 : decode c_MD_init 194 = .ok (.istore 5, 2) := by decide +kernel
theorem d_MD_init_196 : decode c_MD_init 196 = .ok (.iconst 2, 1) := by decide +kernel
theorem d_MD_init_197 : decode c_MD_init 197 = .ok (.istore 6, 2) := by decide +kernel
theorem d_MD_init_199 : decode c_MD_init 199 = .ok (.iload 6, 2) := by decide +kernel
theorem d_MD_init_201 : decode c_MD_init 201 = .ok (.iload 4, 2) := by decide +kernel
theorem d_MD_init_203 : decode c_MD_init 203 = .ok (.if_icmp .gt 39, 3) := by decide +kernel
theorem d_MD_init_206 : decode c_MD_init 206 = .ok (.iload 5, 2) := by decide +kernel
theorem d_MD_init_208 : decode c_MD_init 208 = .ok (.ifCond .eq 25, 3) := by decide +kernel
theorem d_MD_init_211 : decode c_MD_init 211 = .ok (.iload 4, 2) := by decide +kernel
theorem d_MD_init_213 : decode c_MD_init 213 = .ok (.iload 6, 2) := by decide +kernel
theorem d_MD_init_215 : decode c_MD_init 215 = .ok (.irem, 1) := by decide +kernel
theorem d_MD_init_216 : decode c_MD_init 216 = .ok (.ifCond .ne 13, 3) := by decide +kernel
theorem d_MD_init_219 : decode c_MD_init 219 = .ok (.aload_n 0, 1) := by decide +kernel
theorem d_MD_init_220 : decode c_MD_init 220 = .ok (.getfield 52, 3) := by decide +kernel
theorem d_MD_init_223 : decode c_MD_init 223 = .ok (.iload 6, 2) := by decide +kernel
theorem d_MD_init_225 : decode c_MD_init 225 = .ok (.irem, 1) := by decide +kernel
theorem d_MD_init_226 : decode c_MD_init 226 = .ok (.ifCond .eq 7, 3) := by decide +kernel
theorem d_MD_init_229 : decode c_MD_init 229 = .ok (.iconst 1, 1) := by decide +kernel
theorem d_MD_init_230 : decode c_MD_init 230 = .ok (.goto 4, 3) := by decide +kernel
theorem d_MD_init_233 : decode c_MD_init 233 = .ok (.iconst 0, 1) := by decide +kernel
theorem d_MD_init_234 : decode c_MD_init 234 = .ok (.istore 5, 2) := by decide +kernel
theorem d_MD_init_236 : decode c_MD_init 236 = .ok (.iinc 6 1, 3) := by decide +kernel
theorem d_MD_init_239 : decode c_MD_init 239 = .ok (.goto (-40), 3) := by decide +kernel
theorem d_MD_init_242 : decode c_MD_init 242 = .ok (.iload 5, 2) := by decide +kernel
theorem d_MD_init_244 : decode c_MD_init 244 = .ok (.ifCond .ne 6, 3) := by decide +kernel
theorem d_MD_init_247 : decode c_MD_init 247 = .ok (.goto 24, 3) := by decide +kernel
theorem d_MD_init_250 : decode c_MD_init 250 = .ok (.aload_n 0, 1) := by decide +kernel
theorem d_MD_init_251 : decode c_MD_init 251 = .ok (.getfield 7, 3) := by decide +kernel
theorem d_MD_init_254 : decode c_MD_init 254 = .ok (.aload_n 0, 1) := by decide +kernel
theorem d_MD_init_255 : decode c_MD_init 255 = .ok (.getfield 64, 3) := by decide +kernel
theorem d_MD_init_258 : decode c_MD_init 258 = .ok (.iload 4, 2) := by decide +kernel
theorem d_MD_init_260 : decode c_MD_init 260 = .ok (.iastore, 1) := by decide +kernel
theorem d_MD_init_261 : decode c_MD_init 261 = .ok (.aload_n 0, 1) := by decide +kernel
theorem d_MD_init_262 : decode c_MD_init 262 = .ok (.dup, 1) := by decide +kernel
theorem d_MD_init_263 : decode c_MD_init 263 = .ok (.getfield 64, 3) := by decide +kernel
theorem d_MD_init_266 : decode c_MD_init 266 = .ok (.iconst 1, 1) := by decide +kernel
theorem d_MD_init_267 : decode c_MD_init 267 = .ok (.iadd, 1) := by decide +kernel
theorem d_MD_init_268 : decode c_MD_init 268 = .ok (.putfield 64, 3) := by decide +kernel
theorem d_MD_init_271 : decode c_MD_init 271 = .ok (.iinc 4 1, 3) := by decide +kernel
theorem d_MD_init_274 : decode c_MD_init 274 = .ok (.goto (-90), 3) := by decide +kernel
theorem d_MD_init_277 : decode c_MD_init 277 = .ok (.iconst 0, 1) := by decide +kernel
theorem d_MD_init_278 : decode c_MD_init 278 = .ok (.istore 4, 2) := by decide +kernel
theorem d_MD_init_280 : decode c_MD_init 280 = .ok (.iload 4, 2) := by decide +kernel
theorem d_MD_init_282 : decode c_MD_init 282 = .ok (.aload_n 0, 1) := by decide +kernel
theorem d_MD_init_283 : decode c_MD_init 283 = .ok (.getfield 52, 3) := by decide +kernel
theorem d_MD_init_286 : decode c_MD_init 286 = .ok (.if_icmp .ge 48, 3) := by decide +kernel
theorem d_MD_init_289 : decode c_MD_init 289 = .ok (.aload_n 0, 1) := by decide +kernel
theorem d_MD_init_290 : decode c_MD_init 290 = .ok (.getfield 13, 3) := by decide +kernel
theorem d_MD_init_293 : decode c_MD_init 293 = .ok (.iload 4, 2) := by decide +kernel
theorem d_MD_init_295 : decode c_MD_init 295 = .ok (.iconst 1, 1) := by decide +kernel
theorem d_MD_init_296 : decode c_MD_init 296 = .ok (.bastore, 1) := by decide +kernel
theorem d_MD_init_297 : decode c_MD_init 297 = .ok (.iconst 0, 1) := by decide +kernel
theorem d_MD_init_298 : decode c_MD_init 298 = .ok (.istore 5, 2) := by decide +kernel
theorem d_MD_init_300 : decode c_MD_init 300 = .ok (.iload 5, 2) := by decide +kernel
theorem d_MD_init_302 : decode c_MD_init 302 = .ok (.aload_n 0, 1) := by decide +kernel
theorem d_MD_init_303 : decode c_MD_init 303 = .ok (.getfield 58, 3) := by decide +kernel
theorem d_MD_init_306 : decode c_MD_init 306 = .ok (.if_icmp .gt 22, 3) := by decide +kernel
theorem d_MD_init_309 : decode c_MD_init 309 = .ok (.aload_n 0, 1) := by decide +kernel
theorem d_MD_init_310 : decode c_MD_init 310 = .ok (.getfield 17, 3) := by decide +kernel
theorem d_MD_init_313 : decode c_MD_init 313 = .ok (.iload 4, 2) := by decide +kernel
theorem d_MD_init_315 : decode c_MD_init 315 = .ok (.iload 5, 2) := by decide +kernel
theorem d_MD_init_317 : decode c_MD_init 317 = .ok (.invokestatic 67, 3) := by decide +kernel
theorem d_MD_init_320 : decode c_MD_init 320 = .ok (.iconst 1, 1) := by decide +kernel
theorem d_MD_init_321 : decode c_MD_init 321 = .ok (.bastore, 1) := by decide +kernel
theorem d_MD_init_322 : decode c_MD_init 322 = .ok (.iinc 5 1, 3) := by decide +kernel
theorem d_MD_init_325 : decode c_MD_init 325 = .ok (.goto (-25), 3) := by decide +kernel
theorem d_MD_init_328 : decode c_MD_init 328 = .ok (.iinc 4 1, 3) := by decide +kernel
theorem d_MD_init_331 : decode c_MD_init 331 = .ok (.goto (-51), 3) := by decide +kernel
theorem d_MD_init_334 : decode c_MD_init 334 = .ok (.iconst 0, 1) := by decide +kernel
theorem d_MD_init_335 : decode c_MD_init 335 = .ok (.istore 4, 2) := by decide +kernel
theorem d_MD_init_337 : decode c_MD_init 337 = .ok (.iload 4, 2) := by decide +kernel
theorem d_MD_init_339 : decode c_MD_init 339 = .ok (.aload_n 0, 1) := by decide +kernel
theorem d_MD_init_340 : decode c_MD_init 340 = .ok (.getfield 58, 3) := by decide +kernel
theorem d_MD_init_343 : decode c_MD_init 343 = .ok (.if_icmp .ge 75, 3) := by decide +kernel
theorem d_MD_init_346 : decode c_MD_init 346 = .ok (.iconst 0, 1) := by decide +kernel
theorem d_MD_init_347 : decode c_MD_init 347 = .ok (.istore 5, 2) := by decide +kernel
theorem d_MD_init_349 : decode c_MD_init 349 = .ok (.iload 5, 2) := by decide +kernel
theorem d_MD_init_351 : decode c_MD_init 351 = .ok (.aload_n 0, 1) := by decide +kernel
theorem d_MD_init_352 : decode c_MD_init 352 = .ok (.getfield 55, 3) := by decide +kernel
theorem d_MD_init_355 : decode c_MD_init 355 = .ok (.aload_n 0, 1) := by decide +kernel
theorem d_MD_init_356 : decode c_MD_init 356 = .ok (.getfield 61, 3) := by decide +kernel
theorem d_MD_init_359 : decode c_MD_init 359 = .ok (.imul, 1) := by decide +kernel
theorem d_MD_init_360 : decode c_MD_init 360 = .ok (.if_icmp .ge 52, 3) := by decide +kernel
theorem d_MD_init_363 : decode c_MD_init 363 = .ok (.aload_n 0, 1) := by decide +kernel
theorem d_MD_init_364 : decode c_MD_init 364 = .ok (.getfield 28, 3) := by decide +kernel
theorem d_MD_init_367 : decode c_MD_init 367 = .ok (.bipush 16, 2) := by decide +kernel
theorem d_MD_init_369 : decode c_MD_init 369 = .ok (.iload 4, 2) := by decide +kernel
theorem d_MD_init_371 : decode c_MD_init 371 = .ok (.imul, 1) := by decide +kernel
theorem d_MD_init_372 : decode c_MD_init 372 = .ok (.iload 5, 2) := by decide +kernel
theorem d_MD_init_374 : decode c_MD_init 374 = .ok (.iadd, 1) := by decide +kernel
theorem d_MD_init_375 : decode c_MD_init 375 = .ok (.aload_n 0, 1) := by decide +kernel
theorem d_MD_init_376 : decode c_MD_init 376 = .ok (.iload 4, 2) := by decide +kernel
theorem d_MD_init_378 : decode c_MD_init 378 = .ok (.iload 5, 2) := by decide +kernel
theorem d_MD_init_380 : decode c_MD_init 380 = .ok (.invokevirtual 71, 3) := by decide +kernel
theorem d_MD_init_383 : decode c_MD_init 383 = .ok (.iastore, 1) := by decide +kernel
theorem d_MD_init_384 : decode c_MD_init 384 = .ok (.aload_n 0, 1) := by decide +kernel
theorem d_MD_init_385 : decode c_MD_init 385 = .ok (.getfield 20, 3) := by decide +kernel
theorem d_MD_init_388 : decode c_MD_init 388 = .ok (.aload_n 0, 1) := by decide +kernel
theorem d_MD_init_389 : decode c_MD_init 389 = .ok (.iload 4, 2) := by decide +kernel
theorem d_MD_init_391 : decode c_MD_init 391 = .ok (.iload 5, 2) := by decide +kernel
theorem d_MD_init_393 : decode c_MD_init 393 = .ok (.invokevirtual 71, 3) := by decide +kernel
theorem d_MD_init_396 : decode c_MD_init 396 = .ok (.iload 4, 2) := by decide +kernel
theorem d_MD_init_398 : decode c_MD_init 398 = .ok (.invokestatic 67, 3) := by decide +kernel
theorem d_MD_init_401 : decode c_MD_init 401 = .ok (.iload 5, 2) := by decide +kernel
theorem d_MD_init_403 : decode c_MD_init 403 = .ok (.iconst 1, 1) := by decide +kernel
theorem d_MD_init_404 : decode c_MD_init 404 = .ok (.iadd, 1) := by decide +kernel
theorem d_MD_init_405 : decode c_MD_init 405 = .ok (.iastore, 1) := by decide +kernel
theorem d_MD_init_406 : decode c_MD_init 406 = .ok (.iinc 5 1, 3) := by decide +kernel
theorem d_MD_init_409 : decode c_MD_init 409 = .ok (.goto (-60), 3) := by decide +kernel
theorem d_MD_init_412 : decode c_MD_init 412 = .ok (.iinc 4 1, 3) := by decide +kernel
theorem d_MD_init_415 : decode c_MD_init 415 = .ok (.goto (-78), 3) := by decide +kernel
theorem d_MD_init_418 : decode c_MD_init 418 = .ok (.return_, 1) := by decide +kernel
abbrev c_MD_at : ByteArray := prog_7_method_4_code
abbrev y_MD_at : MethodName := ⟨"StripeFieldModel", "at", "(II)I"⟩
theorem d_MD_at_0 : decode c_MD_at 0 = .ok (.bipush 65, 2) := by decide +kernel
theorem d_MD_at_2 : decode c_MD_at 2 = .ok (.iload_n 0, 1) := by decide +kernel
theorem d_MD_at_3 : decode c_MD_at 3 = .ok (.imul, 1) := by decide +kernel
theorem d_MD_at_4 : decode c_MD_at 4 = .ok (.iload_n 1, 1) := by decide +kernel
theorem d_MD_at_5 : decode c_MD_at 5 = .ok (.iadd, 1) := by decide +kernel
theorem d_MD_at_6 : decode c_MD_at 6 = .ok (.ireturn, 1) := by decide +kernel
abbrev c_MD_diskOf : ByteArray := prog_7_method_5_code
abbrev y_MD_diskOf : MethodName := ⟨"StripeFieldModel", "diskOf", "(II)I"⟩
theorem d_MD_diskOf_0 : decode c_MD_diskOf 0 = .ok (.iload_n 1, 1) := by decide +kernel
theorem d_MD_diskOf_1 : decode c_MD_diskOf 1 = .ok (.iload_n 2, 1) := by decide +kernel
theorem d_MD_diskOf_2 : decode c_MD_diskOf 2 = .ok (.aload_n 0, 1) := by decide +kernel
theorem d_MD_diskOf_3 : decode c_MD_diskOf 3 = .ok (.getfield 7, 3) := by decide +kernel
theorem d_MD_diskOf_6 : decode c_MD_diskOf 6 = .ok (.iload_n 1, 1) := by decide +kernel
theorem d_MD_diskOf_7 : decode c_MD_diskOf 7 = .ok (.aload_n 0, 1) := by decide +kernel
theorem d_MD_diskOf_8 : decode c_MD_diskOf 8 = .ok (.getfield 64, 3) := by decide +kernel
theorem d_MD_diskOf_11 : decode c_MD_diskOf 11 = .ok (.irem, 1) := by decide +kernel
theorem d_MD_diskOf_12 : decode c_MD_diskOf 12 = .ok (.iaload, 1) := by decide +kernel
theorem d_MD_diskOf_13 : decode c_MD_diskOf 13 = .ok (.imul, 1) := by decide +kernel
theorem d_MD_diskOf_14 : decode c_MD_diskOf 14 = .ok (.iadd, 1) := by decide +kernel
theorem d_MD_diskOf_15 : decode c_MD_diskOf 15 = .ok (.aload_n 0, 1) := by decide +kernel
theorem d_MD_diskOf_16 : decode c_MD_diskOf 16 = .ok (.getfield 52, 3) := by decide +kernel
theorem d_MD_diskOf_19 : decode c_MD_diskOf 19 = .ok (.irem, 1) := by decide +kernel
theorem d_MD_diskOf_20 : decode c_MD_diskOf 20 = .ok (.ireturn, 1) := by decide +kernel
abbrev c_MD_thrown : ByteArray := prog_7_method_2_code
abbrev y_MD_thrown : MethodName := ⟨"StripeFieldModel", "thrown", "()I"⟩
theorem d_MD_thrown_0 : decode c_MD_thrown 0 = .ok (.aload_n 0, 1) := by decide +kernel
theorem d_MD_thrown_1 : decode c_MD_thrown 1 = .ok (.getfield 74, 3) := by decide +kernel
theorem d_MD_thrown_4 : decode c_MD_thrown 4 = .ok (.ireturn, 1) := by decide +kernel
abbrev c_MD_feed : ByteArray := prog_7_method_16_code
abbrev y_MD_feed : MethodName := ⟨"StripeFieldModel", "feed", "(IJ)I"⟩
theorem d_MD_feed_0 : decode c_MD_feed 0 = .ok (.aload_n 0, 1) := by decide +kernel
theorem d_MD_feed_1 : decode c_MD_feed 1 = .ok (.iload_n 1, 1) := by decide +kernel
theorem d_MD_feed_2 : decode c_MD_feed 2 = .ok (.iconst 1, 1) := by decide +kernel
theorem d_MD_feed_3 : decode c_MD_feed 3 = .ok (.if_icmp .lt 9, 3) := by decide +kernel
theorem d_MD_feed_6 : decode c_MD_feed 6 = .ok (.iload_n 1, 1) := by decide +kernel
theorem d_MD_feed_7 : decode c_MD_feed 7 = .ok (.bipush 8, 2) := by decide +kernel
theorem d_MD_feed_9 : decode c_MD_feed 9 = .ok (.if_icmp .le 7, 3) := by decide +kernel
theorem d_MD_feed_12 : decode c_MD_feed 12 = .ok (.iconst 1, 1) := by decide +kernel
theorem d_MD_feed_13 : decode c_MD_feed 13 = .ok (.goto 4, 3) := by decide +kernel
theorem d_MD_feed_16 : decode c_MD_feed 16 = .ok (.iconst 0, 1) := by decide +kernel
theorem d_MD_feed_17 : decode c_MD_feed 17 = .ok (.iconst 1, 1) := by decide +kernel
theorem d_MD_feed_18 : decode c_MD_feed 18 = .ok (.invokevirtual 100, 3) := by decide +kernel
theorem d_MD_feed_21 : decode c_MD_feed 21 = .ok (.ifCond .ne 27, 3) := by decide +kernel
theorem d_MD_feed_24 : decode c_MD_feed 24 = .ok (.aload_n 0, 1) := by decide +kernel
theorem d_MD_feed_25 : decode c_MD_feed 25 = .ok (.aload_n 0, 1) := by decide +kernel
theorem d_MD_feed_26 : decode c_MD_feed 26 = .ok (.getfield 104, 3) := by decide +kernel
theorem d_MD_feed_29 : decode c_MD_feed 29 = .ok (.iload_n 1, 1) := by decide +kernel
theorem d_MD_feed_30 : decode c_MD_feed 30 = .ok (.iadd, 1) := by decide +kernel
theorem d_MD_feed_31 : decode c_MD_feed 31 = .ok (.bipush 64, 2) := by decide +kernel
theorem d_MD_feed_33 : decode c_MD_feed 33 = .ok (.if_icmp .le 7, 3) := by decide +kernel
theorem d_MD_feed_36 : decode c_MD_feed 36 = .ok (.iconst 1, 1) := by decide +kernel
theorem d_MD_feed_37 : decode c_MD_feed 37 = .ok (.goto 4, 3) := by decide +kernel
theorem d_MD_feed_40 : decode c_MD_feed 40 = .ok (.iconst 0, 1) := by decide +kernel
theorem d_MD_feed_41 : decode c_MD_feed 41 = .ok (.iconst 2, 1) := by decide +kernel
theorem d_MD_feed_42 : decode c_MD_feed 42 = .ok (.invokevirtual 100, 3) := by decide +kernel
theorem d_MD_feed_45 : decode c_MD_feed 45 = .ok (.ifCond .eq 5, 3) := by decide +kernel
theorem d_MD_feed_48 : decode c_MD_feed 48 = .ok (.iconst 0, 1) := by decide +kernel
theorem d_MD_feed_49 : decode c_MD_feed 49 = .ok (.ireturn, 1) := by decide +kernel
theorem d_MD_feed_50 : decode c_MD_feed 50 = .ok (.iconst 0, 1) := by decide +kernel
theorem d_MD_feed_51 : decode c_MD_feed 51 = .ok (.istore 4, 2) := by decide +kernel
theorem d_MD_feed_53 : decode c_MD_feed 53 = .ok (.iload 4, 2) := by decide +kernel
theorem d_MD_feed_55 : decode c_MD_feed 55 = .ok (.iload_n 1, 1) := by decide +kernel
theorem d_MD_feed_56 : decode c_MD_feed 56 = .ok (.if_icmp .ge 33, 3) := by decide +kernel
theorem d_MD_feed_59 : decode c_MD_feed 59 = .ok (.aload_n 0, 1) := by decide +kernel
theorem d_MD_feed_60 : decode c_MD_feed 60 = .ok (.getfield 39, 3) := by decide +kernel
theorem d_MD_feed_63 : decode c_MD_feed 63 = .ok (.aload_n 0, 1) := by decide +kernel
theorem d_MD_feed_64 : decode c_MD_feed 64 = .ok (.getfield 104, 3) := by decide +kernel
theorem d_MD_feed_67 : decode c_MD_feed 67 = .ok (.iload 4, 2) := by decide +kernel
theorem d_MD_feed_69 : decode c_MD_feed 69 = .ok (.iadd, 1) := by decide +kernel
theorem d_MD_feed_70 : decode c_MD_feed 70 = .ok (.lload_n 2, 1) := by decide +kernel
theorem d_MD_feed_71 : decode c_MD_feed 71 = .ok (.bipush 8, 2) := by decide +kernel
theorem d_MD_feed_73 : decode c_MD_feed 73 = .ok (.iload 4, 2) := by decide +kernel
theorem d_MD_feed_75 : decode c_MD_feed 75 = .ok (.imul, 1) := by decide +kernel
theorem d_MD_feed_76 : decode c_MD_feed 76 = .ok (.lshr, 1) := by decide +kernel
theorem d_MD_feed_77 : decode c_MD_feed 77 = .ok (.ldc2_w 107, 3) := by decide +kernel
theorem d_MD_feed_80 : decode c_MD_feed 80 = .ok (.land, 1) := by decide +kernel
theorem d_MD_feed_81 : decode c_MD_feed 81 = .ok (.l2i, 1) := by decide +kernel
theorem d_MD_feed_82 : decode c_MD_feed 82 = .ok (.iastore, 1) := by decide +kernel
theorem d_MD_feed_83 : decode c_MD_feed 83 = .ok (.iinc 4 1, 3) := by decide +kernel
theorem d_MD_feed_86 : decode c_MD_feed 86 = .ok (.goto (-33), 3) := by decide +kernel
theorem d_MD_feed_89 : decode c_MD_feed 89 = .ok (.aload_n 0, 1) := by decide +kernel
theorem d_MD_feed_90 : decode c_MD_feed 90 = .ok (.dup, 1) := by decide +kernel
theorem d_MD_feed_91 : decode c_MD_feed 91 = .ok (.getfield 104, 3) := by decide +kernel
theorem d_MD_feed_94 : decode c_MD_feed 94 = .ok (.iload_n 1, 1) := by decide +kernel
theorem d_MD_feed_95 : decode c_MD_feed 95 = .ok (.iadd, 1) := by decide +kernel
theorem d_MD_feed_96 : decode c_MD_feed 96 = .ok (.putfield 104, 3) := by decide +kernel
theorem d_MD_feed_99 : decode c_MD_feed 99 = .ok (.aload_n 0, 1) := by decide +kernel
theorem d_MD_feed_100 : decode c_MD_feed 100 = .ok (.getfield 104, 3) := by decide +kernel
theorem d_MD_feed_103 : decode c_MD_feed 103 = .ok (.ireturn, 1) := by decide +kernel
abbrev c_MD_fails : ByteArray := prog_7_method_3_code
abbrev y_MD_fails : MethodName := ⟨"StripeFieldModel", "fails", "(ZI)Z"⟩
theorem d_MD_fails_0 : decode c_MD_fails 0 = .ok (.aload_n 0, 1) := by decide +kernel
theorem d_MD_fails_1 : decode c_MD_fails 1 = .ok (.iload_n 1, 1) := by decide +kernel
theorem d_MD_fails_2 : decode c_MD_fails 2 = .ok (.ifCond .eq 7, 3) := by decide +kernel
theorem d_MD_fails_5 : decode c_MD_fails 5 = .ok (.iload_n 2, 1) := by decide +kernel
theorem d_MD_fails_6 : decode c_MD_fails 6 = .ok (.goto 4, 3) := by decide +kernel
theorem d_MD_fails_9 : decode c_MD_fails 9 = .ok (.iconst 0, 1) := by decide +kernel
theorem d_MD_fails_10 : decode c_MD_fails 10 = .ok (.putfield 74, 3) := by decide +kernel
theorem d_MD_fails_13 : decode c_MD_fails 13 = .ok (.iload_n 1, 1) := by decide +kernel
theorem d_MD_fails_14 : decode c_MD_fails 14 = .ok (.ireturn, 1) := by decide +kernel
abbrev c_MD_write : ByteArray := prog_7_method_18_code
abbrev y_MD_write : MethodName := ⟨"StripeFieldModel", "write", "(I)Z"⟩
theorem d_MD_write_0 : decode c_MD_write 0 = .ok (.aload_n 0, 1) := by decide +kernel
theorem d_MD_write_1 : decode c_MD_write 1 = .ok (.iload_n 1, 1) := by decide +kernel
theorem d_MD_write_2 : decode c_MD_write 2 = .ok (.ifCond .lt 11, 3) := by decide +kernel
theorem d_MD_write_5 : decode c_MD_write 5 = .ok (.iload_n 1, 1) := by decide +kernel
theorem d_MD_write_6 : decode c_MD_write 6 = .ok (.aload_n 0, 1) := by decide +kernel
theorem d_MD_write_7 : decode c_MD_write 7 = .ok (.invokevirtual 109, 3) := by decide +kernel
theorem d_MD_write_10 : decode c_MD_write 10 = .ok (.if_icmp .lt 7, 3) := by decide +kernel
theorem d_MD_write_13 : decode c_MD_write 13 = .ok (.iconst 1, 1) := by decide +kernel
theorem d_MD_write_14 : decode c_MD_write 14 = .ok (.goto 4, 3) := by decide +kernel
theorem d_MD_write_17 : decode c_MD_write 17 = .ok (.iconst 0, 1) := by decide +kernel
theorem d_MD_write_18 : decode c_MD_write 18 = .ok (.iconst 1, 1) := by decide +kernel
theorem d_MD_write_19 : decode c_MD_write 19 = .ok (.invokevirtual 100, 3) := by decide +kernel
theorem d_MD_write_22 : decode c_MD_write 22 = .ok (.ifCond .ne 23, 3) := by decide +kernel
theorem d_MD_write_25 : decode c_MD_write 25 = .ok (.aload_n 0, 1) := by decide +kernel
theorem d_MD_write_26 : decode c_MD_write 26 = .ok (.aload_n 0, 1) := by decide +kernel
theorem d_MD_write_27 : decode c_MD_write 27 = .ok (.getfield 31, 3) := by decide +kernel
theorem d_MD_write_30 : decode c_MD_write 30 = .ok (.ifCond .ne 7, 3) := by decide +kernel
theorem d_MD_write_33 : decode c_MD_write 33 = .ok (.iconst 1, 1) := by decide +kernel
theorem d_MD_write_34 : decode c_MD_write 34 = .ok (.goto 4, 3) := by decide +kernel
theorem d_MD_write_37 : decode c_MD_write 37 = .ok (.iconst 0, 1) := by decide +kernel
theorem d_MD_write_38 : decode c_MD_write 38 = .ok (.iconst 2, 1) := by decide +kernel
theorem d_MD_write_39 : decode c_MD_write 39 = .ok (.invokevirtual 100, 3) := by decide +kernel
theorem d_MD_write_42 : decode c_MD_write 42 = .ok (.ifCond .eq 5, 3) := by decide +kernel
theorem d_MD_write_45 : decode c_MD_write 45 = .ok (.iconst 0, 1) := by decide +kernel
theorem d_MD_write_46 : decode c_MD_write 46 = .ok (.ireturn, 1) := by decide +kernel
theorem d_MD_write_47 : decode c_MD_write 47 = .ok (.aload_n 0, 1) := by decide +kernel
theorem d_MD_write_48 : decode c_MD_write 48 = .ok (.iload_n 1, 1) := by decide +kernel
theorem d_MD_write_49 : decode c_MD_write 49 = .ok (.invokevirtual 113, 3) := by decide +kernel
theorem d_MD_write_52 : decode c_MD_write 52 = .ok (.istore_n 2, 1) := by decide +kernel
theorem d_MD_write_53 : decode c_MD_write 53 = .ok (.aload_n 0, 1) := by decide +kernel
theorem d_MD_write_54 : decode c_MD_write 54 = .ok (.iconst 0, 1) := by decide +kernel
theorem d_MD_write_55 : decode c_MD_write 55 = .ok (.putfield 104, 3) := by decide +kernel
theorem d_MD_write_58 : decode c_MD_write 58 = .ok (.iload_n 2, 1) := by decide +kernel
theorem d_MD_write_59 : decode c_MD_write 59 = .ok (.ireturn, 1) := by decide +kernel
abbrev c_MD_blocks : ByteArray := prog_7_method_6_code
abbrev y_MD_blocks : MethodName := ⟨"StripeFieldModel", "blocks", "()I"⟩
theorem d_MD_blocks_0 : decode c_MD_blocks 0 = .ok (.aload_n 0, 1) := by decide +kernel
theorem d_MD_blocks_1 : decode c_MD_blocks 1 = .ok (.getfield 58, 3) := by decide +kernel
theorem d_MD_blocks_4 : decode c_MD_blocks 4 = .ok (.aload_n 0, 1) := by decide +kernel
theorem d_MD_blocks_5 : decode c_MD_blocks 5 = .ok (.getfield 61, 3) := by decide +kernel
theorem d_MD_blocks_8 : decode c_MD_blocks 8 = .ok (.imul, 1) := by decide +kernel
theorem d_MD_blocks_9 : decode c_MD_blocks 9 = .ok (.aload_n 0, 1) := by decide +kernel
theorem d_MD_blocks_10 : decode c_MD_blocks 10 = .ok (.getfield 55, 3) := by decide +kernel
theorem d_MD_blocks_13 : decode c_MD_blocks 13 = .ok (.iconst 1, 1) := by decide +kernel
theorem d_MD_blocks_14 : decode c_MD_blocks 14 = .ok (.isub, 1) := by decide +kernel
theorem d_MD_blocks_15 : decode c_MD_blocks 15 = .ok (.imul, 1) := by decide +kernel
theorem d_MD_blocks_16 : decode c_MD_blocks 16 = .ok (.ireturn, 1) := by decide +kernel
abbrev c_MD_writes : ByteArray := prog_7_method_19_code
abbrev y_MD_writes : MethodName := ⟨"StripeFieldModel", "writes", "(I)Z"⟩
theorem d_MD_writes_0 : decode c_MD_writes 0 = .ok (.iload_n 1, 1) := by decide +kernel
theorem d_MD_writes_1 : decode c_MD_writes 1 = .ok (.aload_n 0, 1) := by decide +kernel
theorem d_MD_writes_2 : decode c_MD_writes 2 = .ok (.getfield 55, 3) := by decide +kernel
theorem d_MD_writes_5 : decode c_MD_writes 5 = .ok (.iconst 1, 1) := by decide +kernel
theorem d_MD_writes_6 : decode c_MD_writes 6 = .ok (.isub, 1) := by decide +kernel
theorem d_MD_writes_7 : decode c_MD_writes 7 = .ok (.idiv, 1) := by decide +kernel
theorem d_MD_writes_8 : decode c_MD_writes 8 = .ok (.istore_n 2, 1) := by decide +kernel
theorem d_MD_writes_9 : decode c_MD_writes 9 = .ok (.iload_n 1, 1) := by decide +kernel
theorem d_MD_writes_10 : decode c_MD_writes 10 = .ok (.aload_n 0, 1) := by decide +kernel
theorem d_MD_writes_11 : decode c_MD_writes 11 = .ok (.getfield 55, 3) := by decide +kernel
theorem d_MD_writes_14 : decode c_MD_writes 14 = .ok (.iconst 1, 1) := by decide +kernel
theorem d_MD_writes_15 : decode c_MD_writes 15 = .ok (.isub, 1) := by decide +kernel
theorem d_MD_writes_16 : decode c_MD_writes 16 = .ok (.irem, 1) := by decide +kernel
theorem d_MD_writes_17 : decode c_MD_writes 17 = .ok (.istore_n 3, 1) := by decide +kernel
theorem d_MD_writes_18 : decode c_MD_writes 18 = .ok (.iload_n 2, 1) := by decide +kernel
theorem d_MD_writes_19 : decode c_MD_writes 19 = .ok (.aload_n 0, 1) := by decide +kernel
theorem d_MD_writes_20 : decode c_MD_writes 20 = .ok (.getfield 61, 3) := by decide +kernel
theorem d_MD_writes_23 : decode c_MD_writes 23 = .ok (.idiv, 1) := by decide +kernel
theorem d_MD_writes_24 : decode c_MD_writes 24 = .ok (.istore 4, 2) := by decide +kernel
theorem d_MD_writes_26 : decode c_MD_writes 26 = .ok (.aload_n 0, 1) := by decide +kernel
theorem d_MD_writes_27 : decode c_MD_writes 27 = .ok (.getfield 55, 3) := by decide +kernel
theorem d_MD_writes_30 : decode c_MD_writes 30 = .ok (.iload_n 2, 1) := by decide +kernel
theorem d_MD_writes_31 : decode c_MD_writes 31 = .ok (.aload_n 0, 1) := by decide +kernel
theorem d_MD_writes_32 : decode c_MD_writes 32 = .ok (.getfield 61, 3) := by decide +kernel
theorem d_MD_writes_35 : decode c_MD_writes 35 = .ok (.irem, 1) := by decide +kernel
theorem d_MD_writes_36 : decode c_MD_writes 36 = .ok (.imul, 1) := by decide +kernel
theorem d_MD_writes_37 : decode c_MD_writes 37 = .ok (.iload_n 3, 1) := by decide +kernel
theorem d_MD_writes_38 : decode c_MD_writes 38 = .ok (.iadd, 1) := by decide +kernel
theorem d_MD_writes_39 : decode c_MD_writes 39 = .ok (.istore 5, 2) := by decide +kernel
theorem d_MD_writes_41 : decode c_MD_writes 41 = .ok (.aload_n 0, 1) := by decide +kernel
theorem d_MD_writes_42 : decode c_MD_writes 42 = .ok (.getfield 55, 3) := by decide +kernel
theorem d_MD_writes_45 : decode c_MD_writes 45 = .ok (.iload_n 2, 1) := by decide +kernel
theorem d_MD_writes_46 : decode c_MD_writes 46 = .ok (.aload_n 0, 1) := by decide +kernel
theorem d_MD_writes_47 : decode c_MD_writes 47 = .ok (.getfield 61, 3) := by decide +kernel
theorem d_MD_writes_50 : decode c_MD_writes 50 = .ok (.irem, 1) := by decide +kernel
theorem d_MD_writes_51 : decode c_MD_writes 51 = .ok (.imul, 1) := by decide +kernel
theorem d_MD_writes_52 : decode c_MD_writes 52 = .ok (.aload_n 0, 1) := by decide +kernel
theorem d_MD_writes_53 : decode c_MD_writes 53 = .ok (.getfield 55, 3) := by decide +kernel
theorem d_MD_writes_56 : decode c_MD_writes 56 = .ok (.iadd, 1) := by decide +kernel
theorem d_MD_writes_57 : decode c_MD_writes 57 = .ok (.iconst 1, 1) := by decide +kernel
theorem d_MD_writes_58 : decode c_MD_writes 58 = .ok (.isub, 1) := by decide +kernel
theorem d_MD_writes_59 : decode c_MD_writes 59 = .ok (.istore 6, 2) := by decide +kernel
theorem d_MD_writes_61 : decode c_MD_writes 61 = .ok (.aload_n 0, 1) := by decide +kernel
theorem d_MD_writes_62 : decode c_MD_writes 62 = .ok (.iload 4, 2) := by decide +kernel
theorem d_MD_writes_64 : decode c_MD_writes 64 = .ok (.iload 5, 2) := by decide +kernel
theorem d_MD_writes_66 : decode c_MD_writes 66 = .ok (.invokevirtual 84, 3) := by decide +kernel
theorem d_MD_writes_69 : decode c_MD_writes 69 = .ok (.istore 7, 2) := by decide +kernel
theorem d_MD_writes_71 : decode c_MD_writes 71 = .ok (.aload_n 0, 1) := by decide +kernel
theorem d_MD_writes_72 : decode c_MD_writes 72 = .ok (.iload 4, 2) := by decide +kernel
theorem d_MD_writes_74 : decode c_MD_writes 74 = .ok (.iload 6, 2) := by decide +kernel
theorem d_MD_writes_76 : decode c_MD_writes 76 = .ok (.invokevirtual 84, 3) := by decide +kernel
theorem d_MD_writes_79 : decode c_MD_writes 79 = .ok (.istore 8, 2) := by decide +kernel
theorem d_MD_writes_81 : decode c_MD_writes 81 = .ok (.iload 7, 2) := by decide +kernel
theorem d_MD_writes_83 : decode c_MD_writes 83 = .ok (.ifCond .lt 8, 3) := by decide +kernel
theorem d_MD_writes_86 : decode c_MD_writes 86 = .ok (.iload 8, 2) := by decide +kernel
theorem d_MD_writes_88 : decode c_MD_writes 88 = .ok (.ifCond .ge 49, 3) := by decide +kernel
theorem d_MD_writes_91 : decode c_MD_writes 91 = .ok (.aload_n 0, 1) := by decide +kernel
theorem d_MD_writes_92 : decode c_MD_writes 92 = .ok (.iload 7, 2) := by decide +kernel
theorem d_MD_writes_94 : decode c_MD_writes 94 = .ok (.ifCond .ge 8, 3) := by decide +kernel
theorem d_MD_writes_97 : decode c_MD_writes 97 = .ok (.iload 8, 2) := by decide +kernel
theorem d_MD_writes_99 : decode c_MD_writes 99 = .ok (.goto 5, 3) := by decide +kernel
theorem d_MD_writes_102 : decode c_MD_writes 102 = .ok (.iload 7, 2) := by decide +kernel
theorem d_MD_writes_104 : decode c_MD_writes 104 = .ok (.iload 4, 2) := by decide +kernel
theorem d_MD_writes_106 : decode c_MD_writes 106 = .ok (.iload 7, 2) := by decide +kernel
theorem d_MD_writes_108 : decode c_MD_writes 108 = .ok (.ifCond .ge 10, 3) := by decide +kernel
theorem d_MD_writes_111 : decode c_MD_writes 111 = .ok (.iload 6, 2) := by decide +kernel
theorem d_MD_writes_113 : decode c_MD_writes 113 = .ok (.iconst 1, 1) := by decide +kernel
theorem d_MD_writes_114 : decode c_MD_writes 114 = .ok (.iadd, 1) := by decide +kernel
theorem d_MD_writes_115 : decode c_MD_writes 115 = .ok (.goto 7, 3) := by decide +kernel
theorem d_MD_writes_118 : decode c_MD_writes 118 = .ok (.iload 5, 2) := by decide +kernel
theorem d_MD_writes_120 : decode c_MD_writes 120 = .ok (.iconst 1, 1) := by decide +kernel
theorem d_MD_writes_121 : decode c_MD_writes 121 = .ok (.iadd, 1) := by decide +kernel
theorem d_MD_writes_122 : decode c_MD_writes 122 = .ok (.invokevirtual 116, 3) := by decide +kernel
theorem d_MD_writes_125 : decode c_MD_writes 125 = .ok (.ifCond .ne 5, 3) := by decide +kernel
theorem d_MD_writes_128 : decode c_MD_writes 128 = .ok (.iconst 0, 1) := by decide +kernel
theorem d_MD_writes_129 : decode c_MD_writes 129 = .ok (.ireturn, 1) := by decide +kernel
theorem d_MD_writes_130 : decode c_MD_writes 130 = .ok (.aload_n 0, 1) := by decide +kernel
theorem d_MD_writes_131 : decode c_MD_writes 131 = .ok (.iload_n 1, 1) := by decide +kernel
theorem d_MD_writes_132 : decode c_MD_writes 132 = .ok (.invokevirtual 120, 3) := by decide +kernel
theorem d_MD_writes_135 : decode c_MD_writes 135 = .ok (.iconst 1, 1) := by decide +kernel
theorem d_MD_writes_136 : decode c_MD_writes 136 = .ok (.ireturn, 1) := by decide +kernel
theorem d_MD_writes_137 : decode c_MD_writes 137 = .ok (.aload_n 0, 1) := by decide +kernel
theorem d_MD_writes_138 : decode c_MD_writes 138 = .ok (.iload 8, 2) := by decide +kernel
theorem d_MD_writes_140 : decode c_MD_writes 140 = .ok (.aload_n 0, 1) := by decide +kernel
theorem d_MD_writes_141 : decode c_MD_writes 141 = .ok (.getfield 58, 3) := by decide +kernel
theorem d_MD_writes_144 : decode c_MD_writes 144 = .ok (.iconst 1, 1) := by decide +kernel
theorem d_MD_writes_145 : decode c_MD_writes 145 = .ok (.bipush 8, 2) := by decide +kernel
theorem d_MD_writes_147 : decode c_MD_writes 147 = .ok (.iload_n 2, 1) := by decide +kernel
theorem d_MD_writes_148 : decode c_MD_writes 148 = .ok (.imul, 1) := by decide +kernel
theorem d_MD_writes_149 : decode c_MD_writes 149 = .ok (.iadd, 1) := by decide +kernel
theorem d_MD_writes_150 : decode c_MD_writes 150 = .ok (.iload_n 3, 1) := by decide +kernel
theorem d_MD_writes_151 : decode c_MD_writes 151 = .ok (.iadd, 1) := by decide +kernel
theorem d_MD_writes_152 : decode c_MD_writes 152 = .ok (.invokevirtual 116, 3) := by decide +kernel
theorem d_MD_writes_155 : decode c_MD_writes 155 = .ok (.ifCond .eq 18, 3) := by decide +kernel
theorem d_MD_writes_158 : decode c_MD_writes 158 = .ok (.aload_n 0, 1) := by decide +kernel
theorem d_MD_writes_159 : decode c_MD_writes 159 = .ok (.iload 7, 2) := by decide +kernel
theorem d_MD_writes_161 : decode c_MD_writes 161 = .ok (.iload 4, 2) := by decide +kernel
theorem d_MD_writes_163 : decode c_MD_writes 163 = .ok (.iload 5, 2) := by decide +kernel
theorem d_MD_writes_165 : decode c_MD_writes 165 = .ok (.iconst 1, 1) := by decide +kernel
theorem d_MD_writes_166 : decode c_MD_writes 166 = .ok (.iadd, 1) := by decide +kernel
theorem d_MD_writes_167 : decode c_MD_writes 167 = .ok (.invokevirtual 116, 3) := by decide +kernel
theorem d_MD_writes_170 : decode c_MD_writes 170 = .ok (.ifCond .ne 5, 3) := by decide +kernel
theorem d_MD_writes_173 : decode c_MD_writes 173 = .ok (.iconst 0, 1) := by decide +kernel
theorem d_MD_writes_174 : decode c_MD_writes 174 = .ok (.ireturn, 1) := by decide +kernel
theorem d_MD_writes_175 : decode c_MD_writes 175 = .ok (.aload_n 0, 1) := by decide +kernel
theorem d_MD_writes_176 : decode c_MD_writes 176 = .ok (.iload_n 1, 1) := by decide +kernel
theorem d_MD_writes_177 : decode c_MD_writes 177 = .ok (.invokevirtual 120, 3) := by decide +kernel
theorem d_MD_writes_180 : decode c_MD_writes 180 = .ok (.aload_n 0, 1) := by decide +kernel
theorem d_MD_writes_181 : decode c_MD_writes 181 = .ok (.iload_n 1, 1) := by decide +kernel
theorem d_MD_writes_182 : decode c_MD_writes 182 = .ok (.putfield 46, 3) := by decide +kernel
theorem d_MD_writes_185 : decode c_MD_writes 185 = .ok (.aload_n 0, 1) := by decide +kernel
theorem d_MD_writes_186 : decode c_MD_writes 186 = .ok (.iconst 1, 1) := by decide +kernel
theorem d_MD_writes_187 : decode c_MD_writes 187 = .ok (.putfield 124, 3) := by decide +kernel
theorem d_MD_writes_190 : decode c_MD_writes 190 = .ok (.aload_n 0, 1) := by decide +kernel
theorem d_MD_writes_191 : decode c_MD_writes 191 = .ok (.iload 8, 2) := by decide +kernel
theorem d_MD_writes_193 : decode c_MD_writes 193 = .ok (.iload 4, 2) := by decide +kernel
theorem d_MD_writes_195 : decode c_MD_writes 195 = .ok (.iload 6, 2) := by decide +kernel
theorem d_MD_writes_197 : decode c_MD_writes 197 = .ok (.iconst 1, 1) := by decide +kernel
theorem d_MD_writes_198 : decode c_MD_writes 198 = .ok (.iadd, 1) := by decide +kernel
theorem d_MD_writes_199 : decode c_MD_writes 199 = .ok (.invokevirtual 116, 3) := by decide +kernel
theorem d_MD_writes_202 : decode c_MD_writes 202 = .ok (.ifCond .ne 5, 3) := by decide +kernel
theorem d_MD_writes_205 : decode c_MD_writes 205 = .ok (.iconst 0, 1) := by decide +kernel
theorem d_MD_writes_206 : decode c_MD_writes 206 = .ok (.ireturn, 1) := by decide +kernel
theorem d_MD_writes_207 : decode c_MD_writes 207 = .ok (.aload_n 0, 1) := by decide +kernel
theorem d_MD_writes_208 : decode c_MD_writes 208 = .ok (.iconst 0, 1) := by decide +kernel
theorem d_MD_writes_209 : decode c_MD_writes 209 = .ok (.putfield 124, 3) := by decide +kernel
theorem d_MD_writes_212 : decode c_MD_writes 212 = .ok (.aload_n 0, 1) := by decide +kernel
theorem d_MD_writes_213 : decode c_MD_writes 213 = .ok (.iload 8, 2) := by decide +kernel
theorem d_MD_writes_215 : decode c_MD_writes 215 = .ok (.aload_n 0, 1) := by decide +kernel
theorem d_MD_writes_216 : decode c_MD_writes 216 = .ok (.getfield 58, 3) := by decide +kernel
theorem d_MD_writes_219 : decode c_MD_writes 219 = .ok (.iconst 0, 1) := by decide +kernel
theorem d_MD_writes_220 : decode c_MD_writes 220 = .ok (.invokevirtual 116, 3) := by decide +kernel
theorem d_MD_writes_223 : decode c_MD_writes 223 = .ok (.ireturn, 1) := by decide +kernel
abbrev c_MD_placeOf : ByteArray := prog_7_method_9_code
abbrev y_MD_placeOf : MethodName := ⟨"StripeFieldModel", "placeOf", "(II)I"⟩
theorem d_MD_placeOf_0 : decode c_MD_placeOf 0 = .ok (.aload_n 0, 1) := by decide +kernel
theorem d_MD_placeOf_1 : decode c_MD_placeOf 1 = .ok (.getfield 31, 3) := by decide +kernel
theorem d_MD_placeOf_4 : decode c_MD_placeOf 4 = .ok (.ifCond .eq 17, 3) := by decide +kernel
theorem d_MD_placeOf_7 : decode c_MD_placeOf 7 = .ok (.aload_n 0, 1) := by decide +kernel
theorem d_MD_placeOf_8 : decode c_MD_placeOf 8 = .ok (.getfield 28, 3) := by decide +kernel
theorem d_MD_placeOf_11 : decode c_MD_placeOf 11 = .ok (.bipush 16, 2) := by decide +kernel
theorem d_MD_placeOf_13 : decode c_MD_placeOf 13 = .ok (.iload_n 1, 1) := by decide +kernel
theorem d_MD_placeOf_14 : decode c_MD_placeOf 14 = .ok (.imul, 1) := by decide +kernel
theorem d_MD_placeOf_15 : decode c_MD_placeOf 15 = .ok (.iload_n 2, 1) := by decide +kernel
theorem d_MD_placeOf_16 : decode c_MD_placeOf 16 = .ok (.iadd, 1) := by decide +kernel
theorem d_MD_placeOf_17 : decode c_MD_placeOf 17 = .ok (.iaload, 1) := by decide +kernel
theorem d_MD_placeOf_18 : decode c_MD_placeOf 18 = .ok (.goto 9, 3) := by decide +kernel
theorem d_MD_placeOf_21 : decode c_MD_placeOf 21 = .ok (.aload_n 0, 1) := by decide +kernel
theorem d_MD_placeOf_22 : decode c_MD_placeOf 22 = .ok (.iload_n 1, 1) := by decide +kernel
theorem d_MD_placeOf_23 : decode c_MD_placeOf 23 = .ok (.iload_n 2, 1) := by decide +kernel
theorem d_MD_placeOf_24 : decode c_MD_placeOf 24 = .ok (.invokevirtual 81, 3) := by decide +kernel
theorem d_MD_placeOf_27 : decode c_MD_placeOf 27 = .ok (.ireturn, 1) := by decide +kernel
abbrev c_MD_found : ByteArray := prog_7_method_8_code
abbrev y_MD_found : MethodName := ⟨"StripeFieldModel", "found", "(II)I"⟩
theorem d_MD_found_0 : decode c_MD_found 0 = .ok (.aload_n 0, 1) := by decide +kernel
theorem d_MD_found_1 : decode c_MD_found 1 = .ok (.iload_n 1, 1) := by decide +kernel
theorem d_MD_found_2 : decode c_MD_found 2 = .ok (.iload_n 2, 1) := by decide +kernel
theorem d_MD_found_3 : decode c_MD_found 3 = .ok (.invokevirtual 71, 3) := by decide +kernel
theorem d_MD_found_6 : decode c_MD_found 6 = .ok (.istore_n 3, 1) := by decide +kernel
theorem d_MD_found_7 : decode c_MD_found 7 = .ok (.aload_n 0, 1) := by decide +kernel
theorem d_MD_found_8 : decode c_MD_found 8 = .ok (.getfield 13, 3) := by decide +kernel
theorem d_MD_found_11 : decode c_MD_found 11 = .ok (.iload_n 3, 1) := by decide +kernel
theorem d_MD_found_12 : decode c_MD_found 12 = .ok (.baload, 1) := by decide +kernel
theorem d_MD_found_13 : decode c_MD_found 13 = .ok (.ifCond .eq 18, 3) := by decide +kernel
theorem d_MD_found_16 : decode c_MD_found 16 = .ok (.aload_n 0, 1) := by decide +kernel
theorem d_MD_found_17 : decode c_MD_found 17 = .ok (.getfield 17, 3) := by decide +kernel
theorem d_MD_found_20 : decode c_MD_found 20 = .ok (.iload_n 3, 1) := by decide +kernel
theorem d_MD_found_21 : decode c_MD_found 21 = .ok (.iload_n 1, 1) := by decide +kernel
theorem d_MD_found_22 : decode c_MD_found 22 = .ok (.invokestatic 67, 3) := by decide +kernel
theorem d_MD_found_25 : decode c_MD_found 25 = .ok (.baload, 1) := by decide +kernel
theorem d_MD_found_26 : decode c_MD_found 26 = .ok (.ifCond .eq 5, 3) := by decide +kernel
theorem d_MD_found_29 : decode c_MD_found 29 = .ok (.iload_n 3, 1) := by decide +kernel
theorem d_MD_found_30 : decode c_MD_found 30 = .ok (.ireturn, 1) := by decide +kernel
theorem d_MD_found_31 : decode c_MD_found 31 = .ok (.aload_n 0, 1) := by decide +kernel
theorem d_MD_found_32 : decode c_MD_found 32 = .ok (.getfield 55, 3) := by decide +kernel
theorem d_MD_found_35 : decode c_MD_found 35 = .ok (.aload_n 0, 1) := by decide +kernel
theorem d_MD_found_36 : decode c_MD_found 36 = .ok (.getfield 61, 3) := by decide +kernel
theorem d_MD_found_39 : decode c_MD_found 39 = .ok (.imul, 1) := by decide +kernel
theorem d_MD_found_40 : decode c_MD_found 40 = .ok (.istore 4, 2) := by decide +kernel
theorem d_MD_found_42 : decode c_MD_found 42 = .ok (.iload 4, 2) := by decide +kernel
theorem d_MD_found_44 : decode c_MD_found 44 = .ok (.aload_n 0, 1) := by decide +kernel
theorem d_MD_found_45 : decode c_MD_found 45 = .ok (.getfield 52, 3) := by decide +kernel
theorem d_MD_found_48 : decode c_MD_found 48 = .ok (.if_icmp .ge 48, 3) := by decide +kernel
theorem d_MD_found_51 : decode c_MD_found 51 = .ok (.aload_n 0, 1) := by decide +kernel
theorem d_MD_found_52 : decode c_MD_found 52 = .ok (.iload_n 1, 1) := by decide +kernel
theorem d_MD_found_53 : decode c_MD_found 53 = .ok (.iload 4, 2) := by decide +kernel
theorem d_MD_found_55 : decode c_MD_found 55 = .ok (.invokevirtual 71, 3) := by decide +kernel
theorem d_MD_found_58 : decode c_MD_found 58 = .ok (.istore 5, 2) := by decide +kernel
theorem d_MD_found_60 : decode c_MD_found 60 = .ok (.aload_n 0, 1) := by decide +kernel
theorem d_MD_found_61 : decode c_MD_found 61 = .ok (.iload 5, 2) := by decide +kernel
theorem d_MD_found_63 : decode c_MD_found 63 = .ok (.iload_n 1, 1) := by decide +kernel
theorem d_MD_found_64 : decode c_MD_found 64 = .ok (.invokevirtual 77, 3) := by decide +kernel
theorem d_MD_found_67 : decode c_MD_found 67 = .ok (.ifCond .eq 23, 3) := by decide +kernel
theorem d_MD_found_70 : decode c_MD_found 70 = .ok (.aload_n 0, 1) := by decide +kernel
theorem d_MD_found_71 : decode c_MD_found 71 = .ok (.getfield 20, 3) := by decide +kernel
theorem d_MD_found_74 : decode c_MD_found 74 = .ok (.iload 5, 2) := by decide +kernel
theorem d_MD_found_76 : decode c_MD_found 76 = .ok (.iload_n 1, 1) := by decide +kernel
theorem d_MD_found_77 : decode c_MD_found 77 = .ok (.invokestatic 67, 3) := by decide +kernel
theorem d_MD_found_80 : decode c_MD_found 80 = .ok (.iaload, 1) := by decide +kernel
theorem d_MD_found_81 : decode c_MD_found 81 = .ok (.iload_n 2, 1) := by decide +kernel
theorem d_MD_found_82 : decode c_MD_found 82 = .ok (.iconst 1, 1) := by decide +kernel
theorem d_MD_found_83 : decode c_MD_found 83 = .ok (.iadd, 1) := by decide +kernel
theorem d_MD_found_84 : decode c_MD_found 84 = .ok (.if_icmp .ne 6, 3) := by decide +kernel
theorem d_MD_found_87 : decode c_MD_found 87 = .ok (.iload 5, 2) := by decide +kernel
theorem d_MD_found_89 : decode c_MD_found 89 = .ok (.ireturn, 1) := by decide +kernel
theorem d_MD_found_90 : decode c_MD_found 90 = .ok (.iinc 4 1, 3) := by decide +kernel
theorem d_MD_found_93 : decode c_MD_found 93 = .ok (.goto (-51), 3) := by decide +kernel
theorem d_MD_found_96 : decode c_MD_found 96 = .ok (.iconst (-1), 1) := by decide +kernel
theorem d_MD_found_97 : decode c_MD_found 97 = .ok (.ireturn, 1) := by decide +kernel
abbrev c_MD_isValid : ByteArray := prog_7_method_7_code
abbrev y_MD_isValid : MethodName := ⟨"StripeFieldModel", "isValid", "(II)Z"⟩
theorem d_MD_isValid_0 : decode c_MD_isValid 0 = .ok (.aload_n 0, 1) := by decide +kernel
theorem d_MD_isValid_1 : decode c_MD_isValid 1 = .ok (.getfield 13, 3) := by decide +kernel
theorem d_MD_isValid_4 : decode c_MD_isValid 4 = .ok (.iload_n 1, 1) := by decide +kernel
theorem d_MD_isValid_5 : decode c_MD_isValid 5 = .ok (.baload, 1) := by decide +kernel
theorem d_MD_isValid_6 : decode c_MD_isValid 6 = .ok (.ifCond .eq 16, 3) := by decide +kernel
theorem d_MD_isValid_9 : decode c_MD_isValid 9 = .ok (.aload_n 0, 1) := by decide +kernel
theorem d_MD_isValid_10 : decode c_MD_isValid 10 = .ok (.getfield 17, 3) := by decide +kernel
theorem d_MD_isValid_13 : decode c_MD_isValid 13 = .ok (.iload_n 1, 1) := by decide +kernel
theorem d_MD_isValid_14 : decode c_MD_isValid 14 = .ok (.iload_n 2, 1) := by decide +kernel
theorem d_MD_isValid_15 : decode c_MD_isValid 15 = .ok (.invokestatic 67, 3) := by decide +kernel
theorem d_MD_isValid_18 : decode c_MD_isValid 18 = .ok (.baload, 1) := by decide +kernel
theorem d_MD_isValid_19 : decode c_MD_isValid 19 = .ok (.ifCond .ne 5, 3) := by decide +kernel
theorem d_MD_isValid_22 : decode c_MD_isValid 22 = .ok (.iconst 0, 1) := by decide +kernel
theorem d_MD_isValid_23 : decode c_MD_isValid 23 = .ok (.ireturn, 1) := by decide +kernel
theorem d_MD_isValid_24 : decode c_MD_isValid 24 = .ok (.iconst 1, 1) := by decide +kernel
theorem d_MD_isValid_25 : decode c_MD_isValid 25 = .ok (.istore_n 3, 1) := by decide +kernel
theorem d_MD_isValid_26 : decode c_MD_isValid 26 = .ok (.bipush 70, 2) := by decide +kernel
theorem d_MD_isValid_28 : decode c_MD_isValid 28 = .ok (.iload_n 1, 1) := by decide +kernel
theorem d_MD_isValid_29 : decode c_MD_isValid 29 = .ok (.iload_n 2, 1) := by decide +kernel
theorem d_MD_isValid_30 : decode c_MD_isValid 30 = .ok (.invokestatic 67, 3) := by decide +kernel
theorem d_MD_isValid_33 : decode c_MD_isValid 33 = .ok (.imul, 1) := by decide +kernel
theorem d_MD_isValid_34 : decode c_MD_isValid 34 = .ok (.istore 4, 2) := by decide +kernel
theorem d_MD_isValid_36 : decode c_MD_isValid 36 = .ok (.iload 4, 2) := by decide +kernel
theorem d_MD_isValid_38 : decode c_MD_isValid 38 = .ok (.bipush 70, 2) := by decide +kernel
theorem d_MD_isValid_40 : decode c_MD_isValid 40 = .ok (.iload_n 1, 1) := by decide +kernel
theorem d_MD_isValid_41 : decode c_MD_isValid 41 = .ok (.iload_n 2, 1) := by decide +kernel
theorem d_MD_isValid_42 : decode c_MD_isValid 42 = .ok (.invokestatic 67, 3) := by decide +kernel
theorem d_MD_isValid_45 : decode c_MD_isValid 45 = .ok (.imul, 1) := by decide +kernel
theorem d_MD_isValid_46 : decode c_MD_isValid 46 = .ok (.bipush 70, 2) := by decide +kernel
theorem d_MD_isValid_48 : decode c_MD_isValid 48 = .ok (.iadd, 1) := by decide +kernel
theorem d_MD_isValid_49 : decode c_MD_isValid 49 = .ok (.if_icmp .ge 29, 3) := by decide +kernel
theorem d_MD_isValid_52 : decode c_MD_isValid 52 = .ok (.iload_n 3, 1) := by decide +kernel
theorem d_MD_isValid_53 : decode c_MD_isValid 53 = .ok (.ifCond .eq 17, 3) := by decide +kernel
theorem d_MD_isValid_56 : decode c_MD_isValid 56 = .ok (.aload_n 0, 1) := by decide +kernel
theorem d_MD_isValid_57 : decode c_MD_isValid 57 = .ok (.getfield 24, 3) := by decide +kernel
theorem d_MD_isValid_60 : decode c_MD_isValid 60 = .ok (.iload 4, 2) := by decide +kernel
theorem d_MD_isValid_62 : decode c_MD_isValid 62 = .ok (.baload, 1) := by decide +kernel
theorem d_MD_isValid_63 : decode c_MD_isValid 63 = .ok (.ifCond .ne 7, 3) := by decide +kernel
theorem d_MD_isValid_66 : decode c_MD_isValid 66 = .ok (.iconst 1, 1) := by decide +kernel
theorem d_MD_isValid_67 : decode c_MD_isValid 67 = .ok (.goto 4, 3) := by decide +kernel
theorem d_MD_isValid_70 : decode c_MD_isValid 70 = .ok (.iconst 0, 1) := by decide +kernel
theorem d_MD_isValid_71 : decode c_MD_isValid 71 = .ok (.istore_n 3, 1) := by decide +kernel
theorem d_MD_isValid_72 : decode c_MD_isValid 72 = .ok (.iinc 4 1, 3) := by decide +kernel
theorem d_MD_isValid_75 : decode c_MD_isValid 75 = .ok (.goto (-39), 3) := by decide +kernel
theorem d_MD_isValid_78 : decode c_MD_isValid 78 = .ok (.iload_n 3, 1) := by decide +kernel
theorem d_MD_isValid_79 : decode c_MD_isValid 79 = .ok (.ireturn, 1) := by decide +kernel
abbrev c_MD_puts : ByteArray := prog_7_method_15_code
abbrev y_MD_puts : MethodName := ⟨"StripeFieldModel", "puts", "(III)Z"⟩
theorem d_MD_puts_0 : decode c_MD_puts 0 = .ok (.aload_n 0, 1) := by decide +kernel
theorem d_MD_puts_1 : decode c_MD_puts 1 = .ok (.getfield 35, 3) := by decide +kernel
theorem d_MD_puts_4 : decode c_MD_puts 4 = .ok (.ifCond .ne 15, 3) := by decide +kernel
theorem d_MD_puts_7 : decode c_MD_puts 7 = .ok (.aload_n 0, 1) := by decide +kernel
theorem d_MD_puts_8 : decode c_MD_puts 8 = .ok (.iconst 0, 1) := by decide +kernel
theorem d_MD_puts_9 : decode c_MD_puts 9 = .ok (.putfield 31, 3) := by decide +kernel
theorem d_MD_puts_12 : decode c_MD_puts 12 = .ok (.aload_n 0, 1) := by decide +kernel
theorem d_MD_puts_13 : decode c_MD_puts 13 = .ok (.iconst (-1), 1) := by decide +kernel
theorem d_MD_puts_14 : decode c_MD_puts 14 = .ok (.putfield 35, 3) := by decide +kernel
theorem d_MD_puts_17 : decode c_MD_puts 17 = .ok (.iconst 0, 1) := by decide +kernel
theorem d_MD_puts_18 : decode c_MD_puts 18 = .ok (.ireturn, 1) := by decide +kernel
theorem d_MD_puts_19 : decode c_MD_puts 19 = .ok (.aload_n 0, 1) := by decide +kernel
theorem d_MD_puts_20 : decode c_MD_puts 20 = .ok (.getfield 35, 3) := by decide +kernel
theorem d_MD_puts_23 : decode c_MD_puts 23 = .ok (.ifCond .le 13, 3) := by decide +kernel
theorem d_MD_puts_26 : decode c_MD_puts 26 = .ok (.aload_n 0, 1) := by decide +kernel
theorem d_MD_puts_27 : decode c_MD_puts 27 = .ok (.dup, 1) := by decide +kernel
theorem d_MD_puts_28 : decode c_MD_puts 28 = .ok (.getfield 35, 3) := by decide +kernel
theorem d_MD_puts_31 : decode c_MD_puts 31 = .ok (.iconst 1, 1) := by decide +kernel
theorem d_MD_puts_32 : decode c_MD_puts 32 = .ok (.isub, 1) := by decide +kernel
theorem d_MD_puts_33 : decode c_MD_puts 33 = .ok (.putfield 35, 3) := by decide +kernel
theorem d_MD_puts_36 : decode c_MD_puts 36 = .ok (.aload_n 0, 1) := by decide +kernel
theorem d_MD_puts_37 : decode c_MD_puts 37 = .ok (.dup, 1) := by decide +kernel
theorem d_MD_puts_38 : decode c_MD_puts 38 = .ok (.getfield 97, 3) := by decide +kernel
theorem d_MD_puts_41 : decode c_MD_puts 41 = .ok (.iconst 1, 1) := by decide +kernel
theorem d_MD_puts_42 : decode c_MD_puts 42 = .ok (.iadd, 1) := by decide +kernel
theorem d_MD_puts_43 : decode c_MD_puts 43 = .ok (.putfield 97, 3) := by decide +kernel
theorem d_MD_puts_46 : decode c_MD_puts 46 = .ok (.aload_n 0, 1) := by decide +kernel
theorem d_MD_puts_47 : decode c_MD_puts 47 = .ok (.getfield 17, 3) := by decide +kernel
theorem d_MD_puts_50 : decode c_MD_puts 50 = .ok (.iload_n 1, 1) := by decide +kernel
theorem d_MD_puts_51 : decode c_MD_puts 51 = .ok (.iload_n 2, 1) := by decide +kernel
theorem d_MD_puts_52 : decode c_MD_puts 52 = .ok (.invokestatic 67, 3) := by decide +kernel
theorem d_MD_puts_55 : decode c_MD_puts 55 = .ok (.iconst 1, 1) := by decide +kernel
theorem d_MD_puts_56 : decode c_MD_puts 56 = .ok (.bastore, 1) := by decide +kernel
theorem d_MD_puts_57 : decode c_MD_puts 57 = .ok (.aload_n 0, 1) := by decide +kernel
theorem d_MD_puts_58 : decode c_MD_puts 58 = .ok (.getfield 20, 3) := by decide +kernel
theorem d_MD_puts_61 : decode c_MD_puts 61 = .ok (.iload_n 1, 1) := by decide +kernel
theorem d_MD_puts_62 : decode c_MD_puts 62 = .ok (.iload_n 2, 1) := by decide +kernel
theorem d_MD_puts_63 : decode c_MD_puts 63 = .ok (.invokestatic 67, 3) := by decide +kernel
theorem d_MD_puts_66 : decode c_MD_puts 66 = .ok (.iload_n 3, 1) := by decide +kernel
theorem d_MD_puts_67 : decode c_MD_puts 67 = .ok (.iastore, 1) := by decide +kernel
theorem d_MD_puts_68 : decode c_MD_puts 68 = .ok (.bipush 70, 2) := by decide +kernel
theorem d_MD_puts_70 : decode c_MD_puts 70 = .ok (.iload_n 1, 1) := by decide +kernel
theorem d_MD_puts_71 : decode c_MD_puts 71 = .ok (.iload_n 2, 1) := by decide +kernel
theorem d_MD_puts_72 : decode c_MD_puts 72 = .ok (.invokestatic 67, 3) := by decide +kernel
theorem d_MD_puts_75 : decode c_MD_puts 75 = .ok (.imul, 1) := by decide +kernel
theorem d_MD_puts_76 : decode c_MD_puts 76 = .ok (.istore 4, 2) := by decide +kernel
theorem d_MD_puts_78 : decode c_MD_puts 78 = .ok (.iload 4, 2) := by decide +kernel
theorem d_MD_puts_80 : decode c_MD_puts 80 = .ok (.bipush 70, 2) := by decide +kernel
theorem d_MD_puts_82 : decode c_MD_puts 82 = .ok (.iload_n 1, 1) := by decide +kernel
theorem d_MD_puts_83 : decode c_MD_puts 83 = .ok (.iload_n 2, 1) := by decide +kernel
theorem d_MD_puts_84 : decode c_MD_puts 84 = .ok (.invokestatic 67, 3) := by decide +kernel
theorem d_MD_puts_87 : decode c_MD_puts 87 = .ok (.imul, 1) := by decide +kernel
theorem d_MD_puts_88 : decode c_MD_puts 88 = .ok (.bipush 70, 2) := by decide +kernel
theorem d_MD_puts_90 : decode c_MD_puts 90 = .ok (.iadd, 1) := by decide +kernel
theorem d_MD_puts_91 : decode c_MD_puts 91 = .ok (.if_icmp .ge 17, 3) := by decide +kernel
theorem d_MD_puts_94 : decode c_MD_puts 94 = .ok (.aload_n 0, 1) := by decide +kernel
theorem d_MD_puts_95 : decode c_MD_puts 95 = .ok (.getfield 24, 3) := by decide +kernel
theorem d_MD_puts_98 : decode c_MD_puts 98 = .ok (.iload 4, 2) := by decide +kernel
theorem d_MD_puts_100 : decode c_MD_puts 100 = .ok (.iconst 0, 1) := by decide +kernel
theorem d_MD_puts_101 : decode c_MD_puts 101 = .ok (.bastore, 1) := by decide +kernel
theorem d_MD_puts_102 : decode c_MD_puts 102 = .ok (.iinc 4 1, 3) := by decide +kernel
theorem d_MD_puts_105 : decode c_MD_puts 105 = .ok (.goto (-27), 3) := by decide +kernel
theorem d_MD_puts_108 : decode c_MD_puts 108 = .ok (.iconst 1, 1) := by decide +kernel
theorem d_MD_puts_109 : decode c_MD_puts 109 = .ok (.ireturn, 1) := by decide +kernel
abbrev c_MD_becomes : ByteArray := prog_7_method_17_code
abbrev y_MD_becomes : MethodName := ⟨"StripeFieldModel", "becomes", "(I)V"⟩
theorem d_MD_becomes_0 : decode c_MD_becomes 0 = .ok (.iconst 0, 1) := by decide +kernel
theorem d_MD_becomes_1 : decode c_MD_becomes 1 = .ok (.istore_n 2, 1) := by decide +kernel
theorem d_MD_becomes_2 : decode c_MD_becomes 2 = .ok (.iload_n 2, 1) := by decide +kernel
theorem d_MD_becomes_3 : decode c_MD_becomes 3 = .ok (.bipush 64, 2) := by decide +kernel
theorem d_MD_becomes_5 : decode c_MD_becomes 5 = .ok (.if_icmp .ge 55, 3) := by decide +kernel
theorem d_MD_becomes_8 : decode c_MD_becomes 8 = .ok (.aload_n 0, 1) := by decide +kernel
theorem d_MD_becomes_9 : decode c_MD_becomes 9 = .ok (.getfield 49, 3) := by decide +kernel
theorem d_MD_becomes_12 : decode c_MD_becomes 12 = .ok (.iload_n 2, 1) := by decide +kernel
theorem d_MD_becomes_13 : decode c_MD_becomes 13 = .ok (.aload_n 0, 1) := by decide +kernel
theorem d_MD_becomes_14 : decode c_MD_becomes 14 = .ok (.getfield 43, 3) := by decide +kernel
theorem d_MD_becomes_17 : decode c_MD_becomes 17 = .ok (.bipush 64, 2) := by decide +kernel
theorem d_MD_becomes_19 : decode c_MD_becomes 19 = .ok (.iload_n 1, 1) := by decide +kernel
theorem d_MD_becomes_20 : decode c_MD_becomes 20 = .ok (.imul, 1) := by decide +kernel
theorem d_MD_becomes_21 : decode c_MD_becomes 21 = .ok (.iload_n 2, 1) := by decide +kernel
theorem d_MD_becomes_22 : decode c_MD_becomes 22 = .ok (.iadd, 1) := by decide +kernel
theorem d_MD_becomes_23 : decode c_MD_becomes 23 = .ok (.iaload, 1) := by decide +kernel
theorem d_MD_becomes_24 : decode c_MD_becomes 24 = .ok (.iastore, 1) := by decide +kernel
theorem d_MD_becomes_25 : decode c_MD_becomes 25 = .ok (.aload_n 0, 1) := by decide +kernel
theorem d_MD_becomes_26 : decode c_MD_becomes 26 = .ok (.getfield 43, 3) := by decide +kernel
theorem d_MD_becomes_29 : decode c_MD_becomes 29 = .ok (.bipush 64, 2) := by decide +kernel
theorem d_MD_becomes_31 : decode c_MD_becomes 31 = .ok (.iload_n 1, 1) := by decide +kernel
theorem d_MD_becomes_32 : decode c_MD_becomes 32 = .ok (.imul, 1) := by decide +kernel
theorem d_MD_becomes_33 : decode c_MD_becomes 33 = .ok (.iload_n 2, 1) := by decide +kernel
theorem d_MD_becomes_34 : decode c_MD_becomes 34 = .ok (.iadd, 1) := by decide +kernel
theorem d_MD_becomes_35 : decode c_MD_becomes 35 = .ok (.iload_n 2, 1) := by decide +kernel
theorem d_MD_becomes_36 : decode c_MD_becomes 36 = .ok (.aload_n 0, 1) := by decide +kernel
theorem d_MD_becomes_37 : decode c_MD_becomes 37 = .ok (.getfield 104, 3) := by decide +kernel
theorem d_MD_becomes_40 : decode c_MD_becomes 40 = .ok (.if_icmp .ge 12, 3) := by decide +kernel
theorem d_MD_becomes_43 : decode c_MD_becomes 43 = .ok (.aload_n 0, 1) := by decide +kernel
theorem d_MD_becomes_44 : decode c_MD_becomes 44 = .ok (.getfield 39, 3) := by decide +kernel
theorem d_MD_becomes_47 : decode c_MD_becomes 47 = .ok (.iload_n 2, 1) := by decide +kernel
theorem d_MD_becomes_48 : decode c_MD_becomes 48 = .ok (.iaload, 1) := by decide +kernel
theorem d_MD_becomes_49 : decode c_MD_becomes 49 = .ok (.goto 4, 3) := by decide +kernel
theorem d_MD_becomes_52 : decode c_MD_becomes 52 = .ok (.iconst 0, 1) := by decide +kernel
theorem d_MD_becomes_53 : decode c_MD_becomes 53 = .ok (.iastore, 1) := by decide +kernel
theorem d_MD_becomes_54 : decode c_MD_becomes 54 = .ok (.iinc 2 1, 3) := by decide +kernel
theorem d_MD_becomes_57 : decode c_MD_becomes 57 = .ok (.goto (-55), 3) := by decide +kernel
theorem d_MD_becomes_60 : decode c_MD_becomes 60 = .ok (.return_, 1) := by decide +kernel
abbrev c_MD_read : ByteArray := prog_7_method_20_code
abbrev y_MD_read : MethodName := ⟨"StripeFieldModel", "read", "(II)J"⟩
theorem d_MD_read_0 : decode c_MD_read 0 = .ok (.aload_n 0, 1) := by decide +kernel
theorem d_MD_read_1 : decode c_MD_read 1 = .ok (.iload_n 1, 1) := by decide +kernel
theorem d_MD_read_2 : decode c_MD_read 2 = .ok (.ifCond .lt 21, 3) := by decide +kernel
theorem d_MD_read_5 : decode c_MD_read 5 = .ok (.iload_n 1, 1) := by decide +kernel
theorem d_MD_read_6 : decode c_MD_read 6 = .ok (.aload_n 0, 1) := by decide +kernel
theorem d_MD_read_7 : decode c_MD_read 7 = .ok (.invokevirtual 109, 3) := by decide +kernel
theorem d_MD_read_10 : decode c_MD_read 10 = .ok (.if_icmp .ge 13, 3) := by decide +kernel
theorem d_MD_read_13 : decode c_MD_read 13 = .ok (.iload_n 2, 1) := by decide +kernel
theorem d_MD_read_14 : decode c_MD_read 14 = .ok (.ifCond .lt 9, 3) := by decide +kernel
theorem d_MD_read_17 : decode c_MD_read 17 = .ok (.iload_n 2, 1) := by decide +kernel
theorem d_MD_read_18 : decode c_MD_read 18 = .ok (.bipush 7, 2) := by decide +kernel
theorem d_MD_read_20 : decode c_MD_read 20 = .ok (.if_icmp .le 7, 3) := by decide +kernel
theorem d_MD_read_23 : decode c_MD_read 23 = .ok (.iconst 1, 1) := by decide +kernel
theorem d_MD_read_24 : decode c_MD_read 24 = .ok (.goto 4, 3) := by decide +kernel
theorem d_MD_read_27 : decode c_MD_read 27 = .ok (.iconst 0, 1) := by decide +kernel
theorem d_MD_read_28 : decode c_MD_read 28 = .ok (.iconst 1, 1) := by decide +kernel
theorem d_MD_read_29 : decode c_MD_read 29 = .ok (.invokevirtual 100, 3) := by decide +kernel
theorem d_MD_read_32 : decode c_MD_read 32 = .ok (.ifCond .ne 23, 3) := by decide +kernel
theorem d_MD_read_35 : decode c_MD_read 35 = .ok (.aload_n 0, 1) := by decide +kernel
theorem d_MD_read_36 : decode c_MD_read 36 = .ok (.aload_n 0, 1) := by decide +kernel
theorem d_MD_read_37 : decode c_MD_read 37 = .ok (.getfield 31, 3) := by decide +kernel
theorem d_MD_read_40 : decode c_MD_read 40 = .ok (.ifCond .ne 7, 3) := by decide +kernel
theorem d_MD_read_43 : decode c_MD_read 43 = .ok (.iconst 1, 1) := by decide +kernel
theorem d_MD_read_44 : decode c_MD_read 44 = .ok (.goto 4, 3) := by decide +kernel
theorem d_MD_read_47 : decode c_MD_read 47 = .ok (.iconst 0, 1) := by decide +kernel
theorem d_MD_read_48 : decode c_MD_read 48 = .ok (.iconst 2, 1) := by decide +kernel
theorem d_MD_read_49 : decode c_MD_read 49 = .ok (.invokevirtual 100, 3) := by decide +kernel
theorem d_MD_read_52 : decode c_MD_read 52 = .ok (.ifCond .eq 5, 3) := by decide +kernel
theorem d_MD_read_55 : decode c_MD_read 55 = .ok (.lconst 0, 1) := by decide +kernel
theorem d_MD_read_56 : decode c_MD_read 56 = .ok (.lreturn, 1) := by decide +kernel
theorem d_MD_read_57 : decode c_MD_read 57 = .ok (.lconst 0, 1) := by decide +kernel
theorem d_MD_read_58 : decode c_MD_read 58 = .ok (.lstore_n 3, 1) := by decide +kernel
theorem d_MD_read_59 : decode c_MD_read 59 = .ok (.bipush 7, 2) := by decide +kernel
theorem d_MD_read_61 : decode c_MD_read 61 = .ok (.istore 5, 2) := by decide +kernel
theorem d_MD_read_63 : decode c_MD_read 63 = .ok (.iload 5, 2) := by decide +kernel
theorem d_MD_read_65 : decode c_MD_read 65 = .ok (.ifCond .lt 33, 3) := by decide +kernel
theorem d_MD_read_68 : decode c_MD_read 68 = .ok (.lload_n 3, 1) := by decide +kernel
theorem d_MD_read_69 : decode c_MD_read 69 = .ok (.bipush 8, 2) := by decide +kernel
theorem d_MD_read_71 : decode c_MD_read 71 = .ok (.lshl, 1) := by decide +kernel
theorem d_MD_read_72 : decode c_MD_read 72 = .ok (.aload_n 0, 1) := by decide +kernel
theorem d_MD_read_73 : decode c_MD_read 73 = .ok (.getfield 43, 3) := by decide +kernel
theorem d_MD_read_76 : decode c_MD_read 76 = .ok (.bipush 64, 2) := by decide +kernel
theorem d_MD_read_78 : decode c_MD_read 78 = .ok (.iload_n 1, 1) := by decide +kernel
theorem d_MD_read_79 : decode c_MD_read 79 = .ok (.imul, 1) := by decide +kernel
theorem d_MD_read_80 : decode c_MD_read 80 = .ok (.bipush 8, 2) := by decide +kernel
theorem d_MD_read_82 : decode c_MD_read 82 = .ok (.iload_n 2, 1) := by decide +kernel
theorem d_MD_read_83 : decode c_MD_read 83 = .ok (.imul, 1) := by decide +kernel
theorem d_MD_read_84 : decode c_MD_read 84 = .ok (.iadd, 1) := by decide +kernel
theorem d_MD_read_85 : decode c_MD_read 85 = .ok (.iload 5, 2) := by decide +kernel
theorem d_MD_read_87 : decode c_MD_read 87 = .ok (.iadd, 1) := by decide +kernel
theorem d_MD_read_88 : decode c_MD_read 88 = .ok (.iaload, 1) := by decide +kernel
theorem d_MD_read_89 : decode c_MD_read 89 = .ok (.i2l, 1) := by decide +kernel
theorem d_MD_read_90 : decode c_MD_read 90 = .ok (.lor, 1) := by decide +kernel
theorem d_MD_read_91 : decode c_MD_read 91 = .ok (.lstore_n 3, 1) := by decide +kernel
theorem d_MD_read_92 : decode c_MD_read 92 = .ok (.iinc 5 (-1), 3) := by decide +kernel
theorem d_MD_read_95 : decode c_MD_read 95 = .ok (.goto (-32), 3) := by decide +kernel
theorem d_MD_read_98 : decode c_MD_read 98 = .ok (.lload_n 3, 1) := by decide +kernel
theorem d_MD_read_99 : decode c_MD_read 99 = .ok (.lreturn, 1) := by decide +kernel
abbrev c_MD_lose : ByteArray := prog_7_method_21_code
abbrev y_MD_lose : MethodName := ⟨"StripeFieldModel", "lose", "(I)V"⟩
theorem d_MD_lose_0 : decode c_MD_lose 0 = .ok (.aload_n 0, 1) := by decide +kernel
theorem d_MD_lose_1 : decode c_MD_lose 1 = .ok (.iload_n 1, 1) := by decide +kernel
theorem d_MD_lose_2 : decode c_MD_lose 2 = .ok (.ifCond .ge 7, 3) := by decide +kernel
theorem d_MD_lose_5 : decode c_MD_lose 5 = .ok (.iconst 1, 1) := by decide +kernel
theorem d_MD_lose_6 : decode c_MD_lose 6 = .ok (.goto 4, 3) := by decide +kernel
theorem d_MD_lose_9 : decode c_MD_lose 9 = .ok (.iconst 0, 1) := by decide +kernel
theorem d_MD_lose_10 : decode c_MD_lose 10 = .ok (.iconst 1, 1) := by decide +kernel
theorem d_MD_lose_11 : decode c_MD_lose 11 = .ok (.invokevirtual 100, 3) := by decide +kernel
theorem d_MD_lose_14 : decode c_MD_lose 14 = .ok (.ifCond .eq 4, 3) := by decide +kernel
theorem d_MD_lose_17 : decode c_MD_lose 17 = .ok (.return_, 1) := by decide +kernel
theorem d_MD_lose_18 : decode c_MD_lose 18 = .ok (.aload_n 0, 1) := by decide +kernel
theorem d_MD_lose_19 : decode c_MD_lose 19 = .ok (.iload_n 1, 1) := by decide +kernel
theorem d_MD_lose_20 : decode c_MD_lose 20 = .ok (.iconst 1, 1) := by decide +kernel
theorem d_MD_lose_21 : decode c_MD_lose 21 = .ok (.isub, 1) := by decide +kernel
theorem d_MD_lose_22 : decode c_MD_lose 22 = .ok (.putfield 35, 3) := by decide +kernel
theorem d_MD_lose_25 : decode c_MD_lose 25 = .ok (.return_, 1) := by decide +kernel
abbrev c_MD_off : ByteArray := prog_7_method_22_code
abbrev y_MD_off : MethodName := ⟨"StripeFieldModel", "off", "()V"⟩
theorem d_MD_off_0 : decode c_MD_off 0 = .ok (.aload_n 0, 1) := by decide +kernel
theorem d_MD_off_1 : decode c_MD_off 1 = .ok (.aload_n 0, 1) := by decide +kernel
theorem d_MD_off_2 : decode c_MD_off 2 = .ok (.getfield 31, 3) := by decide +kernel
theorem d_MD_off_5 : decode c_MD_off 5 = .ok (.ifCond .ne 7, 3) := by decide +kernel
theorem d_MD_off_8 : decode c_MD_off 8 = .ok (.iconst 1, 1) := by decide +kernel
theorem d_MD_off_9 : decode c_MD_off 9 = .ok (.goto 4, 3) := by decide +kernel
theorem d_MD_off_12 : decode c_MD_off 12 = .ok (.iconst 0, 1) := by decide +kernel
theorem d_MD_off_13 : decode c_MD_off 13 = .ok (.iconst 1, 1) := by decide +kernel
theorem d_MD_off_14 : decode c_MD_off 14 = .ok (.invokevirtual 100, 3) := by decide +kernel
theorem d_MD_off_17 : decode c_MD_off 17 = .ok (.ifCond .eq 4, 3) := by decide +kernel
theorem d_MD_off_20 : decode c_MD_off 20 = .ok (.return_, 1) := by decide +kernel
theorem d_MD_off_21 : decode c_MD_off 21 = .ok (.aload_n 0, 1) := by decide +kernel
theorem d_MD_off_22 : decode c_MD_off 22 = .ok (.iconst 0, 1) := by decide +kernel
theorem d_MD_off_23 : decode c_MD_off 23 = .ok (.putfield 31, 3) := by decide +kernel
theorem d_MD_off_26 : decode c_MD_off 26 = .ok (.aload_n 0, 1) := by decide +kernel
theorem d_MD_off_27 : decode c_MD_off 27 = .ok (.iconst (-1), 1) := by decide +kernel
theorem d_MD_off_28 : decode c_MD_off 28 = .ok (.putfield 35, 3) := by decide +kernel
theorem d_MD_off_31 : decode c_MD_off 31 = .ok (.return_, 1) := by decide +kernel
abbrev c_MD_open : ByteArray := prog_7_method_25_code
abbrev y_MD_open : MethodName := ⟨"StripeFieldModel", "open", "()Z"⟩
theorem d_MD_open_0 : decode c_MD_open 0 = .ok (.aload_n 0, 1) := by decide +kernel
theorem d_MD_open_1 : decode c_MD_open 1 = .ok (.aload_n 0, 1) := by decide +kernel
theorem d_MD_open_2 : decode c_MD_open 2 = .ok (.getfield 31, 3) := by decide +kernel
theorem d_MD_open_5 : decode c_MD_open 5 = .ok (.iconst 1, 1) := by decide +kernel
theorem d_MD_open_6 : decode c_MD_open 6 = .ok (.invokevirtual 100, 3) := by decide +kernel
theorem d_MD_open_9 : decode c_MD_open 9 = .ok (.ifCond .eq 5, 3) := by decide +kernel
theorem d_MD_open_12 : decode c_MD_open 12 = .ok (.iconst 0, 1) := by decide +kernel
theorem d_MD_open_13 : decode c_MD_open 13 = .ok (.ireturn, 1) := by decide +kernel
theorem d_MD_open_14 : decode c_MD_open 14 = .ok (.iconst 0, 1) := by decide +kernel
theorem d_MD_open_15 : decode c_MD_open 15 = .ok (.istore_n 1, 1) := by decide +kernel
theorem d_MD_open_16 : decode c_MD_open 16 = .ok (.iload_n 1, 1) := by decide +kernel
theorem d_MD_open_17 : decode c_MD_open 17 = .ok (.aload_n 0, 1) := by decide +kernel
theorem d_MD_open_18 : decode c_MD_open 18 = .ok (.getfield 58, 3) := by decide +kernel
theorem d_MD_open_21 : decode c_MD_open 21 = .ok (.if_icmp .ge 47, 3) := by decide +kernel
theorem d_MD_open_24 : decode c_MD_open 24 = .ok (.iconst 0, 1) := by decide +kernel
theorem d_MD_open_25 : decode c_MD_open 25 = .ok (.istore_n 2, 1) := by decide +kernel
theorem d_MD_open_26 : decode c_MD_open 26 = .ok (.iload_n 2, 1) := by decide +kernel
theorem d_MD_open_27 : decode c_MD_open 27 = .ok (.aload_n 0, 1) := by decide +kernel
theorem d_MD_open_28 : decode c_MD_open 28 = .ok (.getfield 55, 3) := by decide +kernel
theorem d_MD_open_31 : decode c_MD_open 31 = .ok (.aload_n 0, 1) := by decide +kernel
theorem d_MD_open_32 : decode c_MD_open 32 = .ok (.getfield 61, 3) := by decide +kernel
theorem d_MD_open_35 : decode c_MD_open 35 = .ok (.imul, 1) := by decide +kernel
theorem d_MD_open_36 : decode c_MD_open 36 = .ok (.if_icmp .ge 26, 3) := by decide +kernel
theorem d_MD_open_39 : decode c_MD_open 39 = .ok (.aload_n 0, 1) := by decide +kernel
theorem d_MD_open_40 : decode c_MD_open 40 = .ok (.getfield 28, 3) := by decide +kernel
theorem d_MD_open_43 : decode c_MD_open 43 = .ok (.bipush 16, 2) := by decide +kernel
theorem d_MD_open_45 : decode c_MD_open 45 = .ok (.iload_n 1, 1) := by decide +kernel
theorem d_MD_open_46 : decode c_MD_open 46 = .ok (.imul, 1) := by decide +kernel
theorem d_MD_open_47 : decode c_MD_open 47 = .ok (.iload_n 2, 1) := by decide +kernel
theorem d_MD_open_48 : decode c_MD_open 48 = .ok (.iadd, 1) := by decide +kernel
theorem d_MD_open_49 : decode c_MD_open 49 = .ok (.aload_n 0, 1) := by decide +kernel
theorem d_MD_open_50 : decode c_MD_open 50 = .ok (.iload_n 1, 1) := by decide +kernel
theorem d_MD_open_51 : decode c_MD_open 51 = .ok (.iload_n 2, 1) := by decide +kernel
theorem d_MD_open_52 : decode c_MD_open 52 = .ok (.invokevirtual 81, 3) := by decide +kernel
theorem d_MD_open_55 : decode c_MD_open 55 = .ok (.iastore, 1) := by decide +kernel
theorem d_MD_open_56 : decode c_MD_open 56 = .ok (.iinc 2 1, 3) := by decide +kernel
theorem d_MD_open_59 : decode c_MD_open 59 = .ok (.goto (-33), 3) := by decide +kernel
theorem d_MD_open_62 : decode c_MD_open 62 = .ok (.iinc 1 1, 3) := by decide +kernel
theorem d_MD_open_65 : decode c_MD_open 65 = .ok (.goto (-49), 3) := by decide +kernel
theorem d_MD_open_68 : decode c_MD_open 68 = .ok (.aload_n 0, 1) := by decide +kernel
theorem d_MD_open_69 : decode c_MD_open 69 = .ok (.iconst 1, 1) := by decide +kernel
theorem d_MD_open_70 : decode c_MD_open 70 = .ok (.putfield 31, 3) := by decide +kernel
theorem d_MD_open_73 : decode c_MD_open 73 = .ok (.aload_n 0, 1) := by decide +kernel
theorem d_MD_open_74 : decode c_MD_open 74 = .ok (.iconst 0, 1) := by decide +kernel
theorem d_MD_open_75 : decode c_MD_open 75 = .ok (.putfield 130, 3) := by decide +kernel
theorem d_MD_open_78 : decode c_MD_open 78 = .ok (.aload_n 0, 1) := by decide +kernel
theorem d_MD_open_79 : decode c_MD_open 79 = .ok (.invokevirtual 133, 3) := by decide +kernel
theorem d_MD_open_82 : decode c_MD_open 82 = .ok (.ifCond .ne 5, 3) := by decide +kernel
theorem d_MD_open_85 : decode c_MD_open 85 = .ok (.iconst 0, 1) := by decide +kernel
theorem d_MD_open_86 : decode c_MD_open 86 = .ok (.ireturn, 1) := by decide +kernel
theorem d_MD_open_87 : decode c_MD_open 87 = .ok (.aload_n 0, 1) := by decide +kernel
theorem d_MD_open_88 : decode c_MD_open 88 = .ok (.iconst 0, 1) := by decide +kernel
theorem d_MD_open_89 : decode c_MD_open 89 = .ok (.putfield 124, 3) := by decide +kernel
theorem d_MD_open_92 : decode c_MD_open 92 = .ok (.iconst 1, 1) := by decide +kernel
theorem d_MD_open_93 : decode c_MD_open 93 = .ok (.ireturn, 1) := by decide +kernel
abbrev c_MD_opens : ByteArray := prog_7_method_24_code
abbrev y_MD_opens : MethodName := ⟨"StripeFieldModel", "opens", "()Z"⟩
theorem d_MD_opens_0 : decode c_MD_opens 0 = .ok (.iconst 0, 1) := by decide +kernel
theorem d_MD_opens_1 : decode c_MD_opens 1 = .ok (.istore_n 1, 1) := by decide +kernel
theorem d_MD_opens_2 : decode c_MD_opens 2 = .ok (.iload_n 1, 1) := by decide +kernel
theorem d_MD_opens_3 : decode c_MD_opens 3 = .ok (.aload_n 0, 1) := by decide +kernel
theorem d_MD_opens_4 : decode c_MD_opens 4 = .ok (.getfield 52, 3) := by decide +kernel
theorem d_MD_opens_7 : decode c_MD_opens 7 = .ok (.if_icmp .ge 47, 3) := by decide +kernel
theorem d_MD_opens_10 : decode c_MD_opens 10 = .ok (.aload_n 0, 1) := by decide +kernel
theorem d_MD_opens_11 : decode c_MD_opens 11 = .ok (.iload_n 1, 1) := by decide +kernel
theorem d_MD_opens_12 : decode c_MD_opens 12 = .ok (.aload_n 0, 1) := by decide +kernel
theorem d_MD_opens_13 : decode c_MD_opens 13 = .ok (.getfield 58, 3) := by decide +kernel
theorem d_MD_opens_16 : decode c_MD_opens 16 = .ok (.invokevirtual 77, 3) := by decide +kernel
theorem d_MD_opens_19 : decode c_MD_opens 19 = .ok (.ifCond .eq 29, 3) := by decide +kernel
theorem d_MD_opens_22 : decode c_MD_opens 22 = .ok (.aload_n 0, 1) := by decide +kernel
theorem d_MD_opens_23 : decode c_MD_opens 23 = .ok (.getfield 20, 3) := by decide +kernel
theorem d_MD_opens_26 : decode c_MD_opens 26 = .ok (.iload_n 1, 1) := by decide +kernel
theorem d_MD_opens_27 : decode c_MD_opens 27 = .ok (.aload_n 0, 1) := by decide +kernel
theorem d_MD_opens_28 : decode c_MD_opens 28 = .ok (.getfield 58, 3) := by decide +kernel
theorem d_MD_opens_31 : decode c_MD_opens 31 = .ok (.invokestatic 67, 3) := by decide +kernel
theorem d_MD_opens_34 : decode c_MD_opens 34 = .ok (.iaload, 1) := by decide +kernel
theorem d_MD_opens_35 : decode c_MD_opens 35 = .ok (.ifCond .le 13, 3) := by decide +kernel
theorem d_MD_opens_38 : decode c_MD_opens 38 = .ok (.aload_n 0, 1) := by decide +kernel
theorem d_MD_opens_39 : decode c_MD_opens 39 = .ok (.iload_n 1, 1) := by decide +kernel
theorem d_MD_opens_40 : decode c_MD_opens 40 = .ok (.invokevirtual 127, 3) := by decide +kernel
theorem d_MD_opens_43 : decode c_MD_opens 43 = .ok (.ifCond .ne 5, 3) := by decide +kernel
theorem d_MD_opens_46 : decode c_MD_opens 46 = .ok (.iconst 0, 1) := by decide +kernel
theorem d_MD_opens_47 : decode c_MD_opens 47 = .ok (.ireturn, 1) := by decide +kernel
theorem d_MD_opens_48 : decode c_MD_opens 48 = .ok (.iinc 1 1, 3) := by decide +kernel
theorem d_MD_opens_51 : decode c_MD_opens 51 = .ok (.goto (-49), 3) := by decide +kernel
theorem d_MD_opens_54 : decode c_MD_opens 54 = .ok (.iconst 0, 1) := by decide +kernel
theorem d_MD_opens_55 : decode c_MD_opens 55 = .ok (.istore_n 1, 1) := by decide +kernel
theorem d_MD_opens_56 : decode c_MD_opens 56 = .ok (.iload_n 1, 1) := by decide +kernel
theorem d_MD_opens_57 : decode c_MD_opens 57 = .ok (.aload_n 0, 1) := by decide +kernel
theorem d_MD_opens_58 : decode c_MD_opens 58 = .ok (.getfield 58, 3) := by decide +kernel
theorem d_MD_opens_61 : decode c_MD_opens 61 = .ok (.if_icmp .ge 83, 3) := by decide +kernel
theorem d_MD_opens_64 : decode c_MD_opens 64 = .ok (.aload_n 0, 1) := by decide +kernel
theorem d_MD_opens_65 : decode c_MD_opens 65 = .ok (.getfield 55, 3) := by decide +kernel
theorem d_MD_opens_68 : decode c_MD_opens 68 = .ok (.aload_n 0, 1) := by decide +kernel
theorem d_MD_opens_69 : decode c_MD_opens 69 = .ok (.getfield 61, 3) := by decide +kernel
theorem d_MD_opens_72 : decode c_MD_opens 72 = .ok (.imul, 1) := by decide +kernel
theorem d_MD_opens_73 : decode c_MD_opens 73 = .ok (.istore_n 2, 1) := by decide +kernel
theorem d_MD_opens_74 : decode c_MD_opens 74 = .ok (.iload_n 2, 1) := by decide +kernel
theorem d_MD_opens_75 : decode c_MD_opens 75 = .ok (.aload_n 0, 1) := by decide +kernel
theorem d_MD_opens_76 : decode c_MD_opens 76 = .ok (.getfield 52, 3) := by decide +kernel
theorem d_MD_opens_79 : decode c_MD_opens 79 = .ok (.if_icmp .ge 59, 3) := by decide +kernel
theorem d_MD_opens_82 : decode c_MD_opens 82 = .ok (.aload_n 0, 1) := by decide +kernel
theorem d_MD_opens_83 : decode c_MD_opens 83 = .ok (.iload_n 1, 1) := by decide +kernel
theorem d_MD_opens_84 : decode c_MD_opens 84 = .ok (.iload_n 2, 1) := by decide +kernel
theorem d_MD_opens_85 : decode c_MD_opens 85 = .ok (.invokevirtual 71, 3) := by decide +kernel
theorem d_MD_opens_88 : decode c_MD_opens 88 = .ok (.istore_n 3, 1) := by decide +kernel
theorem d_MD_opens_89 : decode c_MD_opens 89 = .ok (.aload_n 0, 1) := by decide +kernel
theorem d_MD_opens_90 : decode c_MD_opens 90 = .ok (.iload_n 1, 1) := by decide +kernel
theorem d_MD_opens_91 : decode c_MD_opens 91 = .ok (.iload_n 3, 1) := by decide +kernel
theorem d_MD_opens_92 : decode c_MD_opens 92 = .ok (.invokevirtual 94, 3) := by decide +kernel
theorem d_MD_opens_95 : decode c_MD_opens 95 = .ok (.ifCond .ge 37, 3) := by decide +kernel
theorem d_MD_opens_98 : decode c_MD_opens 98 = .ok (.aload_n 0, 1) := by decide +kernel
theorem d_MD_opens_99 : decode c_MD_opens 99 = .ok (.iload_n 3, 1) := by decide +kernel
theorem d_MD_opens_100 : decode c_MD_opens 100 = .ok (.iload_n 1, 1) := by decide +kernel
theorem d_MD_opens_101 : decode c_MD_opens 101 = .ok (.invokevirtual 77, 3) := by decide +kernel
theorem d_MD_opens_104 : decode c_MD_opens 104 = .ok (.ifCond .eq 28, 3) := by decide +kernel
theorem d_MD_opens_107 : decode c_MD_opens 107 = .ok (.aload_n 0, 1) := by decide +kernel
theorem d_MD_opens_108 : decode c_MD_opens 108 = .ok (.getfield 20, 3) := by decide +kernel
theorem d_MD_opens_111 : decode c_MD_opens 111 = .ok (.iload_n 3, 1) := by decide +kernel
theorem d_MD_opens_112 : decode c_MD_opens 112 = .ok (.iload_n 1, 1) := by decide +kernel
theorem d_MD_opens_113 : decode c_MD_opens 113 = .ok (.invokestatic 67, 3) := by decide +kernel
theorem d_MD_opens_116 : decode c_MD_opens 116 = .ok (.iaload, 1) := by decide +kernel
theorem d_MD_opens_117 : decode c_MD_opens 117 = .ok (.ifCond .le 15, 3) := by decide +kernel
theorem d_MD_opens_120 : decode c_MD_opens 120 = .ok (.aload_n 0, 1) := by decide +kernel
theorem d_MD_opens_121 : decode c_MD_opens 121 = .ok (.iload_n 3, 1) := by decide +kernel
theorem d_MD_opens_122 : decode c_MD_opens 122 = .ok (.iload_n 1, 1) := by decide +kernel
theorem d_MD_opens_123 : decode c_MD_opens 123 = .ok (.iconst 0, 1) := by decide +kernel
theorem d_MD_opens_124 : decode c_MD_opens 124 = .ok (.invokevirtual 116, 3) := by decide +kernel
theorem d_MD_opens_127 : decode c_MD_opens 127 = .ok (.ifCond .ne 5, 3) := by decide +kernel
theorem d_MD_opens_130 : decode c_MD_opens 130 = .ok (.iconst 0, 1) := by decide +kernel
theorem d_MD_opens_131 : decode c_MD_opens 131 = .ok (.ireturn, 1) := by decide +kernel
theorem d_MD_opens_132 : decode c_MD_opens 132 = .ok (.iinc 2 1, 3) := by decide +kernel
theorem d_MD_opens_135 : decode c_MD_opens 135 = .ok (.goto (-61), 3) := by decide +kernel
theorem d_MD_opens_138 : decode c_MD_opens 138 = .ok (.iinc 1 1, 3) := by decide +kernel
theorem d_MD_opens_141 : decode c_MD_opens 141 = .ok (.goto (-85), 3) := by decide +kernel
theorem d_MD_opens_144 : decode c_MD_opens 144 = .ok (.iconst 1, 1) := by decide +kernel
theorem d_MD_opens_145 : decode c_MD_opens 145 = .ok (.ireturn, 1) := by decide +kernel
abbrev c_MD_unlogs : ByteArray := prog_7_method_23_code
abbrev y_MD_unlogs : MethodName := ⟨"StripeFieldModel", "unlogs", "(I)Z"⟩
theorem d_MD_unlogs_0 : decode c_MD_unlogs 0 = .ok (.aload_n 0, 1) := by decide +kernel
theorem d_MD_unlogs_1 : decode c_MD_unlogs 1 = .ok (.getfield 20, 3) := by decide +kernel
theorem d_MD_unlogs_4 : decode c_MD_unlogs 4 = .ok (.iload_n 1, 1) := by decide +kernel
theorem d_MD_unlogs_5 : decode c_MD_unlogs 5 = .ok (.aload_n 0, 1) := by decide +kernel
theorem d_MD_unlogs_6 : decode c_MD_unlogs 6 = .ok (.getfield 58, 3) := by decide +kernel
theorem d_MD_unlogs_9 : decode c_MD_unlogs 9 = .ok (.invokestatic 67, 3) := by decide +kernel
theorem d_MD_unlogs_12 : decode c_MD_unlogs 12 = .ok (.iaload, 1) := by decide +kernel
theorem d_MD_unlogs_13 : decode c_MD_unlogs 13 = .ok (.iconst 1, 1) := by decide +kernel
theorem d_MD_unlogs_14 : decode c_MD_unlogs 14 = .ok (.isub, 1) := by decide +kernel
theorem d_MD_unlogs_15 : decode c_MD_unlogs 15 = .ok (.istore_n 2, 1) := by decide +kernel
theorem d_MD_unlogs_16 : decode c_MD_unlogs 16 = .ok (.iload_n 2, 1) := by decide +kernel
theorem d_MD_unlogs_17 : decode c_MD_unlogs 17 = .ok (.bipush 8, 2) := by decide +kernel
theorem d_MD_unlogs_19 : decode c_MD_unlogs 19 = .ok (.idiv, 1) := by decide +kernel
theorem d_MD_unlogs_20 : decode c_MD_unlogs 20 = .ok (.istore_n 3, 1) := by decide +kernel
theorem d_MD_unlogs_21 : decode c_MD_unlogs 21 = .ok (.iload_n 3, 1) := by decide +kernel
theorem d_MD_unlogs_22 : decode c_MD_unlogs 22 = .ok (.aload_n 0, 1) := by decide +kernel
theorem d_MD_unlogs_23 : decode c_MD_unlogs 23 = .ok (.getfield 61, 3) := by decide +kernel
theorem d_MD_unlogs_26 : decode c_MD_unlogs 26 = .ok (.idiv, 1) := by decide +kernel
theorem d_MD_unlogs_27 : decode c_MD_unlogs 27 = .ok (.istore 4, 2) := by decide +kernel
theorem d_MD_unlogs_29 : decode c_MD_unlogs 29 = .ok (.aload_n 0, 1) := by decide +kernel
theorem d_MD_unlogs_30 : decode c_MD_unlogs 30 = .ok (.getfield 55, 3) := by decide +kernel
theorem d_MD_unlogs_33 : decode c_MD_unlogs 33 = .ok (.iload_n 3, 1) := by decide +kernel
theorem d_MD_unlogs_34 : decode c_MD_unlogs 34 = .ok (.aload_n 0, 1) := by decide +kernel
theorem d_MD_unlogs_35 : decode c_MD_unlogs 35 = .ok (.getfield 61, 3) := by decide +kernel
theorem d_MD_unlogs_38 : decode c_MD_unlogs 38 = .ok (.irem, 1) := by decide +kernel
theorem d_MD_unlogs_39 : decode c_MD_unlogs 39 = .ok (.imul, 1) := by decide +kernel
theorem d_MD_unlogs_40 : decode c_MD_unlogs 40 = .ok (.iload_n 2, 1) := by decide +kernel
theorem d_MD_unlogs_41 : decode c_MD_unlogs 41 = .ok (.bipush 8, 2) := by decide +kernel
theorem d_MD_unlogs_43 : decode c_MD_unlogs 43 = .ok (.irem, 1) := by decide +kernel
theorem d_MD_unlogs_44 : decode c_MD_unlogs 44 = .ok (.iadd, 1) := by decide +kernel
theorem d_MD_unlogs_45 : decode c_MD_unlogs 45 = .ok (.istore 5, 2) := by decide +kernel
theorem d_MD_unlogs_47 : decode c_MD_unlogs 47 = .ok (.aload_n 0, 1) := by decide +kernel
theorem d_MD_unlogs_48 : decode c_MD_unlogs 48 = .ok (.getfield 55, 3) := by decide +kernel
theorem d_MD_unlogs_51 : decode c_MD_unlogs 51 = .ok (.iload_n 3, 1) := by decide +kernel
theorem d_MD_unlogs_52 : decode c_MD_unlogs 52 = .ok (.aload_n 0, 1) := by decide +kernel
theorem d_MD_unlogs_53 : decode c_MD_unlogs 53 = .ok (.getfield 61, 3) := by decide +kernel
theorem d_MD_unlogs_56 : decode c_MD_unlogs 56 = .ok (.irem, 1) := by decide +kernel
theorem d_MD_unlogs_57 : decode c_MD_unlogs 57 = .ok (.imul, 1) := by decide +kernel
theorem d_MD_unlogs_58 : decode c_MD_unlogs 58 = .ok (.aload_n 0, 1) := by decide +kernel
theorem d_MD_unlogs_59 : decode c_MD_unlogs 59 = .ok (.getfield 55, 3) := by decide +kernel
theorem d_MD_unlogs_62 : decode c_MD_unlogs 62 = .ok (.iadd, 1) := by decide +kernel
theorem d_MD_unlogs_63 : decode c_MD_unlogs 63 = .ok (.iconst 1, 1) := by decide +kernel
theorem d_MD_unlogs_64 : decode c_MD_unlogs 64 = .ok (.isub, 1) := by decide +kernel
theorem d_MD_unlogs_65 : decode c_MD_unlogs 65 = .ok (.istore 6, 2) := by decide +kernel
theorem d_MD_unlogs_67 : decode c_MD_unlogs 67 = .ok (.aload_n 0, 1) := by decide +kernel
theorem d_MD_unlogs_68 : decode c_MD_unlogs 68 = .ok (.iload 4, 2) := by decide +kernel
theorem d_MD_unlogs_70 : decode c_MD_unlogs 70 = .ok (.iload 5, 2) := by decide +kernel
theorem d_MD_unlogs_72 : decode c_MD_unlogs 72 = .ok (.invokevirtual 84, 3) := by decide +kernel
theorem d_MD_unlogs_75 : decode c_MD_unlogs 75 = .ok (.istore 7, 2) := by decide +kernel
theorem d_MD_unlogs_77 : decode c_MD_unlogs 77 = .ok (.aload_n 0, 1) := by decide +kernel
theorem d_MD_unlogs_78 : decode c_MD_unlogs 78 = .ok (.iload 4, 2) := by decide +kernel
theorem d_MD_unlogs_80 : decode c_MD_unlogs 80 = .ok (.iload 6, 2) := by decide +kernel
theorem d_MD_unlogs_82 : decode c_MD_unlogs 82 = .ok (.invokevirtual 84, 3) := by decide +kernel
theorem d_MD_unlogs_85 : decode c_MD_unlogs 85 = .ok (.iload_n 1, 1) := by decide +kernel
theorem d_MD_unlogs_86 : decode c_MD_unlogs 86 = .ok (.if_icmp .ne 23, 3) := by decide +kernel
theorem d_MD_unlogs_89 : decode c_MD_unlogs 89 = .ok (.iload 7, 2) := by decide +kernel
theorem d_MD_unlogs_91 : decode c_MD_unlogs 91 = .ok (.ifCond .lt 18, 3) := by decide +kernel
theorem d_MD_unlogs_94 : decode c_MD_unlogs 94 = .ok (.aload_n 0, 1) := by decide +kernel
theorem d_MD_unlogs_95 : decode c_MD_unlogs 95 = .ok (.iload 7, 2) := by decide +kernel
theorem d_MD_unlogs_97 : decode c_MD_unlogs 97 = .ok (.iload 4, 2) := by decide +kernel
theorem d_MD_unlogs_99 : decode c_MD_unlogs 99 = .ok (.invokevirtual 77, 3) := by decide +kernel
theorem d_MD_unlogs_102 : decode c_MD_unlogs 102 = .ok (.ifCond .eq 7, 3) := by decide +kernel
theorem d_MD_unlogs_105 : decode c_MD_unlogs 105 = .ok (.iconst 1, 1) := by decide +kernel
theorem d_MD_unlogs_106 : decode c_MD_unlogs 106 = .ok (.goto 4, 3) := by decide +kernel
theorem d_MD_unlogs_109 : decode c_MD_unlogs 109 = .ok (.iconst 0, 1) := by decide +kernel
theorem d_MD_unlogs_110 : decode c_MD_unlogs 110 = .ok (.istore 8, 2) := by decide +kernel
theorem d_MD_unlogs_112 : decode c_MD_unlogs 112 = .ok (.iload 8, 2) := by decide +kernel
theorem d_MD_unlogs_114 : decode c_MD_unlogs 114 = .ok (.ifCond .eq 19, 3) := by decide +kernel
theorem d_MD_unlogs_117 : decode c_MD_unlogs 117 = .ok (.aload_n 0, 1) := by decide +kernel
theorem d_MD_unlogs_118 : decode c_MD_unlogs 118 = .ok (.iload_n 1, 1) := by decide +kernel
theorem d_MD_unlogs_119 : decode c_MD_unlogs 119 = .ok (.iload 4, 2) := by decide +kernel
theorem d_MD_unlogs_121 : decode c_MD_unlogs 121 = .ok (.iload 6, 2) := by decide +kernel
theorem d_MD_unlogs_123 : decode c_MD_unlogs 123 = .ok (.iconst 1, 1) := by decide +kernel
theorem d_MD_unlogs_124 : decode c_MD_unlogs 124 = .ok (.iadd, 1) := by decide +kernel
theorem d_MD_unlogs_125 : decode c_MD_unlogs 125 = .ok (.invokevirtual 116, 3) := by decide +kernel
theorem d_MD_unlogs_128 : decode c_MD_unlogs 128 = .ok (.ifCond .ne 5, 3) := by decide +kernel
theorem d_MD_unlogs_131 : decode c_MD_unlogs 131 = .ok (.iconst 0, 1) := by decide +kernel
theorem d_MD_unlogs_132 : decode c_MD_unlogs 132 = .ok (.ireturn, 1) := by decide +kernel
theorem d_MD_unlogs_133 : decode c_MD_unlogs 133 = .ok (.iload 8, 2) := by decide +kernel
theorem d_MD_unlogs_135 : decode c_MD_unlogs 135 = .ok (.ifCond .eq 8, 3) := by decide +kernel
theorem d_MD_unlogs_138 : decode c_MD_unlogs 138 = .ok (.aload_n 0, 1) := by decide +kernel
theorem d_MD_unlogs_139 : decode c_MD_unlogs 139 = .ok (.iconst 0, 1) := by decide +kernel
theorem d_MD_unlogs_140 : decode c_MD_unlogs 140 = .ok (.putfield 124, 3) := by decide +kernel
theorem d_MD_unlogs_143 : decode c_MD_unlogs 143 = .ok (.aload_n 0, 1) := by decide +kernel
theorem d_MD_unlogs_144 : decode c_MD_unlogs 144 = .ok (.iload_n 1, 1) := by decide +kernel
theorem d_MD_unlogs_145 : decode c_MD_unlogs 145 = .ok (.aload_n 0, 1) := by decide +kernel
theorem d_MD_unlogs_146 : decode c_MD_unlogs 146 = .ok (.getfield 58, 3) := by decide +kernel
theorem d_MD_unlogs_149 : decode c_MD_unlogs 149 = .ok (.iconst 0, 1) := by decide +kernel
theorem d_MD_unlogs_150 : decode c_MD_unlogs 150 = .ok (.invokevirtual 116, 3) := by decide +kernel
theorem d_MD_unlogs_153 : decode c_MD_unlogs 153 = .ok (.ireturn, 1) := by decide +kernel
abbrev c_MD_holder : ByteArray := prog_7_method_13_code
abbrev y_MD_holder : MethodName := ⟨"StripeFieldModel", "holder", "(II)I"⟩
theorem d_MD_holder_0 : decode c_MD_holder 0 = .ok (.iconst 0, 1) := by decide +kernel
theorem d_MD_holder_1 : decode c_MD_holder 1 = .ok (.istore_n 3, 1) := by decide +kernel
theorem d_MD_holder_2 : decode c_MD_holder 2 = .ok (.iload_n 3, 1) := by decide +kernel
theorem d_MD_holder_3 : decode c_MD_holder 3 = .ok (.aload_n 0, 1) := by decide +kernel
theorem d_MD_holder_4 : decode c_MD_holder 4 = .ok (.getfield 55, 3) := by decide +kernel
theorem d_MD_holder_7 : decode c_MD_holder 7 = .ok (.aload_n 0, 1) := by decide +kernel
theorem d_MD_holder_8 : decode c_MD_holder 8 = .ok (.getfield 61, 3) := by decide +kernel
theorem d_MD_holder_11 : decode c_MD_holder 11 = .ok (.imul, 1) := by decide +kernel
theorem d_MD_holder_12 : decode c_MD_holder 12 = .ok (.if_icmp .ge 21, 3) := by decide +kernel
theorem d_MD_holder_15 : decode c_MD_holder 15 = .ok (.aload_n 0, 1) := by decide +kernel
theorem d_MD_holder_16 : decode c_MD_holder 16 = .ok (.iload_n 1, 1) := by decide +kernel
theorem d_MD_holder_17 : decode c_MD_holder 17 = .ok (.iload_n 3, 1) := by decide +kernel
theorem d_MD_holder_18 : decode c_MD_holder 18 = .ok (.invokevirtual 84, 3) := by decide +kernel
theorem d_MD_holder_21 : decode c_MD_holder 21 = .ok (.iload_n 2, 1) := by decide +kernel
theorem d_MD_holder_22 : decode c_MD_holder 22 = .ok (.if_icmp .ne 5, 3) := by decide +kernel
theorem d_MD_holder_25 : decode c_MD_holder 25 = .ok (.iload_n 3, 1) := by decide +kernel
theorem d_MD_holder_26 : decode c_MD_holder 26 = .ok (.ireturn, 1) := by decide +kernel
theorem d_MD_holder_27 : decode c_MD_holder 27 = .ok (.iinc 3 1, 3) := by decide +kernel
theorem d_MD_holder_30 : decode c_MD_holder 30 = .ok (.goto (-28), 3) := by decide +kernel
theorem d_MD_holder_33 : decode c_MD_holder 33 = .ok (.iconst (-1), 1) := by decide +kernel
theorem d_MD_holder_34 : decode c_MD_holder 34 = .ok (.ireturn, 1) := by decide +kernel
abbrev c_MD_fail : ByteArray := prog_7_method_26_code
abbrev y_MD_fail : MethodName := ⟨"StripeFieldModel", "fail", "(I)Z"⟩
theorem d_MD_fail_0 : decode c_MD_fail 0 = .ok (.aload_n 0, 1) := by decide +kernel
theorem d_MD_fail_1 : decode c_MD_fail 1 = .ok (.iload_n 1, 1) := by decide +kernel
theorem d_MD_fail_2 : decode c_MD_fail 2 = .ok (.ifCond .lt 11, 3) := by decide +kernel
theorem d_MD_fail_5 : decode c_MD_fail 5 = .ok (.iload_n 1, 1) := by decide +kernel
theorem d_MD_fail_6 : decode c_MD_fail 6 = .ok (.aload_n 0, 1) := by decide +kernel
theorem d_MD_fail_7 : decode c_MD_fail 7 = .ok (.getfield 52, 3) := by decide +kernel
theorem d_MD_fail_10 : decode c_MD_fail 10 = .ok (.if_icmp .lt 7, 3) := by decide +kernel
theorem d_MD_fail_13 : decode c_MD_fail 13 = .ok (.iconst 1, 1) := by decide +kernel
theorem d_MD_fail_14 : decode c_MD_fail 14 = .ok (.goto 4, 3) := by decide +kernel
theorem d_MD_fail_17 : decode c_MD_fail 17 = .ok (.iconst 0, 1) := by decide +kernel
theorem d_MD_fail_18 : decode c_MD_fail 18 = .ok (.iconst 1, 1) := by decide +kernel
theorem d_MD_fail_19 : decode c_MD_fail 19 = .ok (.invokevirtual 100, 3) := by decide +kernel
theorem d_MD_fail_22 : decode c_MD_fail 22 = .ok (.ifCond .ne 20, 3) := by decide +kernel
theorem d_MD_fail_25 : decode c_MD_fail 25 = .ok (.aload_n 0, 1) := by decide +kernel
theorem d_MD_fail_26 : decode c_MD_fail 26 = .ok (.getfield 13, 3) := by decide +kernel
theorem d_MD_fail_29 : decode c_MD_fail 29 = .ok (.iload_n 1, 1) := by decide +kernel
theorem d_MD_fail_30 : decode c_MD_fail 30 = .ok (.baload, 1) := by decide +kernel
theorem d_MD_fail_31 : decode c_MD_fail 31 = .ok (.ifCond .eq 11, 3) := by decide +kernel
theorem d_MD_fail_34 : decode c_MD_fail 34 = .ok (.aload_n 0, 1) := by decide +kernel
theorem d_MD_fail_35 : decode c_MD_fail 35 = .ok (.iload_n 1, 1) := by decide +kernel
theorem d_MD_fail_36 : decode c_MD_fail 36 = .ok (.invokevirtual 137, 3) := by decide +kernel
theorem d_MD_fail_39 : decode c_MD_fail 39 = .ok (.ifCond .eq 5, 3) := by decide +kernel
theorem d_MD_fail_42 : decode c_MD_fail 42 = .ok (.iconst 0, 1) := by decide +kernel
theorem d_MD_fail_43 : decode c_MD_fail 43 = .ok (.ireturn, 1) := by decide +kernel
theorem d_MD_fail_44 : decode c_MD_fail 44 = .ok (.aload_n 0, 1) := by decide +kernel
theorem d_MD_fail_45 : decode c_MD_fail 45 = .ok (.getfield 46, 3) := by decide +kernel
theorem d_MD_fail_48 : decode c_MD_fail 48 = .ok (.aload_n 0, 1) := by decide +kernel
theorem d_MD_fail_49 : decode c_MD_fail 49 = .ok (.getfield 55, 3) := by decide +kernel
theorem d_MD_fail_52 : decode c_MD_fail 52 = .ok (.iconst 1, 1) := by decide +kernel
theorem d_MD_fail_53 : decode c_MD_fail 53 = .ok (.isub, 1) := by decide +kernel
theorem d_MD_fail_54 : decode c_MD_fail 54 = .ok (.idiv, 1) := by decide +kernel
theorem d_MD_fail_55 : decode c_MD_fail 55 = .ok (.istore_n 2, 1) := by decide +kernel
theorem d_MD_fail_56 : decode c_MD_fail 56 = .ok (.aload_n 0, 1) := by decide +kernel
theorem d_MD_fail_57 : decode c_MD_fail 57 = .ok (.getfield 31, 3) := by decide +kernel
theorem d_MD_fail_60 : decode c_MD_fail 60 = .ok (.ifCond .ne 51, 3) := by decide +kernel
theorem d_MD_fail_63 : decode c_MD_fail 63 = .ok (.aload_n 0, 1) := by decide +kernel
theorem d_MD_fail_64 : decode c_MD_fail 64 = .ok (.getfield 124, 3) := by decide +kernel
theorem d_MD_fail_67 : decode c_MD_fail 67 = .ok (.ifCond .eq 44, 3) := by decide +kernel
theorem d_MD_fail_70 : decode c_MD_fail 70 = .ok (.aload_n 0, 1) := by decide +kernel
theorem d_MD_fail_71 : decode c_MD_fail 71 = .ok (.iload_n 2, 1) := by decide +kernel
theorem d_MD_fail_72 : decode c_MD_fail 72 = .ok (.aload_n 0, 1) := by decide +kernel
theorem d_MD_fail_73 : decode c_MD_fail 73 = .ok (.getfield 61, 3) := by decide +kernel
theorem d_MD_fail_76 : decode c_MD_fail 76 = .ok (.idiv, 1) := by decide +kernel
theorem d_MD_fail_77 : decode c_MD_fail 77 = .ok (.aload_n 0, 1) := by decide +kernel
theorem d_MD_fail_78 : decode c_MD_fail 78 = .ok (.getfield 55, 3) := by decide +kernel
theorem d_MD_fail_81 : decode c_MD_fail 81 = .ok (.iload_n 2, 1) := by decide +kernel
theorem d_MD_fail_82 : decode c_MD_fail 82 = .ok (.aload_n 0, 1) := by decide +kernel
theorem d_MD_fail_83 : decode c_MD_fail 83 = .ok (.getfield 61, 3) := by decide +kernel
theorem d_MD_fail_86 : decode c_MD_fail 86 = .ok (.irem, 1) := by decide +kernel
theorem d_MD_fail_87 : decode c_MD_fail 87 = .ok (.imul, 1) := by decide +kernel
theorem d_MD_fail_88 : decode c_MD_fail 88 = .ok (.aload_n 0, 1) := by decide +kernel
theorem d_MD_fail_89 : decode c_MD_fail 89 = .ok (.getfield 46, 3) := by decide +kernel
theorem d_MD_fail_92 : decode c_MD_fail 92 = .ok (.aload_n 0, 1) := by decide +kernel
theorem d_MD_fail_93 : decode c_MD_fail 93 = .ok (.getfield 55, 3) := by decide +kernel
theorem d_MD_fail_96 : decode c_MD_fail 96 = .ok (.iconst 1, 1) := by decide +kernel
theorem d_MD_fail_97 : decode c_MD_fail 97 = .ok (.isub, 1) := by decide +kernel
theorem d_MD_fail_98 : decode c_MD_fail 98 = .ok (.irem, 1) := by decide +kernel
theorem d_MD_fail_99 : decode c_MD_fail 99 = .ok (.iadd, 1) := by decide +kernel
theorem d_MD_fail_100 : decode c_MD_fail 100 = .ok (.invokevirtual 81, 3) := by decide +kernel
theorem d_MD_fail_103 : decode c_MD_fail 103 = .ok (.iload_n 1, 1) := by decide +kernel
theorem d_MD_fail_104 : decode c_MD_fail 104 = .ok (.if_icmp .ne 7, 3) := by decide +kernel
theorem d_MD_fail_107 : decode c_MD_fail 107 = .ok (.iconst 1, 1) := by decide +kernel
theorem d_MD_fail_108 : decode c_MD_fail 108 = .ok (.goto 4, 3) := by decide +kernel
theorem d_MD_fail_111 : decode c_MD_fail 111 = .ok (.iconst 0, 1) := by decide +kernel
theorem d_MD_fail_112 : decode c_MD_fail 112 = .ok (.istore_n 3, 1) := by decide +kernel
theorem d_MD_fail_113 : decode c_MD_fail 113 = .ok (.aload_n 0, 1) := by decide +kernel
theorem d_MD_fail_114 : decode c_MD_fail 114 = .ok (.getfield 13, 3) := by decide +kernel
theorem d_MD_fail_117 : decode c_MD_fail 117 = .ok (.iload_n 1, 1) := by decide +kernel
theorem d_MD_fail_118 : decode c_MD_fail 118 = .ok (.iconst 0, 1) := by decide +kernel
theorem d_MD_fail_119 : decode c_MD_fail 119 = .ok (.bastore, 1) := by decide +kernel
theorem d_MD_fail_120 : decode c_MD_fail 120 = .ok (.iconst 0, 1) := by decide +kernel
theorem d_MD_fail_121 : decode c_MD_fail 121 = .ok (.istore 4, 2) := by decide +kernel
theorem d_MD_fail_123 : decode c_MD_fail 123 = .ok (.iload 4, 2) := by decide +kernel
theorem d_MD_fail_125 : decode c_MD_fail 125 = .ok (.bipush 16, 2) := by decide +kernel
theorem d_MD_fail_127 : decode c_MD_fail 127 = .ok (.aload_n 0, 1) := by decide +kernel
theorem d_MD_fail_128 : decode c_MD_fail 128 = .ok (.getfield 58, 3) := by decide +kernel
theorem d_MD_fail_131 : decode c_MD_fail 131 = .ok (.imul, 1) := by decide +kernel
theorem d_MD_fail_132 : decode c_MD_fail 132 = .ok (.if_icmp .ge 52, 3) := by decide +kernel
theorem d_MD_fail_135 : decode c_MD_fail 135 = .ok (.aload_n 0, 1) := by decide +kernel
theorem d_MD_fail_136 : decode c_MD_fail 136 = .ok (.getfield 31, 3) := by decide +kernel
theorem d_MD_fail_139 : decode c_MD_fail 139 = .ok (.ifCond .eq 45, 3) := by decide +kernel
theorem d_MD_fail_142 : decode c_MD_fail 142 = .ok (.iload 4, 2) := by decide +kernel
theorem d_MD_fail_144 : decode c_MD_fail 144 = .ok (.bipush 16, 2) := by decide +kernel
theorem d_MD_fail_146 : decode c_MD_fail 146 = .ok (.irem, 1) := by decide +kernel
theorem d_MD_fail_147 : decode c_MD_fail 147 = .ok (.aload_n 0, 1) := by decide +kernel
theorem d_MD_fail_148 : decode c_MD_fail 148 = .ok (.getfield 55, 3) := by decide +kernel
theorem d_MD_fail_151 : decode c_MD_fail 151 = .ok (.aload_n 0, 1) := by decide +kernel
theorem d_MD_fail_152 : decode c_MD_fail 152 = .ok (.getfield 61, 3) := by decide +kernel
theorem d_MD_fail_155 : decode c_MD_fail 155 = .ok (.imul, 1) := by decide +kernel
theorem d_MD_fail_156 : decode c_MD_fail 156 = .ok (.if_icmp .ge 22, 3) := by decide +kernel
theorem d_MD_fail_159 : decode c_MD_fail 159 = .ok (.aload_n 0, 1) := by decide +kernel
theorem d_MD_fail_160 : decode c_MD_fail 160 = .ok (.getfield 28, 3) := by decide +kernel
theorem d_MD_fail_163 : decode c_MD_fail 163 = .ok (.iload 4, 2) := by decide +kernel
theorem d_MD_fail_165 : decode c_MD_fail 165 = .ok (.iaload, 1) := by decide +kernel
theorem d_MD_fail_166 : decode c_MD_fail 166 = .ok (.iload_n 1, 1) := by decide +kernel
theorem d_MD_fail_167 : decode c_MD_fail 167 = .ok (.if_icmp .ne 11, 3) := by decide +kernel
theorem d_MD_fail_170 : decode c_MD_fail 170 = .ok (.aload_n 0, 1) := by decide +kernel
theorem d_MD_fail_171 : decode c_MD_fail 171 = .ok (.getfield 28, 3) := by decide +kernel
theorem d_MD_fail_174 : decode c_MD_fail 174 = .ok (.iload 4, 2) := by decide +kernel
theorem d_MD_fail_176 : decode c_MD_fail 176 = .ok (.iconst (-1), 1) := by decide +kernel
theorem d_MD_fail_177 : decode c_MD_fail 177 = .ok (.iastore, 1) := by decide +kernel
theorem d_MD_fail_178 : decode c_MD_fail 178 = .ok (.iinc 4 1, 3) := by decide +kernel
theorem d_MD_fail_181 : decode c_MD_fail 181 = .ok (.goto (-58), 3) := by decide +kernel
theorem d_MD_fail_184 : decode c_MD_fail 184 = .ok (.iload_n 3, 1) := by decide +kernel
theorem d_MD_fail_185 : decode c_MD_fail 185 = .ok (.ifCond .ne 5, 3) := by decide +kernel
theorem d_MD_fail_188 : decode c_MD_fail 188 = .ok (.iconst 1, 1) := by decide +kernel
theorem d_MD_fail_189 : decode c_MD_fail 189 = .ok (.ireturn, 1) := by decide +kernel
theorem d_MD_fail_190 : decode c_MD_fail 190 = .ok (.iconst 0, 1) := by decide +kernel
theorem d_MD_fail_191 : decode c_MD_fail 191 = .ok (.istore 4, 2) := by decide +kernel
theorem d_MD_fail_193 : decode c_MD_fail 193 = .ok (.iload 4, 2) := by decide +kernel
theorem d_MD_fail_195 : decode c_MD_fail 195 = .ok (.bipush 64, 2) := by decide +kernel
theorem d_MD_fail_197 : decode c_MD_fail 197 = .ok (.if_icmp .ge 31, 3) := by decide +kernel
theorem d_MD_fail_200 : decode c_MD_fail 200 = .ok (.aload_n 0, 1) := by decide +kernel
theorem d_MD_fail_201 : decode c_MD_fail 201 = .ok (.getfield 43, 3) := by decide +kernel
theorem d_MD_fail_204 : decode c_MD_fail 204 = .ok (.bipush 64, 2) := by decide +kernel
theorem d_MD_fail_206 : decode c_MD_fail 206 = .ok (.aload_n 0, 1) := by decide +kernel
theorem d_MD_fail_207 : decode c_MD_fail 207 = .ok (.getfield 46, 3) := by decide +kernel
theorem d_MD_fail_210 : decode c_MD_fail 210 = .ok (.imul, 1) := by decide +kernel
theorem d_MD_fail_211 : decode c_MD_fail 211 = .ok (.iload 4, 2) := by decide +kernel
theorem d_MD_fail_213 : decode c_MD_fail 213 = .ok (.iadd, 1) := by decide +kernel
theorem d_MD_fail_214 : decode c_MD_fail 214 = .ok (.aload_n 0, 1) := by decide +kernel
theorem d_MD_fail_215 : decode c_MD_fail 215 = .ok (.getfield 49, 3) := by decide +kernel
theorem d_MD_fail_218 : decode c_MD_fail 218 = .ok (.iload 4, 2) := by decide +kernel
theorem d_MD_fail_220 : decode c_MD_fail 220 = .ok (.iaload, 1) := by decide +kernel
theorem d_MD_fail_221 : decode c_MD_fail 221 = .ok (.iastore, 1) := by decide +kernel
theorem d_MD_fail_222 : decode c_MD_fail 222 = .ok (.iinc 4 1, 3) := by decide +kernel
theorem d_MD_fail_225 : decode c_MD_fail 225 = .ok (.goto (-32), 3) := by decide +kernel
theorem d_MD_fail_228 : decode c_MD_fail 228 = .ok (.aload_n 0, 1) := by decide +kernel
theorem d_MD_fail_229 : decode c_MD_fail 229 = .ok (.iconst 0, 1) := by decide +kernel
theorem d_MD_fail_230 : decode c_MD_fail 230 = .ok (.putfield 124, 3) := by decide +kernel
theorem d_MD_fail_233 : decode c_MD_fail 233 = .ok (.iconst 1, 1) := by decide +kernel
theorem d_MD_fail_234 : decode c_MD_fail 234 = .ok (.ireturn, 1) := by decide +kernel
abbrev c_MD_isNeeded : ByteArray := prog_7_method_12_code
abbrev y_MD_isNeeded : MethodName := ⟨"StripeFieldModel", "isNeeded", "(I)Z"⟩
theorem d_MD_isNeeded_0 : decode c_MD_isNeeded 0 = .ok (.iconst 0, 1) := by decide +kernel
theorem d_MD_isNeeded_1 : decode c_MD_isNeeded 1 = .ok (.istore_n 2, 1) := by decide +kernel
theorem d_MD_isNeeded_2 : decode c_MD_isNeeded 2 = .ok (.iload_n 2, 1) := by decide +kernel
theorem d_MD_isNeeded_3 : decode c_MD_isNeeded 3 = .ok (.aload_n 0, 1) := by decide +kernel
theorem d_MD_isNeeded_4 : decode c_MD_isNeeded 4 = .ok (.getfield 58, 3) := by decide +kernel
theorem d_MD_isNeeded_7 : decode c_MD_isNeeded 7 = .ok (.if_icmp .ge 47, 3) := by decide +kernel
theorem d_MD_isNeeded_10 : decode c_MD_isNeeded 10 = .ok (.iconst 0, 1) := by decide +kernel
theorem d_MD_isNeeded_11 : decode c_MD_isNeeded 11 = .ok (.istore_n 3, 1) := by decide +kernel
theorem d_MD_isNeeded_12 : decode c_MD_isNeeded 12 = .ok (.iload_n 3, 1) := by decide +kernel
theorem d_MD_isNeeded_13 : decode c_MD_isNeeded 13 = .ok (.aload_n 0, 1) := by decide +kernel
theorem d_MD_isNeeded_14 : decode c_MD_isNeeded 14 = .ok (.getfield 55, 3) := by decide +kernel
theorem d_MD_isNeeded_17 : decode c_MD_isNeeded 17 = .ok (.aload_n 0, 1) := by decide +kernel
theorem d_MD_isNeeded_18 : decode c_MD_isNeeded 18 = .ok (.getfield 61, 3) := by decide +kernel
theorem d_MD_isNeeded_21 : decode c_MD_isNeeded 21 = .ok (.imul, 1) := by decide +kernel
theorem d_MD_isNeeded_22 : decode c_MD_isNeeded 22 = .ok (.if_icmp .ge 26, 3) := by decide +kernel
theorem d_MD_isNeeded_25 : decode c_MD_isNeeded 25 = .ok (.aload_n 0, 1) := by decide +kernel
theorem d_MD_isNeeded_26 : decode c_MD_isNeeded 26 = .ok (.iload_n 2, 1) := by decide +kernel
theorem d_MD_isNeeded_27 : decode c_MD_isNeeded 27 = .ok (.iload_n 3, 1) := by decide +kernel
theorem d_MD_isNeeded_28 : decode c_MD_isNeeded 28 = .ok (.iload_n 1, 1) := by decide +kernel
theorem d_MD_isNeeded_29 : decode c_MD_isNeeded 29 = .ok (.invokevirtual 90, 3) := by decide +kernel
theorem d_MD_isNeeded_32 : decode c_MD_isNeeded 32 = .ok (.iconst 1, 1) := by decide +kernel
theorem d_MD_isNeeded_33 : decode c_MD_isNeeded 33 = .ok (.if_icmp .le 5, 3) := by decide +kernel
theorem d_MD_isNeeded_36 : decode c_MD_isNeeded 36 = .ok (.iconst 1, 1) := by decide +kernel
theorem d_MD_isNeeded_37 : decode c_MD_isNeeded 37 = .ok (.ireturn, 1) := by decide +kernel
theorem d_MD_isNeeded_38 : decode c_MD_isNeeded 38 = .ok (.iload_n 3, 1) := by decide +kernel
theorem d_MD_isNeeded_39 : decode c_MD_isNeeded 39 = .ok (.aload_n 0, 1) := by decide +kernel
theorem d_MD_isNeeded_40 : decode c_MD_isNeeded 40 = .ok (.getfield 55, 3) := by decide +kernel
theorem d_MD_isNeeded_43 : decode c_MD_isNeeded 43 = .ok (.iadd, 1) := by decide +kernel
theorem d_MD_isNeeded_44 : decode c_MD_isNeeded 44 = .ok (.istore_n 3, 1) := by decide +kernel
theorem d_MD_isNeeded_45 : decode c_MD_isNeeded 45 = .ok (.goto (-33), 3) := by decide +kernel
theorem d_MD_isNeeded_48 : decode c_MD_isNeeded 48 = .ok (.iinc 2 1, 3) := by decide +kernel
theorem d_MD_isNeeded_51 : decode c_MD_isNeeded 51 = .ok (.goto (-49), 3) := by decide +kernel
theorem d_MD_isNeeded_54 : decode c_MD_isNeeded 54 = .ok (.iconst 0, 1) := by decide +kernel
theorem d_MD_isNeeded_55 : decode c_MD_isNeeded 55 = .ok (.ireturn, 1) := by decide +kernel
abbrev c_MD_bad : ByteArray := prog_7_method_11_code
abbrev y_MD_bad : MethodName := ⟨"StripeFieldModel", "bad", "(III)I"⟩
theorem d_MD_bad_0 : decode c_MD_bad 0 = .ok (.iload_n 2, 1) := by decide +kernel
theorem d_MD_bad_1 : decode c_MD_bad 1 = .ok (.aload_n 0, 1) := by decide +kernel
theorem d_MD_bad_2 : decode c_MD_bad 2 = .ok (.getfield 55, 3) := by decide +kernel
theorem d_MD_bad_5 : decode c_MD_bad 5 = .ok (.idiv, 1) := by decide +kernel
theorem d_MD_bad_6 : decode c_MD_bad 6 = .ok (.aload_n 0, 1) := by decide +kernel
theorem d_MD_bad_7 : decode c_MD_bad 7 = .ok (.getfield 55, 3) := by decide +kernel
theorem d_MD_bad_10 : decode c_MD_bad 10 = .ok (.imul, 1) := by decide +kernel
theorem d_MD_bad_11 : decode c_MD_bad 11 = .ok (.istore 4, 2) := by decide +kernel
theorem d_MD_bad_13 : decode c_MD_bad 13 = .ok (.iconst 0, 1) := by decide +kernel
theorem d_MD_bad_14 : decode c_MD_bad 14 = .ok (.istore 5, 2) := by decide +kernel
theorem d_MD_bad_16 : decode c_MD_bad 16 = .ok (.iload 4, 2) := by decide +kernel
theorem d_MD_bad_18 : decode c_MD_bad 18 = .ok (.istore 6, 2) := by decide +kernel
theorem d_MD_bad_20 : decode c_MD_bad 20 = .ok (.iload 6, 2) := by decide +kernel
theorem d_MD_bad_22 : decode c_MD_bad 22 = .ok (.iload 4, 2) := by decide +kernel
theorem d_MD_bad_24 : decode c_MD_bad 24 = .ok (.aload_n 0, 1) := by decide +kernel
theorem d_MD_bad_25 : decode c_MD_bad 25 = .ok (.getfield 55, 3) := by decide +kernel
theorem d_MD_bad_28 : decode c_MD_bad 28 = .ok (.iadd, 1) := by decide +kernel
theorem d_MD_bad_29 : decode c_MD_bad 29 = .ok (.if_icmp .ge 49, 3) := by decide +kernel
theorem d_MD_bad_32 : decode c_MD_bad 32 = .ok (.aload_n 0, 1) := by decide +kernel
theorem d_MD_bad_33 : decode c_MD_bad 33 = .ok (.iload_n 1, 1) := by decide +kernel
theorem d_MD_bad_34 : decode c_MD_bad 34 = .ok (.iload 6, 2) := by decide +kernel
theorem d_MD_bad_36 : decode c_MD_bad 36 = .ok (.invokevirtual 84, 3) := by decide +kernel
theorem d_MD_bad_39 : decode c_MD_bad 39 = .ok (.istore 7, 2) := by decide +kernel
theorem d_MD_bad_41 : decode c_MD_bad 41 = .ok (.iload 5, 2) := by decide +kernel
theorem d_MD_bad_43 : decode c_MD_bad 43 = .ok (.iload 7, 2) := by decide +kernel
theorem d_MD_bad_45 : decode c_MD_bad 45 = .ok (.ifCond .lt 19, 3) := by decide +kernel
theorem d_MD_bad_48 : decode c_MD_bad 48 = .ok (.iload 7, 2) := by decide +kernel
theorem d_MD_bad_50 : decode c_MD_bad 50 = .ok (.iload_n 3, 1) := by decide +kernel
theorem d_MD_bad_51 : decode c_MD_bad 51 = .ok (.if_icmp .eq 13, 3) := by decide +kernel
theorem d_MD_bad_54 : decode c_MD_bad 54 = .ok (.aload_n 0, 1) := by decide +kernel
theorem d_MD_bad_55 : decode c_MD_bad 55 = .ok (.iload_n 1, 1) := by decide +kernel
theorem d_MD_bad_56 : decode c_MD_bad 56 = .ok (.iload 6, 2) := by decide +kernel
theorem d_MD_bad_58 : decode c_MD_bad 58 = .ok (.invokevirtual 87, 3) := by decide +kernel
theorem d_MD_bad_61 : decode c_MD_bad 61 = .ok (.ifCond .eq 7, 3) := by decide +kernel
theorem d_MD_bad_64 : decode c_MD_bad 64 = .ok (.iconst 1, 1) := by decide +kernel
theorem d_MD_bad_65 : decode c_MD_bad 65 = .ok (.goto 4, 3) := by decide +kernel
theorem d_MD_bad_68 : decode c_MD_bad 68 = .ok (.iconst 0, 1) := by decide +kernel
theorem d_MD_bad_69 : decode c_MD_bad 69 = .ok (.iadd, 1) := by decide +kernel
theorem d_MD_bad_70 : decode c_MD_bad 70 = .ok (.istore 5, 2) := by decide +kernel
theorem d_MD_bad_72 : decode c_MD_bad 72 = .ok (.iinc 6 1, 3) := by decide +kernel
theorem d_MD_bad_75 : decode c_MD_bad 75 = .ok (.goto (-55), 3) := by decide +kernel
theorem d_MD_bad_78 : decode c_MD_bad 78 = .ok (.iload 5, 2) := by decide +kernel
theorem d_MD_bad_80 : decode c_MD_bad 80 = .ok (.ireturn, 1) := by decide +kernel
abbrev c_MD_isSpoilt : ByteArray := prog_7_method_10_code
abbrev y_MD_isSpoilt : MethodName := ⟨"StripeFieldModel", "isSpoilt", "(II)Z"⟩
theorem d_MD_isSpoilt_0 : decode c_MD_isSpoilt 0 = .ok (.aload_n 0, 1) := by decide +kernel
theorem d_MD_isSpoilt_1 : decode c_MD_isSpoilt 1 = .ok (.iload_n 1, 1) := by decide +kernel
theorem d_MD_isSpoilt_2 : decode c_MD_isSpoilt 2 = .ok (.iload_n 2, 1) := by decide +kernel
theorem d_MD_isSpoilt_3 : decode c_MD_isSpoilt 3 = .ok (.invokevirtual 84, 3) := by decide +kernel
theorem d_MD_isSpoilt_6 : decode c_MD_isSpoilt 6 = .ok (.istore_n 3, 1) := by decide +kernel
theorem d_MD_isSpoilt_7 : decode c_MD_isSpoilt 7 = .ok (.iload_n 3, 1) := by decide +kernel
theorem d_MD_isSpoilt_8 : decode c_MD_isSpoilt 8 = .ok (.ifCond .lt 16, 3) := by decide +kernel
theorem d_MD_isSpoilt_11 : decode c_MD_isSpoilt 11 = .ok (.aload_n 0, 1) := by decide +kernel
theorem d_MD_isSpoilt_12 : decode c_MD_isSpoilt 12 = .ok (.iload_n 3, 1) := by decide +kernel
theorem d_MD_isSpoilt_13 : decode c_MD_isSpoilt 13 = .ok (.iload_n 1, 1) := by decide +kernel
theorem d_MD_isSpoilt_14 : decode c_MD_isSpoilt 14 = .ok (.invokevirtual 77, 3) := by decide +kernel
theorem d_MD_isSpoilt_17 : decode c_MD_isSpoilt 17 = .ok (.ifCond .ne 7, 3) := by decide +kernel
theorem d_MD_isSpoilt_20 : decode c_MD_isSpoilt 20 = .ok (.iconst 1, 1) := by decide +kernel
theorem d_MD_isSpoilt_21 : decode c_MD_isSpoilt 21 = .ok (.goto 4, 3) := by decide +kernel
theorem d_MD_isSpoilt_24 : decode c_MD_isSpoilt 24 = .ok (.iconst 0, 1) := by decide +kernel
theorem d_MD_isSpoilt_25 : decode c_MD_isSpoilt 25 = .ok (.ireturn, 1) := by decide +kernel
abbrev c_MD_replace : ByteArray := prog_7_method_27_code
abbrev y_MD_replace : MethodName := ⟨"StripeFieldModel", "replace", "(I)Z"⟩
theorem d_MD_replace_0 : decode c_MD_replace 0 = .ok (.aload_n 0, 1) := by decide +kernel
theorem d_MD_replace_1 : decode c_MD_replace 1 = .ok (.iload_n 1, 1) := by decide +kernel
theorem d_MD_replace_2 : decode c_MD_replace 2 = .ok (.ifCond .lt 11, 3) := by decide +kernel
theorem d_MD_replace_5 : decode c_MD_replace 5 = .ok (.iload_n 1, 1) := by decide +kernel
theorem d_MD_replace_6 : decode c_MD_replace 6 = .ok (.aload_n 0, 1) := by decide +kernel
theorem d_MD_replace_7 : decode c_MD_replace 7 = .ok (.getfield 52, 3) := by decide +kernel
theorem d_MD_replace_10 : decode c_MD_replace 10 = .ok (.if_icmp .lt 7, 3) := by decide +kernel
theorem d_MD_replace_13 : decode c_MD_replace 13 = .ok (.iconst 1, 1) := by decide +kernel
theorem d_MD_replace_14 : decode c_MD_replace 14 = .ok (.goto 4, 3) := by decide +kernel
theorem d_MD_replace_17 : decode c_MD_replace 17 = .ok (.iconst 0, 1) := by decide +kernel
theorem d_MD_replace_18 : decode c_MD_replace 18 = .ok (.iconst 1, 1) := by decide +kernel
theorem d_MD_replace_19 : decode c_MD_replace 19 = .ok (.invokevirtual 100, 3) := by decide +kernel
theorem d_MD_replace_22 : decode c_MD_replace 22 = .ok (.ifCond .ne 12, 3) := by decide +kernel
theorem d_MD_replace_25 : decode c_MD_replace 25 = .ok (.aload_n 0, 1) := by decide +kernel
theorem d_MD_replace_26 : decode c_MD_replace 26 = .ok (.getfield 13, 3) := by decide +kernel
theorem d_MD_replace_29 : decode c_MD_replace 29 = .ok (.iload_n 1, 1) := by decide +kernel
theorem d_MD_replace_30 : decode c_MD_replace 30 = .ok (.baload, 1) := by decide +kernel
theorem d_MD_replace_31 : decode c_MD_replace 31 = .ok (.ifCond .eq 5, 3) := by decide +kernel
theorem d_MD_replace_34 : decode c_MD_replace 34 = .ok (.iconst 0, 1) := by decide +kernel
theorem d_MD_replace_35 : decode c_MD_replace 35 = .ok (.ireturn, 1) := by decide +kernel
theorem d_MD_replace_36 : decode c_MD_replace 36 = .ok (.aload_n 0, 1) := by decide +kernel
theorem d_MD_replace_37 : decode c_MD_replace 37 = .ok (.getfield 13, 3) := by decide +kernel
theorem d_MD_replace_40 : decode c_MD_replace 40 = .ok (.iload_n 1, 1) := by decide +kernel
theorem d_MD_replace_41 : decode c_MD_replace 41 = .ok (.iconst 1, 1) := by decide +kernel
theorem d_MD_replace_42 : decode c_MD_replace 42 = .ok (.bastore, 1) := by decide +kernel
theorem d_MD_replace_43 : decode c_MD_replace 43 = .ok (.iconst 0, 1) := by decide +kernel
theorem d_MD_replace_44 : decode c_MD_replace 44 = .ok (.istore_n 2, 1) := by decide +kernel
theorem d_MD_replace_45 : decode c_MD_replace 45 = .ok (.iload_n 2, 1) := by decide +kernel
theorem d_MD_replace_46 : decode c_MD_replace 46 = .ok (.aload_n 0, 1) := by decide +kernel
theorem d_MD_replace_47 : decode c_MD_replace 47 = .ok (.getfield 58, 3) := by decide +kernel
theorem d_MD_replace_50 : decode c_MD_replace 50 = .ok (.if_icmp .gt 68, 3) := by decide +kernel
theorem d_MD_replace_53 : decode c_MD_replace 53 = .ok (.aload_n 0, 1) := by decide +kernel
theorem d_MD_replace_54 : decode c_MD_replace 54 = .ok (.getfield 17, 3) := by decide +kernel
theorem d_MD_replace_57 : decode c_MD_replace 57 = .ok (.iload_n 1, 1) := by decide +kernel
theorem d_MD_replace_58 : decode c_MD_replace 58 = .ok (.iload_n 2, 1) := by decide +kernel
theorem d_MD_replace_59 : decode c_MD_replace 59 = .ok (.invokestatic 67, 3) := by decide +kernel
theorem d_MD_replace_62 : decode c_MD_replace 62 = .ok (.iconst 0, 1) := by decide +kernel
theorem d_MD_replace_63 : decode c_MD_replace 63 = .ok (.bastore, 1) := by decide +kernel
theorem d_MD_replace_64 : decode c_MD_replace 64 = .ok (.aload_n 0, 1) := by decide +kernel
theorem d_MD_replace_65 : decode c_MD_replace 65 = .ok (.getfield 20, 3) := by decide +kernel
theorem d_MD_replace_68 : decode c_MD_replace 68 = .ok (.iload_n 1, 1) := by decide +kernel
theorem d_MD_replace_69 : decode c_MD_replace 69 = .ok (.iload_n 2, 1) := by decide +kernel
theorem d_MD_replace_70 : decode c_MD_replace 70 = .ok (.invokestatic 67, 3) := by decide +kernel
theorem d_MD_replace_73 : decode c_MD_replace 73 = .ok (.iconst 0, 1) := by decide +kernel
theorem d_MD_replace_74 : decode c_MD_replace 74 = .ok (.iastore, 1) := by decide +kernel
theorem d_MD_replace_75 : decode c_MD_replace 75 = .ok (.bipush 70, 2) := by decide +kernel
theorem d_MD_replace_77 : decode c_MD_replace 77 = .ok (.iload_n 1, 1) := by decide +kernel
theorem d_MD_replace_78 : decode c_MD_replace 78 = .ok (.iload_n 2, 1) := by decide +kernel
theorem d_MD_replace_79 : decode c_MD_replace 79 = .ok (.invokestatic 67, 3) := by decide +kernel
theorem d_MD_replace_82 : decode c_MD_replace 82 = .ok (.imul, 1) := by decide +kernel
theorem d_MD_replace_83 : decode c_MD_replace 83 = .ok (.istore_n 3, 1) := by decide +kernel
theorem d_MD_replace_84 : decode c_MD_replace 84 = .ok (.iload_n 3, 1) := by decide +kernel
theorem d_MD_replace_85 : decode c_MD_replace 85 = .ok (.bipush 70, 2) := by decide +kernel
theorem d_MD_replace_87 : decode c_MD_replace 87 = .ok (.iload_n 1, 1) := by decide +kernel
theorem d_MD_replace_88 : decode c_MD_replace 88 = .ok (.iload_n 2, 1) := by decide +kernel
theorem d_MD_replace_89 : decode c_MD_replace 89 = .ok (.invokestatic 67, 3) := by decide +kernel
theorem d_MD_replace_92 : decode c_MD_replace 92 = .ok (.imul, 1) := by decide +kernel
theorem d_MD_replace_93 : decode c_MD_replace 93 = .ok (.bipush 70, 2) := by decide +kernel
theorem d_MD_replace_95 : decode c_MD_replace 95 = .ok (.iadd, 1) := by decide +kernel
theorem d_MD_replace_96 : decode c_MD_replace 96 = .ok (.if_icmp .ge 16, 3) := by decide +kernel
theorem d_MD_replace_99 : decode c_MD_replace 99 = .ok (.aload_n 0, 1) := by decide +kernel
theorem d_MD_replace_100 : decode c_MD_replace 100 = .ok (.getfield 24, 3) := by decide +kernel
theorem d_MD_replace_103 : decode c_MD_replace 103 = .ok (.iload_n 3, 1) := by decide +kernel
theorem d_MD_replace_104 : decode c_MD_replace 104 = .ok (.iconst 0, 1) := by decide +kernel
theorem d_MD_replace_105 : decode c_MD_replace 105 = .ok (.bastore, 1) := by decide +kernel
theorem d_MD_replace_106 : decode c_MD_replace 106 = .ok (.iinc 3 1, 3) := by decide +kernel
theorem d_MD_replace_109 : decode c_MD_replace 109 = .ok (.goto (-25), 3) := by decide +kernel
theorem d_MD_replace_112 : decode c_MD_replace 112 = .ok (.iinc 2 1, 3) := by decide +kernel
theorem d_MD_replace_115 : decode c_MD_replace 115 = .ok (.goto (-70), 3) := by decide +kernel
theorem d_MD_replace_118 : decode c_MD_replace 118 = .ok (.iconst 1, 1) := by decide +kernel
theorem d_MD_replace_119 : decode c_MD_replace 119 = .ok (.ireturn, 1) := by decide +kernel
abbrev c_MD_spoil : ByteArray := prog_7_method_30_code
abbrev y_MD_spoil : MethodName := ⟨"StripeFieldModel", "spoil", "(IIIIJ)Z"⟩
theorem d_MD_spoil_0 : decode c_MD_spoil 0 = .ok (.iload 4, 2) := by decide +kernel
theorem d_MD_spoil_2 : decode c_MD_spoil 2 = .ok (.ifCond .le 27, 3) := by decide +kernel
theorem d_MD_spoil_5 : decode c_MD_spoil 5 = .ok (.iload 4, 2) := by decide +kernel
theorem d_MD_spoil_7 : decode c_MD_spoil 7 = .ok (.bipush 9, 2) := by decide +kernel
theorem d_MD_spoil_9 : decode c_MD_spoil 9 = .ok (.if_icmp .ge 20, 3) := by decide +kernel
theorem d_MD_spoil_12 : decode c_MD_spoil 12 = .ok (.iload_n 3, 1) := by decide +kernel
theorem d_MD_spoil_13 : decode c_MD_spoil 13 = .ok (.ifCond .lt 16, 3) := by decide +kernel
theorem d_MD_spoil_16 : decode c_MD_spoil 16 = .ok (.iload_n 3, 1) := by decide +kernel
theorem d_MD_spoil_17 : decode c_MD_spoil 17 = .ok (.bipush 70, 2) := by decide +kernel
theorem d_MD_spoil_19 : decode c_MD_spoil 19 = .ok (.iload 4, 2) := by decide +kernel
theorem d_MD_spoil_21 : decode c_MD_spoil 21 = .ok (.isub, 1) := by decide +kernel
theorem d_MD_spoil_22 : decode c_MD_spoil 22 = .ok (.if_icmp .gt 7, 3) := by decide +kernel
theorem d_MD_spoil_25 : decode c_MD_spoil 25 = .ok (.iconst 1, 1) := by decide +kernel
theorem d_MD_spoil_26 : decode c_MD_spoil 26 = .ok (.goto 4, 3) := by decide +kernel
theorem d_MD_spoil_29 : decode c_MD_spoil 29 = .ok (.iconst 0, 1) := by decide +kernel
theorem d_MD_spoil_30 : decode c_MD_spoil 30 = .ok (.istore 7, 2) := by decide +kernel
theorem d_MD_spoil_32 : decode c_MD_spoil 32 = .ok (.aload_n 0, 1) := by decide +kernel
theorem d_MD_spoil_33 : decode c_MD_spoil 33 = .ok (.iload_n 1, 1) := by decide +kernel
theorem d_MD_spoil_34 : decode c_MD_spoil 34 = .ok (.ifCond .lt 57, 3) := by decide +kernel
theorem d_MD_spoil_37 : decode c_MD_spoil 37 = .ok (.iload_n 1, 1) := by decide +kernel
theorem d_MD_spoil_38 : decode c_MD_spoil 38 = .ok (.aload_n 0, 1) := by decide +kernel
theorem d_MD_spoil_39 : decode c_MD_spoil 39 = .ok (.getfield 52, 3) := by decide +kernel
theorem d_MD_spoil_42 : decode c_MD_spoil 42 = .ok (.if_icmp .ge 49, 3) := by decide +kernel
theorem d_MD_spoil_45 : decode c_MD_spoil 45 = .ok (.iload_n 2, 1) := by decide +kernel
theorem d_MD_spoil_46 : decode c_MD_spoil 46 = .ok (.ifCond .lt 45, 3) := by decide +kernel
theorem d_MD_spoil_49 : decode c_MD_spoil 49 = .ok (.iload_n 2, 1) := by decide +kernel
theorem d_MD_spoil_50 : decode c_MD_spoil 50 = .ok (.aload_n 0, 1) := by decide +kernel
theorem d_MD_spoil_51 : decode c_MD_spoil 51 = .ok (.getfield 58, 3) := by decide +kernel
theorem d_MD_spoil_54 : decode c_MD_spoil 54 = .ok (.if_icmp .ge 37, 3) := by decide +kernel
theorem d_MD_spoil_57 : decode c_MD_spoil 57 = .ok (.iload 7, 2) := by decide +kernel
theorem d_MD_spoil_59 : decode c_MD_spoil 59 = .ok (.ifCond .eq 32, 3) := by decide +kernel
theorem d_MD_spoil_62 : decode c_MD_spoil 62 = .ok (.iload 4, 2) := by decide +kernel
theorem d_MD_spoil_64 : decode c_MD_spoil 64 = .ok (.bipush 8, 2) := by decide +kernel
theorem d_MD_spoil_66 : decode c_MD_spoil 66 = .ok (.if_icmp .ne 8, 3) := by decide +kernel
theorem d_MD_spoil_69 : decode c_MD_spoil 69 = .ok (.lload 5, 2) := by decide +kernel
theorem d_MD_spoil_71 : decode c_MD_spoil 71 = .ok (.goto 15, 3) := by decide +kernel
theorem d_MD_spoil_74 : decode c_MD_spoil 74 = .ok (.lload 5, 2) := by decide +kernel
theorem d_MD_spoil_76 : decode c_MD_spoil 76 = .ok (.lconst 1, 1) := by decide +kernel
theorem d_MD_spoil_77 : decode c_MD_spoil 77 = .ok (.bipush 8, 2) := by decide +kernel
theorem d_MD_spoil_79 : decode c_MD_spoil 79 = .ok (.iload 4, 2) := by decide +kernel
theorem d_MD_spoil_81 : decode c_MD_spoil 81 = .ok (.imul, 1) := by decide +kernel
theorem d_MD_spoil_82 : decode c_MD_spoil 82 = .ok (.lshl, 1) := by decide +kernel
theorem d_MD_spoil_83 : decode c_MD_spoil 83 = .ok (.lconst 1, 1) := by decide +kernel
theorem d_MD_spoil_84 : decode c_MD_spoil 84 = .ok (.lsub, 1) := by decide +kernel
theorem d_MD_spoil_85 : decode c_MD_spoil 85 = .ok (.land, 1) := by decide +kernel
theorem d_MD_spoil_86 : decode c_MD_spoil 86 = .ok (.lconst 0, 1) := by decide +kernel
theorem d_MD_spoil_87 : decode c_MD_spoil 87 = .ok (.lcmp, 1) := by decide +kernel
theorem d_MD_spoil_88 : decode c_MD_spoil 88 = .ok (.ifCond .ne 7, 3) := by decide +kernel
theorem d_MD_spoil_91 : decode c_MD_spoil 91 = .ok (.iconst 1, 1) := by decide +kernel
theorem d_MD_spoil_92 : decode c_MD_spoil 92 = .ok (.goto 4, 3) := by decide +kernel
theorem d_MD_spoil_95 : decode c_MD_spoil 95 = .ok (.iconst 0, 1) := by decide +kernel
theorem d_MD_spoil_96 : decode c_MD_spoil 96 = .ok (.iconst 1, 1) := by decide +kernel
theorem d_MD_spoil_97 : decode c_MD_spoil 97 = .ok (.invokevirtual 100, 3) := by decide +kernel
theorem d_MD_spoil_100 : decode c_MD_spoil 100 = .ok (.ifCond .eq 5, 3) := by decide +kernel
theorem d_MD_spoil_103 : decode c_MD_spoil 103 = .ok (.iconst 0, 1) := by decide +kernel
theorem d_MD_spoil_104 : decode c_MD_spoil 104 = .ok (.ireturn, 1) := by decide +kernel
theorem d_MD_spoil_105 : decode c_MD_spoil 105 = .ok (.aload_n 0, 1) := by decide +kernel
theorem d_MD_spoil_106 : decode c_MD_spoil 106 = .ok (.getfield 31, 3) := by decide +kernel
theorem d_MD_spoil_109 : decode c_MD_spoil 109 = .ok (.ifCond .eq 12, 3) := by decide +kernel
theorem d_MD_spoil_112 : decode c_MD_spoil 112 = .ok (.aload_n 0, 1) := by decide +kernel
theorem d_MD_spoil_113 : decode c_MD_spoil 113 = .ok (.getfield 13, 3) := by decide +kernel
theorem d_MD_spoil_116 : decode c_MD_spoil 116 = .ok (.iload_n 1, 1) := by decide +kernel
theorem d_MD_spoil_117 : decode c_MD_spoil 117 = .ok (.baload, 1) := by decide +kernel
theorem d_MD_spoil_118 : decode c_MD_spoil 118 = .ok (.ifCond .ne 5, 3) := by decide +kernel
theorem d_MD_spoil_121 : decode c_MD_spoil 121 = .ok (.iconst 0, 1) := by decide +kernel
theorem d_MD_spoil_122 : decode c_MD_spoil 122 = .ok (.ireturn, 1) := by decide +kernel
theorem d_MD_spoil_123 : decode c_MD_spoil 123 = .ok (.aload_n 0, 1) := by decide +kernel
theorem d_MD_spoil_124 : decode c_MD_spoil 124 = .ok (.iload_n 2, 1) := by decide +kernel
theorem d_MD_spoil_125 : decode c_MD_spoil 125 = .ok (.iload_n 1, 1) := by decide +kernel
theorem d_MD_spoil_126 : decode c_MD_spoil 126 = .ok (.invokevirtual 94, 3) := by decide +kernel
theorem d_MD_spoil_129 : decode c_MD_spoil 129 = .ok (.istore 8, 2) := by decide +kernel
theorem d_MD_spoil_131 : decode c_MD_spoil 131 = .ok (.iload 8, 2) := by decide +kernel
theorem d_MD_spoil_133 : decode c_MD_spoil 133 = .ok (.ifCond .ge 5, 3) := by decide +kernel
theorem d_MD_spoil_136 : decode c_MD_spoil 136 = .ok (.iconst 0, 1) := by decide +kernel
theorem d_MD_spoil_137 : decode c_MD_spoil 137 = .ok (.ireturn, 1) := by decide +kernel
theorem d_MD_spoil_138 : decode c_MD_spoil 138 = .ok (.aload_n 0, 1) := by decide +kernel
theorem d_MD_spoil_139 : decode c_MD_spoil 139 = .ok (.bipush 70, 2) := by decide +kernel
theorem d_MD_spoil_141 : decode c_MD_spoil 141 = .ok (.iload_n 1, 1) := by decide +kernel
theorem d_MD_spoil_142 : decode c_MD_spoil 142 = .ok (.iload_n 2, 1) := by decide +kernel
theorem d_MD_spoil_143 : decode c_MD_spoil 143 = .ok (.invokestatic 67, 3) := by decide +kernel
theorem d_MD_spoil_146 : decode c_MD_spoil 146 = .ok (.imul, 1) := by decide +kernel
theorem d_MD_spoil_147 : decode c_MD_spoil 147 = .ok (.iload_n 3, 1) := by decide +kernel
theorem d_MD_spoil_148 : decode c_MD_spoil 148 = .ok (.iadd, 1) := by decide +kernel
theorem d_MD_spoil_149 : decode c_MD_spoil 149 = .ok (.iload 4, 2) := by decide +kernel
theorem d_MD_spoil_151 : decode c_MD_spoil 151 = .ok (.lload 5, 2) := by decide +kernel
theorem d_MD_spoil_153 : decode c_MD_spoil 153 = .ok (.invokevirtual 141, 3) := by decide +kernel
theorem d_MD_spoil_156 : decode c_MD_spoil 156 = .ok (.aload_n 0, 1) := by decide +kernel
theorem d_MD_spoil_157 : decode c_MD_spoil 157 = .ok (.iload_n 2, 1) := by decide +kernel
theorem d_MD_spoil_158 : decode c_MD_spoil 158 = .ok (.iload 8, 2) := by decide +kernel
theorem d_MD_spoil_160 : decode c_MD_spoil 160 = .ok (.iconst (-1), 1) := by decide +kernel
theorem d_MD_spoil_161 : decode c_MD_spoil 161 = .ok (.invokevirtual 90, 3) := by decide +kernel
theorem d_MD_spoil_164 : decode c_MD_spoil 164 = .ok (.iconst 2, 1) := by decide +kernel
theorem d_MD_spoil_165 : decode c_MD_spoil 165 = .ok (.if_icmp .ge 17, 3) := by decide +kernel
theorem d_MD_spoil_168 : decode c_MD_spoil 168 = .ok (.aload_n 0, 1) := by decide +kernel
theorem d_MD_spoil_169 : decode c_MD_spoil 169 = .ok (.iload_n 1, 1) := by decide +kernel
theorem d_MD_spoil_170 : decode c_MD_spoil 170 = .ok (.iload_n 2, 1) := by decide +kernel
theorem d_MD_spoil_171 : decode c_MD_spoil 171 = .ok (.invokestatic 67, 3) := by decide +kernel
theorem d_MD_spoil_174 : decode c_MD_spoil 174 = .ok (.invokevirtual 145, 3) := by decide +kernel
theorem d_MD_spoil_177 : decode c_MD_spoil 177 = .ok (.ifCond .ne 5, 3) := by decide +kernel
theorem d_MD_spoil_180 : decode c_MD_spoil 180 = .ok (.iconst 1, 1) := by decide +kernel
theorem d_MD_spoil_181 : decode c_MD_spoil 181 = .ok (.ireturn, 1) := by decide +kernel
theorem d_MD_spoil_182 : decode c_MD_spoil 182 = .ok (.aload_n 0, 1) := by decide +kernel
theorem d_MD_spoil_183 : decode c_MD_spoil 183 = .ok (.bipush 70, 2) := by decide +kernel
theorem d_MD_spoil_185 : decode c_MD_spoil 185 = .ok (.iload_n 1, 1) := by decide +kernel
theorem d_MD_spoil_186 : decode c_MD_spoil 186 = .ok (.iload_n 2, 1) := by decide +kernel
theorem d_MD_spoil_187 : decode c_MD_spoil 187 = .ok (.invokestatic 67, 3) := by decide +kernel
theorem d_MD_spoil_190 : decode c_MD_spoil 190 = .ok (.imul, 1) := by decide +kernel
theorem d_MD_spoil_191 : decode c_MD_spoil 191 = .ok (.iload_n 3, 1) := by decide +kernel
theorem d_MD_spoil_192 : decode c_MD_spoil 192 = .ok (.iadd, 1) := by decide +kernel
theorem d_MD_spoil_193 : decode c_MD_spoil 193 = .ok (.iload 4, 2) := by decide +kernel
theorem d_MD_spoil_195 : decode c_MD_spoil 195 = .ok (.lload 5, 2) := by decide +kernel
theorem d_MD_spoil_197 : decode c_MD_spoil 197 = .ok (.invokevirtual 141, 3) := by decide +kernel
theorem d_MD_spoil_200 : decode c_MD_spoil 200 = .ok (.iconst 0, 1) := by decide +kernel
theorem d_MD_spoil_201 : decode c_MD_spoil 201 = .ok (.ireturn, 1) := by decide +kernel
abbrev c_MD_turn : ByteArray := prog_7_method_28_code
abbrev y_MD_turn : MethodName := ⟨"StripeFieldModel", "turn", "(IIJ)V"⟩
theorem d_MD_turn_0 : decode c_MD_turn 0 = .ok (.iconst 0, 1) := by decide +kernel
theorem d_MD_turn_1 : decode c_MD_turn 1 = .ok (.istore 5, 2) := by decide +kernel
theorem d_MD_turn_3 : decode c_MD_turn 3 = .ok (.iload 5, 2) := by decide +kernel
theorem d_MD_turn_5 : decode c_MD_turn 5 = .ok (.iload_n 2, 1) := by decide +kernel
theorem d_MD_turn_6 : decode c_MD_turn 6 = .ok (.if_icmp .ge 41, 3) := by decide +kernel
theorem d_MD_turn_9 : decode c_MD_turn 9 = .ok (.aload_n 0, 1) := by decide +kernel
theorem d_MD_turn_10 : decode c_MD_turn 10 = .ok (.getfield 24, 3) := by decide +kernel
theorem d_MD_turn_13 : decode c_MD_turn 13 = .ok (.iload_n 1, 1) := by decide +kernel
theorem d_MD_turn_14 : decode c_MD_turn 14 = .ok (.iload 5, 2) := by decide +kernel
theorem d_MD_turn_16 : decode c_MD_turn 16 = .ok (.iadd, 1) := by decide +kernel
theorem d_MD_turn_17 : decode c_MD_turn 17 = .ok (.aload_n 0, 1) := by decide +kernel
theorem d_MD_turn_18 : decode c_MD_turn 18 = .ok (.getfield 24, 3) := by decide +kernel
theorem d_MD_turn_21 : decode c_MD_turn 21 = .ok (.iload_n 1, 1) := by decide +kernel
theorem d_MD_turn_22 : decode c_MD_turn 22 = .ok (.iload 5, 2) := by decide +kernel
theorem d_MD_turn_24 : decode c_MD_turn 24 = .ok (.iadd, 1) := by decide +kernel
theorem d_MD_turn_25 : decode c_MD_turn 25 = .ok (.baload, 1) := by decide +kernel
theorem d_MD_turn_26 : decode c_MD_turn 26 = .ok (.lload_n 3, 1) := by decide +kernel
theorem d_MD_turn_27 : decode c_MD_turn 27 = .ok (.bipush 8, 2) := by decide +kernel
theorem d_MD_turn_29 : decode c_MD_turn 29 = .ok (.iload 5, 2) := by decide +kernel
theorem d_MD_turn_31 : decode c_MD_turn 31 = .ok (.imul, 1) := by decide +kernel
theorem d_MD_turn_32 : decode c_MD_turn 32 = .ok (.lshr, 1) := by decide +kernel
theorem d_MD_turn_33 : decode c_MD_turn 33 = .ok (.ldc2_w 107, 3) := by decide +kernel
theorem d_MD_turn_36 : decode c_MD_turn 36 = .ok (.land, 1) := by decide +kernel
theorem d_MD_turn_37 : decode c_MD_turn 37 = .ok (.l2i, 1) := by decide +kernel
theorem d_MD_turn_38 : decode c_MD_turn 38 = .ok (.ixor, 1) := by decide +kernel
theorem d_MD_turn_39 : decode c_MD_turn 39 = .ok (.i2b, 1) := by decide +kernel
theorem d_MD_turn_40 : decode c_MD_turn 40 = .ok (.bastore, 1) := by decide +kernel
theorem d_MD_turn_41 : decode c_MD_turn 41 = .ok (.iinc 5 1, 3) := by decide +kernel
theorem d_MD_turn_44 : decode c_MD_turn 44 = .ok (.goto (-41), 3) := by decide +kernel
theorem d_MD_turn_47 : decode c_MD_turn 47 = .ok (.return_, 1) := by decide +kernel
abbrev c_MD_isUnseen : ByteArray := prog_7_method_29_code
abbrev y_MD_isUnseen : MethodName := ⟨"StripeFieldModel", "isUnseen", "(I)Z"⟩
theorem d_MD_isUnseen_0 : decode c_MD_isUnseen 0 = .ok (.iconst 0, 1) := by decide +kernel
theorem d_MD_isUnseen_1 : decode c_MD_isUnseen 1 = .ok (.istore_n 2, 1) := by decide +kernel
theorem d_MD_isUnseen_2 : decode c_MD_isUnseen 2 = .ok (.iconst 0, 1) := by decide +kernel
theorem d_MD_isUnseen_3 : decode c_MD_isUnseen 3 = .ok (.istore_n 3, 1) := by decide +kernel
theorem d_MD_isUnseen_4 : decode c_MD_isUnseen 4 = .ok (.bipush 70, 2) := by decide +kernel
theorem d_MD_isUnseen_6 : decode c_MD_isUnseen 6 = .ok (.iload_n 1, 1) := by decide +kernel
theorem d_MD_isUnseen_7 : decode c_MD_isUnseen 7 = .ok (.imul, 1) := by decide +kernel
theorem d_MD_isUnseen_8 : decode c_MD_isUnseen 8 = .ok (.istore 4, 2) := by decide +kernel
theorem d_MD_isUnseen_10 : decode c_MD_isUnseen 10 = .ok (.iload 4, 2) := by decide +kernel
theorem d_MD_isUnseen_12 : decode c_MD_isUnseen 12 = .ok (.bipush 70, 2) := by decide +kernel
theorem d_MD_isUnseen_14 : decode c_MD_isUnseen 14 = .ok (.iload_n 1, 1) := by decide +kernel
theorem d_MD_isUnseen_15 : decode c_MD_isUnseen 15 = .ok (.imul, 1) := by decide +kernel
theorem d_MD_isUnseen_16 : decode c_MD_isUnseen 16 = .ok (.bipush 70, 2) := by decide +kernel
theorem d_MD_isUnseen_18 : decode c_MD_isUnseen 18 = .ok (.iadd, 1) := by decide +kernel
theorem d_MD_isUnseen_19 : decode c_MD_isUnseen 19 = .ok (.if_icmp .ge 29, 3) := by decide +kernel
theorem d_MD_isUnseen_22 : decode c_MD_isUnseen 22 = .ok (.iload_n 3, 1) := by decide +kernel
theorem d_MD_isUnseen_23 : decode c_MD_isUnseen 23 = .ok (.ifCond .ne 13, 3) := by decide +kernel
theorem d_MD_isUnseen_26 : decode c_MD_isUnseen 26 = .ok (.aload_n 0, 1) := by decide +kernel
theorem d_MD_isUnseen_27 : decode c_MD_isUnseen 27 = .ok (.getfield 24, 3) := by decide +kernel
theorem d_MD_isUnseen_30 : decode c_MD_isUnseen 30 = .ok (.iload 4, 2) := by decide +kernel
theorem d_MD_isUnseen_32 : decode c_MD_isUnseen 32 = .ok (.baload, 1) := by decide +kernel
theorem d_MD_isUnseen_33 : decode c_MD_isUnseen 33 = .ok (.ifCond .eq 7, 3) := by decide +kernel
theorem d_MD_isUnseen_36 : decode c_MD_isUnseen 36 = .ok (.iconst 1, 1) := by decide +kernel
theorem d_MD_isUnseen_37 : decode c_MD_isUnseen 37 = .ok (.goto 4, 3) := by decide +kernel
theorem d_MD_isUnseen_40 : decode c_MD_isUnseen 40 = .ok (.iconst 0, 1) := by decide +kernel
theorem d_MD_isUnseen_41 : decode c_MD_isUnseen 41 = .ok (.istore_n 3, 1) := by decide +kernel
theorem d_MD_isUnseen_42 : decode c_MD_isUnseen 42 = .ok (.iinc 4 1, 3) := by decide +kernel
theorem d_MD_isUnseen_45 : decode c_MD_isUnseen 45 = .ok (.goto (-35), 3) := by decide +kernel
theorem d_MD_isUnseen_48 : decode c_MD_isUnseen 48 = .ok (.bipush 70, 2) := by decide +kernel
theorem d_MD_isUnseen_50 : decode c_MD_isUnseen 50 = .ok (.iload_n 1, 1) := by decide +kernel
theorem d_MD_isUnseen_51 : decode c_MD_isUnseen 51 = .ok (.imul, 1) := by decide +kernel
theorem d_MD_isUnseen_52 : decode c_MD_isUnseen 52 = .ok (.istore 4, 2) := by decide +kernel
theorem d_MD_isUnseen_54 : decode c_MD_isUnseen 54 = .ok (.iload 4, 2) := by decide +kernel
theorem d_MD_isUnseen_56 : decode c_MD_isUnseen 56 = .ok (.bipush 70, 2) := by decide +kernel
theorem d_MD_isUnseen_58 : decode c_MD_isUnseen 58 = .ok (.iload_n 1, 1) := by decide +kernel
theorem d_MD_isUnseen_59 : decode c_MD_isUnseen 59 = .ok (.imul, 1) := by decide +kernel
theorem d_MD_isUnseen_60 : decode c_MD_isUnseen 60 = .ok (.bipush 70, 2) := by decide +kernel
theorem d_MD_isUnseen_62 : decode c_MD_isUnseen 62 = .ok (.iadd, 1) := by decide +kernel
theorem d_MD_isUnseen_63 : decode c_MD_isUnseen 63 = .ok (.iconst 4, 1) := by decide +kernel
theorem d_MD_isUnseen_64 : decode c_MD_isUnseen 64 = .ok (.isub, 1) := by decide +kernel
theorem d_MD_isUnseen_65 : decode c_MD_isUnseen 65 = .ok (.if_icmp .ge 59, 3) := by decide +kernel
theorem d_MD_isUnseen_68 : decode c_MD_isUnseen 68 = .ok (.iload_n 2, 1) := by decide +kernel
theorem d_MD_isUnseen_69 : decode c_MD_isUnseen 69 = .ok (.aload_n 0, 1) := by decide +kernel
theorem d_MD_isUnseen_70 : decode c_MD_isUnseen 70 = .ok (.getfield 24, 3) := by decide +kernel
theorem d_MD_isUnseen_73 : decode c_MD_isUnseen 73 = .ok (.iload 4, 2) := by decide +kernel
theorem d_MD_isUnseen_75 : decode c_MD_isUnseen 75 = .ok (.baload, 1) := by decide +kernel
theorem d_MD_isUnseen_76 : decode c_MD_isUnseen 76 = .ok (.sipush 255, 3) := by decide +kernel
theorem d_MD_isUnseen_79 : decode c_MD_isUnseen 79 = .ok (.iand, 1) := by decide +kernel
theorem d_MD_isUnseen_80 : decode c_MD_isUnseen 80 = .ok (.ixor, 1) := by decide +kernel
theorem d_MD_isUnseen_81 : decode c_MD_isUnseen 81 = .ok (.istore_n 2, 1) := by decide +kernel
theorem d_MD_isUnseen_82 : decode c_MD_isUnseen 82 = .ok (.iconst 0, 1) := by decide +kernel
theorem d_MD_isUnseen_83 : decode c_MD_isUnseen 83 = .ok (.istore 5, 2) := by decide +kernel
theorem d_MD_isUnseen_85 : decode c_MD_isUnseen 85 = .ok (.iload 5, 2) := by decide +kernel
theorem d_MD_isUnseen_87 : decode c_MD_isUnseen 87 = .ok (.bipush 8, 2) := by decide +kernel
theorem d_MD_isUnseen_89 : decode c_MD_isUnseen 89 = .ok (.if_icmp .ge 29, 3) := by decide +kernel
theorem d_MD_isUnseen_92 : decode c_MD_isUnseen 92 = .ok (.iload_n 2, 1) := by decide +kernel
theorem d_MD_isUnseen_93 : decode c_MD_isUnseen 93 = .ok (.iconst 1, 1) := by decide +kernel
theorem d_MD_isUnseen_94 : decode c_MD_isUnseen 94 = .ok (.iand, 1) := by decide +kernel
theorem d_MD_isUnseen_95 : decode c_MD_isUnseen 95 = .ok (.iconst 1, 1) := by decide +kernel
theorem d_MD_isUnseen_96 : decode c_MD_isUnseen 96 = .ok (.if_icmp .ne 12, 3) := by decide +kernel
theorem d_MD_isUnseen_99 : decode c_MD_isUnseen 99 = .ok (.iload_n 2, 1) := by decide +kernel
theorem d_MD_isUnseen_100 : decode c_MD_isUnseen 100 = .ok (.iconst 1, 1) := by decide +kernel
theorem d_MD_isUnseen_101 : decode c_MD_isUnseen 101 = .ok (.iushr, 1) := by decide +kernel
theorem d_MD_isUnseen_102 : decode c_MD_isUnseen 102 = .ok (.ldc 140, 2) := by decide +kernel
theorem d_MD_isUnseen_104 : decode c_MD_isUnseen 104 = .ok (.ixor, 1) := by decide +kernel
theorem d_MD_isUnseen_105 : decode c_MD_isUnseen 105 = .ok (.goto 6, 3) := by decide +kernel
theorem d_MD_isUnseen_108 : decode c_MD_isUnseen 108 = .ok (.iload_n 2, 1) := by decide +kernel
theorem d_MD_isUnseen_109 : decode c_MD_isUnseen 109 = .ok (.iconst 1, 1) := by decide +kernel
theorem d_MD_isUnseen_110 : decode c_MD_isUnseen 110 = .ok (.iushr, 1) := by decide +kernel
theorem d_MD_isUnseen_111 : decode c_MD_isUnseen 111 = .ok (.istore_n 2, 1) := by decide +kernel
theorem d_MD_isUnseen_112 : decode c_MD_isUnseen 112 = .ok (.iinc 5 1, 3) := by decide +kernel
theorem d_MD_isUnseen_115 : decode c_MD_isUnseen 115 = .ok (.goto (-30), 3) := by decide +kernel
theorem d_MD_isUnseen_118 : decode c_MD_isUnseen 118 = .ok (.iinc 4 1, 3) := by decide +kernel
theorem d_MD_isUnseen_121 : decode c_MD_isUnseen 121 = .ok (.goto (-67), 3) := by decide +kernel
theorem d_MD_isUnseen_124 : decode c_MD_isUnseen 124 = .ok (.iconst 0, 1) := by decide +kernel
theorem d_MD_isUnseen_125 : decode c_MD_isUnseen 125 = .ok (.istore 4, 2) := by decide +kernel
theorem d_MD_isUnseen_127 : decode c_MD_isUnseen 127 = .ok (.iload 4, 2) := by decide +kernel
theorem d_MD_isUnseen_129 : decode c_MD_isUnseen 129 = .ok (.iconst 4, 1) := by decide +kernel
theorem d_MD_isUnseen_130 : decode c_MD_isUnseen 130 = .ok (.if_icmp .ge 39, 3) := by decide +kernel
theorem d_MD_isUnseen_133 : decode c_MD_isUnseen 133 = .ok (.iload_n 2, 1) := by decide +kernel
theorem d_MD_isUnseen_134 : decode c_MD_isUnseen 134 = .ok (.aload_n 0, 1) := by decide +kernel
theorem d_MD_isUnseen_135 : decode c_MD_isUnseen 135 = .ok (.getfield 24, 3) := by decide +kernel
theorem d_MD_isUnseen_138 : decode c_MD_isUnseen 138 = .ok (.bipush 70, 2) := by decide +kernel
theorem d_MD_isUnseen_140 : decode c_MD_isUnseen 140 = .ok (.iload_n 1, 1) := by decide +kernel
theorem d_MD_isUnseen_141 : decode c_MD_isUnseen 141 = .ok (.imul, 1) := by decide +kernel
theorem d_MD_isUnseen_142 : decode c_MD_isUnseen 142 = .ok (.bipush 70, 2) := by decide +kernel
theorem d_MD_isUnseen_144 : decode c_MD_isUnseen 144 = .ok (.iadd, 1) := by decide +kernel
theorem d_MD_isUnseen_145 : decode c_MD_isUnseen 145 = .ok (.iconst 4, 1) := by decide +kernel
theorem d_MD_isUnseen_146 : decode c_MD_isUnseen 146 = .ok (.isub, 1) := by decide +kernel
theorem d_MD_isUnseen_147 : decode c_MD_isUnseen 147 = .ok (.iload 4, 2) := by decide +kernel
theorem d_MD_isUnseen_149 : decode c_MD_isUnseen 149 = .ok (.iadd, 1) := by decide +kernel
theorem d_MD_isUnseen_150 : decode c_MD_isUnseen 150 = .ok (.baload, 1) := by decide +kernel
theorem d_MD_isUnseen_151 : decode c_MD_isUnseen 151 = .ok (.sipush 255, 3) := by decide +kernel
theorem d_MD_isUnseen_154 : decode c_MD_isUnseen 154 = .ok (.iand, 1) := by decide +kernel
theorem d_MD_isUnseen_155 : decode c_MD_isUnseen 155 = .ok (.bipush 8, 2) := by decide +kernel
theorem d_MD_isUnseen_157 : decode c_MD_isUnseen 157 = .ok (.iload 4, 2) := by decide +kernel
theorem d_MD_isUnseen_159 : decode c_MD_isUnseen 159 = .ok (.imul, 1) := by decide +kernel
theorem d_MD_isUnseen_160 : decode c_MD_isUnseen 160 = .ok (.ishl, 1) := by decide +kernel
theorem d_MD_isUnseen_161 : decode c_MD_isUnseen 161 = .ok (.ixor, 1) := by decide +kernel
theorem d_MD_isUnseen_162 : decode c_MD_isUnseen 162 = .ok (.istore_n 2, 1) := by decide +kernel
theorem d_MD_isUnseen_163 : decode c_MD_isUnseen 163 = .ok (.iinc 4 1, 3) := by decide +kernel
theorem d_MD_isUnseen_166 : decode c_MD_isUnseen 166 = .ok (.goto (-39), 3) := by decide +kernel
theorem d_MD_isUnseen_169 : decode c_MD_isUnseen 169 = .ok (.iload_n 3, 1) := by decide +kernel
theorem d_MD_isUnseen_170 : decode c_MD_isUnseen 170 = .ok (.ifCond .eq 11, 3) := by decide +kernel
theorem d_MD_isUnseen_173 : decode c_MD_isUnseen 173 = .ok (.iload_n 2, 1) := by decide +kernel
theorem d_MD_isUnseen_174 : decode c_MD_isUnseen 174 = .ok (.ifCond .ne 7, 3) := by decide +kernel
theorem d_MD_isUnseen_177 : decode c_MD_isUnseen 177 = .ok (.iconst 1, 1) := by decide +kernel
theorem d_MD_isUnseen_178 : decode c_MD_isUnseen 178 = .ok (.goto 4, 3) := by decide +kernel
theorem d_MD_isUnseen_181 : decode c_MD_isUnseen 181 = .ok (.iconst 0, 1) := by decide +kernel
theorem d_MD_isUnseen_182 : decode c_MD_isUnseen 182 = .ok (.ireturn, 1) := by decide +kernel
abbrev c_MD_rebuild : ByteArray := prog_7_method_31_code
abbrev y_MD_rebuild : MethodName := ⟨"StripeFieldModel", "rebuild", "()I"⟩
theorem d_MD_rebuild_0 : decode c_MD_rebuild 0 = .ok (.aload_n 0, 1) := by decide +kernel
theorem d_MD_rebuild_1 : decode c_MD_rebuild 1 = .ok (.aload_n 0, 1) := by decide +kernel
theorem d_MD_rebuild_2 : decode c_MD_rebuild 2 = .ok (.getfield 31, 3) := by decide +kernel
theorem d_MD_rebuild_5 : decode c_MD_rebuild 5 = .ok (.ifCond .ne 7, 3) := by decide +kernel
theorem d_MD_rebuild_8 : decode c_MD_rebuild 8 = .ok (.iconst 1, 1) := by decide +kernel
theorem d_MD_rebuild_9 : decode c_MD_rebuild 9 = .ok (.goto 4, 3) := by decide +kernel
theorem d_MD_rebuild_12 : decode c_MD_rebuild 12 = .ok (.iconst 0, 1) := by decide +kernel
theorem d_MD_rebuild_13 : decode c_MD_rebuild 13 = .ok (.iconst 1, 1) := by decide +kernel
theorem d_MD_rebuild_14 : decode c_MD_rebuild 14 = .ok (.invokevirtual 100, 3) := by decide +kernel
theorem d_MD_rebuild_17 : decode c_MD_rebuild 17 = .ok (.ifCond .eq 5, 3) := by decide +kernel
theorem d_MD_rebuild_20 : decode c_MD_rebuild 20 = .ok (.iconst 0, 1) := by decide +kernel
theorem d_MD_rebuild_21 : decode c_MD_rebuild 21 = .ok (.ireturn, 1) := by decide +kernel
theorem d_MD_rebuild_22 : decode c_MD_rebuild 22 = .ok (.iconst 0, 1) := by decide +kernel
theorem d_MD_rebuild_23 : decode c_MD_rebuild 23 = .ok (.istore_n 1, 1) := by decide +kernel
theorem d_MD_rebuild_24 : decode c_MD_rebuild 24 = .ok (.iload_n 1, 1) := by decide +kernel
theorem d_MD_rebuild_25 : decode c_MD_rebuild 25 = .ok (.aload_n 0, 1) := by decide +kernel
theorem d_MD_rebuild_26 : decode c_MD_rebuild 26 = .ok (.getfield 58, 3) := by decide +kernel
theorem d_MD_rebuild_29 : decode c_MD_rebuild 29 = .ok (.if_icmp .ge 94, 3) := by decide +kernel
theorem d_MD_rebuild_32 : decode c_MD_rebuild 32 = .ok (.aload_n 0, 1) := by decide +kernel
theorem d_MD_rebuild_33 : decode c_MD_rebuild 33 = .ok (.iload_n 1, 1) := by decide +kernel
theorem d_MD_rebuild_34 : decode c_MD_rebuild 34 = .ok (.invokevirtual 148, 3) := by decide +kernel
theorem d_MD_rebuild_37 : decode c_MD_rebuild 37 = .ok (.istore_n 2, 1) := by decide +kernel
theorem d_MD_rebuild_38 : decode c_MD_rebuild 38 = .ok (.iconst 0, 1) := by decide +kernel
theorem d_MD_rebuild_39 : decode c_MD_rebuild 39 = .ok (.istore_n 3, 1) := by decide +kernel
theorem d_MD_rebuild_40 : decode c_MD_rebuild 40 = .ok (.iload_n 3, 1) := by decide +kernel
theorem d_MD_rebuild_41 : decode c_MD_rebuild 41 = .ok (.aload_n 0, 1) := by decide +kernel
theorem d_MD_rebuild_42 : decode c_MD_rebuild 42 = .ok (.getfield 55, 3) := by decide +kernel
theorem d_MD_rebuild_45 : decode c_MD_rebuild 45 = .ok (.aload_n 0, 1) := by decide +kernel
theorem d_MD_rebuild_46 : decode c_MD_rebuild 46 = .ok (.getfield 61, 3) := by decide +kernel
theorem d_MD_rebuild_49 : decode c_MD_rebuild 49 = .ok (.imul, 1) := by decide +kernel
theorem d_MD_rebuild_50 : decode c_MD_rebuild 50 = .ok (.if_icmp .ge 67, 3) := by decide +kernel
theorem d_MD_rebuild_53 : decode c_MD_rebuild 53 = .ok (.iload_n 2, 1) := by decide +kernel
theorem d_MD_rebuild_54 : decode c_MD_rebuild 54 = .ok (.ifCond .lt 63, 3) := by decide +kernel
theorem d_MD_rebuild_57 : decode c_MD_rebuild 57 = .ok (.aload_n 0, 1) := by decide +kernel
theorem d_MD_rebuild_58 : decode c_MD_rebuild 58 = .ok (.iload_n 1, 1) := by decide +kernel
theorem d_MD_rebuild_59 : decode c_MD_rebuild 59 = .ok (.iload_n 3, 1) := by decide +kernel
theorem d_MD_rebuild_60 : decode c_MD_rebuild 60 = .ok (.invokevirtual 84, 3) := by decide +kernel
theorem d_MD_rebuild_63 : decode c_MD_rebuild 63 = .ok (.ifCond .ge 48, 3) := by decide +kernel
theorem d_MD_rebuild_66 : decode c_MD_rebuild 66 = .ok (.aload_n 0, 1) := by decide +kernel
theorem d_MD_rebuild_67 : decode c_MD_rebuild 67 = .ok (.getfield 13, 3) := by decide +kernel
theorem d_MD_rebuild_70 : decode c_MD_rebuild 70 = .ok (.aload_n 0, 1) := by decide +kernel
theorem d_MD_rebuild_71 : decode c_MD_rebuild 71 = .ok (.iload_n 1, 1) := by decide +kernel
theorem d_MD_rebuild_72 : decode c_MD_rebuild 72 = .ok (.iload_n 3, 1) := by decide +kernel
theorem d_MD_rebuild_73 : decode c_MD_rebuild 73 = .ok (.invokevirtual 71, 3) := by decide +kernel
theorem d_MD_rebuild_76 : decode c_MD_rebuild 76 = .ok (.baload, 1) := by decide +kernel
theorem d_MD_rebuild_77 : decode c_MD_rebuild 77 = .ok (.ifCond .eq 6, 3) := by decide +kernel
theorem d_MD_rebuild_80 : decode c_MD_rebuild 80 = .ok (.goto 31, 3) := by decide +kernel
theorem d_MD_rebuild_83 : decode c_MD_rebuild 83 = .ok (.aload_n 0, 1) := by decide +kernel
theorem d_MD_rebuild_84 : decode c_MD_rebuild 84 = .ok (.iload_n 2, 1) := by decide +kernel
theorem d_MD_rebuild_85 : decode c_MD_rebuild 85 = .ok (.iload_n 1, 1) := by decide +kernel
theorem d_MD_rebuild_86 : decode c_MD_rebuild 86 = .ok (.iload_n 3, 1) := by decide +kernel
theorem d_MD_rebuild_87 : decode c_MD_rebuild 87 = .ok (.iconst 1, 1) := by decide +kernel
theorem d_MD_rebuild_88 : decode c_MD_rebuild 88 = .ok (.iadd, 1) := by decide +kernel
theorem d_MD_rebuild_89 : decode c_MD_rebuild 89 = .ok (.invokevirtual 116, 3) := by decide +kernel
theorem d_MD_rebuild_92 : decode c_MD_rebuild 92 = .ok (.ifCond .ne 5, 3) := by decide +kernel
theorem d_MD_rebuild_95 : decode c_MD_rebuild 95 = .ok (.iconst (-1), 1) := by decide +kernel
theorem d_MD_rebuild_96 : decode c_MD_rebuild 96 = .ok (.ireturn, 1) := by decide +kernel
theorem d_MD_rebuild_97 : decode c_MD_rebuild 97 = .ok (.aload_n 0, 1) := by decide +kernel
theorem d_MD_rebuild_98 : decode c_MD_rebuild 98 = .ok (.getfield 28, 3) := by decide +kernel
theorem d_MD_rebuild_101 : decode c_MD_rebuild 101 = .ok (.bipush 16, 2) := by decide +kernel
theorem d_MD_rebuild_103 : decode c_MD_rebuild 103 = .ok (.iload_n 1, 1) := by decide +kernel
theorem d_MD_rebuild_104 : decode c_MD_rebuild 104 = .ok (.imul, 1) := by decide +kernel
theorem d_MD_rebuild_105 : decode c_MD_rebuild 105 = .ok (.iload_n 3, 1) := by decide +kernel
theorem d_MD_rebuild_106 : decode c_MD_rebuild 106 = .ok (.iadd, 1) := by decide +kernel
theorem d_MD_rebuild_107 : decode c_MD_rebuild 107 = .ok (.iload_n 2, 1) := by decide +kernel
theorem d_MD_rebuild_108 : decode c_MD_rebuild 108 = .ok (.iastore, 1) := by decide +kernel
theorem d_MD_rebuild_109 : decode c_MD_rebuild 109 = .ok (.iconst 1, 1) := by decide +kernel
theorem d_MD_rebuild_110 : decode c_MD_rebuild 110 = .ok (.ireturn, 1) := by decide +kernel
theorem d_MD_rebuild_111 : decode c_MD_rebuild 111 = .ok (.iinc 3 1, 3) := by decide +kernel
theorem d_MD_rebuild_114 : decode c_MD_rebuild 114 = .ok (.goto (-74), 3) := by decide +kernel
theorem d_MD_rebuild_117 : decode c_MD_rebuild 117 = .ok (.iinc 1 1, 3) := by decide +kernel
theorem d_MD_rebuild_120 : decode c_MD_rebuild 120 = .ok (.goto (-96), 3) := by decide +kernel
theorem d_MD_rebuild_123 : decode c_MD_rebuild 123 = .ok (.iconst 0, 1) := by decide +kernel
theorem d_MD_rebuild_124 : decode c_MD_rebuild 124 = .ok (.ireturn, 1) := by decide +kernel
abbrev c_MD_freeSpare : ByteArray := prog_7_method_14_code
abbrev y_MD_freeSpare : MethodName := ⟨"StripeFieldModel", "freeSpare", "(I)I"⟩
theorem d_MD_freeSpare_0 : decode c_MD_freeSpare 0 = .ok (.aload_n 0, 1) := by decide +kernel
theorem d_MD_freeSpare_1 : decode c_MD_freeSpare 1 = .ok (.getfield 55, 3) := by decide +kernel
theorem d_MD_freeSpare_4 : decode c_MD_freeSpare 4 = .ok (.aload_n 0, 1) := by decide +kernel
theorem d_MD_freeSpare_5 : decode c_MD_freeSpare 5 = .ok (.getfield 61, 3) := by decide +kernel
theorem d_MD_freeSpare_8 : decode c_MD_freeSpare 8 = .ok (.imul, 1) := by decide +kernel
theorem d_MD_freeSpare_9 : decode c_MD_freeSpare 9 = .ok (.istore_n 2, 1) := by decide +kernel
theorem d_MD_freeSpare_10 : decode c_MD_freeSpare 10 = .ok (.iload_n 2, 1) := by decide +kernel
theorem d_MD_freeSpare_11 : decode c_MD_freeSpare 11 = .ok (.aload_n 0, 1) := by decide +kernel
theorem d_MD_freeSpare_12 : decode c_MD_freeSpare 12 = .ok (.getfield 52, 3) := by decide +kernel
theorem d_MD_freeSpare_15 : decode c_MD_freeSpare 15 = .ok (.if_icmp .ge 44, 3) := by decide +kernel
theorem d_MD_freeSpare_18 : decode c_MD_freeSpare 18 = .ok (.aload_n 0, 1) := by decide +kernel
theorem d_MD_freeSpare_19 : decode c_MD_freeSpare 19 = .ok (.getfield 13, 3) := by decide +kernel
theorem d_MD_freeSpare_22 : decode c_MD_freeSpare 22 = .ok (.aload_n 0, 1) := by decide +kernel
theorem d_MD_freeSpare_23 : decode c_MD_freeSpare 23 = .ok (.iload_n 1, 1) := by decide +kernel
theorem d_MD_freeSpare_24 : decode c_MD_freeSpare 24 = .ok (.iload_n 2, 1) := by decide +kernel
theorem d_MD_freeSpare_25 : decode c_MD_freeSpare 25 = .ok (.invokevirtual 71, 3) := by decide +kernel
theorem d_MD_freeSpare_28 : decode c_MD_freeSpare 28 = .ok (.baload, 1) := by decide +kernel
theorem d_MD_freeSpare_29 : decode c_MD_freeSpare 29 = .ok (.ifCond .eq 24, 3) := by decide +kernel
theorem d_MD_freeSpare_32 : decode c_MD_freeSpare 32 = .ok (.aload_n 0, 1) := by decide +kernel
theorem d_MD_freeSpare_33 : decode c_MD_freeSpare 33 = .ok (.iload_n 1, 1) := by decide +kernel
theorem d_MD_freeSpare_34 : decode c_MD_freeSpare 34 = .ok (.aload_n 0, 1) := by decide +kernel
theorem d_MD_freeSpare_35 : decode c_MD_freeSpare 35 = .ok (.iload_n 1, 1) := by decide +kernel
theorem d_MD_freeSpare_36 : decode c_MD_freeSpare 36 = .ok (.iload_n 2, 1) := by decide +kernel
theorem d_MD_freeSpare_37 : decode c_MD_freeSpare 37 = .ok (.invokevirtual 71, 3) := by decide +kernel
theorem d_MD_freeSpare_40 : decode c_MD_freeSpare 40 = .ok (.invokevirtual 94, 3) := by decide +kernel
theorem d_MD_freeSpare_43 : decode c_MD_freeSpare 43 = .ok (.ifCond .ge 10, 3) := by decide +kernel
theorem d_MD_freeSpare_46 : decode c_MD_freeSpare 46 = .ok (.aload_n 0, 1) := by decide +kernel
theorem d_MD_freeSpare_47 : decode c_MD_freeSpare 47 = .ok (.iload_n 1, 1) := by decide +kernel
theorem d_MD_freeSpare_48 : decode c_MD_freeSpare 48 = .ok (.iload_n 2, 1) := by decide +kernel
theorem d_MD_freeSpare_49 : decode c_MD_freeSpare 49 = .ok (.invokevirtual 71, 3) := by decide +kernel
theorem d_MD_freeSpare_52 : decode c_MD_freeSpare 52 = .ok (.ireturn, 1) := by decide +kernel
theorem d_MD_freeSpare_53 : decode c_MD_freeSpare 53 = .ok (.iinc 2 1, 3) := by decide +kernel
theorem d_MD_freeSpare_56 : decode c_MD_freeSpare 56 = .ok (.goto (-46), 3) := by decide +kernel
theorem d_MD_freeSpare_59 : decode c_MD_freeSpare 59 = .ok (.iconst (-1), 1) := by decide +kernel
theorem d_MD_freeSpare_60 : decode c_MD_freeSpare 60 = .ok (.ireturn, 1) := by decide +kernel
abbrev c_MD_copyBack : ByteArray := prog_7_method_32_code
abbrev y_MD_copyBack : MethodName := ⟨"StripeFieldModel", "copyBack", "()I"⟩
theorem d_MD_copyBack_0 : decode c_MD_copyBack 0 = .ok (.aload_n 0, 1) := by decide +kernel
theorem d_MD_copyBack_1 : decode c_MD_copyBack 1 = .ok (.aload_n 0, 1) := by decide +kernel
theorem d_MD_copyBack_2 : decode c_MD_copyBack 2 = .ok (.getfield 31, 3) := by decide +kernel
theorem d_MD_copyBack_5 : decode c_MD_copyBack 5 = .ok (.ifCond .ne 7, 3) := by decide +kernel
theorem d_MD_copyBack_8 : decode c_MD_copyBack 8 = .ok (.iconst 1, 1) := by decide +kernel
theorem d_MD_copyBack_9 : decode c_MD_copyBack 9 = .ok (.goto 4, 3) := by decide +kernel
theorem d_MD_copyBack_12 : decode c_MD_copyBack 12 = .ok (.iconst 0, 1) := by decide +kernel
theorem d_MD_copyBack_13 : decode c_MD_copyBack 13 = .ok (.iconst 1, 1) := by decide +kernel
theorem d_MD_copyBack_14 : decode c_MD_copyBack 14 = .ok (.invokevirtual 100, 3) := by decide +kernel
theorem d_MD_copyBack_17 : decode c_MD_copyBack 17 = .ok (.ifCond .eq 5, 3) := by decide +kernel
theorem d_MD_copyBack_20 : decode c_MD_copyBack 20 = .ok (.iconst 0, 1) := by decide +kernel
theorem d_MD_copyBack_21 : decode c_MD_copyBack 21 = .ok (.ireturn, 1) := by decide +kernel
theorem d_MD_copyBack_22 : decode c_MD_copyBack 22 = .ok (.iconst 0, 1) := by decide +kernel
theorem d_MD_copyBack_23 : decode c_MD_copyBack 23 = .ok (.istore_n 1, 1) := by decide +kernel
theorem d_MD_copyBack_24 : decode c_MD_copyBack 24 = .ok (.iload_n 1, 1) := by decide +kernel
theorem d_MD_copyBack_25 : decode c_MD_copyBack 25 = .ok (.aload_n 0, 1) := by decide +kernel
theorem d_MD_copyBack_26 : decode c_MD_copyBack 26 = .ok (.getfield 58, 3) := by decide +kernel
theorem d_MD_copyBack_29 : decode c_MD_copyBack 29 = .ok (.if_icmp .ge 118, 3) := by decide +kernel
theorem d_MD_copyBack_32 : decode c_MD_copyBack 32 = .ok (.iconst 0, 1) := by decide +kernel
theorem d_MD_copyBack_33 : decode c_MD_copyBack 33 = .ok (.istore_n 2, 1) := by decide +kernel
theorem d_MD_copyBack_34 : decode c_MD_copyBack 34 = .ok (.iload_n 2, 1) := by decide +kernel
theorem d_MD_copyBack_35 : decode c_MD_copyBack 35 = .ok (.aload_n 0, 1) := by decide +kernel
theorem d_MD_copyBack_36 : decode c_MD_copyBack 36 = .ok (.getfield 55, 3) := by decide +kernel
theorem d_MD_copyBack_39 : decode c_MD_copyBack 39 = .ok (.aload_n 0, 1) := by decide +kernel
theorem d_MD_copyBack_40 : decode c_MD_copyBack 40 = .ok (.getfield 61, 3) := by decide +kernel
theorem d_MD_copyBack_43 : decode c_MD_copyBack 43 = .ok (.imul, 1) := by decide +kernel
theorem d_MD_copyBack_44 : decode c_MD_copyBack 44 = .ok (.if_icmp .ge 97, 3) := by decide +kernel
theorem d_MD_copyBack_47 : decode c_MD_copyBack 47 = .ok (.aload_n 0, 1) := by decide +kernel
theorem d_MD_copyBack_48 : decode c_MD_copyBack 48 = .ok (.iload_n 1, 1) := by decide +kernel
theorem d_MD_copyBack_49 : decode c_MD_copyBack 49 = .ok (.iload_n 2, 1) := by decide +kernel
theorem d_MD_copyBack_50 : decode c_MD_copyBack 50 = .ok (.invokevirtual 71, 3) := by decide +kernel
theorem d_MD_copyBack_53 : decode c_MD_copyBack 53 = .ok (.istore_n 3, 1) := by decide +kernel
theorem d_MD_copyBack_54 : decode c_MD_copyBack 54 = .ok (.aload_n 0, 1) := by decide +kernel
theorem d_MD_copyBack_55 : decode c_MD_copyBack 55 = .ok (.getfield 13, 3) := by decide +kernel
theorem d_MD_copyBack_58 : decode c_MD_copyBack 58 = .ok (.iload_n 3, 1) := by decide +kernel
theorem d_MD_copyBack_59 : decode c_MD_copyBack 59 = .ok (.baload, 1) := by decide +kernel
theorem d_MD_copyBack_60 : decode c_MD_copyBack 60 = .ok (.ifCond .eq 75, 3) := by decide +kernel
theorem d_MD_copyBack_63 : decode c_MD_copyBack 63 = .ok (.aload_n 0, 1) := by decide +kernel
theorem d_MD_copyBack_64 : decode c_MD_copyBack 64 = .ok (.getfield 17, 3) := by decide +kernel
theorem d_MD_copyBack_67 : decode c_MD_copyBack 67 = .ok (.iload_n 3, 1) := by decide +kernel
theorem d_MD_copyBack_68 : decode c_MD_copyBack 68 = .ok (.iload_n 1, 1) := by decide +kernel
theorem d_MD_copyBack_69 : decode c_MD_copyBack 69 = .ok (.invokestatic 67, 3) := by decide +kernel
theorem d_MD_copyBack_72 : decode c_MD_copyBack 72 = .ok (.baload, 1) := by decide +kernel
theorem d_MD_copyBack_73 : decode c_MD_copyBack 73 = .ok (.ifCond .eq 6, 3) := by decide +kernel
theorem d_MD_copyBack_76 : decode c_MD_copyBack 76 = .ok (.goto 59, 3) := by decide +kernel
theorem d_MD_copyBack_79 : decode c_MD_copyBack 79 = .ok (.aload_n 0, 1) := by decide +kernel
theorem d_MD_copyBack_80 : decode c_MD_copyBack 80 = .ok (.iload_n 1, 1) := by decide +kernel
theorem d_MD_copyBack_81 : decode c_MD_copyBack 81 = .ok (.iload_n 2, 1) := by decide +kernel
theorem d_MD_copyBack_82 : decode c_MD_copyBack 82 = .ok (.invokevirtual 84, 3) := by decide +kernel
theorem d_MD_copyBack_85 : decode c_MD_copyBack 85 = .ok (.istore 4, 2) := by decide +kernel
theorem d_MD_copyBack_87 : decode c_MD_copyBack 87 = .ok (.aload_n 0, 1) := by decide +kernel
theorem d_MD_copyBack_88 : decode c_MD_copyBack 88 = .ok (.iload_n 3, 1) := by decide +kernel
theorem d_MD_copyBack_89 : decode c_MD_copyBack 89 = .ok (.iload_n 1, 1) := by decide +kernel
theorem d_MD_copyBack_90 : decode c_MD_copyBack 90 = .ok (.iload_n 2, 1) := by decide +kernel
theorem d_MD_copyBack_91 : decode c_MD_copyBack 91 = .ok (.iconst 1, 1) := by decide +kernel
theorem d_MD_copyBack_92 : decode c_MD_copyBack 92 = .ok (.iadd, 1) := by decide +kernel
theorem d_MD_copyBack_93 : decode c_MD_copyBack 93 = .ok (.invokevirtual 116, 3) := by decide +kernel
theorem d_MD_copyBack_96 : decode c_MD_copyBack 96 = .ok (.ifCond .ne 5, 3) := by decide +kernel
theorem d_MD_copyBack_99 : decode c_MD_copyBack 99 = .ok (.iconst (-1), 1) := by decide +kernel
theorem d_MD_copyBack_100 : decode c_MD_copyBack 100 = .ok (.ireturn, 1) := by decide +kernel
theorem d_MD_copyBack_101 : decode c_MD_copyBack 101 = .ok (.aload_n 0, 1) := by decide +kernel
theorem d_MD_copyBack_102 : decode c_MD_copyBack 102 = .ok (.getfield 28, 3) := by decide +kernel
theorem d_MD_copyBack_105 : decode c_MD_copyBack 105 = .ok (.bipush 16, 2) := by decide +kernel
theorem d_MD_copyBack_107 : decode c_MD_copyBack 107 = .ok (.iload_n 1, 1) := by decide +kernel
theorem d_MD_copyBack_108 : decode c_MD_copyBack 108 = .ok (.imul, 1) := by decide +kernel
theorem d_MD_copyBack_109 : decode c_MD_copyBack 109 = .ok (.iload_n 2, 1) := by decide +kernel
theorem d_MD_copyBack_110 : decode c_MD_copyBack 110 = .ok (.iadd, 1) := by decide +kernel
theorem d_MD_copyBack_111 : decode c_MD_copyBack 111 = .ok (.iload_n 3, 1) := by decide +kernel
theorem d_MD_copyBack_112 : decode c_MD_copyBack 112 = .ok (.iastore, 1) := by decide +kernel
theorem d_MD_copyBack_113 : decode c_MD_copyBack 113 = .ok (.iload 4, 2) := by decide +kernel
theorem d_MD_copyBack_115 : decode c_MD_copyBack 115 = .ok (.ifCond .lt 14, 3) := by decide +kernel
theorem d_MD_copyBack_118 : decode c_MD_copyBack 118 = .ok (.aload_n 0, 1) := by decide +kernel
theorem d_MD_copyBack_119 : decode c_MD_copyBack 119 = .ok (.iload 4, 2) := by decide +kernel
theorem d_MD_copyBack_121 : decode c_MD_copyBack 121 = .ok (.iload_n 1, 1) := by decide +kernel
theorem d_MD_copyBack_122 : decode c_MD_copyBack 122 = .ok (.iconst 0, 1) := by decide +kernel
theorem d_MD_copyBack_123 : decode c_MD_copyBack 123 = .ok (.invokevirtual 116, 3) := by decide +kernel
theorem d_MD_copyBack_126 : decode c_MD_copyBack 126 = .ok (.ifCond .eq 7, 3) := by decide +kernel
theorem d_MD_copyBack_129 : decode c_MD_copyBack 129 = .ok (.iconst 1, 1) := by decide +kernel
theorem d_MD_copyBack_130 : decode c_MD_copyBack 130 = .ok (.goto 4, 3) := by decide +kernel
theorem d_MD_copyBack_133 : decode c_MD_copyBack 133 = .ok (.iconst (-1), 1) := by decide +kernel
theorem d_MD_copyBack_134 : decode c_MD_copyBack 134 = .ok (.ireturn, 1) := by decide +kernel
theorem d_MD_copyBack_135 : decode c_MD_copyBack 135 = .ok (.iinc 2 1, 3) := by decide +kernel
theorem d_MD_copyBack_138 : decode c_MD_copyBack 138 = .ok (.goto (-104), 3) := by decide +kernel
theorem d_MD_copyBack_141 : decode c_MD_copyBack 141 = .ok (.iinc 1 1, 3) := by decide +kernel
theorem d_MD_copyBack_144 : decode c_MD_copyBack 144 = .ok (.goto (-120), 3) := by decide +kernel
theorem d_MD_copyBack_147 : decode c_MD_copyBack 147 = .ok (.iconst 0, 1) := by decide +kernel
theorem d_MD_copyBack_148 : decode c_MD_copyBack 148 = .ok (.ireturn, 1) := by decide +kernel
abbrev c_MD_scrub : ByteArray := prog_7_method_33_code
abbrev y_MD_scrub : MethodName := ⟨"StripeFieldModel", "scrub", "()I"⟩
theorem d_MD_scrub_0 : decode c_MD_scrub 0 = .ok (.aload_n 0, 1) := by decide +kernel
theorem d_MD_scrub_1 : decode c_MD_scrub 1 = .ok (.aload_n 0, 1) := by decide +kernel
theorem d_MD_scrub_2 : decode c_MD_scrub 2 = .ok (.getfield 31, 3) := by decide +kernel
theorem d_MD_scrub_5 : decode c_MD_scrub 5 = .ok (.ifCond .ne 7, 3) := by decide +kernel
theorem d_MD_scrub_8 : decode c_MD_scrub 8 = .ok (.iconst 1, 1) := by decide +kernel
theorem d_MD_scrub_9 : decode c_MD_scrub 9 = .ok (.goto 4, 3) := by decide +kernel
theorem d_MD_scrub_12 : decode c_MD_scrub 12 = .ok (.iconst 0, 1) := by decide +kernel
theorem d_MD_scrub_13 : decode c_MD_scrub 13 = .ok (.iconst 1, 1) := by decide +kernel
theorem d_MD_scrub_14 : decode c_MD_scrub 14 = .ok (.invokevirtual 100, 3) := by decide +kernel
theorem d_MD_scrub_17 : decode c_MD_scrub 17 = .ok (.ifCond .eq 5, 3) := by decide +kernel
theorem d_MD_scrub_20 : decode c_MD_scrub 20 = .ok (.iconst 0, 1) := by decide +kernel
theorem d_MD_scrub_21 : decode c_MD_scrub 21 = .ok (.ireturn, 1) := by decide +kernel
theorem d_MD_scrub_22 : decode c_MD_scrub 22 = .ok (.aload_n 0, 1) := by decide +kernel
theorem d_MD_scrub_23 : decode c_MD_scrub 23 = .ok (.getfield 130, 3) := by decide +kernel
theorem d_MD_scrub_26 : decode c_MD_scrub 26 = .ok (.aload_n 0, 1) := by decide +kernel
theorem d_MD_scrub_27 : decode c_MD_scrub 27 = .ok (.getfield 61, 3) := by decide +kernel
theorem d_MD_scrub_30 : decode c_MD_scrub 30 = .ok (.idiv, 1) := by decide +kernel
theorem d_MD_scrub_31 : decode c_MD_scrub 31 = .ok (.istore_n 1, 1) := by decide +kernel
theorem d_MD_scrub_32 : decode c_MD_scrub 32 = .ok (.aload_n 0, 1) := by decide +kernel
theorem d_MD_scrub_33 : decode c_MD_scrub 33 = .ok (.getfield 55, 3) := by decide +kernel
theorem d_MD_scrub_36 : decode c_MD_scrub 36 = .ok (.aload_n 0, 1) := by decide +kernel
theorem d_MD_scrub_37 : decode c_MD_scrub 37 = .ok (.getfield 130, 3) := by decide +kernel
theorem d_MD_scrub_40 : decode c_MD_scrub 40 = .ok (.aload_n 0, 1) := by decide +kernel
theorem d_MD_scrub_41 : decode c_MD_scrub 41 = .ok (.getfield 61, 3) := by decide +kernel
theorem d_MD_scrub_44 : decode c_MD_scrub 44 = .ok (.irem, 1) := by decide +kernel
theorem d_MD_scrub_45 : decode c_MD_scrub 45 = .ok (.imul, 1) := by decide +kernel
theorem d_MD_scrub_46 : decode c_MD_scrub 46 = .ok (.istore_n 2, 1) := by decide +kernel
theorem d_MD_scrub_47 : decode c_MD_scrub 47 = .ok (.aload_n 0, 1) := by decide +kernel
theorem d_MD_scrub_48 : decode c_MD_scrub 48 = .ok (.aload_n 0, 1) := by decide +kernel
theorem d_MD_scrub_49 : decode c_MD_scrub 49 = .ok (.getfield 130, 3) := by decide +kernel
theorem d_MD_scrub_52 : decode c_MD_scrub 52 = .ok (.iconst 1, 1) := by decide +kernel
theorem d_MD_scrub_53 : decode c_MD_scrub 53 = .ok (.iadd, 1) := by decide +kernel
theorem d_MD_scrub_54 : decode c_MD_scrub 54 = .ok (.aload_n 0, 1) := by decide +kernel
theorem d_MD_scrub_55 : decode c_MD_scrub 55 = .ok (.getfield 58, 3) := by decide +kernel
theorem d_MD_scrub_58 : decode c_MD_scrub 58 = .ok (.aload_n 0, 1) := by decide +kernel
theorem d_MD_scrub_59 : decode c_MD_scrub 59 = .ok (.getfield 61, 3) := by decide +kernel
theorem d_MD_scrub_62 : decode c_MD_scrub 62 = .ok (.imul, 1) := by decide +kernel
theorem d_MD_scrub_63 : decode c_MD_scrub 63 = .ok (.irem, 1) := by decide +kernel
theorem d_MD_scrub_64 : decode c_MD_scrub 64 = .ok (.putfield 130, 3) := by decide +kernel
theorem d_MD_scrub_67 : decode c_MD_scrub 67 = .ok (.iload_n 2, 1) := by decide +kernel
theorem d_MD_scrub_68 : decode c_MD_scrub 68 = .ok (.istore_n 3, 1) := by decide +kernel
theorem d_MD_scrub_69 : decode c_MD_scrub 69 = .ok (.iload_n 3, 1) := by decide +kernel
theorem d_MD_scrub_70 : decode c_MD_scrub 70 = .ok (.iload_n 2, 1) := by decide +kernel
theorem d_MD_scrub_71 : decode c_MD_scrub 71 = .ok (.aload_n 0, 1) := by decide +kernel
theorem d_MD_scrub_72 : decode c_MD_scrub 72 = .ok (.getfield 55, 3) := by decide +kernel
theorem d_MD_scrub_75 : decode c_MD_scrub 75 = .ok (.iadd, 1) := by decide +kernel
theorem d_MD_scrub_76 : decode c_MD_scrub 76 = .ok (.if_icmp .ge 41, 3) := by decide +kernel
theorem d_MD_scrub_79 : decode c_MD_scrub 79 = .ok (.aload_n 0, 1) := by decide +kernel
theorem d_MD_scrub_80 : decode c_MD_scrub 80 = .ok (.iload_n 1, 1) := by decide +kernel
theorem d_MD_scrub_81 : decode c_MD_scrub 81 = .ok (.iload_n 3, 1) := by decide +kernel
theorem d_MD_scrub_82 : decode c_MD_scrub 82 = .ok (.invokevirtual 87, 3) := by decide +kernel
theorem d_MD_scrub_85 : decode c_MD_scrub 85 = .ok (.ifCond .eq 26, 3) := by decide +kernel
theorem d_MD_scrub_88 : decode c_MD_scrub 88 = .ok (.aload_n 0, 1) := by decide +kernel
theorem d_MD_scrub_89 : decode c_MD_scrub 89 = .ok (.aload_n 0, 1) := by decide +kernel
theorem d_MD_scrub_90 : decode c_MD_scrub 90 = .ok (.iload_n 1, 1) := by decide +kernel
theorem d_MD_scrub_91 : decode c_MD_scrub 91 = .ok (.iload_n 3, 1) := by decide +kernel
theorem d_MD_scrub_92 : decode c_MD_scrub 92 = .ok (.invokevirtual 84, 3) := by decide +kernel
theorem d_MD_scrub_95 : decode c_MD_scrub 95 = .ok (.iload_n 1, 1) := by decide +kernel
theorem d_MD_scrub_96 : decode c_MD_scrub 96 = .ok (.iload_n 3, 1) := by decide +kernel
theorem d_MD_scrub_97 : decode c_MD_scrub 97 = .ok (.iconst 1, 1) := by decide +kernel
theorem d_MD_scrub_98 : decode c_MD_scrub 98 = .ok (.iadd, 1) := by decide +kernel
theorem d_MD_scrub_99 : decode c_MD_scrub 99 = .ok (.invokevirtual 116, 3) := by decide +kernel
theorem d_MD_scrub_102 : decode c_MD_scrub 102 = .ok (.ifCond .eq 7, 3) := by decide +kernel
theorem d_MD_scrub_105 : decode c_MD_scrub 105 = .ok (.iconst 1, 1) := by decide +kernel
theorem d_MD_scrub_106 : decode c_MD_scrub 106 = .ok (.goto 4, 3) := by decide +kernel
theorem d_MD_scrub_109 : decode c_MD_scrub 109 = .ok (.iconst (-1), 1) := by decide +kernel
theorem d_MD_scrub_110 : decode c_MD_scrub 110 = .ok (.ireturn, 1) := by decide +kernel
theorem d_MD_scrub_111 : decode c_MD_scrub 111 = .ok (.iinc 3 1, 3) := by decide +kernel
theorem d_MD_scrub_114 : decode c_MD_scrub 114 = .ok (.goto (-45), 3) := by decide +kernel
theorem d_MD_scrub_117 : decode c_MD_scrub 117 = .ok (.iconst 0, 1) := by decide +kernel
theorem d_MD_scrub_118 : decode c_MD_scrub 118 = .ok (.ireturn, 1) := by decide +kernel
abbrev c_MD_look : ByteArray := prog_7_method_35_code
abbrev y_MD_look : MethodName := ⟨"StripeFieldModel", "look", "(I)I"⟩
theorem d_MD_look_0 : decode c_MD_look 0 = .ok (.aload_n 0, 1) := by decide +kernel
theorem d_MD_look_1 : decode c_MD_look 1 = .ok (.iload_n 1, 1) := by decide +kernel
theorem d_MD_look_2 : decode c_MD_look 2 = .ok (.ifCond .lt 9, 3) := by decide +kernel
theorem d_MD_look_5 : decode c_MD_look 5 = .ok (.iload_n 1, 1) := by decide +kernel
theorem d_MD_look_6 : decode c_MD_look 6 = .ok (.bipush 12, 2) := by decide +kernel
theorem d_MD_look_8 : decode c_MD_look 8 = .ok (.if_icmp .le 7, 3) := by decide +kernel
theorem d_MD_look_11 : decode c_MD_look 11 = .ok (.iconst 1, 1) := by decide +kernel
theorem d_MD_look_12 : decode c_MD_look 12 = .ok (.goto 4, 3) := by decide +kernel
theorem d_MD_look_15 : decode c_MD_look 15 = .ok (.iconst 0, 1) := by decide +kernel
theorem d_MD_look_16 : decode c_MD_look 16 = .ok (.iconst 1, 1) := by decide +kernel
theorem d_MD_look_17 : decode c_MD_look 17 = .ok (.invokevirtual 100, 3) := by decide +kernel
theorem d_MD_look_20 : decode c_MD_look 20 = .ok (.ifCond .eq 5, 3) := by decide +kernel
theorem d_MD_look_23 : decode c_MD_look 23 = .ok (.iconst 0, 1) := by decide +kernel
theorem d_MD_look_24 : decode c_MD_look 24 = .ok (.ireturn, 1) := by decide +kernel
theorem d_MD_look_25 : decode c_MD_look 25 = .ok (.iload_n 1, 1) := by decide +kernel
theorem d_MD_look_26 : decode c_MD_look 26 = .ok (.tableswitch 158 0 12 #[66, 79, 158, 158, 158, 84, 89, 91, 101, 106, 111, 116, 153], 66) := by decide +kernel
theorem d_MD_look_92 : decode c_MD_look 92 = .ok (.aload_n 0, 1) := by decide +kernel
theorem d_MD_look_93 : decode c_MD_look 93 = .ok (.getfield 31, 3) := by decide +kernel
theorem d_MD_look_96 : decode c_MD_look 96 = .ok (.ifCond .eq 7, 3) := by decide +kernel
theorem d_MD_look_99 : decode c_MD_look 99 = .ok (.iconst 1, 1) := by decide +kernel
theorem d_MD_look_100 : decode c_MD_look 100 = .ok (.goto 4, 3) := by decide +kernel
theorem d_MD_look_103 : decode c_MD_look 103 = .ok (.iconst 0, 1) := by decide +kernel
theorem d_MD_look_104 : decode c_MD_look 104 = .ok (.ireturn, 1) := by decide +kernel
theorem d_MD_look_105 : decode c_MD_look 105 = .ok (.aload_n 0, 1) := by decide +kernel
theorem d_MD_look_106 : decode c_MD_look 106 = .ok (.getfield 97, 3) := by decide +kernel
theorem d_MD_look_109 : decode c_MD_look 109 = .ok (.ireturn, 1) := by decide +kernel
theorem d_MD_look_110 : decode c_MD_look 110 = .ok (.aload_n 0, 1) := by decide +kernel
theorem d_MD_look_111 : decode c_MD_look 111 = .ok (.invokevirtual 109, 3) := by decide +kernel
theorem d_MD_look_114 : decode c_MD_look 114 = .ok (.ireturn, 1) := by decide +kernel
theorem d_MD_look_115 : decode c_MD_look 115 = .ok (.iconst 0, 1) := by decide +kernel
theorem d_MD_look_116 : decode c_MD_look 116 = .ok (.ireturn, 1) := by decide +kernel
theorem d_MD_look_117 : decode c_MD_look 117 = .ok (.aload_n 0, 1) := by decide +kernel
theorem d_MD_look_118 : decode c_MD_look 118 = .ok (.getfield 58, 3) := by decide +kernel
theorem d_MD_look_121 : decode c_MD_look 121 = .ok (.aload_n 0, 1) := by decide +kernel
theorem d_MD_look_122 : decode c_MD_look 122 = .ok (.getfield 61, 3) := by decide +kernel
theorem d_MD_look_125 : decode c_MD_look 125 = .ok (.imul, 1) := by decide +kernel
theorem d_MD_look_126 : decode c_MD_look 126 = .ok (.ireturn, 1) := by decide +kernel
theorem d_MD_look_127 : decode c_MD_look 127 = .ok (.aload_n 0, 1) := by decide +kernel
theorem d_MD_look_128 : decode c_MD_look 128 = .ok (.getfield 130, 3) := by decide +kernel
theorem d_MD_look_131 : decode c_MD_look 131 = .ok (.ireturn, 1) := by decide +kernel
theorem d_MD_look_132 : decode c_MD_look 132 = .ok (.aload_n 0, 1) := by decide +kernel
theorem d_MD_look_133 : decode c_MD_look 133 = .ok (.getfield 55, 3) := by decide +kernel
theorem d_MD_look_136 : decode c_MD_look 136 = .ok (.ireturn, 1) := by decide +kernel
theorem d_MD_look_137 : decode c_MD_look 137 = .ok (.aload_n 0, 1) := by decide +kernel
theorem d_MD_look_138 : decode c_MD_look 138 = .ok (.getfield 52, 3) := by decide +kernel
theorem d_MD_look_141 : decode c_MD_look 141 = .ok (.ireturn, 1) := by decide +kernel
theorem d_MD_look_142 : decode c_MD_look 142 = .ok (.iconst 0, 1) := by decide +kernel
theorem d_MD_look_143 : decode c_MD_look 143 = .ok (.istore_n 2, 1) := by decide +kernel
theorem d_MD_look_144 : decode c_MD_look 144 = .ok (.iconst 0, 1) := by decide +kernel
theorem d_MD_look_145 : decode c_MD_look 145 = .ok (.istore_n 3, 1) := by decide +kernel
theorem d_MD_look_146 : decode c_MD_look 146 = .ok (.iload_n 3, 1) := by decide +kernel
theorem d_MD_look_147 : decode c_MD_look 147 = .ok (.aload_n 0, 1) := by decide +kernel
theorem d_MD_look_148 : decode c_MD_look 148 = .ok (.getfield 52, 3) := by decide +kernel
theorem d_MD_look_151 : decode c_MD_look 151 = .ok (.if_icmp .ge 26, 3) := by decide +kernel
theorem d_MD_look_154 : decode c_MD_look 154 = .ok (.iload_n 2, 1) := by decide +kernel
theorem d_MD_look_155 : decode c_MD_look 155 = .ok (.aload_n 0, 1) := by decide +kernel
theorem d_MD_look_156 : decode c_MD_look 156 = .ok (.getfield 13, 3) := by decide +kernel
theorem d_MD_look_159 : decode c_MD_look 159 = .ok (.iload_n 3, 1) := by decide +kernel
theorem d_MD_look_160 : decode c_MD_look 160 = .ok (.baload, 1) := by decide +kernel
theorem d_MD_look_161 : decode c_MD_look 161 = .ok (.ifCond .eq 7, 3) := by decide +kernel
theorem d_MD_look_164 : decode c_MD_look 164 = .ok (.iconst 1, 1) := by decide +kernel
theorem d_MD_look_165 : decode c_MD_look 165 = .ok (.goto 4, 3) := by decide +kernel
theorem d_MD_look_168 : decode c_MD_look 168 = .ok (.iconst 0, 1) := by decide +kernel
theorem d_MD_look_169 : decode c_MD_look 169 = .ok (.iadd, 1) := by decide +kernel
theorem d_MD_look_170 : decode c_MD_look 170 = .ok (.istore_n 2, 1) := by decide +kernel
theorem d_MD_look_171 : decode c_MD_look 171 = .ok (.iinc 3 1, 3) := by decide +kernel
theorem d_MD_look_174 : decode c_MD_look 174 = .ok (.goto (-28), 3) := by decide +kernel
theorem d_MD_look_177 : decode c_MD_look 177 = .ok (.iload_n 2, 1) := by decide +kernel
theorem d_MD_look_178 : decode c_MD_look 178 = .ok (.ireturn, 1) := by decide +kernel
theorem d_MD_look_179 : decode c_MD_look 179 = .ok (.aload_n 0, 1) := by decide +kernel
theorem d_MD_look_180 : decode c_MD_look 180 = .ok (.getfield 104, 3) := by decide +kernel
theorem d_MD_look_183 : decode c_MD_look 183 = .ok (.ireturn, 1) := by decide +kernel
theorem d_MD_look_184 : decode c_MD_look 184 = .ok (.aload_n 0, 1) := by decide +kernel
theorem d_MD_look_185 : decode c_MD_look 185 = .ok (.iload_n 1, 1) := by decide +kernel
theorem d_MD_look_186 : decode c_MD_look 186 = .ok (.invokevirtual 152, 3) := by decide +kernel
theorem d_MD_look_189 : decode c_MD_look 189 = .ok (.ireturn, 1) := by decide +kernel
abbrev c_MD_count : ByteArray := prog_7_method_34_code
abbrev y_MD_count : MethodName := ⟨"StripeFieldModel", "count", "(I)I"⟩
theorem d_MD_count_0 : decode c_MD_count 0 = .ok (.iconst 0, 1) := by decide +kernel
theorem d_MD_count_1 : decode c_MD_count 1 = .ok (.istore_n 2, 1) := by decide +kernel
theorem d_MD_count_2 : decode c_MD_count 2 = .ok (.iconst 0, 1) := by decide +kernel
theorem d_MD_count_3 : decode c_MD_count 3 = .ok (.istore_n 3, 1) := by decide +kernel
theorem d_MD_count_4 : decode c_MD_count 4 = .ok (.iload_n 3, 1) := by decide +kernel
theorem d_MD_count_5 : decode c_MD_count 5 = .ok (.aload_n 0, 1) := by decide +kernel
theorem d_MD_count_6 : decode c_MD_count 6 = .ok (.getfield 58, 3) := by decide +kernel
theorem d_MD_count_9 : decode c_MD_count 9 = .ok (.if_icmp .ge 152, 3) := by decide +kernel
theorem d_MD_count_12 : decode c_MD_count 12 = .ok (.iconst 0, 1) := by decide +kernel
theorem d_MD_count_13 : decode c_MD_count 13 = .ok (.istore 4, 2) := by decide +kernel
theorem d_MD_count_15 : decode c_MD_count 15 = .ok (.iload 4, 2) := by decide +kernel
theorem d_MD_count_17 : decode c_MD_count 17 = .ok (.aload_n 0, 1) := by decide +kernel
theorem d_MD_count_18 : decode c_MD_count 18 = .ok (.getfield 52, 3) := by decide +kernel
theorem d_MD_count_21 : decode c_MD_count 21 = .ok (.if_icmp .ge 134, 3) := by decide +kernel
theorem d_MD_count_24 : decode c_MD_count 24 = .ok (.iload 4, 2) := by decide +kernel
theorem d_MD_count_26 : decode c_MD_count 26 = .ok (.aload_n 0, 1) := by decide +kernel
theorem d_MD_count_27 : decode c_MD_count 27 = .ok (.getfield 55, 3) := by decide +kernel
theorem d_MD_count_30 : decode c_MD_count 30 = .ok (.aload_n 0, 1) := by decide +kernel
theorem d_MD_count_31 : decode c_MD_count 31 = .ok (.getfield 61, 3) := by decide +kernel
theorem d_MD_count_34 : decode c_MD_count 34 = .ok (.imul, 1) := by decide +kernel
theorem d_MD_count_35 : decode c_MD_count 35 = .ok (.if_icmp .lt 7, 3) := by decide +kernel
theorem d_MD_count_38 : decode c_MD_count 38 = .ok (.iconst 1, 1) := by decide +kernel
theorem d_MD_count_39 : decode c_MD_count 39 = .ok (.goto 4, 3) := by decide +kernel
theorem d_MD_count_42 : decode c_MD_count 42 = .ok (.iconst 0, 1) := by decide +kernel
theorem d_MD_count_43 : decode c_MD_count 43 = .ok (.istore 5, 2) := by decide +kernel
theorem d_MD_count_45 : decode c_MD_count 45 = .ok (.iload_n 1, 1) := by decide +kernel
theorem d_MD_count_46 : decode c_MD_count 46 = .ok (.iconst 2, 1) := by decide +kernel
theorem d_MD_count_47 : decode c_MD_count 47 = .ok (.if_icmp .ne 26, 3) := by decide +kernel
theorem d_MD_count_50 : decode c_MD_count 50 = .ok (.iload_n 2, 1) := by decide +kernel
theorem d_MD_count_51 : decode c_MD_count 51 = .ok (.iload 5, 2) := by decide +kernel
theorem d_MD_count_53 : decode c_MD_count 53 = .ok (.ifCond .ne 17, 3) := by decide +kernel
theorem d_MD_count_56 : decode c_MD_count 56 = .ok (.aload_n 0, 1) := by decide +kernel
theorem d_MD_count_57 : decode c_MD_count 57 = .ok (.iload_n 3, 1) := by decide +kernel
theorem d_MD_count_58 : decode c_MD_count 58 = .ok (.iload 4, 2) := by decide +kernel
theorem d_MD_count_60 : decode c_MD_count 60 = .ok (.invokevirtual 84, 3) := by decide +kernel
theorem d_MD_count_63 : decode c_MD_count 63 = .ok (.ifCond .ge 7, 3) := by decide +kernel
theorem d_MD_count_66 : decode c_MD_count 66 = .ok (.iconst 1, 1) := by decide +kernel
theorem d_MD_count_67 : decode c_MD_count 67 = .ok (.goto 4, 3) := by decide +kernel
theorem d_MD_count_70 : decode c_MD_count 70 = .ok (.iconst 0, 1) := by decide +kernel
theorem d_MD_count_71 : decode c_MD_count 71 = .ok (.iadd, 1) := by decide +kernel
theorem d_MD_count_72 : decode c_MD_count 72 = .ok (.istore_n 2, 1) := by decide +kernel
theorem d_MD_count_73 : decode c_MD_count 73 = .ok (.iload_n 1, 1) := by decide +kernel
theorem d_MD_count_74 : decode c_MD_count 74 = .ok (.iconst 3, 1) := by decide +kernel
theorem d_MD_count_75 : decode c_MD_count 75 = .ok (.if_icmp .ne 26, 3) := by decide +kernel
theorem d_MD_count_78 : decode c_MD_count 78 = .ok (.iload_n 2, 1) := by decide +kernel
theorem d_MD_count_79 : decode c_MD_count 79 = .ok (.iload 5, 2) := by decide +kernel
theorem d_MD_count_81 : decode c_MD_count 81 = .ok (.ifCond .ne 17, 3) := by decide +kernel
theorem d_MD_count_84 : decode c_MD_count 84 = .ok (.aload_n 0, 1) := by decide +kernel
theorem d_MD_count_85 : decode c_MD_count 85 = .ok (.iload_n 3, 1) := by decide +kernel
theorem d_MD_count_86 : decode c_MD_count 86 = .ok (.iload 4, 2) := by decide +kernel
theorem d_MD_count_88 : decode c_MD_count 88 = .ok (.invokevirtual 87, 3) := by decide +kernel
theorem d_MD_count_91 : decode c_MD_count 91 = .ok (.ifCond .eq 7, 3) := by decide +kernel
theorem d_MD_count_94 : decode c_MD_count 94 = .ok (.iconst 1, 1) := by decide +kernel
theorem d_MD_count_95 : decode c_MD_count 95 = .ok (.goto 4, 3) := by decide +kernel
theorem d_MD_count_98 : decode c_MD_count 98 = .ok (.iconst 0, 1) := by decide +kernel
theorem d_MD_count_99 : decode c_MD_count 99 = .ok (.iadd, 1) := by decide +kernel
theorem d_MD_count_100 : decode c_MD_count 100 = .ok (.istore_n 2, 1) := by decide +kernel
theorem d_MD_count_101 : decode c_MD_count 101 = .ok (.iload_n 1, 1) := by decide +kernel
theorem d_MD_count_102 : decode c_MD_count 102 = .ok (.iconst 4, 1) := by decide +kernel
theorem d_MD_count_103 : decode c_MD_count 103 = .ok (.if_icmp .ne 46, 3) := by decide +kernel
theorem d_MD_count_106 : decode c_MD_count 106 = .ok (.iload_n 2, 1) := by decide +kernel
theorem d_MD_count_107 : decode c_MD_count 107 = .ok (.iload 5, 2) := by decide +kernel
theorem d_MD_count_109 : decode c_MD_count 109 = .ok (.ifCond .eq 37, 3) := by decide +kernel
theorem d_MD_count_112 : decode c_MD_count 112 = .ok (.aload_n 0, 1) := by decide +kernel
theorem d_MD_count_113 : decode c_MD_count 113 = .ok (.getfield 13, 3) := by decide +kernel
theorem d_MD_count_116 : decode c_MD_count 116 = .ok (.aload_n 0, 1) := by decide +kernel
theorem d_MD_count_117 : decode c_MD_count 117 = .ok (.iload_n 3, 1) := by decide +kernel
theorem d_MD_count_118 : decode c_MD_count 118 = .ok (.iload 4, 2) := by decide +kernel
theorem d_MD_count_120 : decode c_MD_count 120 = .ok (.invokevirtual 71, 3) := by decide +kernel
theorem d_MD_count_123 : decode c_MD_count 123 = .ok (.baload, 1) := by decide +kernel
theorem d_MD_count_124 : decode c_MD_count 124 = .ok (.ifCond .eq 22, 3) := by decide +kernel
theorem d_MD_count_127 : decode c_MD_count 127 = .ok (.aload_n 0, 1) := by decide +kernel
theorem d_MD_count_128 : decode c_MD_count 128 = .ok (.iload_n 3, 1) := by decide +kernel
theorem d_MD_count_129 : decode c_MD_count 129 = .ok (.aload_n 0, 1) := by decide +kernel
theorem d_MD_count_130 : decode c_MD_count 130 = .ok (.iload_n 3, 1) := by decide +kernel
theorem d_MD_count_131 : decode c_MD_count 131 = .ok (.iload 4, 2) := by decide +kernel
theorem d_MD_count_133 : decode c_MD_count 133 = .ok (.invokevirtual 71, 3) := by decide +kernel
theorem d_MD_count_136 : decode c_MD_count 136 = .ok (.invokevirtual 94, 3) := by decide +kernel
theorem d_MD_count_139 : decode c_MD_count 139 = .ok (.ifCond .ge 7, 3) := by decide +kernel
theorem d_MD_count_142 : decode c_MD_count 142 = .ok (.iconst 1, 1) := by decide +kernel
theorem d_MD_count_143 : decode c_MD_count 143 = .ok (.goto 4, 3) := by decide +kernel
theorem d_MD_count_146 : decode c_MD_count 146 = .ok (.iconst 0, 1) := by decide +kernel
theorem d_MD_count_147 : decode c_MD_count 147 = .ok (.iadd, 1) := by decide +kernel
theorem d_MD_count_148 : decode c_MD_count 148 = .ok (.istore_n 2, 1) := by decide +kernel
theorem d_MD_count_149 : decode c_MD_count 149 = .ok (.iinc 4 1, 3) := by decide +kernel
theorem d_MD_count_152 : decode c_MD_count 152 = .ok (.goto (-137), 3) := by decide +kernel
theorem d_MD_count_155 : decode c_MD_count 155 = .ok (.iinc 3 1, 3) := by decide +kernel
theorem d_MD_count_158 : decode c_MD_count 158 = .ok (.goto (-154), 3) := by decide +kernel
theorem d_MD_count_161 : decode c_MD_count 161 = .ok (.iload_n 2, 1) := by decide +kernel
theorem d_MD_count_162 : decode c_MD_count 162 = .ok (.ireturn, 1) := by decide +kernel
abbrev c_MD_place : ByteArray := prog_7_method_36_code
abbrev y_MD_place : MethodName := ⟨"StripeFieldModel", "place", "(II)I"⟩
theorem d_MD_place_0 : decode c_MD_place 0 = .ok (.aload_n 0, 1) := by decide +kernel
theorem d_MD_place_1 : decode c_MD_place 1 = .ok (.iload_n 1, 1) := by decide +kernel
theorem d_MD_place_2 : decode c_MD_place 2 = .ok (.ifCond .lt 28, 3) := by decide +kernel
theorem d_MD_place_5 : decode c_MD_place 5 = .ok (.iload_n 1, 1) := by decide +kernel
theorem d_MD_place_6 : decode c_MD_place 6 = .ok (.aload_n 0, 1) := by decide +kernel
theorem d_MD_place_7 : decode c_MD_place 7 = .ok (.getfield 58, 3) := by decide +kernel
theorem d_MD_place_10 : decode c_MD_place 10 = .ok (.if_icmp .ge 20, 3) := by decide +kernel
theorem d_MD_place_13 : decode c_MD_place 13 = .ok (.iload_n 2, 1) := by decide +kernel
theorem d_MD_place_14 : decode c_MD_place 14 = .ok (.ifCond .lt 16, 3) := by decide +kernel
theorem d_MD_place_17 : decode c_MD_place 17 = .ok (.iload_n 2, 1) := by decide +kernel
theorem d_MD_place_18 : decode c_MD_place 18 = .ok (.aload_n 0, 1) := by decide +kernel
theorem d_MD_place_19 : decode c_MD_place 19 = .ok (.getfield 55, 3) := by decide +kernel
theorem d_MD_place_22 : decode c_MD_place 22 = .ok (.aload_n 0, 1) := by decide +kernel
theorem d_MD_place_23 : decode c_MD_place 23 = .ok (.getfield 61, 3) := by decide +kernel
theorem d_MD_place_26 : decode c_MD_place 26 = .ok (.imul, 1) := by decide +kernel
theorem d_MD_place_27 : decode c_MD_place 27 = .ok (.if_icmp .lt 7, 3) := by decide +kernel
theorem d_MD_place_30 : decode c_MD_place 30 = .ok (.iconst 1, 1) := by decide +kernel
theorem d_MD_place_31 : decode c_MD_place 31 = .ok (.goto 4, 3) := by decide +kernel
theorem d_MD_place_34 : decode c_MD_place 34 = .ok (.iconst 0, 1) := by decide +kernel
theorem d_MD_place_35 : decode c_MD_place 35 = .ok (.iconst 1, 1) := by decide +kernel
theorem d_MD_place_36 : decode c_MD_place 36 = .ok (.invokevirtual 100, 3) := by decide +kernel
theorem d_MD_place_39 : decode c_MD_place 39 = .ok (.ifCond .eq 5, 3) := by decide +kernel
theorem d_MD_place_42 : decode c_MD_place 42 = .ok (.iconst 0, 1) := by decide +kernel
theorem d_MD_place_43 : decode c_MD_place 43 = .ok (.ireturn, 1) := by decide +kernel
theorem d_MD_place_44 : decode c_MD_place 44 = .ok (.aload_n 0, 1) := by decide +kernel
theorem d_MD_place_45 : decode c_MD_place 45 = .ok (.iload_n 1, 1) := by decide +kernel
theorem d_MD_place_46 : decode c_MD_place 46 = .ok (.iload_n 2, 1) := by decide +kernel
theorem d_MD_place_47 : decode c_MD_place 47 = .ok (.invokevirtual 84, 3) := by decide +kernel
theorem d_MD_place_50 : decode c_MD_place 50 = .ok (.ireturn, 1) := by decide +kernel
end
section
abbrev c_LW_cell : ByteArray := method_2_code
abbrev y_LW_cell : MethodName := ⟨"StripeFieldLaw", "cell", "([II)I"⟩
theorem d_LW_cell_0 : decode c_LW_cell 0 = .ok (.iload_n 1, 1) := by decide +kernel
theorem d_LW_cell_1 : decode c_LW_cell 1 = .ok (.aload_n 0, 1) := by decide +kernel
theorem d_LW_cell_2 : decode c_LW_cell 2 = .ok (.arraylength, 1) := by decide +kernel
theorem d_LW_cell_3 : decode c_LW_cell 3 = .ok (.if_icmp .ge 9, 3) := by decide +kernel
theorem d_LW_cell_6 : decode c_LW_cell 6 = .ok (.aload_n 0, 1) := by decide +kernel
theorem d_LW_cell_7 : decode c_LW_cell 7 = .ok (.iload_n 1, 1) := by decide +kernel
theorem d_LW_cell_8 : decode c_LW_cell 8 = .ok (.iaload, 1) := by decide +kernel
theorem d_LW_cell_9 : decode c_LW_cell 9 = .ok (.goto 4, 3) := by decide +kernel
theorem d_LW_cell_12 : decode c_LW_cell 12 = .ok (.iconst 0, 1) := by decide +kernel
theorem d_LW_cell_13 : decode c_LW_cell 13 = .ok (.ireturn, 1) := by decide +kernel
abbrev c_LW_feed : ByteArray := method_3_code
abbrev y_LW_feed : MethodName := ⟨"StripeFieldLaw", "feed", "(LStripeField;IJ[J)I"⟩
theorem d_LW_feed_0 : decode c_LW_feed 0 = .ok (.aload 4, 2) := by decide +kernel
theorem d_LW_feed_2 : decode c_LW_feed 2 = .ok (.iconst 0, 1) := by decide +kernel
theorem d_LW_feed_3 : decode c_LW_feed 3 = .ok (.aload_n 0, 1) := by decide +kernel
theorem d_LW_feed_4 : decode c_LW_feed 4 = .ok (.iload_n 1, 1) := by decide +kernel
theorem d_LW_feed_5 : decode c_LW_feed 5 = .ok (.lload_n 2, 1) := by decide +kernel
theorem d_LW_feed_6 : decode c_LW_feed 6 = .ok (.invokevirtual 7, 3) := by decide +kernel
theorem d_LW_feed_9 : decode c_LW_feed 9 = .ok (.i2l, 1) := by decide +kernel
theorem d_LW_feed_10 : decode c_LW_feed 10 = .ok (.lastore, 1) := by decide +kernel
theorem d_LW_feed_11 : decode c_LW_feed 11 = .ok (.goto 11, 3) := by decide +kernel
theorem d_LW_feed_14 : decode c_LW_feed 14 = .ok (.astore 5, 2) := by decide +kernel
theorem d_LW_feed_16 : decode c_LW_feed 16 = .ok (.iconst 1, 1) := by decide +kernel
theorem d_LW_feed_17 : decode c_LW_feed 17 = .ok (.ireturn, 1) := by decide +kernel
theorem d_LW_feed_18 : decode c_LW_feed 18 = .ok (.astore 5, 2) := by decide +kernel
theorem d_LW_feed_20 : decode c_LW_feed 20 = .ok (.iconst 2, 1) := by decide +kernel
theorem d_LW_feed_21 : decode c_LW_feed 21 = .ok (.ireturn, 1) := by decide +kernel
theorem d_LW_feed_22 : decode c_LW_feed 22 = .ok (.iconst 0, 1) := by decide +kernel
theorem d_LW_feed_23 : decode c_LW_feed 23 = .ok (.ireturn, 1) := by decide +kernel
abbrev c_LW_write : ByteArray := method_4_code
abbrev y_LW_write : MethodName := ⟨"StripeFieldLaw", "write", "(LStripeField;I[J)I"⟩
theorem d_LW_write_0 : decode c_LW_write 0 = .ok (.aload_n 2, 1) := by decide +kernel
theorem d_LW_write_1 : decode c_LW_write 1 = .ok (.iconst 0, 1) := by decide +kernel
theorem d_LW_write_2 : decode c_LW_write 2 = .ok (.aload_n 0, 1) := by decide +kernel
theorem d_LW_write_3 : decode c_LW_write 3 = .ok (.iload_n 1, 1) := by decide +kernel
theorem d_LW_write_4 : decode c_LW_write 4 = .ok (.invokevirtual 17, 3) := by decide +kernel
theorem d_LW_write_7 : decode c_LW_write 7 = .ok (.ifCond .eq 7, 3) := by decide +kernel
theorem d_LW_write_10 : decode c_LW_write 10 = .ok (.lconst 1, 1) := by decide +kernel
theorem d_LW_write_11 : decode c_LW_write 11 = .ok (.goto 4, 3) := by decide +kernel
theorem d_LW_write_14 : decode c_LW_write 14 = .ok (.lconst 0, 1) := by decide +kernel
theorem d_LW_write_15 : decode c_LW_write 15 = .ok (.lastore, 1) := by decide +kernel
theorem d_LW_write_16 : decode c_LW_write 16 = .ok (.goto 9, 3) := by decide +kernel
theorem d_LW_write_19 : decode c_LW_write 19 = .ok (.astore_n 3, 1) := by decide +kernel
theorem d_LW_write_20 : decode c_LW_write 20 = .ok (.iconst 1, 1) := by decide +kernel
theorem d_LW_write_21 : decode c_LW_write 21 = .ok (.ireturn, 1) := by decide +kernel
theorem d_LW_write_22 : decode c_LW_write 22 = .ok (.astore_n 3, 1) := by decide +kernel
theorem d_LW_write_23 : decode c_LW_write 23 = .ok (.iconst 2, 1) := by decide +kernel
theorem d_LW_write_24 : decode c_LW_write 24 = .ok (.ireturn, 1) := by decide +kernel
theorem d_LW_write_25 : decode c_LW_write 25 = .ok (.iconst 0, 1) := by decide +kernel
theorem d_LW_write_26 : decode c_LW_write 26 = .ok (.ireturn, 1) := by decide +kernel
abbrev c_LW_read : ByteArray := method_5_code
abbrev y_LW_read : MethodName := ⟨"StripeFieldLaw", "read", "(LStripeField;II[J)I"⟩
theorem d_LW_read_0 : decode c_LW_read 0 = .ok (.aload_n 3, 1) := by decide +kernel
theorem d_LW_read_1 : decode c_LW_read 1 = .ok (.iconst 0, 1) := by decide +kernel
theorem d_LW_read_2 : decode c_LW_read 2 = .ok (.aload_n 0, 1) := by decide +kernel
theorem d_LW_read_3 : decode c_LW_read 3 = .ok (.iload_n 1, 1) := by decide +kernel
theorem d_LW_read_4 : decode c_LW_read 4 = .ok (.iload_n 2, 1) := by decide +kernel
theorem d_LW_read_5 : decode c_LW_read 5 = .ok (.invokevirtual 21, 3) := by decide +kernel
theorem d_LW_read_8 : decode c_LW_read 8 = .ok (.lastore, 1) := by decide +kernel
theorem d_LW_read_9 : decode c_LW_read 9 = .ok (.goto 11, 3) := by decide +kernel
theorem d_LW_read_12 : decode c_LW_read 12 = .ok (.astore 4, 2) := by decide +kernel
theorem d_LW_read_14 : decode c_LW_read 14 = .ok (.iconst 1, 1) := by decide +kernel
theorem d_LW_read_15 : decode c_LW_read 15 = .ok (.ireturn, 1) := by decide +kernel
theorem d_LW_read_16 : decode c_LW_read 16 = .ok (.astore 4, 2) := by decide +kernel
theorem d_LW_read_18 : decode c_LW_read 18 = .ok (.iconst 2, 1) := by decide +kernel
theorem d_LW_read_19 : decode c_LW_read 19 = .ok (.ireturn, 1) := by decide +kernel
theorem d_LW_read_20 : decode c_LW_read 20 = .ok (.iconst 0, 1) := by decide +kernel
theorem d_LW_read_21 : decode c_LW_read 21 = .ok (.ireturn, 1) := by decide +kernel
abbrev c_LW_lose : ByteArray := method_6_code
abbrev y_LW_lose : MethodName := ⟨"StripeFieldLaw", "lose", "(LStripeField;I)I"⟩
theorem d_LW_lose_0 : decode c_LW_lose 0 = .ok (.aload_n 0, 1) := by decide +kernel
theorem d_LW_lose_1 : decode c_LW_lose 1 = .ok (.iload_n 1, 1) := by decide +kernel
theorem d_LW_lose_2 : decode c_LW_lose 2 = .ok (.invokevirtual 25, 3) := by decide +kernel
theorem d_LW_lose_5 : decode c_LW_lose 5 = .ok (.goto 6, 3) := by decide +kernel
theorem d_LW_lose_8 : decode c_LW_lose 8 = .ok (.astore_n 2, 1) := by decide +kernel
theorem d_LW_lose_9 : decode c_LW_lose 9 = .ok (.iconst 1, 1) := by decide +kernel
theorem d_LW_lose_10 : decode c_LW_lose 10 = .ok (.ireturn, 1) := by decide +kernel
theorem d_LW_lose_11 : decode c_LW_lose 11 = .ok (.iconst 0, 1) := by decide +kernel
theorem d_LW_lose_12 : decode c_LW_lose 12 = .ok (.ireturn, 1) := by decide +kernel
abbrev c_LW_off : ByteArray := method_7_code
abbrev y_LW_off : MethodName := ⟨"StripeFieldLaw", "off", "(LStripeField;)I"⟩
theorem d_LW_off_0 : decode c_LW_off 0 = .ok (.aload_n 0, 1) := by decide +kernel
theorem d_LW_off_1 : decode c_LW_off 1 = .ok (.invokevirtual 29, 3) := by decide +kernel
theorem d_LW_off_4 : decode c_LW_off 4 = .ok (.goto 6, 3) := by decide +kernel
theorem d_LW_off_7 : decode c_LW_off 7 = .ok (.astore_n 1, 1) := by decide +kernel
theorem d_LW_off_8 : decode c_LW_off 8 = .ok (.iconst 1, 1) := by decide +kernel
theorem d_LW_off_9 : decode c_LW_off 9 = .ok (.ireturn, 1) := by decide +kernel
theorem d_LW_off_10 : decode c_LW_off 10 = .ok (.iconst 0, 1) := by decide +kernel
theorem d_LW_off_11 : decode c_LW_off 11 = .ok (.ireturn, 1) := by decide +kernel
abbrev c_LW_open : ByteArray := method_8_code
abbrev y_LW_open : MethodName := ⟨"StripeFieldLaw", "open", "(LStripeField;[J)I"⟩
theorem d_LW_open_0 : decode c_LW_open 0 = .ok (.aload_n 1, 1) := by decide +kernel
theorem d_LW_open_1 : decode c_LW_open 1 = .ok (.iconst 0, 1) := by decide +kernel
theorem d_LW_open_2 : decode c_LW_open 2 = .ok (.aload_n 0, 1) := by decide +kernel
theorem d_LW_open_3 : decode c_LW_open 3 = .ok (.invokevirtual 32, 3) := by decide +kernel
theorem d_LW_open_6 : decode c_LW_open 6 = .ok (.ifCond .eq 7, 3) := by decide +kernel
theorem d_LW_open_9 : decode c_LW_open 9 = .ok (.lconst 1, 1) := by decide +kernel
theorem d_LW_open_10 : decode c_LW_open 10 = .ok (.goto 4, 3) := by decide +kernel
theorem d_LW_open_13 : decode c_LW_open 13 = .ok (.lconst 0, 1) := by decide +kernel
theorem d_LW_open_14 : decode c_LW_open 14 = .ok (.lastore, 1) := by decide +kernel
theorem d_LW_open_15 : decode c_LW_open 15 = .ok (.goto 6, 3) := by decide +kernel
theorem d_LW_open_18 : decode c_LW_open 18 = .ok (.astore_n 2, 1) := by decide +kernel
theorem d_LW_open_19 : decode c_LW_open 19 = .ok (.iconst 1, 1) := by decide +kernel
theorem d_LW_open_20 : decode c_LW_open 20 = .ok (.ireturn, 1) := by decide +kernel
theorem d_LW_open_21 : decode c_LW_open 21 = .ok (.iconst 0, 1) := by decide +kernel
theorem d_LW_open_22 : decode c_LW_open 22 = .ok (.ireturn, 1) := by decide +kernel
abbrev c_LW_fail : ByteArray := method_9_code
abbrev y_LW_fail : MethodName := ⟨"StripeFieldLaw", "fail", "(LStripeField;I[J)I"⟩
theorem d_LW_fail_0 : decode c_LW_fail 0 = .ok (.aload_n 2, 1) := by decide +kernel
theorem d_LW_fail_1 : decode c_LW_fail 1 = .ok (.iconst 0, 1) := by decide +kernel
theorem d_LW_fail_2 : decode c_LW_fail 2 = .ok (.aload_n 0, 1) := by decide +kernel
theorem d_LW_fail_3 : decode c_LW_fail 3 = .ok (.iload_n 1, 1) := by decide +kernel
theorem d_LW_fail_4 : decode c_LW_fail 4 = .ok (.invokevirtual 36, 3) := by decide +kernel
theorem d_LW_fail_7 : decode c_LW_fail 7 = .ok (.ifCond .eq 7, 3) := by decide +kernel
theorem d_LW_fail_10 : decode c_LW_fail 10 = .ok (.lconst 1, 1) := by decide +kernel
theorem d_LW_fail_11 : decode c_LW_fail 11 = .ok (.goto 4, 3) := by decide +kernel
theorem d_LW_fail_14 : decode c_LW_fail 14 = .ok (.lconst 0, 1) := by decide +kernel
theorem d_LW_fail_15 : decode c_LW_fail 15 = .ok (.lastore, 1) := by decide +kernel
theorem d_LW_fail_16 : decode c_LW_fail 16 = .ok (.goto 6, 3) := by decide +kernel
theorem d_LW_fail_19 : decode c_LW_fail 19 = .ok (.astore_n 3, 1) := by decide +kernel
theorem d_LW_fail_20 : decode c_LW_fail 20 = .ok (.iconst 1, 1) := by decide +kernel
theorem d_LW_fail_21 : decode c_LW_fail 21 = .ok (.ireturn, 1) := by decide +kernel
theorem d_LW_fail_22 : decode c_LW_fail 22 = .ok (.iconst 0, 1) := by decide +kernel
theorem d_LW_fail_23 : decode c_LW_fail 23 = .ok (.ireturn, 1) := by decide +kernel
abbrev c_LW_replace : ByteArray := method_10_code
abbrev y_LW_replace : MethodName := ⟨"StripeFieldLaw", "replace", "(LStripeField;I[J)I"⟩
theorem d_LW_replace_0 : decode c_LW_replace 0 = .ok (.aload_n 2, 1) := by decide +kernel
theorem d_LW_replace_1 : decode c_LW_replace 1 = .ok (.iconst 0, 1) := by decide +kernel
theorem d_LW_replace_2 : decode c_LW_replace 2 = .ok (.aload_n 0, 1) := by decide +kernel
theorem d_LW_replace_3 : decode c_LW_replace 3 = .ok (.iload_n 1, 1) := by decide +kernel
theorem d_LW_replace_4 : decode c_LW_replace 4 = .ok (.invokevirtual 39, 3) := by decide +kernel
theorem d_LW_replace_7 : decode c_LW_replace 7 = .ok (.ifCond .eq 7, 3) := by decide +kernel
theorem d_LW_replace_10 : decode c_LW_replace 10 = .ok (.lconst 1, 1) := by decide +kernel
theorem d_LW_replace_11 : decode c_LW_replace 11 = .ok (.goto 4, 3) := by decide +kernel
theorem d_LW_replace_14 : decode c_LW_replace 14 = .ok (.lconst 0, 1) := by decide +kernel
theorem d_LW_replace_15 : decode c_LW_replace 15 = .ok (.lastore, 1) := by decide +kernel
theorem d_LW_replace_16 : decode c_LW_replace 16 = .ok (.goto 6, 3) := by decide +kernel
theorem d_LW_replace_19 : decode c_LW_replace 19 = .ok (.astore_n 3, 1) := by decide +kernel
theorem d_LW_replace_20 : decode c_LW_replace 20 = .ok (.iconst 1, 1) := by decide +kernel
theorem d_LW_replace_21 : decode c_LW_replace 21 = .ok (.ireturn, 1) := by decide +kernel
theorem d_LW_replace_22 : decode c_LW_replace 22 = .ok (.iconst 0, 1) := by decide +kernel
theorem d_LW_replace_23 : decode c_LW_replace 23 = .ok (.ireturn, 1) := by decide +kernel
abbrev c_LW_spoil : ByteArray := method_11_code
abbrev y_LW_spoil : MethodName := ⟨"StripeFieldLaw", "spoil", "(LStripeField;IIIIJ[J)I"⟩
theorem d_LW_spoil_0 : decode c_LW_spoil 0 = .ok (.aload 7, 2) := by decide +kernel
theorem d_LW_spoil_2 : decode c_LW_spoil 2 = .ok (.iconst 0, 1) := by decide +kernel
theorem d_LW_spoil_3 : decode c_LW_spoil 3 = .ok (.aload_n 0, 1) := by decide +kernel
theorem d_LW_spoil_4 : decode c_LW_spoil 4 = .ok (.iload_n 1, 1) := by decide +kernel
theorem d_LW_spoil_5 : decode c_LW_spoil 5 = .ok (.iload_n 2, 1) := by decide +kernel
theorem d_LW_spoil_6 : decode c_LW_spoil 6 = .ok (.iload_n 3, 1) := by decide +kernel
theorem d_LW_spoil_7 : decode c_LW_spoil 7 = .ok (.iload 4, 2) := by decide +kernel
theorem d_LW_spoil_9 : decode c_LW_spoil 9 = .ok (.lload 5, 2) := by decide +kernel
theorem d_LW_spoil_11 : decode c_LW_spoil 11 = .ok (.invokevirtual 42, 3) := by decide +kernel
theorem d_LW_spoil_14 : decode c_LW_spoil 14 = .ok (.ifCond .eq 7, 3) := by decide +kernel
theorem d_LW_spoil_17 : decode c_LW_spoil 17 = .ok (.lconst 1, 1) := by decide +kernel
theorem d_LW_spoil_18 : decode c_LW_spoil 18 = .ok (.goto 4, 3) := by decide +kernel
theorem d_LW_spoil_21 : decode c_LW_spoil 21 = .ok (.lconst 0, 1) := by decide +kernel
theorem d_LW_spoil_22 : decode c_LW_spoil 22 = .ok (.lastore, 1) := by decide +kernel
theorem d_LW_spoil_23 : decode c_LW_spoil 23 = .ok (.goto 7, 3) := by decide +kernel
theorem d_LW_spoil_26 : decode c_LW_spoil 26 = .ok (.astore 8, 2) := by decide +kernel
theorem d_LW_spoil_28 : decode c_LW_spoil 28 = .ok (.iconst 1, 1) := by decide +kernel
theorem d_LW_spoil_29 : decode c_LW_spoil 29 = .ok (.ireturn, 1) := by decide +kernel
theorem d_LW_spoil_30 : decode c_LW_spoil 30 = .ok (.iconst 0, 1) := by decide +kernel
theorem d_LW_spoil_31 : decode c_LW_spoil 31 = .ok (.ireturn, 1) := by decide +kernel
abbrev c_LW_rebuild : ByteArray := method_12_code
abbrev y_LW_rebuild : MethodName := ⟨"StripeFieldLaw", "rebuild", "(LStripeField;[J)I"⟩
theorem d_LW_rebuild_0 : decode c_LW_rebuild 0 = .ok (.aload_n 1, 1) := by decide +kernel
theorem d_LW_rebuild_1 : decode c_LW_rebuild 1 = .ok (.iconst 0, 1) := by decide +kernel
theorem d_LW_rebuild_2 : decode c_LW_rebuild 2 = .ok (.aload_n 0, 1) := by decide +kernel
theorem d_LW_rebuild_3 : decode c_LW_rebuild 3 = .ok (.invokevirtual 46, 3) := by decide +kernel
theorem d_LW_rebuild_6 : decode c_LW_rebuild 6 = .ok (.i2l, 1) := by decide +kernel
theorem d_LW_rebuild_7 : decode c_LW_rebuild 7 = .ok (.lastore, 1) := by decide +kernel
theorem d_LW_rebuild_8 : decode c_LW_rebuild 8 = .ok (.goto 6, 3) := by decide +kernel
theorem d_LW_rebuild_11 : decode c_LW_rebuild 11 = .ok (.astore_n 2, 1) := by decide +kernel
theorem d_LW_rebuild_12 : decode c_LW_rebuild 12 = .ok (.iconst 1, 1) := by decide +kernel
theorem d_LW_rebuild_13 : decode c_LW_rebuild 13 = .ok (.ireturn, 1) := by decide +kernel
theorem d_LW_rebuild_14 : decode c_LW_rebuild 14 = .ok (.iconst 0, 1) := by decide +kernel
theorem d_LW_rebuild_15 : decode c_LW_rebuild 15 = .ok (.ireturn, 1) := by decide +kernel
abbrev c_LW_copyBack : ByteArray := method_13_code
abbrev y_LW_copyBack : MethodName := ⟨"StripeFieldLaw", "copyBack", "(LStripeField;[J)I"⟩
theorem d_LW_copyBack_0 : decode c_LW_copyBack 0 = .ok (.aload_n 1, 1) := by decide +kernel
theorem d_LW_copyBack_1 : decode c_LW_copyBack 1 = .ok (.iconst 0, 1) := by decide +kernel
theorem d_LW_copyBack_2 : decode c_LW_copyBack 2 = .ok (.aload_n 0, 1) := by decide +kernel
theorem d_LW_copyBack_3 : decode c_LW_copyBack 3 = .ok (.invokevirtual 50, 3) := by decide +kernel
theorem d_LW_copyBack_6 : decode c_LW_copyBack 6 = .ok (.i2l, 1) := by decide +kernel
theorem d_LW_copyBack_7 : decode c_LW_copyBack 7 = .ok (.lastore, 1) := by decide +kernel
theorem d_LW_copyBack_8 : decode c_LW_copyBack 8 = .ok (.goto 6, 3) := by decide +kernel
theorem d_LW_copyBack_11 : decode c_LW_copyBack 11 = .ok (.astore_n 2, 1) := by decide +kernel
theorem d_LW_copyBack_12 : decode c_LW_copyBack 12 = .ok (.iconst 1, 1) := by decide +kernel
theorem d_LW_copyBack_13 : decode c_LW_copyBack 13 = .ok (.ireturn, 1) := by decide +kernel
theorem d_LW_copyBack_14 : decode c_LW_copyBack 14 = .ok (.iconst 0, 1) := by decide +kernel
theorem d_LW_copyBack_15 : decode c_LW_copyBack 15 = .ok (.ireturn, 1) := by decide +kernel
abbrev c_LW_scrub : ByteArray := method_14_code
abbrev y_LW_scrub : MethodName := ⟨"StripeFieldLaw", "scrub", "(LStripeField;[J)I"⟩
theorem d_LW_scrub_0 : decode c_LW_scrub 0 = .ok (.aload_n 1, 1) := by decide +kernel
theorem d_LW_scrub_1 : decode c_LW_scrub 1 = .ok (.iconst 0, 1) := by decide +kernel
theorem d_LW_scrub_2 : decode c_LW_scrub 2 = .ok (.aload_n 0, 1) := by decide +kernel
theorem d_LW_scrub_3 : decode c_LW_scrub 3 = .ok (.invokevirtual 53, 3) := by decide +kernel
theorem d_LW_scrub_6 : decode c_LW_scrub 6 = .ok (.i2l, 1) := by decide +kernel
theorem d_LW_scrub_7 : decode c_LW_scrub 7 = .ok (.lastore, 1) := by decide +kernel
theorem d_LW_scrub_8 : decode c_LW_scrub 8 = .ok (.goto 6, 3) := by decide +kernel
theorem d_LW_scrub_11 : decode c_LW_scrub 11 = .ok (.astore_n 2, 1) := by decide +kernel
theorem d_LW_scrub_12 : decode c_LW_scrub 12 = .ok (.iconst 1, 1) := by decide +kernel
theorem d_LW_scrub_13 : decode c_LW_scrub 13 = .ok (.ireturn, 1) := by decide +kernel
theorem d_LW_scrub_14 : decode c_LW_scrub 14 = .ok (.iconst 0, 1) := by decide +kernel
theorem d_LW_scrub_15 : decode c_LW_scrub 15 = .ok (.ireturn, 1) := by decide +kernel
abbrev c_LW_look : ByteArray := method_15_code
abbrev y_LW_look : MethodName := ⟨"StripeFieldLaw", "look", "(LStripeField;I[J)I"⟩
theorem d_LW_look_0 : decode c_LW_look 0 = .ok (.aload_n 2, 1) := by decide +kernel
theorem d_LW_look_1 : decode c_LW_look 1 = .ok (.iconst 0, 1) := by decide +kernel
theorem d_LW_look_2 : decode c_LW_look 2 = .ok (.aload_n 0, 1) := by decide +kernel
theorem d_LW_look_3 : decode c_LW_look 3 = .ok (.iload_n 1, 1) := by decide +kernel
theorem d_LW_look_4 : decode c_LW_look 4 = .ok (.invokevirtual 56, 3) := by decide +kernel
theorem d_LW_look_7 : decode c_LW_look 7 = .ok (.i2l, 1) := by decide +kernel
theorem d_LW_look_8 : decode c_LW_look 8 = .ok (.lastore, 1) := by decide +kernel
theorem d_LW_look_9 : decode c_LW_look 9 = .ok (.goto 6, 3) := by decide +kernel
theorem d_LW_look_12 : decode c_LW_look 12 = .ok (.astore_n 3, 1) := by decide +kernel
theorem d_LW_look_13 : decode c_LW_look 13 = .ok (.iconst 1, 1) := by decide +kernel
theorem d_LW_look_14 : decode c_LW_look 14 = .ok (.ireturn, 1) := by decide +kernel
theorem d_LW_look_15 : decode c_LW_look 15 = .ok (.iconst 0, 1) := by decide +kernel
theorem d_LW_look_16 : decode c_LW_look 16 = .ok (.ireturn, 1) := by decide +kernel
abbrev c_LW_place : ByteArray := method_16_code
abbrev y_LW_place : MethodName := ⟨"StripeFieldLaw", "place", "(LStripeField;II[J)I"⟩
theorem d_LW_place_0 : decode c_LW_place 0 = .ok (.aload_n 3, 1) := by decide +kernel
theorem d_LW_place_1 : decode c_LW_place 1 = .ok (.iconst 0, 1) := by decide +kernel
theorem d_LW_place_2 : decode c_LW_place 2 = .ok (.aload_n 0, 1) := by decide +kernel
theorem d_LW_place_3 : decode c_LW_place 3 = .ok (.iload_n 1, 1) := by decide +kernel
theorem d_LW_place_4 : decode c_LW_place 4 = .ok (.iload_n 2, 1) := by decide +kernel
theorem d_LW_place_5 : decode c_LW_place 5 = .ok (.invokevirtual 60, 3) := by decide +kernel
theorem d_LW_place_8 : decode c_LW_place 8 = .ok (.i2l, 1) := by decide +kernel
theorem d_LW_place_9 : decode c_LW_place 9 = .ok (.lastore, 1) := by decide +kernel
theorem d_LW_place_10 : decode c_LW_place 10 = .ok (.goto 7, 3) := by decide +kernel
theorem d_LW_place_13 : decode c_LW_place 13 = .ok (.astore 4, 2) := by decide +kernel
theorem d_LW_place_15 : decode c_LW_place 15 = .ok (.iconst 1, 1) := by decide +kernel
theorem d_LW_place_16 : decode c_LW_place 16 = .ok (.ireturn, 1) := by decide +kernel
theorem d_LW_place_17 : decode c_LW_place 17 = .ok (.iconst 0, 1) := by decide +kernel
theorem d_LW_place_18 : decode c_LW_place 18 = .ok (.ireturn, 1) := by decide +kernel
abbrev c_LW_law : ByteArray := code
abbrev y_LW_law : MethodName := ⟨"StripeFieldLaw", "law", "([I)Z"⟩
theorem d_LW_law_0 : decode c_LW_law 0 = .ok (.new 8, 3) := by decide +kernel
theorem d_LW_law_3 : decode c_LW_law 3 = .ok (.dup, 1) := by decide +kernel
theorem d_LW_law_4 : decode c_LW_law 4 = .ok (.aload_n 0, 1) := by decide +kernel
theorem d_LW_law_5 : decode c_LW_law 5 = .ok (.iconst 0, 1) := by decide +kernel
theorem d_LW_law_6 : decode c_LW_law 6 = .ok (.invokestatic 64, 3) := by decide +kernel
theorem d_LW_law_9 : decode c_LW_law 9 = .ok (.aload_n 0, 1) := by decide +kernel
theorem d_LW_law_10 : decode c_LW_law 10 = .ok (.iconst 1, 1) := by decide +kernel
theorem d_LW_law_11 : decode c_LW_law 11 = .ok (.invokestatic 64, 3) := by decide +kernel
theorem d_LW_law_14 : decode c_LW_law 14 = .ok (.aload_n 0, 1) := by decide +kernel
theorem d_LW_law_15 : decode c_LW_law 15 = .ok (.iconst 2, 1) := by decide +kernel
theorem d_LW_law_16 : decode c_LW_law 16 = .ok (.invokestatic 64, 3) := by decide +kernel
theorem d_LW_law_19 : decode c_LW_law 19 = .ok (.invokespecial 70, 3) := by decide +kernel
theorem d_LW_law_22 : decode c_LW_law 22 = .ok (.astore_n 1, 1) := by decide +kernel
theorem d_LW_law_23 : decode c_LW_law 23 = .ok (.new 73, 3) := by decide +kernel
theorem d_LW_law_26 : decode c_LW_law 26 = .ok (.dup, 1) := by decide +kernel
theorem d_LW_law_27 : decode c_LW_law 27 = .ok (.aload_n 0, 1) := by decide +kernel
theorem d_LW_law_28 : decode c_LW_law 28 = .ok (.iconst 0, 1) := by decide +kernel
theorem d_LW_law_29 : decode c_LW_law 29 = .ok (.invokestatic 64, 3) := by decide +kernel
theorem d_LW_law_32 : decode c_LW_law 32 = .ok (.aload_n 0, 1) := by decide +kernel
theorem d_LW_law_33 : decode c_LW_law 33 = .ok (.iconst 1, 1) := by decide +kernel
theorem d_LW_law_34 : decode c_LW_law 34 = .ok (.invokestatic 64, 3) := by decide +kernel
theorem d_LW_law_37 : decode c_LW_law 37 = .ok (.aload_n 0, 1) := by decide +kernel
theorem d_LW_law_38 : decode c_LW_law 38 = .ok (.iconst 2, 1) := by decide +kernel
theorem d_LW_law_39 : decode c_LW_law 39 = .ok (.invokestatic 64, 3) := by decide +kernel
theorem d_LW_law_42 : decode c_LW_law 42 = .ok (.invokespecial 75, 3) := by decide +kernel
theorem d_LW_law_45 : decode c_LW_law 45 = .ok (.astore_n 2, 1) := by decide +kernel
theorem d_LW_law_46 : decode c_LW_law 46 = .ok (.iconst 1, 1) := by decide +kernel
theorem d_LW_law_47 : decode c_LW_law 47 = .ok (.newarray .long, 2) := by decide +kernel
theorem d_LW_law_49 : decode c_LW_law 49 = .ok (.astore_n 3, 1) := by decide +kernel
theorem d_LW_law_50 : decode c_LW_law 50 = .ok (.iconst 3, 1) := by decide +kernel
theorem d_LW_law_51 : decode c_LW_law 51 = .ok (.istore 4, 2) := by decide +kernel
theorem d_LW_law_53 : decode c_LW_law 53 = .ok (.iload 4, 2) := by decide +kernel
theorem d_LW_law_55 : decode c_LW_law 55 = .ok (.aload_n 0, 1) := by decide +kernel
theorem d_LW_law_56 : decode c_LW_law 56 = .ok (.arraylength, 1) := by decide +kernel
theorem d_LW_law_57 : decode c_LW_law 57 = .ok (.bipush 7, 2) := by decide +kernel
theorem d_LW_law_59 : decode c_LW_law 59 = .ok (.isub, 1) := by decide +kernel
theorem d_LW_law_60 : decode c_LW_law 60 = .ok (.if_icmp .gt 954, 3) := by decide +kernel
theorem d_LW_law_63 : decode c_LW_law 63 = .ok (.aload_n 0, 1) := by decide +kernel
theorem d_LW_law_64 : decode c_LW_law 64 = .ok (.iload 4, 2) := by decide +kernel
theorem d_LW_law_66 : decode c_LW_law 66 = .ok (.iaload, 1) := by decide +kernel
theorem d_LW_law_67 : decode c_LW_law 67 = .ok (.bipush 15, 2) := by decide +kernel
theorem d_LW_law_69 : decode c_LW_law 69 = .ok (.iand, 1) := by decide +kernel
theorem d_LW_law_70 : decode c_LW_law 70 = .ok (.tableswitch 938 0 13 #[70, 170, 233, 300, 336, 360, 411, 474, 537, 682, 726, 770, 814, 870], 70) := by decide +kernel
theorem d_LW_law_140 : decode c_LW_law 140 = .ok (.aload_n 1, 1) := by decide +kernel
theorem d_LW_law_141 : decode c_LW_law 141 = .ok (.aload_n 0, 1) := by decide +kernel
theorem d_LW_law_142 : decode c_LW_law 142 = .ok (.iload 4, 2) := by decide +kernel
theorem d_LW_law_144 : decode c_LW_law 144 = .ok (.iconst 1, 1) := by decide +kernel
theorem d_LW_law_145 : decode c_LW_law 145 = .ok (.iadd, 1) := by decide +kernel
theorem d_LW_law_146 : decode c_LW_law 146 = .ok (.iaload, 1) := by decide +kernel
theorem d_LW_law_147 : decode c_LW_law 147 = .ok (.aload_n 0, 1) := by decide +kernel
theorem d_LW_law_148 : decode c_LW_law 148 = .ok (.iload 4, 2) := by decide +kernel
theorem d_LW_law_150 : decode c_LW_law 150 = .ok (.iconst 2, 1) := by decide +kernel
theorem d_LW_law_151 : decode c_LW_law 151 = .ok (.iadd, 1) := by decide +kernel
theorem d_LW_law_152 : decode c_LW_law 152 = .ok (.iaload, 1) := by decide +kernel
theorem d_LW_law_153 : decode c_LW_law 153 = .ok (.i2l, 1) := by decide +kernel
theorem d_LW_law_154 : decode c_LW_law 154 = .ok (.bipush 32, 2) := by decide +kernel
theorem d_LW_law_156 : decode c_LW_law 156 = .ok (.lshl, 1) := by decide +kernel
theorem d_LW_law_157 : decode c_LW_law 157 = .ok (.aload_n 0, 1) := by decide +kernel
theorem d_LW_law_158 : decode c_LW_law 158 = .ok (.iload 4, 2) := by decide +kernel
theorem d_LW_law_160 : decode c_LW_law 160 = .ok (.iconst 3, 1) := by decide +kernel
theorem d_LW_law_161 : decode c_LW_law 161 = .ok (.iadd, 1) := by decide +kernel
theorem d_LW_law_162 : decode c_LW_law 162 = .ok (.iaload, 1) := by decide +kernel
theorem d_LW_law_163 : decode c_LW_law 163 = .ok (.i2l, 1) := by decide +kernel
theorem d_LW_law_164 : decode c_LW_law 164 = .ok (.ldc2_w 76, 3) := by decide +kernel
theorem d_LW_law_167 : decode c_LW_law 167 = .ok (.land, 1) := by decide +kernel
theorem d_LW_law_168 : decode c_LW_law 168 = .ok (.lor, 1) := by decide +kernel
theorem d_LW_law_169 : decode c_LW_law 169 = .ok (.aload_n 3, 1) := by decide +kernel
theorem d_LW_law_170 : decode c_LW_law 170 = .ok (.invokestatic 78, 3) := by decide +kernel
theorem d_LW_law_173 : decode c_LW_law 173 = .ok (.istore 5, 2) := by decide +kernel
theorem d_LW_law_175 : decode c_LW_law 175 = .ok (.aload_n 2, 1) := by decide +kernel
theorem d_LW_law_176 : decode c_LW_law 176 = .ok (.aload_n 0, 1) := by decide +kernel
theorem d_LW_law_177 : decode c_LW_law 177 = .ok (.iload 4, 2) := by decide +kernel
theorem d_LW_law_179 : decode c_LW_law 179 = .ok (.iconst 1, 1) := by decide +kernel
theorem d_LW_law_180 : decode c_LW_law 180 = .ok (.iadd, 1) := by decide +kernel
theorem d_LW_law_181 : decode c_LW_law 181 = .ok (.iaload, 1) := by decide +kernel
theorem d_LW_law_182 : decode c_LW_law 182 = .ok (.aload_n 0, 1) := by decide +kernel
theorem d_LW_law_183 : decode c_LW_law 183 = .ok (.iload 4, 2) := by decide +kernel
theorem d_LW_law_185 : decode c_LW_law 185 = .ok (.iconst 2, 1) := by decide +kernel
theorem d_LW_law_186 : decode c_LW_law 186 = .ok (.iadd, 1) := by decide +kernel
theorem d_LW_law_187 : decode c_LW_law 187 = .ok (.iaload, 1) := by decide +kernel
theorem d_LW_law_188 : decode c_LW_law 188 = .ok (.i2l, 1) := by decide +kernel
theorem d_LW_law_189 : decode c_LW_law 189 = .ok (.bipush 32, 2) := by decide +kernel
theorem d_LW_law_191 : decode c_LW_law 191 = .ok (.lshl, 1) := by decide +kernel
theorem d_LW_law_192 : decode c_LW_law 192 = .ok (.aload_n 0, 1) := by decide +kernel
theorem d_LW_law_193 : decode c_LW_law 193 = .ok (.iload 4, 2) := by decide +kernel
theorem d_LW_law_195 : decode c_LW_law 195 = .ok (.iconst 3, 1) := by decide +kernel
theorem d_LW_law_196 : decode c_LW_law 196 = .ok (.iadd, 1) := by decide +kernel
theorem d_LW_law_197 : decode c_LW_law 197 = .ok (.iaload, 1) := by decide +kernel
theorem d_LW_law_198 : decode c_LW_law 198 = .ok (.i2l, 1) := by decide +kernel
theorem d_LW_law_199 : decode c_LW_law 199 = .ok (.ldc2_w 76, 3) := by decide +kernel
theorem d_LW_law_202 : decode c_LW_law 202 = .ok (.land, 1) := by decide +kernel
theorem d_LW_law_203 : decode c_LW_law 203 = .ok (.lor, 1) := by decide +kernel
theorem d_LW_law_204 : decode c_LW_law 204 = .ok (.invokevirtual 81, 3) := by decide +kernel
theorem d_LW_law_207 : decode c_LW_law 207 = .ok (.istore 6, 2) := by decide +kernel
theorem d_LW_law_209 : decode c_LW_law 209 = .ok (.aload_n 2, 1) := by decide +kernel
theorem d_LW_law_210 : decode c_LW_law 210 = .ok (.invokevirtual 82, 3) := by decide +kernel
theorem d_LW_law_213 : decode c_LW_law 213 = .ok (.iload 5, 2) := by decide +kernel
theorem d_LW_law_215 : decode c_LW_law 215 = .ok (.if_icmp .eq 5, 3) := by decide +kernel
theorem d_LW_law_218 : decode c_LW_law 218 = .ok (.iconst 0, 1) := by decide +kernel
theorem d_LW_law_219 : decode c_LW_law 219 = .ok (.ireturn, 1) := by decide +kernel
theorem d_LW_law_220 : decode c_LW_law 220 = .ok (.iload 5, 2) := by decide +kernel
theorem d_LW_law_222 : decode c_LW_law 222 = .ok (.ifCond .ne 15, 3) := by decide +kernel
theorem d_LW_law_225 : decode c_LW_law 225 = .ok (.aload_n 3, 1) := by decide +kernel
theorem d_LW_law_226 : decode c_LW_law 226 = .ok (.iconst 0, 1) := by decide +kernel
theorem d_LW_law_227 : decode c_LW_law 227 = .ok (.laload, 1) := by decide +kernel
theorem d_LW_law_228 : decode c_LW_law 228 = .ok (.iload 6, 2) := by decide +kernel
theorem d_LW_law_230 : decode c_LW_law 230 = .ok (.i2l, 1) := by decide +kernel
theorem d_LW_law_231 : decode c_LW_law 231 = .ok (.lcmp, 1) := by decide +kernel
theorem d_LW_law_232 : decode c_LW_law 232 = .ok (.ifCond .eq 5, 3) := by decide +kernel
theorem d_LW_law_235 : decode c_LW_law 235 = .ok (.iconst 0, 1) := by decide +kernel
theorem d_LW_law_236 : decode c_LW_law 236 = .ok (.ireturn, 1) := by decide +kernel
theorem d_LW_law_237 : decode c_LW_law 237 = .ok (.goto 771, 3) := by decide +kernel
theorem d_LW_law_240 : decode c_LW_law 240 = .ok (.aload_n 1, 1) := by decide +kernel
theorem d_LW_law_241 : decode c_LW_law 241 = .ok (.aload_n 0, 1) := by decide +kernel
theorem d_LW_law_242 : decode c_LW_law 242 = .ok (.iload 4, 2) := by decide +kernel
theorem d_LW_law_244 : decode c_LW_law 244 = .ok (.iconst 1, 1) := by decide +kernel
theorem d_LW_law_245 : decode c_LW_law 245 = .ok (.iadd, 1) := by decide +kernel
theorem d_LW_law_246 : decode c_LW_law 246 = .ok (.iaload, 1) := by decide +kernel
theorem d_LW_law_247 : decode c_LW_law 247 = .ok (.aload_n 3, 1) := by decide +kernel
theorem d_LW_law_248 : decode c_LW_law 248 = .ok (.invokestatic 85, 3) := by decide +kernel
theorem d_LW_law_251 : decode c_LW_law 251 = .ok (.istore 5, 2) := by decide +kernel
theorem d_LW_law_253 : decode c_LW_law 253 = .ok (.aload_n 2, 1) := by decide +kernel
theorem d_LW_law_254 : decode c_LW_law 254 = .ok (.aload_n 0, 1) := by decide +kernel
theorem d_LW_law_255 : decode c_LW_law 255 = .ok (.iload 4, 2) := by decide +kernel
theorem d_LW_law_257 : decode c_LW_law 257 = .ok (.iconst 1, 1) := by decide +kernel
theorem d_LW_law_258 : decode c_LW_law 258 = .ok (.iadd, 1) := by decide +kernel
theorem d_LW_law_259 : decode c_LW_law 259 = .ok (.iaload, 1) := by decide +kernel
theorem d_LW_law_260 : decode c_LW_law 260 = .ok (.invokevirtual 88, 3) := by decide +kernel
theorem d_LW_law_263 : decode c_LW_law 263 = .ok (.istore 6, 2) := by decide +kernel
theorem d_LW_law_265 : decode c_LW_law 265 = .ok (.aload_n 2, 1) := by decide +kernel
theorem d_LW_law_266 : decode c_LW_law 266 = .ok (.invokevirtual 82, 3) := by decide +kernel
theorem d_LW_law_269 : decode c_LW_law 269 = .ok (.iload 5, 2) := by decide +kernel
theorem d_LW_law_271 : decode c_LW_law 271 = .ok (.if_icmp .eq 5, 3) := by decide +kernel
theorem d_LW_law_274 : decode c_LW_law 274 = .ok (.iconst 0, 1) := by decide +kernel
theorem d_LW_law_275 : decode c_LW_law 275 = .ok (.ireturn, 1) := by decide +kernel
theorem d_LW_law_276 : decode c_LW_law 276 = .ok (.iload 5, 2) := by decide +kernel
theorem d_LW_law_278 : decode c_LW_law 278 = .ok (.ifCond .ne 22, 3) := by decide +kernel
theorem d_LW_law_281 : decode c_LW_law 281 = .ok (.aload_n 3, 1) := by decide +kernel
theorem d_LW_law_282 : decode c_LW_law 282 = .ok (.iconst 0, 1) := by decide +kernel
theorem d_LW_law_283 : decode c_LW_law 283 = .ok (.laload, 1) := by decide +kernel
theorem d_LW_law_284 : decode c_LW_law 284 = .ok (.iload 6, 2) := by decide +kernel
theorem d_LW_law_286 : decode c_LW_law 286 = .ok (.ifCond .eq 7, 3) := by decide +kernel
theorem d_LW_law_289 : decode c_LW_law 289 = .ok (.lconst 1, 1) := by decide +kernel
theorem d_LW_law_290 : decode c_LW_law 290 = .ok (.goto 4, 3) := by decide +kernel
theorem d_LW_law_293 : decode c_LW_law 293 = .ok (.lconst 0, 1) := by decide +kernel
theorem d_LW_law_294 : decode c_LW_law 294 = .ok (.lcmp, 1) := by decide +kernel
theorem d_LW_law_295 : decode c_LW_law 295 = .ok (.ifCond .eq 5, 3) := by decide +kernel
theorem d_LW_law_298 : decode c_LW_law 298 = .ok (.iconst 0, 1) := by decide +kernel
theorem d_LW_law_299 : decode c_LW_law 299 = .ok (.ireturn, 1) := by decide +kernel
theorem d_LW_law_300 : decode c_LW_law 300 = .ok (.goto 708, 3) := by decide +kernel
theorem d_LW_law_303 : decode c_LW_law 303 = .ok (.aload_n 1, 1) := by decide +kernel
theorem d_LW_law_304 : decode c_LW_law 304 = .ok (.aload_n 0, 1) := by decide +kernel
theorem d_LW_law_305 : decode c_LW_law 305 = .ok (.iload 4, 2) := by decide +kernel
theorem d_LW_law_307 : decode c_LW_law 307 = .ok (.iconst 1, 1) := by decide +kernel
theorem d_LW_law_308 : decode c_LW_law 308 = .ok (.iadd, 1) := by decide +kernel
theorem d_LW_law_309 : decode c_LW_law 309 = .ok (.iaload, 1) := by decide +kernel
theorem d_LW_law_310 : decode c_LW_law 310 = .ok (.aload_n 0, 1) := by decide +kernel
theorem d_LW_law_311 : decode c_LW_law 311 = .ok (.iload 4, 2) := by decide +kernel
theorem d_LW_law_313 : decode c_LW_law 313 = .ok (.iconst 2, 1) := by decide +kernel
theorem d_LW_law_314 : decode c_LW_law 314 = .ok (.iadd, 1) := by decide +kernel
theorem d_LW_law_315 : decode c_LW_law 315 = .ok (.iaload, 1) := by decide +kernel
theorem d_LW_law_316 : decode c_LW_law 316 = .ok (.aload_n 3, 1) := by decide +kernel
theorem d_LW_law_317 : decode c_LW_law 317 = .ok (.invokestatic 89, 3) := by decide +kernel
theorem d_LW_law_320 : decode c_LW_law 320 = .ok (.istore 5, 2) := by decide +kernel
theorem d_LW_law_322 : decode c_LW_law 322 = .ok (.aload_n 2, 1) := by decide +kernel
theorem d_LW_law_323 : decode c_LW_law 323 = .ok (.aload_n 0, 1) := by decide +kernel
theorem d_LW_law_324 : decode c_LW_law 324 = .ok (.iload 4, 2) := by decide +kernel
theorem d_LW_law_326 : decode c_LW_law 326 = .ok (.iconst 1, 1) := by decide +kernel
theorem d_LW_law_327 : decode c_LW_law 327 = .ok (.iadd, 1) := by decide +kernel
theorem d_LW_law_328 : decode c_LW_law 328 = .ok (.iaload, 1) := by decide +kernel
theorem d_LW_law_329 : decode c_LW_law 329 = .ok (.aload_n 0, 1) := by decide +kernel
theorem d_LW_law_330 : decode c_LW_law 330 = .ok (.iload 4, 2) := by decide +kernel
theorem d_LW_law_332 : decode c_LW_law 332 = .ok (.iconst 2, 1) := by decide +kernel
theorem d_LW_law_333 : decode c_LW_law 333 = .ok (.iadd, 1) := by decide +kernel
theorem d_LW_law_334 : decode c_LW_law 334 = .ok (.iaload, 1) := by decide +kernel
theorem d_LW_law_335 : decode c_LW_law 335 = .ok (.invokevirtual 92, 3) := by decide +kernel
theorem d_LW_law_338 : decode c_LW_law 338 = .ok (.lstore 6, 2) := by decide +kernel
theorem d_LW_law_340 : decode c_LW_law 340 = .ok (.aload_n 2, 1) := by decide +kernel
theorem d_LW_law_341 : decode c_LW_law 341 = .ok (.invokevirtual 82, 3) := by decide +kernel
theorem d_LW_law_344 : decode c_LW_law 344 = .ok (.iload 5, 2) := by decide +kernel
theorem d_LW_law_346 : decode c_LW_law 346 = .ok (.if_icmp .eq 5, 3) := by decide +kernel
theorem d_LW_law_349 : decode c_LW_law 349 = .ok (.iconst 0, 1) := by decide +kernel
theorem d_LW_law_350 : decode c_LW_law 350 = .ok (.ireturn, 1) := by decide +kernel
theorem d_LW_law_351 : decode c_LW_law 351 = .ok (.iload 5, 2) := by decide +kernel
theorem d_LW_law_353 : decode c_LW_law 353 = .ok (.ifCond .ne 14, 3) := by decide +kernel
theorem d_LW_law_356 : decode c_LW_law 356 = .ok (.aload_n 3, 1) := by decide +kernel
theorem d_LW_law_357 : decode c_LW_law 357 = .ok (.iconst 0, 1) := by decide +kernel
theorem d_LW_law_358 : decode c_LW_law 358 = .ok (.laload, 1) := by decide +kernel
theorem d_LW_law_359 : decode c_LW_law 359 = .ok (.lload 6, 2) := by decide +kernel
theorem d_LW_law_361 : decode c_LW_law 361 = .ok (.lcmp, 1) := by decide +kernel
theorem d_LW_law_362 : decode c_LW_law 362 = .ok (.ifCond .eq 5, 3) := by decide +kernel
theorem d_LW_law_365 : decode c_LW_law 365 = .ok (.iconst 0, 1) := by decide +kernel
theorem d_LW_law_366 : decode c_LW_law 366 = .ok (.ireturn, 1) := by decide +kernel
theorem d_LW_law_367 : decode c_LW_law 367 = .ok (.goto 641, 3) := by decide +kernel
theorem d_LW_law_370 : decode c_LW_law 370 = .ok (.aload_n 1, 1) := by decide +kernel
theorem d_LW_law_371 : decode c_LW_law 371 = .ok (.aload_n 0, 1) := by decide +kernel
theorem d_LW_law_372 : decode c_LW_law 372 = .ok (.iload 4, 2) := by decide +kernel
theorem d_LW_law_374 : decode c_LW_law 374 = .ok (.iconst 1, 1) := by decide +kernel
theorem d_LW_law_375 : decode c_LW_law 375 = .ok (.iadd, 1) := by decide +kernel
theorem d_LW_law_376 : decode c_LW_law 376 = .ok (.iaload, 1) := by decide +kernel
theorem d_LW_law_377 : decode c_LW_law 377 = .ok (.invokestatic 93, 3) := by decide +kernel
theorem d_LW_law_380 : decode c_LW_law 380 = .ok (.istore 5, 2) := by decide +kernel
theorem d_LW_law_382 : decode c_LW_law 382 = .ok (.aload_n 2, 1) := by decide +kernel
theorem d_LW_law_383 : decode c_LW_law 383 = .ok (.aload_n 0, 1) := by decide +kernel
theorem d_LW_law_384 : decode c_LW_law 384 = .ok (.iload 4, 2) := by decide +kernel
theorem d_LW_law_386 : decode c_LW_law 386 = .ok (.iconst 1, 1) := by decide +kernel
theorem d_LW_law_387 : decode c_LW_law 387 = .ok (.iadd, 1) := by decide +kernel
theorem d_LW_law_388 : decode c_LW_law 388 = .ok (.iaload, 1) := by decide +kernel
theorem d_LW_law_389 : decode c_LW_law 389 = .ok (.invokevirtual 96, 3) := by decide +kernel
theorem d_LW_law_392 : decode c_LW_law 392 = .ok (.aload_n 2, 1) := by decide +kernel
theorem d_LW_law_393 : decode c_LW_law 393 = .ok (.invokevirtual 82, 3) := by decide +kernel
theorem d_LW_law_396 : decode c_LW_law 396 = .ok (.iload 5, 2) := by decide +kernel
theorem d_LW_law_398 : decode c_LW_law 398 = .ok (.if_icmp .eq 5, 3) := by decide +kernel
theorem d_LW_law_401 : decode c_LW_law 401 = .ok (.iconst 0, 1) := by decide +kernel
theorem d_LW_law_402 : decode c_LW_law 402 = .ok (.ireturn, 1) := by decide +kernel
theorem d_LW_law_403 : decode c_LW_law 403 = .ok (.goto 605, 3) := by decide +kernel
theorem d_LW_law_406 : decode c_LW_law 406 = .ok (.aload_n 1, 1) := by decide +kernel
theorem d_LW_law_407 : decode c_LW_law 407 = .ok (.invokestatic 97, 3) := by decide +kernel
theorem d_LW_law_410 : decode c_LW_law 410 = .ok (.istore 5, 2) := by decide +kernel
theorem d_LW_law_412 : decode c_LW_law 412 = .ok (.aload_n 2, 1) := by decide +kernel
theorem d_LW_law_413 : decode c_LW_law 413 = .ok (.invokevirtual 100, 3) := by decide +kernel
theorem d_LW_law_416 : decode c_LW_law 416 = .ok (.aload_n 2, 1) := by decide +kernel
theorem d_LW_law_417 : decode c_LW_law 417 = .ok (.invokevirtual 82, 3) := by decide +kernel
theorem d_LW_law_420 : decode c_LW_law 420 = .ok (.iload 5, 2) := by decide +kernel
theorem d_LW_law_422 : decode c_LW_law 422 = .ok (.if_icmp .eq 5, 3) := by decide +kernel
theorem d_LW_law_425 : decode c_LW_law 425 = .ok (.iconst 0, 1) := by decide +kernel
theorem d_LW_law_426 : decode c_LW_law 426 = .ok (.ireturn, 1) := by decide +kernel
theorem d_LW_law_427 : decode c_LW_law 427 = .ok (.goto 581, 3) := by decide +kernel
theorem d_LW_law_430 : decode c_LW_law 430 = .ok (.aload_n 1, 1) := by decide +kernel
theorem d_LW_law_431 : decode c_LW_law 431 = .ok (.aload_n 3, 1) := by decide +kernel
theorem d_LW_law_432 : decode c_LW_law 432 = .ok (.invokestatic 101, 3) := by decide +kernel
theorem d_LW_law_435 : decode c_LW_law 435 = .ok (.istore 5, 2) := by decide +kernel
theorem d_LW_law_437 : decode c_LW_law 437 = .ok (.aload_n 2, 1) := by decide +kernel
theorem d_LW_law_438 : decode c_LW_law 438 = .ok (.invokevirtual 104, 3) := by decide +kernel
theorem d_LW_law_441 : decode c_LW_law 441 = .ok (.istore 6, 2) := by decide +kernel
theorem d_LW_law_443 : decode c_LW_law 443 = .ok (.aload_n 2, 1) := by decide +kernel
theorem d_LW_law_444 : decode c_LW_law 444 = .ok (.invokevirtual 82, 3) := by decide +kernel
theorem d_LW_law_447 : decode c_LW_law 447 = .ok (.iload 5, 2) := by decide +kernel
theorem d_LW_law_449 : decode c_LW_law 449 = .ok (.if_icmp .eq 5, 3) := by decide +kernel
theorem d_LW_law_452 : decode c_LW_law 452 = .ok (.iconst 0, 1) := by decide +kernel
theorem d_LW_law_453 : decode c_LW_law 453 = .ok (.ireturn, 1) := by decide +kernel
theorem d_LW_law_454 : decode c_LW_law 454 = .ok (.iload 5, 2) := by decide +kernel
theorem d_LW_law_456 : decode c_LW_law 456 = .ok (.ifCond .ne 22, 3) := by decide +kernel
theorem d_LW_law_459 : decode c_LW_law 459 = .ok (.aload_n 3, 1) := by decide +kernel
theorem d_LW_law_460 : decode c_LW_law 460 = .ok (.iconst 0, 1) := by decide +kernel
theorem d_LW_law_461 : decode c_LW_law 461 = .ok (.laload, 1) := by decide +kernel
theorem d_LW_law_462 : decode c_LW_law 462 = .ok (.iload 6, 2) := by decide +kernel
theorem d_LW_law_464 : decode c_LW_law 464 = .ok (.ifCond .eq 7, 3) := by decide +kernel
theorem d_LW_law_467 : decode c_LW_law 467 = .ok (.lconst 1, 1) := by decide +kernel
theorem d_LW_law_468 : decode c_LW_law 468 = .ok (.goto 4, 3) := by decide +kernel
theorem d_LW_law_471 : decode c_LW_law 471 = .ok (.lconst 0, 1) := by decide +kernel
theorem d_LW_law_472 : decode c_LW_law 472 = .ok (.lcmp, 1) := by decide +kernel
theorem d_LW_law_473 : decode c_LW_law 473 = .ok (.ifCond .eq 5, 3) := by decide +kernel
theorem d_LW_law_476 : decode c_LW_law 476 = .ok (.iconst 0, 1) := by decide +kernel
theorem d_LW_law_477 : decode c_LW_law 477 = .ok (.ireturn, 1) := by decide +kernel
theorem d_LW_law_478 : decode c_LW_law 478 = .ok (.goto 530, 3) := by decide +kernel
theorem d_LW_law_481 : decode c_LW_law 481 = .ok (.aload_n 1, 1) := by decide +kernel
theorem d_LW_law_482 : decode c_LW_law 482 = .ok (.aload_n 0, 1) := by decide +kernel
theorem d_LW_law_483 : decode c_LW_law 483 = .ok (.iload 4, 2) := by decide +kernel
theorem d_LW_law_485 : decode c_LW_law 485 = .ok (.iconst 1, 1) := by decide +kernel
theorem d_LW_law_486 : decode c_LW_law 486 = .ok (.iadd, 1) := by decide +kernel
theorem d_LW_law_487 : decode c_LW_law 487 = .ok (.iaload, 1) := by decide +kernel
theorem d_LW_law_488 : decode c_LW_law 488 = .ok (.aload_n 3, 1) := by decide +kernel
theorem d_LW_law_489 : decode c_LW_law 489 = .ok (.invokestatic 105, 3) := by decide +kernel
theorem d_LW_law_492 : decode c_LW_law 492 = .ok (.istore 5, 2) := by decide +kernel
theorem d_LW_law_494 : decode c_LW_law 494 = .ok (.aload_n 2, 1) := by decide +kernel
theorem d_LW_law_495 : decode c_LW_law 495 = .ok (.aload_n 0, 1) := by decide +kernel
theorem d_LW_law_496 : decode c_LW_law 496 = .ok (.iload 4, 2) := by decide +kernel
theorem d_LW_law_498 : decode c_LW_law 498 = .ok (.iconst 1, 1) := by decide +kernel
theorem d_LW_law_499 : decode c_LW_law 499 = .ok (.iadd, 1) := by decide +kernel
theorem d_LW_law_500 : decode c_LW_law 500 = .ok (.iaload, 1) := by decide +kernel
theorem d_LW_law_501 : decode c_LW_law 501 = .ok (.invokevirtual 107, 3) := by decide +kernel
theorem d_LW_law_504 : decode c_LW_law 504 = .ok (.istore 6, 2) := by decide +kernel
theorem d_LW_law_506 : decode c_LW_law 506 = .ok (.aload_n 2, 1) := by decide +kernel
theorem d_LW_law_507 : decode c_LW_law 507 = .ok (.invokevirtual 82, 3) := by decide +kernel
theorem d_LW_law_510 : decode c_LW_law 510 = .ok (.iload 5, 2) := by decide +kernel
theorem d_LW_law_512 : decode c_LW_law 512 = .ok (.if_icmp .eq 5, 3) := by decide +kernel
theorem d_LW_law_515 : decode c_LW_law 515 = .ok (.iconst 0, 1) := by decide +kernel
theorem d_LW_law_516 : decode c_LW_law 516 = .ok (.ireturn, 1) := by decide +kernel
theorem d_LW_law_517 : decode c_LW_law 517 = .ok (.iload 5, 2) := by decide +kernel
theorem d_LW_law_519 : decode c_LW_law 519 = .ok (.ifCond .ne 22, 3) := by decide +kernel
theorem d_LW_law_522 : decode c_LW_law 522 = .ok (.aload_n 3, 1) := by decide +kernel
theorem d_LW_law_523 : decode c_LW_law 523 = .ok (.iconst 0, 1) := by decide +kernel
theorem d_LW_law_524 : decode c_LW_law 524 = .ok (.laload, 1) := by decide +kernel
theorem d_LW_law_525 : decode c_LW_law 525 = .ok (.iload 6, 2) := by decide +kernel
theorem d_LW_law_527 : decode c_LW_law 527 = .ok (.ifCond .eq 7, 3) := by decide +kernel
theorem d_LW_law_530 : decode c_LW_law 530 = .ok (.lconst 1, 1) := by decide +kernel
theorem d_LW_law_531 : decode c_LW_law 531 = .ok (.goto 4, 3) := by decide +kernel
theorem d_LW_law_534 : decode c_LW_law 534 = .ok (.lconst 0, 1) := by decide +kernel
theorem d_LW_law_535 : decode c_LW_law 535 = .ok (.lcmp, 1) := by decide +kernel
theorem d_LW_law_536 : decode c_LW_law 536 = .ok (.ifCond .eq 5, 3) := by decide +kernel
theorem d_LW_law_539 : decode c_LW_law 539 = .ok (.iconst 0, 1) := by decide +kernel
theorem d_LW_law_540 : decode c_LW_law 540 = .ok (.ireturn, 1) := by decide +kernel
theorem d_LW_law_541 : decode c_LW_law 541 = .ok (.goto 467, 3) := by decide +kernel
theorem d_LW_law_544 : decode c_LW_law 544 = .ok (.aload_n 1, 1) := by decide +kernel
theorem d_LW_law_545 : decode c_LW_law 545 = .ok (.aload_n 0, 1) := by decide +kernel
theorem d_LW_law_546 : decode c_LW_law 546 = .ok (.iload 4, 2) := by decide +kernel
theorem d_LW_law_548 : decode c_LW_law 548 = .ok (.iconst 1, 1) := by decide +kernel
theorem d_LW_law_549 : decode c_LW_law 549 = .ok (.iadd, 1) := by decide +kernel
theorem d_LW_law_550 : decode c_LW_law 550 = .ok (.iaload, 1) := by decide +kernel
theorem d_LW_law_551 : decode c_LW_law 551 = .ok (.aload_n 3, 1) := by decide +kernel
theorem d_LW_law_552 : decode c_LW_law 552 = .ok (.invokestatic 108, 3) := by decide +kernel
theorem d_LW_law_555 : decode c_LW_law 555 = .ok (.istore 5, 2) := by decide +kernel
theorem d_LW_law_557 : decode c_LW_law 557 = .ok (.aload_n 2, 1) := by decide +kernel
theorem d_LW_law_558 : decode c_LW_law 558 = .ok (.aload_n 0, 1) := by decide +kernel
theorem d_LW_law_559 : decode c_LW_law 559 = .ok (.iload 4, 2) := by decide +kernel
theorem d_LW_law_561 : decode c_LW_law 561 = .ok (.iconst 1, 1) := by decide +kernel
theorem d_LW_law_562 : decode c_LW_law 562 = .ok (.iadd, 1) := by decide +kernel
theorem d_LW_law_563 : decode c_LW_law 563 = .ok (.iaload, 1) := by decide +kernel
theorem d_LW_law_564 : decode c_LW_law 564 = .ok (.invokevirtual 110, 3) := by decide +kernel
theorem d_LW_law_567 : decode c_LW_law 567 = .ok (.istore 6, 2) := by decide +kernel
theorem d_LW_law_569 : decode c_LW_law 569 = .ok (.aload_n 2, 1) := by decide +kernel
theorem d_LW_law_570 : decode c_LW_law 570 = .ok (.invokevirtual 82, 3) := by decide +kernel
theorem d_LW_law_573 : decode c_LW_law 573 = .ok (.iload 5, 2) := by decide +kernel
theorem d_LW_law_575 : decode c_LW_law 575 = .ok (.if_icmp .eq 5, 3) := by decide +kernel
theorem d_LW_law_578 : decode c_LW_law 578 = .ok (.iconst 0, 1) := by decide +kernel
theorem d_LW_law_579 : decode c_LW_law 579 = .ok (.ireturn, 1) := by decide +kernel
theorem d_LW_law_580 : decode c_LW_law 580 = .ok (.iload 5, 2) := by decide +kernel
theorem d_LW_law_582 : decode c_LW_law 582 = .ok (.ifCond .ne 22, 3) := by decide +kernel
theorem d_LW_law_585 : decode c_LW_law 585 = .ok (.aload_n 3, 1) := by decide +kernel
theorem d_LW_law_586 : decode c_LW_law 586 = .ok (.iconst 0, 1) := by decide +kernel
theorem d_LW_law_587 : decode c_LW_law 587 = .ok (.laload, 1) := by decide +kernel
theorem d_LW_law_588 : decode c_LW_law 588 = .ok (.iload 6, 2) := by decide +kernel
theorem d_LW_law_590 : decode c_LW_law 590 = .ok (.ifCond .eq 7, 3) := by decide +kernel
theorem d_LW_law_593 : decode c_LW_law 593 = .ok (.lconst 1, 1) := by decide +kernel
theorem d_LW_law_594 : decode c_LW_law 594 = .ok (.goto 4, 3) := by decide +kernel
theorem d_LW_law_597 : decode c_LW_law 597 = .ok (.lconst 0, 1) := by decide +kernel
theorem d_LW_law_598 : decode c_LW_law 598 = .ok (.lcmp, 1) := by decide +kernel
theorem d_LW_law_599 : decode c_LW_law 599 = .ok (.ifCond .eq 5, 3) := by decide +kernel
theorem d_LW_law_602 : decode c_LW_law 602 = .ok (.iconst 0, 1) := by decide +kernel
theorem d_LW_law_603 : decode c_LW_law 603 = .ok (.ireturn, 1) := by decide +kernel
theorem d_LW_law_604 : decode c_LW_law 604 = .ok (.goto 404, 3) := by decide +kernel
theorem d_LW_law_607 : decode c_LW_law 607 = .ok (.aload_n 1, 1) := by decide +kernel
theorem d_LW_law_608 : decode c_LW_law 608 = .ok (.aload_n 0, 1) := by decide +kernel
theorem d_LW_law_609 : decode c_LW_law 609 = .ok (.iload 4, 2) := by decide +kernel
theorem d_LW_law_611 : decode c_LW_law 611 = .ok (.iconst 1, 1) := by decide +kernel
theorem d_LW_law_612 : decode c_LW_law 612 = .ok (.iadd, 1) := by decide +kernel
theorem d_LW_law_613 : decode c_LW_law 613 = .ok (.iaload, 1) := by decide +kernel
theorem d_LW_law_614 : decode c_LW_law 614 = .ok (.aload_n 0, 1) := by decide +kernel
theorem d_LW_law_615 : decode c_LW_law 615 = .ok (.iload 4, 2) := by decide +kernel
theorem d_LW_law_617 : decode c_LW_law 617 = .ok (.iconst 2, 1) := by decide +kernel
theorem d_LW_law_618 : decode c_LW_law 618 = .ok (.iadd, 1) := by decide +kernel
theorem d_LW_law_619 : decode c_LW_law 619 = .ok (.iaload, 1) := by decide +kernel
theorem d_LW_law_620 : decode c_LW_law 620 = .ok (.aload_n 0, 1) := by decide +kernel
theorem d_LW_law_621 : decode c_LW_law 621 = .ok (.iload 4, 2) := by decide +kernel
theorem d_LW_law_623 : decode c_LW_law 623 = .ok (.iconst 3, 1) := by decide +kernel
theorem d_LW_law_624 : decode c_LW_law 624 = .ok (.iadd, 1) := by decide +kernel
theorem d_LW_law_625 : decode c_LW_law 625 = .ok (.iaload, 1) := by decide +kernel
theorem d_LW_law_626 : decode c_LW_law 626 = .ok (.aload_n 0, 1) := by decide +kernel
theorem d_LW_law_627 : decode c_LW_law 627 = .ok (.iload 4, 2) := by decide +kernel
theorem d_LW_law_629 : decode c_LW_law 629 = .ok (.iconst 4, 1) := by decide +kernel
theorem d_LW_law_630 : decode c_LW_law 630 = .ok (.iadd, 1) := by decide +kernel
theorem d_LW_law_631 : decode c_LW_law 631 = .ok (.iaload, 1) := by decide +kernel
theorem d_LW_law_632 : decode c_LW_law 632 = .ok (.aload_n 0, 1) := by decide +kernel
theorem d_LW_law_633 : decode c_LW_law 633 = .ok (.iload 4, 2) := by decide +kernel
theorem d_LW_law_635 : decode c_LW_law 635 = .ok (.iconst 5, 1) := by decide +kernel
theorem d_LW_law_636 : decode c_LW_law 636 = .ok (.iadd, 1) := by decide +kernel
theorem d_LW_law_637 : decode c_LW_law 637 = .ok (.iaload, 1) := by decide +kernel
theorem d_LW_law_638 : decode c_LW_law 638 = .ok (.i2l, 1) := by decide +kernel
theorem d_LW_law_639 : decode c_LW_law 639 = .ok (.bipush 32, 2) := by decide +kernel
theorem d_LW_law_641 : decode c_LW_law 641 = .ok (.lshl, 1) := by decide +kernel
theorem d_LW_law_642 : decode c_LW_law 642 = .ok (.aload_n 0, 1) := by decide +kernel
theorem d_LW_law_643 : decode c_LW_law 643 = .ok (.iload 4, 2) := by decide +kernel
theorem d_LW_law_645 : decode c_LW_law 645 = .ok (.bipush 6, 2) := by decide +kernel
theorem d_LW_law_647 : decode c_LW_law 647 = .ok (.iadd, 1) := by decide +kernel
theorem d_LW_law_648 : decode c_LW_law 648 = .ok (.iaload, 1) := by decide +kernel
theorem d_LW_law_649 : decode c_LW_law 649 = .ok (.i2l, 1) := by decide +kernel
theorem d_LW_law_650 : decode c_LW_law 650 = .ok (.ldc2_w 76, 3) := by decide +kernel
theorem d_LW_law_653 : decode c_LW_law 653 = .ok (.land, 1) := by decide +kernel
theorem d_LW_law_654 : decode c_LW_law 654 = .ok (.lor, 1) := by decide +kernel
theorem d_LW_law_655 : decode c_LW_law 655 = .ok (.aload_n 3, 1) := by decide +kernel
theorem d_LW_law_656 : decode c_LW_law 656 = .ok (.invokestatic 111, 3) := by decide +kernel
theorem d_LW_law_659 : decode c_LW_law 659 = .ok (.istore 5, 2) := by decide +kernel
theorem d_LW_law_661 : decode c_LW_law 661 = .ok (.aload_n 2, 1) := by decide +kernel
theorem d_LW_law_662 : decode c_LW_law 662 = .ok (.aload_n 0, 1) := by decide +kernel
theorem d_LW_law_663 : decode c_LW_law 663 = .ok (.iload 4, 2) := by decide +kernel
theorem d_LW_law_665 : decode c_LW_law 665 = .ok (.iconst 1, 1) := by decide +kernel
theorem d_LW_law_666 : decode c_LW_law 666 = .ok (.iadd, 1) := by decide +kernel
theorem d_LW_law_667 : decode c_LW_law 667 = .ok (.iaload, 1) := by decide +kernel
theorem d_LW_law_668 : decode c_LW_law 668 = .ok (.aload_n 0, 1) := by decide +kernel
theorem d_LW_law_669 : decode c_LW_law 669 = .ok (.iload 4, 2) := by decide +kernel
theorem d_LW_law_671 : decode c_LW_law 671 = .ok (.iconst 2, 1) := by decide +kernel
theorem d_LW_law_672 : decode c_LW_law 672 = .ok (.iadd, 1) := by decide +kernel
theorem d_LW_law_673 : decode c_LW_law 673 = .ok (.iaload, 1) := by decide +kernel
theorem d_LW_law_674 : decode c_LW_law 674 = .ok (.aload_n 0, 1) := by decide +kernel
theorem d_LW_law_675 : decode c_LW_law 675 = .ok (.iload 4, 2) := by decide +kernel
theorem d_LW_law_677 : decode c_LW_law 677 = .ok (.iconst 3, 1) := by decide +kernel
theorem d_LW_law_678 : decode c_LW_law 678 = .ok (.iadd, 1) := by decide +kernel
theorem d_LW_law_679 : decode c_LW_law 679 = .ok (.iaload, 1) := by decide +kernel
theorem d_LW_law_680 : decode c_LW_law 680 = .ok (.aload_n 0, 1) := by decide +kernel
theorem d_LW_law_681 : decode c_LW_law 681 = .ok (.iload 4, 2) := by decide +kernel
theorem d_LW_law_683 : decode c_LW_law 683 = .ok (.iconst 4, 1) := by decide +kernel
theorem d_LW_law_684 : decode c_LW_law 684 = .ok (.iadd, 1) := by decide +kernel
theorem d_LW_law_685 : decode c_LW_law 685 = .ok (.iaload, 1) := by decide +kernel
theorem d_LW_law_686 : decode c_LW_law 686 = .ok (.aload_n 0, 1) := by decide +kernel
theorem d_LW_law_687 : decode c_LW_law 687 = .ok (.iload 4, 2) := by decide +kernel
theorem d_LW_law_689 : decode c_LW_law 689 = .ok (.iconst 5, 1) := by decide +kernel
theorem d_LW_law_690 : decode c_LW_law 690 = .ok (.iadd, 1) := by decide +kernel
theorem d_LW_law_691 : decode c_LW_law 691 = .ok (.iaload, 1) := by decide +kernel
theorem d_LW_law_692 : decode c_LW_law 692 = .ok (.i2l, 1) := by decide +kernel
theorem d_LW_law_693 : decode c_LW_law 693 = .ok (.bipush 32, 2) := by decide +kernel
theorem d_LW_law_695 : decode c_LW_law 695 = .ok (.lshl, 1) := by decide +kernel
theorem d_LW_law_696 : decode c_LW_law 696 = .ok (.aload_n 0, 1) := by decide +kernel
theorem d_LW_law_697 : decode c_LW_law 697 = .ok (.iload 4, 2) := by decide +kernel
theorem d_LW_law_699 : decode c_LW_law 699 = .ok (.bipush 6, 2) := by decide +kernel
theorem d_LW_law_701 : decode c_LW_law 701 = .ok (.iadd, 1) := by decide +kernel
theorem d_LW_law_702 : decode c_LW_law 702 = .ok (.iaload, 1) := by decide +kernel
theorem d_LW_law_703 : decode c_LW_law 703 = .ok (.i2l, 1) := by decide +kernel
theorem d_LW_law_704 : decode c_LW_law 704 = .ok (.ldc2_w 76, 3) := by decide +kernel
theorem d_LW_law_707 : decode c_LW_law 707 = .ok (.land, 1) := by decide +kernel
theorem d_LW_law_708 : decode c_LW_law 708 = .ok (.lor, 1) := by decide +kernel
theorem d_LW_law_709 : decode c_LW_law 709 = .ok (.invokevirtual 114, 3) := by decide +kernel
theorem d_LW_law_712 : decode c_LW_law 712 = .ok (.istore 6, 2) := by decide +kernel
theorem d_LW_law_714 : decode c_LW_law 714 = .ok (.aload_n 2, 1) := by decide +kernel
theorem d_LW_law_715 : decode c_LW_law 715 = .ok (.invokevirtual 82, 3) := by decide +kernel
theorem d_LW_law_718 : decode c_LW_law 718 = .ok (.iload 5, 2) := by decide +kernel
theorem d_LW_law_720 : decode c_LW_law 720 = .ok (.if_icmp .eq 5, 3) := by decide +kernel
theorem d_LW_law_723 : decode c_LW_law 723 = .ok (.iconst 0, 1) := by decide +kernel
theorem d_LW_law_724 : decode c_LW_law 724 = .ok (.ireturn, 1) := by decide +kernel
theorem d_LW_law_725 : decode c_LW_law 725 = .ok (.iload 5, 2) := by decide +kernel
theorem d_LW_law_727 : decode c_LW_law 727 = .ok (.ifCond .ne 22, 3) := by decide +kernel
theorem d_LW_law_730 : decode c_LW_law 730 = .ok (.aload_n 3, 1) := by decide +kernel
theorem d_LW_law_731 : decode c_LW_law 731 = .ok (.iconst 0, 1) := by decide +kernel
theorem d_LW_law_732 : decode c_LW_law 732 = .ok (.laload, 1) := by decide +kernel
theorem d_LW_law_733 : decode c_LW_law 733 = .ok (.iload 6, 2) := by decide +kernel
theorem d_LW_law_735 : decode c_LW_law 735 = .ok (.ifCond .eq 7, 3) := by decide +kernel
theorem d_LW_law_738 : decode c_LW_law 738 = .ok (.lconst 1, 1) := by decide +kernel
theorem d_LW_law_739 : decode c_LW_law 739 = .ok (.goto 4, 3) := by decide +kernel
theorem d_LW_law_742 : decode c_LW_law 742 = .ok (.lconst 0, 1) := by decide +kernel
theorem d_LW_law_743 : decode c_LW_law 743 = .ok (.lcmp, 1) := by decide +kernel
theorem d_LW_law_744 : decode c_LW_law 744 = .ok (.ifCond .eq 5, 3) := by decide +kernel
theorem d_LW_law_747 : decode c_LW_law 747 = .ok (.iconst 0, 1) := by decide +kernel
theorem d_LW_law_748 : decode c_LW_law 748 = .ok (.ireturn, 1) := by decide +kernel
theorem d_LW_law_749 : decode c_LW_law 749 = .ok (.goto 259, 3) := by decide +kernel
theorem d_LW_law_752 : decode c_LW_law 752 = .ok (.aload_n 1, 1) := by decide +kernel
theorem d_LW_law_753 : decode c_LW_law 753 = .ok (.aload_n 3, 1) := by decide +kernel
theorem d_LW_law_754 : decode c_LW_law 754 = .ok (.invokestatic 115, 3) := by decide +kernel
theorem d_LW_law_757 : decode c_LW_law 757 = .ok (.istore 5, 2) := by decide +kernel
theorem d_LW_law_759 : decode c_LW_law 759 = .ok (.aload_n 2, 1) := by decide +kernel
theorem d_LW_law_760 : decode c_LW_law 760 = .ok (.invokevirtual 117, 3) := by decide +kernel
theorem d_LW_law_763 : decode c_LW_law 763 = .ok (.istore 6, 2) := by decide +kernel
theorem d_LW_law_765 : decode c_LW_law 765 = .ok (.aload_n 2, 1) := by decide +kernel
theorem d_LW_law_766 : decode c_LW_law 766 = .ok (.invokevirtual 82, 3) := by decide +kernel
theorem d_LW_law_769 : decode c_LW_law 769 = .ok (.iload 5, 2) := by decide +kernel
theorem d_LW_law_771 : decode c_LW_law 771 = .ok (.if_icmp .eq 5, 3) := by decide +kernel
theorem d_LW_law_774 : decode c_LW_law 774 = .ok (.iconst 0, 1) := by decide +kernel
theorem d_LW_law_775 : decode c_LW_law 775 = .ok (.ireturn, 1) := by decide +kernel
theorem d_LW_law_776 : decode c_LW_law 776 = .ok (.iload 5, 2) := by decide +kernel
theorem d_LW_law_778 : decode c_LW_law 778 = .ok (.ifCond .ne 15, 3) := by decide +kernel
theorem d_LW_law_781 : decode c_LW_law 781 = .ok (.aload_n 3, 1) := by decide +kernel
theorem d_LW_law_782 : decode c_LW_law 782 = .ok (.iconst 0, 1) := by decide +kernel
theorem d_LW_law_783 : decode c_LW_law 783 = .ok (.laload, 1) := by decide +kernel
theorem d_LW_law_784 : decode c_LW_law 784 = .ok (.iload 6, 2) := by decide +kernel
theorem d_LW_law_786 : decode c_LW_law 786 = .ok (.i2l, 1) := by decide +kernel
theorem d_LW_law_787 : decode c_LW_law 787 = .ok (.lcmp, 1) := by decide +kernel
theorem d_LW_law_788 : decode c_LW_law 788 = .ok (.ifCond .eq 5, 3) := by decide +kernel
theorem d_LW_law_791 : decode c_LW_law 791 = .ok (.iconst 0, 1) := by decide +kernel
theorem d_LW_law_792 : decode c_LW_law 792 = .ok (.ireturn, 1) := by decide +kernel
theorem d_LW_law_793 : decode c_LW_law 793 = .ok (.goto 215, 3) := by decide +kernel
theorem d_LW_law_796 : decode c_LW_law 796 = .ok (.aload_n 1, 1) := by decide +kernel
theorem d_LW_law_797 : decode c_LW_law 797 = .ok (.aload_n 3, 1) := by decide +kernel
theorem d_LW_law_798 : decode c_LW_law 798 = .ok (.invokestatic 118, 3) := by decide +kernel
theorem d_LW_law_801 : decode c_LW_law 801 = .ok (.istore 5, 2) := by decide +kernel
theorem d_LW_law_803 : decode c_LW_law 803 = .ok (.aload_n 2, 1) := by decide +kernel
theorem d_LW_law_804 : decode c_LW_law 804 = .ok (.invokevirtual 120, 3) := by decide +kernel
theorem d_LW_law_807 : decode c_LW_law 807 = .ok (.istore 6, 2) := by decide +kernel
theorem d_LW_law_809 : decode c_LW_law 809 = .ok (.aload_n 2, 1) := by decide +kernel
theorem d_LW_law_810 : decode c_LW_law 810 = .ok (.invokevirtual 82, 3) := by decide +kernel
theorem d_LW_law_813 : decode c_LW_law 813 = .ok (.iload 5, 2) := by decide +kernel
theorem d_LW_law_815 : decode c_LW_law 815 = .ok (.if_icmp .eq 5, 3) := by decide +kernel
theorem d_LW_law_818 : decode c_LW_law 818 = .ok (.iconst 0, 1) := by decide +kernel
theorem d_LW_law_819 : decode c_LW_law 819 = .ok (.ireturn, 1) := by decide +kernel
theorem d_LW_law_820 : decode c_LW_law 820 = .ok (.iload 5, 2) := by decide +kernel
theorem d_LW_law_822 : decode c_LW_law 822 = .ok (.ifCond .ne 15, 3) := by decide +kernel
theorem d_LW_law_825 : decode c_LW_law 825 = .ok (.aload_n 3, 1) := by decide +kernel
theorem d_LW_law_826 : decode c_LW_law 826 = .ok (.iconst 0, 1) := by decide +kernel
theorem d_LW_law_827 : decode c_LW_law 827 = .ok (.laload, 1) := by decide +kernel
theorem d_LW_law_828 : decode c_LW_law 828 = .ok (.iload 6, 2) := by decide +kernel
theorem d_LW_law_830 : decode c_LW_law 830 = .ok (.i2l, 1) := by decide +kernel
theorem d_LW_law_831 : decode c_LW_law 831 = .ok (.lcmp, 1) := by decide +kernel
theorem d_LW_law_832 : decode c_LW_law 832 = .ok (.ifCond .eq 5, 3) := by decide +kernel
theorem d_LW_law_835 : decode c_LW_law 835 = .ok (.iconst 0, 1) := by decide +kernel
theorem d_LW_law_836 : decode c_LW_law 836 = .ok (.ireturn, 1) := by decide +kernel
theorem d_LW_law_837 : decode c_LW_law 837 = .ok (.goto 171, 3) := by decide +kernel
theorem d_LW_law_840 : decode c_LW_law 840 = .ok (.aload_n 1, 1) := by decide +kernel
theorem d_LW_law_841 : decode c_LW_law 841 = .ok (.aload_n 3, 1) := by decide +kernel
theorem d_LW_law_842 : decode c_LW_law 842 = .ok (.invokestatic 121, 3) := by decide +kernel
theorem d_LW_law_845 : decode c_LW_law 845 = .ok (.istore 5, 2) := by decide +kernel
theorem d_LW_law_847 : decode c_LW_law 847 = .ok (.aload_n 2, 1) := by decide +kernel
theorem d_LW_law_848 : decode c_LW_law 848 = .ok (.invokevirtual 123, 3) := by decide +kernel
theorem d_LW_law_851 : decode c_LW_law 851 = .ok (.istore 6, 2) := by decide +kernel
theorem d_LW_law_853 : decode c_LW_law 853 = .ok (.aload_n 2, 1) := by decide +kernel
theorem d_LW_law_854 : decode c_LW_law 854 = .ok (.invokevirtual 82, 3) := by decide +kernel
theorem d_LW_law_857 : decode c_LW_law 857 = .ok (.iload 5, 2) := by decide +kernel
theorem d_LW_law_859 : decode c_LW_law 859 = .ok (.if_icmp .eq 5, 3) := by decide +kernel
theorem d_LW_law_862 : decode c_LW_law 862 = .ok (.iconst 0, 1) := by decide +kernel
theorem d_LW_law_863 : decode c_LW_law 863 = .ok (.ireturn, 1) := by decide +kernel
theorem d_LW_law_864 : decode c_LW_law 864 = .ok (.iload 5, 2) := by decide +kernel
theorem d_LW_law_866 : decode c_LW_law 866 = .ok (.ifCond .ne 15, 3) := by decide +kernel
theorem d_LW_law_869 : decode c_LW_law 869 = .ok (.aload_n 3, 1) := by decide +kernel
theorem d_LW_law_870 : decode c_LW_law 870 = .ok (.iconst 0, 1) := by decide +kernel
theorem d_LW_law_871 : decode c_LW_law 871 = .ok (.laload, 1) := by decide +kernel
theorem d_LW_law_872 : decode c_LW_law 872 = .ok (.iload 6, 2) := by decide +kernel
theorem d_LW_law_874 : decode c_LW_law 874 = .ok (.i2l, 1) := by decide +kernel
theorem d_LW_law_875 : decode c_LW_law 875 = .ok (.lcmp, 1) := by decide +kernel
theorem d_LW_law_876 : decode c_LW_law 876 = .ok (.ifCond .eq 5, 3) := by decide +kernel
theorem d_LW_law_879 : decode c_LW_law 879 = .ok (.iconst 0, 1) := by decide +kernel
theorem d_LW_law_880 : decode c_LW_law 880 = .ok (.ireturn, 1) := by decide +kernel
theorem d_LW_law_881 : decode c_LW_law 881 = .ok (.goto 127, 3) := by decide +kernel
theorem d_LW_law_884 : decode c_LW_law 884 = .ok (.aload_n 1, 1) := by decide +kernel
theorem d_LW_law_885 : decode c_LW_law 885 = .ok (.aload_n 0, 1) := by decide +kernel
theorem d_LW_law_886 : decode c_LW_law 886 = .ok (.iload 4, 2) := by decide +kernel
theorem d_LW_law_888 : decode c_LW_law 888 = .ok (.iconst 1, 1) := by decide +kernel
theorem d_LW_law_889 : decode c_LW_law 889 = .ok (.iadd, 1) := by decide +kernel
theorem d_LW_law_890 : decode c_LW_law 890 = .ok (.iaload, 1) := by decide +kernel
theorem d_LW_law_891 : decode c_LW_law 891 = .ok (.aload_n 3, 1) := by decide +kernel
theorem d_LW_law_892 : decode c_LW_law 892 = .ok (.invokestatic 124, 3) := by decide +kernel
theorem d_LW_law_895 : decode c_LW_law 895 = .ok (.istore 5, 2) := by decide +kernel
theorem d_LW_law_897 : decode c_LW_law 897 = .ok (.aload_n 2, 1) := by decide +kernel
theorem d_LW_law_898 : decode c_LW_law 898 = .ok (.aload_n 0, 1) := by decide +kernel
theorem d_LW_law_899 : decode c_LW_law 899 = .ok (.iload 4, 2) := by decide +kernel
theorem d_LW_law_901 : decode c_LW_law 901 = .ok (.iconst 1, 1) := by decide +kernel
theorem d_LW_law_902 : decode c_LW_law 902 = .ok (.iadd, 1) := by decide +kernel
theorem d_LW_law_903 : decode c_LW_law 903 = .ok (.iaload, 1) := by decide +kernel
theorem d_LW_law_904 : decode c_LW_law 904 = .ok (.invokevirtual 126, 3) := by decide +kernel
theorem d_LW_law_907 : decode c_LW_law 907 = .ok (.istore 6, 2) := by decide +kernel
theorem d_LW_law_909 : decode c_LW_law 909 = .ok (.aload_n 2, 1) := by decide +kernel
theorem d_LW_law_910 : decode c_LW_law 910 = .ok (.invokevirtual 82, 3) := by decide +kernel
theorem d_LW_law_913 : decode c_LW_law 913 = .ok (.iload 5, 2) := by decide +kernel
theorem d_LW_law_915 : decode c_LW_law 915 = .ok (.if_icmp .eq 5, 3) := by decide +kernel
theorem d_LW_law_918 : decode c_LW_law 918 = .ok (.iconst 0, 1) := by decide +kernel
theorem d_LW_law_919 : decode c_LW_law 919 = .ok (.ireturn, 1) := by decide +kernel
theorem d_LW_law_920 : decode c_LW_law 920 = .ok (.iload 5, 2) := by decide +kernel
theorem d_LW_law_922 : decode c_LW_law 922 = .ok (.ifCond .ne 15, 3) := by decide +kernel
theorem d_LW_law_925 : decode c_LW_law 925 = .ok (.aload_n 3, 1) := by decide +kernel
theorem d_LW_law_926 : decode c_LW_law 926 = .ok (.iconst 0, 1) := by decide +kernel
theorem d_LW_law_927 : decode c_LW_law 927 = .ok (.laload, 1) := by decide +kernel
theorem d_LW_law_928 : decode c_LW_law 928 = .ok (.iload 6, 2) := by decide +kernel
theorem d_LW_law_930 : decode c_LW_law 930 = .ok (.i2l, 1) := by decide +kernel
theorem d_LW_law_931 : decode c_LW_law 931 = .ok (.lcmp, 1) := by decide +kernel
theorem d_LW_law_932 : decode c_LW_law 932 = .ok (.ifCond .eq 5, 3) := by decide +kernel
theorem d_LW_law_935 : decode c_LW_law 935 = .ok (.iconst 0, 1) := by decide +kernel
theorem d_LW_law_936 : decode c_LW_law 936 = .ok (.ireturn, 1) := by decide +kernel
theorem d_LW_law_937 : decode c_LW_law 937 = .ok (.goto 71, 3) := by decide +kernel
theorem d_LW_law_940 : decode c_LW_law 940 = .ok (.aload_n 1, 1) := by decide +kernel
theorem d_LW_law_941 : decode c_LW_law 941 = .ok (.aload_n 0, 1) := by decide +kernel
theorem d_LW_law_942 : decode c_LW_law 942 = .ok (.iload 4, 2) := by decide +kernel
theorem d_LW_law_944 : decode c_LW_law 944 = .ok (.iconst 1, 1) := by decide +kernel
theorem d_LW_law_945 : decode c_LW_law 945 = .ok (.iadd, 1) := by decide +kernel
theorem d_LW_law_946 : decode c_LW_law 946 = .ok (.iaload, 1) := by decide +kernel
theorem d_LW_law_947 : decode c_LW_law 947 = .ok (.aload_n 0, 1) := by decide +kernel
theorem d_LW_law_948 : decode c_LW_law 948 = .ok (.iload 4, 2) := by decide +kernel
theorem d_LW_law_950 : decode c_LW_law 950 = .ok (.iconst 2, 1) := by decide +kernel
theorem d_LW_law_951 : decode c_LW_law 951 = .ok (.iadd, 1) := by decide +kernel
theorem d_LW_law_952 : decode c_LW_law 952 = .ok (.iaload, 1) := by decide +kernel
theorem d_LW_law_953 : decode c_LW_law 953 = .ok (.aload_n 3, 1) := by decide +kernel
theorem d_LW_law_954 : decode c_LW_law 954 = .ok (.invokestatic 127, 3) := by decide +kernel
theorem d_LW_law_957 : decode c_LW_law 957 = .ok (.istore 5, 2) := by decide +kernel
theorem d_LW_law_959 : decode c_LW_law 959 = .ok (.aload_n 2, 1) := by decide +kernel
theorem d_LW_law_960 : decode c_LW_law 960 = .ok (.aload_n 0, 1) := by decide +kernel
theorem d_LW_law_961 : decode c_LW_law 961 = .ok (.iload 4, 2) := by decide +kernel
theorem d_LW_law_963 : decode c_LW_law 963 = .ok (.iconst 1, 1) := by decide +kernel
theorem d_LW_law_964 : decode c_LW_law 964 = .ok (.iadd, 1) := by decide +kernel
theorem d_LW_law_965 : decode c_LW_law 965 = .ok (.iaload, 1) := by decide +kernel
theorem d_LW_law_966 : decode c_LW_law 966 = .ok (.aload_n 0, 1) := by decide +kernel
theorem d_LW_law_967 : decode c_LW_law 967 = .ok (.iload 4, 2) := by decide +kernel
theorem d_LW_law_969 : decode c_LW_law 969 = .ok (.iconst 2, 1) := by decide +kernel
theorem d_LW_law_970 : decode c_LW_law 970 = .ok (.iadd, 1) := by decide +kernel
theorem d_LW_law_971 : decode c_LW_law 971 = .ok (.iaload, 1) := by decide +kernel
theorem d_LW_law_972 : decode c_LW_law 972 = .ok (.invokevirtual 129, 3) := by decide +kernel
theorem d_LW_law_975 : decode c_LW_law 975 = .ok (.istore 6, 2) := by decide +kernel
theorem d_LW_law_977 : decode c_LW_law 977 = .ok (.aload_n 2, 1) := by decide +kernel
theorem d_LW_law_978 : decode c_LW_law 978 = .ok (.invokevirtual 82, 3) := by decide +kernel
theorem d_LW_law_981 : decode c_LW_law 981 = .ok (.iload 5, 2) := by decide +kernel
theorem d_LW_law_983 : decode c_LW_law 983 = .ok (.if_icmp .eq 5, 3) := by decide +kernel
theorem d_LW_law_986 : decode c_LW_law 986 = .ok (.iconst 0, 1) := by decide +kernel
theorem d_LW_law_987 : decode c_LW_law 987 = .ok (.ireturn, 1) := by decide +kernel
theorem d_LW_law_988 : decode c_LW_law 988 = .ok (.iload 5, 2) := by decide +kernel
theorem d_LW_law_990 : decode c_LW_law 990 = .ok (.ifCond .ne 15, 3) := by decide +kernel
theorem d_LW_law_993 : decode c_LW_law 993 = .ok (.aload_n 3, 1) := by decide +kernel
theorem d_LW_law_994 : decode c_LW_law 994 = .ok (.iconst 0, 1) := by decide +kernel
theorem d_LW_law_995 : decode c_LW_law 995 = .ok (.laload, 1) := by decide +kernel
theorem d_LW_law_996 : decode c_LW_law 996 = .ok (.iload 6, 2) := by decide +kernel
theorem d_LW_law_998 : decode c_LW_law 998 = .ok (.i2l, 1) := by decide +kernel
theorem d_LW_law_999 : decode c_LW_law 999 = .ok (.lcmp, 1) := by decide +kernel
theorem d_LW_law_1000 : decode c_LW_law 1000 = .ok (.ifCond .eq 5, 3) := by decide +kernel
theorem d_LW_law_1003 : decode c_LW_law 1003 = .ok (.iconst 0, 1) := by decide +kernel
theorem d_LW_law_1004 : decode c_LW_law 1004 = .ok (.ireturn, 1) := by decide +kernel
theorem d_LW_law_1005 : decode c_LW_law 1005 = .ok (.goto 3, 3) := by decide +kernel
theorem d_LW_law_1008 : decode c_LW_law 1008 = .ok (.iinc 4 7, 3) := by decide +kernel
theorem d_LW_law_1011 : decode c_LW_law 1011 = .ok (.goto (-958), 3) := by decide +kernel
theorem d_LW_law_1014 : decode c_LW_law 1014 = .ok (.iconst 1, 1) := by decide +kernel
theorem d_LW_law_1015 : decode c_LW_law 1015 = .ok (.ireturn, 1) := by decide +kernel
end
section
abbrev HS : Type := (Nat → Nat → Int32) × (Nat → Nat → Int64)
def stI (σ : HS) (a k : Nat) (v : Int32) : HS := (fun b => cond (Nat.beq b a) (upd (σ.1 a) k v) (σ.1 b), σ.2)
def stF (σ : HS) (a k : Nat) (v : Int32) : HS := (fun b => cond (Nat.beq b a) (fun j => cond (Nat.beq j k) v (σ.1 a j)) (σ.1 b), σ.2)
def stL (σ : HS) (a k : Nat) (v : Int64) : HS := (σ.1, fun b => cond (Nat.beq b a) (vp_updL (σ.2 a) k v) (σ.2 b))
def nm {α β : Type} (x : α) (k : α → β) : β := k x
def grd {α : Type} (b : Bool) (k : Option α) : Option α := cond b k none
def inb (i : Int32) (n : Nat) : Bool := decide (0 ≤ i.toInt ∧ i.toInt < n)
def isB (x : Int32) : Bool := decide (x = 0 ∨ x = 1)
theorem nm_at {α β : Type} {x y : α} {k : α → Option β} {R : β} (h : nm x k = some R) (e : y = x) : k y = some R := by subst e; exact h
theorem grd_s {α : Type} {b : Bool} {k : Option α} {R : α} (h : grd b k = some R) : b = true ∧ k = some R := by
  cases b with
  | true => exact ⟨rfl, h⟩
  | false => exact absurd h (by simp [grd])
theorem ite_p {α : Type} {c : Prop} [Decidable c] {a b : Option α} {R : α} (h : (if c then a else b) = some R) (hc : c) : a = some R := by rw [if_pos hc] at h; exact h
theorem ite_n {α : Type} {c : Prop} [Decidable c] {a b : Option α} {R : α} (h : (if c then a else b) = some R) (hc : ¬ c) : b = some R := by rw [if_neg hc] at h; exact h
theorem bd_s {α β : Type} {x : Option α} {k : α → Option β} {R : β} (h : x.bind k = some R) : ∃ y, x = some y ∧ k y = some R := by
  cases x with
  | none => cases h
  | some y => exact ⟨y, rfl, h⟩
theorem inb_in {i : Int32} {n : Nat} (h : inb i n = true) : vp_in i n := vp_in_iff.mpr (of_decide_eq_true h)
theorem isB_n {x : Int32} (h : isB x = true) : narrow .boolean (.int x) = .int x := by
  rcases of_decide_eq_true h with h | h <;> subst h <;> rfl
abbrev EV : Type := va_G × (Nat → ClassId)
abbrev tyE (E : EV) : List (ClassId × FieldType) := [(E.2 0, .int), (E.2 1, .long), (E.2 2, .boolean), (E.2 3, .byte)]
abbrev oI (E : EV) (a n : Nat) (f : Nat → Int32) : Nat × va_E := (a, .inl (E.2 0, n, .inl f))
abbrev oJ (E : EV) (a n : Nat) (f : Nat → Int64) : Nat × va_E := (a, .inl (E.2 1, n, .inr (.inl f)))
abbrev oZ (E : EV) (a n : Nat) (f : Nat → Int32) : Nat × va_E := (a, .inl (E.2 2, n, .inl f))
abbrev oB (E : EV) (a n : Nat) (f : Nat → Int32) : Nat × va_E := (a, .inl (E.2 3, n, .inl f))
def Kx (U : State) : Prop := va_Nw (Cond.methodLinkNest "StripeField" 38 ⟨"StripeField$Power", "<init>", "()V"⟩ "StripeField") U ∧ va_Nw (Cond.methodLinkNest "StripeField$Rack" 82 ⟨"StripeField", "xorBytes", "([JIIIJ)V"⟩ "StripeField") U
theorem Kx.warm {s U : State} (hW : s.WarmedH U.vm) (h : Kx s) : Kx U := ⟨va_Nw.warmM hW h.1, va_Nw.warmM hW h.2⟩
theorem Kx.same {s U : State} (hv : s.vm = U.vm) (h : Kx s) : Kx U := ⟨va_Nw.same rfl hv h.1, va_Nw.same rfl hv h.2⟩
def Kw (E : EV) (U : State) : Prop := va_K E.1 cls6 (tyE E) U ∧ Kx U
theorem Kw.warm {E : EV} {s U : State} (hW : s.WarmedH U.vm) (h : Kw E s) : Kw E U := ⟨va_K.moved hW.alike h.1, h.2.warm hW⟩
def preW (E : EV) (w : va_W) (sz : Nat) (U : State) : Prop := U.heap.size = sz ∧ va_P E.1 cls6 w U.heap ∧ Kw E U ∧ va_D (fun _ => True) w
theorem pre_blind (E : EV) (w : va_W) (sz : Nat) (av : List Value) : FrameBlind (va_Pc av (preW E w sz)) := by
  intro a U g mk q
  obtain ⟨q0, q1, q2, q3, q4⟩ := q
  exact ⟨q0, q1, q2, ⟨va_K.moved (u := U) (U := U.calling g mk a) (Vm.Alike.refl U.vm) q3.1, q3.2.same (U := U.calling g mk a) rfl⟩, q4⟩
def Cx (E : EV) (p : Program) (s : State) (m : MethodId) (args : Array Value) (meth : Method) (c : Code) (cc : ByteArray) (own : String) (ret : Option FieldType) (nL : Nat) : Prop :=
  CallFix p m c cc nL s args ltb own ∧ meth.sig.returnType = ret ∧ meth.locks = false ∧ Kw E s
def Wo (E : EV) (A : Nat → Prop) (H0 : Heap) (w : va_W) (H : Heap) (locs : List Loc) : Prop := va_P E.1 cls6 w H ∧ va_D A w ∧ va_S A H0 H locs ∧ ∀ q : Nat, H0.size ≤ q → A q
def CtI (l : Launch) (E : EV) (y : MethodName) (cc : ByteArray) (maxL : Nat) (ret : Option FieldType) (rm : Room) (av : List Value) (w : va_W) (r : Int32) (w1 : va_W) : Prop :=
  ∀ sz : Nat, Met l y (.code y cc maxL ret :: ltb) rm (va_Pc av (preW E w sz)) (va_Qi (fun (x : Int32) (_ : Unit) => x = r) (fun _ t => va_P E.1 cls6 w1 t.heap ∧ va_D (va_A w sz) w1) (va_A w sz)) rm.cells rm.slots (va_A w sz)
def CtL (l : Launch) (E : EV) (y : MethodName) (cc : ByteArray) (maxL : Nat) (ret : Option FieldType) (rm : Room) (av : List Value) (w : va_W) (r : Int64) (w1 : va_W) : Prop :=
  ∀ sz : Nat, Met l y (.code y cc maxL ret :: ltb) rm (va_Pc av (preW E w sz)) (va_Ql (fun (x : Int64) (_ : Unit) => x = r) (fun _ t => va_P E.1 cls6 w1 t.heap ∧ va_D (va_A w sz) w1) (va_A w sz)) rm.cells rm.slots (va_A w sz)
def CtV (l : Launch) (E : EV) (y : MethodName) (cc : ByteArray) (maxL : Nat) (ret : Option FieldType) (rm : Room) (av : List Value) (w : va_W) (w1 : va_W) : Prop :=
  ∀ sz : Nat, Met l y (.code y cc maxL ret :: ltb) rm (va_Pc av (preW E w sz)) (va_Qv (fun (_ : Unit) => True) (fun _ t => va_P E.1 cls6 w1 t.heap ∧ va_D (va_A w sz) w1) (va_A w sz)) rm.cells rm.slots (va_A w sz)
theorem ltb_good {w : Cond} (h : w ∈ ltb) : (w.onTables && w.keeps) = true ∨ ∃ ty, w = .arrayClass ty := good_of_word (List.mem_filter.mp h).2
theorem good_c {w : Cond} (h : w ∈ ltb) : GoodIn ltb (w :: ltb) := fun v hv => (List.mem_cons.mp hv).elim (fun e => by subst e; exact ⟨h, ltb_good h⟩) (fun h => ⟨h, ltb_good h⟩)
theorem Wo.free {E : EV} {A : Nat → Prop} {H0 : Heap} {w : va_W} {H : Heap} {locs : List Loc} (h : Wo E A H0 w H locs) : ∀ q, va_A w H.size q → A q := by
  intro q hq
  rcases hq with ⟨k, e, hk⟩ | hq
  · exact h.2.1.2 k _ hk
  · exact h.2.2.2 q (Nat.le_trans h.2.2.1.1 hq)
set_option maxHeartbeats 1000000 in
theorem ent {l : Launch} {E : EV} {y : MethodName} {cc : ByteArray} {maxL : Nat} {ret : Option FieldType} {rm : Room} {av : List Value} {w : va_W} {Qc : Array Value → State → Outcome → State → Prop} {mc ms sz : Nat} (hy : plainName y.cls = true) (hlen : (lg_sl av).length ≤ maxL)
    (body : ∀ (p : Program) (e : Env) (s : State) (m : MethodId) (below : List Frame) (meth : Method) (c : Code), s.heap.size = sz → Cx E p s m av.toArray meth c cc y.cls ret maxL → Wo E (va_A w sz) s.heap w s.heap [] → ∀ ls : Array Slot, lv_has ls maxL (lv_args 0 av) →
      W p l e rm s m av.toArray below meth c s.heap [] 0 0 (MQ below Qc av.toArray s mc ms (va_A w sz)) (F0 m 0 ls [])) : Met l y (.code y cc maxL ret :: ltb) rm (va_Pc av (preW E w sz)) Qc mc ms (va_A w sz) := by
  refine Met.ofW (cc := cc) (maxL := maxL) (ret := ret) hy rfl ?_
  intro p e s m args below meth c s₁ B hml hv
  obtain ⟨rfl, hsz, hP, hK, hD0⟩ := hv
  have hts := atoms_spec (ws := .code y cc maxL ret :: ltb) B.pre
  have hown : s.vm.findClass y.cls = some m.cls := findClass_of_methodNamed B.named
  rw [lg_entry_eq]
  have hl := lv_entry av hlen
  subst hsz
  exact body p e s m below meth c rfl ⟨⟨B.exec, B.bytes, hml, hown, fun w h => hts w (List.mem_cons_of_mem _ h)⟩, B.returns, B.notSynchronized, hK⟩ ⟨hP, hD0.self, va_S.rf, fun q h => Or.inr h⟩ _ hl
end
section
section RW
variable {p : Program} {l : Launch} {e : Env} {R : Room} {s : State} {m : MethodId} {args : Array Value} {below : List Frame} {meth : Method} {c : Code} {H : Heap} {locs : List Loc} {cells slots : Nat} {Q : State → Prop}
variable {E : EV} {A : Nat → Prop} {H0 : Heap} {w w' : va_W} {cc : ByteArray} {own : String} {ret : Option FieldType} {nL pc : Nat} {ls : Array Slot} {rest : List Value} {a : Nat}
theorem r_get (cx : Cx E p s m args meth c cc own ret nL) (wo : Wo E A H0 w H locs) (q0 : Nat) {ci N index : Nat} {C : String} {T : u_T} {fs : List Value} {v : Value} (he : w[q0]? = some (a, .inr (ci, fs))) (hc : cls6[ci]? = some (C, T, N)) (hin : ∀ w ∈ u_ws C T N, w ∈ ltb) (k : Nat) (hk : k < N) (hl : Cond.fieldLink own index (T k).1 (T k).2.1 (T k).2.2.1 ∈ ltb) (hv : fs[k]? = some v) (hdg : decode cc pc = .ok (.getfield index, 3))
    (kk : W p l e R s m args below meth c H locs cells slots Q (F0 m (pc + 3) ls (v :: rest))) : W p l e R s m args below meth c H locs cells slots Q (F0 m pc ls (.ref a :: rest)) :=
  va_get cx.1.1 cx.1.2.1 cx.1.2.2.2.2 hin cx.1.2.2.2.1 cx.2.2.2.1 wo.1 q0 he hc k hk (cx.1.2.2.2.2 _ hl) (fun _ h => h) hv hdg kk
theorem r_put (cx : Cx E p s m args meth c cc own ret nL) (wo : Wo E A H0 w H locs) (q0 : Nat) {ci N index : Nat} {C : String} {T : u_T} {fs : List Value} {v : Value} (he : w[q0]? = some (a, .inr (ci, fs))) (hc : cls6[ci]? = some (C, T, N)) (hin : ∀ w ∈ u_ws C T N, w ∈ ltb) (ty0 : Nat → FieldType) (hty : ∀ k, k < N → parseFieldDescriptor (T k).2.2.1 = some (ty0 k)) (hnm : ∀ a, a < N → ∀ b, b < N → a ≠ b → (T a).2.1 ≠ (T b).2.1) (k : Nat) (hk : k < N) (hl : Cond.fieldLink own index (T k).1 (T k).2.1 (T k).2.2.1 ∈ ltb) (hfin : (T k).2.2.2 = false) (hn : narrow (ty0 k) v = v) (hfit : fits (ty0 k) v = true) (hlen : k < fs.length) (hw : w.set q0 (a, .inr (ci, fs.set k v)) = w') (hdg : decode cc pc = .ok (.putfield index, 3))
    (kk : ∀ (H1 : Heap) (locs1 : List Loc), Wo E A H0 w' H1 locs1 → W p l e R s m args below meth c H1 locs1 cells slots Q (F0 m (pc + 3) ls rest)) : W p l e R s m args below meth c H locs cells slots Q (F0 m pc ls (v :: .ref a :: rest)) := by
  subst hw
  exact va_put cx.1.1 cx.1.2.1 cx.1.2.2.2.2 hin ty0 hty hnm cx.1.2.2.2.1 cx.2.2.2.1 wo.1 wo.2.1 wo.2.2.1 q0 he hc k hk (cx.1.2.2.2.2 _ hl) (fun _ h => h) hfin (hty k hk) hn hfit hlen hdg (fun H1 l1 a b c => kk H1 l1 ⟨a, b, c, wo.2.2.2⟩)
theorem r_iald (cx : Cx E p s m args meth c cc own ret nL) (wo : Wo E A H0 w H locs) (q0 : Nat) {n : Nat} {f : Nat → Int32} (ha : w[q0]? = some (oI E a n f)) {i : Int32} (hin : inb i n = true) (hdg : decode cc pc = .ok (.iaload, 1))
    (kk : W p l e R s m args below meth c H locs cells slots Q (F0 m (pc + 1) ls (.int (f i.toNatClampNeg) :: rest))) : W p l e R s m args below meth c H locs cells slots Q (F0 m pc ls (.int i :: .ref a :: rest)) :=
  va_iald cx.1.1 cx.1.2.1 cx.2.2.2.1 wo.1 q0 0 ha rfl (inb_in hin) hdg kk
theorem r_lald (cx : Cx E p s m args meth c cc own ret nL) (wo : Wo E A H0 w H locs) (q0 : Nat) {n : Nat} {f : Nat → Int64} (ha : w[q0]? = some (oJ E a n f)) {i : Int32} (hin : inb i n = true) (hdg : decode cc pc = .ok (.laload, 1))
    (kk : W p l e R s m args below meth c H locs cells slots Q (F0 m (pc + 1) ls (.long (f i.toNatClampNeg) :: rest))) : W p l e R s m args below meth c H locs cells slots Q (F0 m pc ls (.int i :: .ref a :: rest)) :=
  va_lald cx.1.1 cx.1.2.1 cx.2.2.2.1 wo.1 q0 1 ha rfl (inb_in hin) hdg kk
theorem r_zald (cx : Cx E p s m args meth c cc own ret nL) (wo : Wo E A H0 w H locs) (q0 : Nat) {n : Nat} {f : Nat → Int32} (ha : w[q0]? = some (oZ E a n f)) {i : Int32} (hin : inb i n = true) (hdg : decode cc pc = .ok (.baload, 1))
    (kk : W p l e R s m args below meth c H locs cells slots Q (F0 m (pc + 1) ls (.int (f i.toNatClampNeg) :: rest))) : W p l e R s m args below meth c H locs cells slots Q (F0 m pc ls (.int i :: .ref a :: rest)) :=
  va_zald cx.1.1 cx.1.2.1 cx.2.2.2.1 wo.1 q0 2 ha rfl (inb_in hin) hdg kk
theorem r_bald (cx : Cx E p s m args meth c cc own ret nL) (wo : Wo E A H0 w H locs) (q0 : Nat) {n : Nat} {f : Nat → Int32} (ha : w[q0]? = some (oB E a n f)) {i : Int32} (hin : inb i n = true) (hdg : decode cc pc = .ok (.baload, 1))
    (kk : W p l e R s m args below meth c H locs cells slots Q (F0 m (pc + 1) ls (.int (f i.toNatClampNeg) :: rest))) : W p l e R s m args below meth c H locs cells slots Q (F0 m pc ls (.int i :: .ref a :: rest)) :=
  va_bald cx.1.1 cx.1.2.1 cx.2.2.2.1 wo.1 q0 3 ha rfl (inb_in hin) hdg kk
theorem r_iast (cx : Cx E p s m args meth c cc own ret nL) (wo : Wo E A H0 w H locs) (q0 : Nat) {n : Nat} {f : Nat → Int32} (ha : w[q0]? = some (oI E a n f)) {i x : Int32} (hin : inb i n = true) (hw : w.set q0 (oI E a n (upd f i.toNatClampNeg x)) = w') (hdg : decode cc pc = .ok (.iastore, 1))
    (kk : ∀ (H1 : Heap) (locs1 : List Loc), Wo E A H0 w' H1 locs1 → W p l e R s m args below meth c H1 locs1 cells slots Q (F0 m (pc + 1) ls rest)) : W p l e R s m args below meth c H locs cells slots Q (F0 m pc ls (.int x :: .int i :: .ref a :: rest)) := by
  subst hw
  exact va_iast cx.1.1 cx.1.2.1 cx.2.2.2.1 wo.1 wo.2.1 wo.2.2.1 q0 0 ha rfl (inb_in hin) hdg (fun H1 l1 a b c => kk H1 l1 ⟨a, b, c, wo.2.2.2⟩)
theorem r_zast (cx : Cx E p s m args meth c cc own ret nL) (wo : Wo E A H0 w H locs) (q0 : Nat) {n : Nat} {f : Nat → Int32} (ha : w[q0]? = some (oZ E a n f)) {i x : Int32} (hin : inb i n = true) (hw : w.set q0 (oZ E a n (upd f i.toNatClampNeg (vp_nar .boolean x))) = w') (hdg : decode cc pc = .ok (.bastore, 1))
    (kk : ∀ (H1 : Heap) (locs1 : List Loc), Wo E A H0 w' H1 locs1 → W p l e R s m args below meth c H1 locs1 cells slots Q (F0 m (pc + 1) ls rest)) : W p l e R s m args below meth c H locs cells slots Q (F0 m pc ls (.int x :: .int i :: .ref a :: rest)) := by
  subst hw
  exact va_zast cx.1.1 cx.1.2.1 cx.2.2.2.1 wo.1 wo.2.1 wo.2.2.1 q0 2 ha rfl (inb_in hin) hdg (fun H1 l1 a b c => kk H1 l1 ⟨a, b, c, wo.2.2.2⟩)
theorem r_bast (cx : Cx E p s m args meth c cc own ret nL) (wo : Wo E A H0 w H locs) (q0 : Nat) {n : Nat} {f : Nat → Int32} (ha : w[q0]? = some (oB E a n f)) {i x : Int32} (hin : inb i n = true) (hw : w.set q0 (oB E a n (upd f i.toNatClampNeg (vp_nar .byte x))) = w') (hdg : decode cc pc = .ok (.bastore, 1))
    (kk : ∀ (H1 : Heap) (locs1 : List Loc), Wo E A H0 w' H1 locs1 → W p l e R s m args below meth c H1 locs1 cells slots Q (F0 m (pc + 1) ls rest)) : W p l e R s m args below meth c H locs cells slots Q (F0 m pc ls (.int x :: .int i :: .ref a :: rest)) := by
  subst hw
  exact va_bast cx.1.1 cx.1.2.1 cx.2.2.2.1 wo.1 wo.2.1 wo.2.2.1 q0 3 ha rfl (inb_in hin) hdg (fun H1 l1 a b c => kk H1 l1 ⟨a, b, c, wo.2.2.2⟩)
theorem r_last (cx : Cx E p s m args meth c cc own ret nL) (wo : Wo E A H0 w H locs) (q0 : Nat) {n : Nat} {f : Nat → Int64} (ha : w[q0]? = some (oJ E a n f)) {i : Int32} {x : Int64} (hin : inb i n = true) (hw : w.set q0 (oJ E a n (vp_updL f i.toNatClampNeg x)) = w') (hdg : decode cc pc = .ok (.lastore, 1))
    (kk : ∀ (H1 : Heap) (locs1 : List Loc), Wo E A H0 w' H1 locs1 → W p l e R s m args below meth c H1 locs1 cells slots Q (F0 m (pc + 1) ls rest)) : W p l e R s m args below meth c H locs cells slots Q (F0 m pc ls (.long x :: .int i :: .ref a :: rest)) := by
  subst hw
  exact va_last cx.1.1 cx.1.2.1 cx.2.2.2.1 wo.1 wo.2.1 wo.2.2.1 q0 1 ha rfl (inb_in hin) hdg (fun H1 l1 a b c => kk H1 l1 ⟨a, b, c, wo.2.2.2⟩)
theorem r_alen (cx : Cx E p s m args meth c cc own ret nL) (wo : Wo E A H0 w H locs) (q0 t0 : Nat) {cA : ClassId} {x : vp_A} (ha : w[q0]? = some (a, .inl (cA, x))) {ty : FieldType} (ht : (tyE E)[t0]? = some (cA, ty)) (hdg : decode cc pc = .ok (.arraylength, 1))
    (kk : W p l e R s m args below meth c H locs cells slots Q (F0 m (pc + 1) ls (.int (nI x.1) :: rest))) : W p l e R s m args below meth c H locs cells slots Q (F0 m pc ls (.ref a :: rest)) :=
  va_alen cx.1.1 cx.1.2.1 cx.2.2.2.1 wo.1 q0 t0 ha ht rfl hdg kk
-- returns
theorem t_ireti {l0 : Launch} {w0 : va_W} {sz : Nat} {r v : Int32} {w1 : va_W} {ty : FieldType} (cx : Cx E p s m args meth c cc own (some ty) nL) (wo : Wo E (va_A w0 sz) s.heap w1 H locs) (hn : narrow ty (.int v) = .int v) (hv : v = r) (hdg : decode cc pc = .ok (.ireturn, 1)) :
    W p l0 e R s m args below meth c H locs cells slots (MQ below (va_Qi (fun (x : Int32) (_ : Unit) => x = r) (fun _ t => va_P E.1 cls6 w1 t.heap ∧ va_D (va_A w0 sz) w1) (va_A w0 sz)) args s cells slots (va_A w0 sz)) (F0 m pc ls [.int v]) := by
  have hlocks := cx.2.2.1
  exact W.zret cx.1.1 cx.1.2.1 cx.2.1 hn (fun t ht hW => ⟨⟨v, (), rfl, hv, by rw [ht]; exact wo.1, wo.2.1⟩, wo.2.2.1.F ht⟩) wo.2.2.1.2.2 hdg hlocks
theorem t_lreti {l0 : Launch} {w0 : va_W} {sz : Nat} {r v : Int64} {w1 : va_W} (cx : Cx E p s m args meth c cc own (some .long) nL) (wo : Wo E (va_A w0 sz) s.heap w1 H locs) (hv : v = r) (hdg : decode cc pc = .ok (.lreturn, 1)) :
    W p l0 e R s m args below meth c H locs cells slots (MQ below (va_Ql (fun (x : Int64) (_ : Unit) => x = r) (fun _ t => va_P E.1 cls6 w1 t.heap ∧ va_D (va_A w0 sz) w1) (va_A w0 sz)) args s cells slots (va_A w0 sz)) (F0 m pc ls [.long v]) := by
  have hlocks := cx.2.2.1
  exact W.lret cx.1.1 cx.1.2.1 cx.2.1 (fun t ht hW => ⟨⟨v, (), rfl, hv, by rw [ht]; exact wo.1, wo.2.1⟩, wo.2.2.1.F ht⟩) wo.2.2.1.2.2 hdg hlocks
theorem t_vret {l0 : Launch} {w0 : va_W} {sz : Nat} {w1 : va_W} (cx : Cx E p s m args meth c cc own none nL) (wo : Wo E (va_A w0 sz) s.heap w1 H locs) (hdg : decode cc pc = .ok (.return_, 1)) :
    W p l0 e R s m args below meth c H locs cells slots (MQ below (va_Qv (fun (_ : Unit) => True) (fun _ t => va_P E.1 cls6 w1 t.heap ∧ va_D (va_A w0 sz) w1) (va_A w0 sz)) args s cells slots (va_A w0 sz)) (F0 m pc ls []) := by
  have hlocks := cx.2.2.1
  exact W.vret cx.1.1 cx.1.2.1 cx.2.1 (fun t ht hW => ⟨⟨(), rfl, trivial, by rw [ht]; exact wo.1, wo.2.1⟩, wo.2.2.1.F ht⟩) wo.2.2.1.2.2 hdg hlocks
-- calls: the runs
variable {y : MethodName} {bytes : ByteArray} {maxL n index : Nat} {ret1 : Option FieldType} {rm : Room} {Qc : Array Value → State → Outcome → State → Prop} {free : Addr → Prop} {C : String} {b : Addr} {As : List Value} {wc : va_W}
theorem run_V (cx : Cx E p s m args meth c cc own ret nL) (ct : Met l y (.code y bytes maxL ret1 :: ltb) rm (va_Pc (.ref b :: As) (preW E wc H.size)) Qc rm.cells rm.slots free) (hP : va_P E.1 cls6 wc H) (hD : va_D (fun _ => True) wc) (q0 : Nat) {ci : Nat} {q : vw_C} {fs : List Value} (hc : cls6[ci]? = some q) (he : wc[q0]? = some (b, .inr (ci, fs))) (hq : q.1 = y.cls)
    (hl : Cond.methodLink own index y ∈ ltb) (hi : Cond.instanceMethod y ∈ ltb) (hs : Cond.selects y.cls y y ∈ ltb) (hn : Cond.initialized y.cls ∈ ltb) (ho : Cond.code y bytes maxL ret1 ∈ ltb)
    (hd : y.cls ≠ "java/lang/invoke/MethodHandle" ∧ y.cls ≠ "java/lang/invoke/VarHandle" ∧ (parseMethodDescriptor y.desc).map (fun d => d.parameters.length) = some As.length) (hR : rm.frames + 1 ≤ R.frames ∧ 8 + (maxL + 11) + rm.locals ≤ R.locals) (hrm : cells + rm.cells ≤ R.cells ∧ slots + rm.slots ≤ R.slots)
    (hsz : ls.size = nL) {st0 : List Value} (hst : st0 = As.reverse ++ .ref b :: rest) (hW : (rest.map fun v => v.category).sum ≤ 8) (hdg : decode cc pc = .ok (.invokevirtual index, 3)) :
    va_Run p l e R s m args below meth c H locs cells slots rm.cells rm.slots (F0 m pc ls st0) rest (Qc (Value.ref b :: As).toArray) free := by
  have ht := cx.1.2.2.2.2
  refine va_runV (C := y.cls) (b := b) (As := As) (g := F0 m pc ls st0) cx.1 ct ⟨callB_of As.length ht (good_c ho) rfl rfl rfl (ht _ hn) (ht _ hl) hd hR, ht _ hi, ht _ hs⟩ ⟨pre_blind E wc H.size _, ?_, fun U hU hW => ⟨rfl, by rw [hU], by rw [hU]; exact hP, cx.2.2.2.warm hW, hD⟩⟩ rfl rfl hsz hst (lv_room hW) hdg hrm
  have h1 := va_recv cx.2.2.2.1 hP hc he
  rw [hq] at h1
  exact h1
theorem run_S (cx : Cx E p s m args meth c cc own ret nL) (ct : Met l y (.code y bytes maxL ret1 :: ltb) rm (va_Pc As (preW E wc H.size)) Qc rm.cells rm.slots free) (hP : va_P E.1 cls6 wc H) (hD : va_D (fun _ => True) wc)
    (hl : Cond.methodLink own index y ∈ ltb) (hi : Cond.static y ∈ ltb) (hn : Cond.initialized y.cls ∈ ltb) (ho : Cond.code y bytes maxL ret1 ∈ ltb)
    (hd : y.cls ≠ "java/lang/invoke/MethodHandle" ∧ y.cls ≠ "java/lang/invoke/VarHandle" ∧ (parseMethodDescriptor y.desc).map (fun d => d.parameters.length) = some As.length) (hR : rm.frames + 1 ≤ R.frames ∧ 8 + (maxL + 11) + rm.locals ≤ R.locals) (hrm : cells + rm.cells ≤ R.cells ∧ slots + rm.slots ≤ R.slots)
    (hsz : ls.size = nL) {st0 : List Value} (hst : st0 = As.reverse ++ rest) (hW : (rest.map fun v => v.category).sum ≤ 8) (hdg : decode cc pc = .ok (.invokestatic index, 3)) :
    va_Run p l e R s m args below meth c H locs cells slots rm.cells rm.slots (F0 m pc ls st0) rest (Qc As.toArray) free := by
  have ht := cx.1.2.2.2.2
  exact va_runS (As := As) (g := F0 m pc ls st0) cx.1 ct ⟨callB_of As.length ht (good_c ho) rfl rfl rfl (ht _ hn) (ht _ hl) hd hR, ht _ hi⟩ ⟨pre_blind E wc H.size _, fun U hU hW => ⟨rfl, by rw [hU], by rw [hU]; exact hP, cx.2.2.2.warm hW, hD⟩⟩ rfl rfl hsz hst (lv_room hW) hdg hrm
theorem run_I (cx : Cx E p s m args meth c cc own ret nL) (ct : Met l y (.code y bytes maxL none :: ltb) rm (va_Pc (.ref b :: As) (preW E wc H.size)) Qc rm.cells rm.slots free) (hP : va_P E.1 cls6 wc H) (hD : va_D (fun _ => True) wc) (hnm : y.name = "<init>")
    (hl : Cond.methodLink own index y ∈ ltb) (hi : Cond.instanceMethod y ∈ ltb) (hn : Cond.initialized y.cls ∈ ltb) (ho : Cond.code y bytes maxL none ∈ ltb)
    (hd : y.cls ≠ "java/lang/invoke/MethodHandle" ∧ y.cls ≠ "java/lang/invoke/VarHandle" ∧ (parseMethodDescriptor y.desc).map (fun d => d.parameters.length) = some As.length) (hR : rm.frames + 1 ≤ R.frames ∧ 8 + (maxL + 11) + rm.locals ≤ R.locals) (hrm : cells + rm.cells ≤ R.cells ∧ slots + rm.slots ≤ R.slots)
    (hsz : ls.size = nL) {st0 : List Value} (hst : st0 = As.reverse ++ .ref b :: rest) (hW : (rest.map fun v => v.category).sum ≤ 8) (hdg : decode cc pc = .ok (.invokespecial index, 3)) :
    va_Run p l e R s m args below meth c H locs cells slots rm.cells rm.slots (F0 m pc ls st0) rest (Qc (Value.ref b :: As).toArray) free := by
  have ht := cx.1.2.2.2.2
  exact va_runI (b := b) (As := As) (g := F0 m pc ls st0) cx.1 ct ⟨callB_of As.length ht (good_c ho) rfl rfl rfl (ht _ hn) (ht _ hl) hd hR, hnm, ht _ hi⟩ ⟨pre_blind E wc H.size _, fun U hU hW => ⟨rfl, by rw [hU], by rw [hU]; exact hP, cx.2.2.2.warm hW, hD⟩⟩ rfl rfl hsz hst (lv_room hW) hdg hrm
theorem run_SN {host : String} (cx : Cx E p s m args meth c cc own ret nL) (ct : Met l y (.code y bytes maxL ret1 :: ltb) rm (va_Pc As (preW E wc H.size)) Qc rm.cells rm.slots free) (hP : va_P E.1 cls6 wc H) (hD : va_D (fun _ => True) wc)
    (hl : va_Nw (Cond.methodLinkNest own index y host) s) (hi : Cond.static y ∈ ltb) (hn : Cond.initialized y.cls ∈ ltb) (ho : Cond.code y bytes maxL ret1 ∈ ltb)
    (hd : y.cls ≠ "java/lang/invoke/MethodHandle" ∧ y.cls ≠ "java/lang/invoke/VarHandle" ∧ (parseMethodDescriptor y.desc).map (fun d => d.parameters.length) = some As.length) (hR : rm.frames + 1 ≤ R.frames ∧ 8 + (maxL + 11) + rm.locals ≤ R.locals) (hrm : cells + rm.cells ≤ R.cells ∧ slots + rm.slots ≤ R.slots)
    (hsz : ls.size = nL) {st0 : List Value} (hst : st0 = As.reverse ++ rest) (hW : (rest.map fun v => v.category).sum ≤ 8) (hdg : decode cc pc = .ok (.invokestatic index, 3)) :
    va_Run p l e R s m args below meth c H locs cells slots rm.cells rm.slots (F0 m pc ls st0) rest (Qc As.toArray) free := by
  have ht := cx.1.2.2.2.2
  exact va_runSN (As := As) (g := F0 m pc ls st0) cx.1 ct ⟨va_cnB As.length ht (good_c ho) rfl rfl rfl hl (ht _ hn) hd hR, ht _ hi, trivial⟩ ⟨pre_blind E wc H.size _, fun U hU hW => ⟨rfl, by rw [hU], by rw [hU]; exact hP, cx.2.2.2.warm hW, hD⟩⟩ rfl rfl hsz hst (lv_room hW) hdg hrm
-- calls: going on, the callee's world being the caller's
variable {w1 : va_W} {mc ms : Nat} {st0 : List Value} {aa : Array Value}
theorem go_i {r : Int32} (hr : va_Run p l e R s m args below meth c H locs cells slots mc ms (F0 m pc ls st0) rest (va_Qi (fun (x : Int32) (_ : Unit) => x = r) (fun _ t => va_P E.1 cls6 w1 t.heap ∧ va_D (va_A w H.size) w1) (va_A w H.size) aa) (va_A w H.size)) (wo : Wo E A H0 w H locs)
    (kk : ∀ (H1 : Heap) (locs1 : List Loc), Wo E A H0 w1 H1 locs1 → W p l e R s m args below meth c H1 locs1 (cells + mc) (slots + ms) Q (F0 m (pc + 3) ls (.int r :: rest))) : W p l e R s m args below meth c H locs cells slots Q (F0 m pc ls st0) := by
  refine va_calli hr wo.2.2.1 (fun q _ h => wo.free q h) wo.free (fun r1 u t H1 l1 ht hvm hw hB hz hk hS => ?_)
  subst hw
  obtain ⟨hP1, hD1⟩ := hB
  rw [ht] at hP1
  exact kk H1 l1 ⟨hP1, hD1.weaken (fun _ _ _ h => wo.free _ h), hS, wo.2.2.2⟩
theorem go_l {r : Int64} (hr : va_Run p l e R s m args below meth c H locs cells slots mc ms (F0 m pc ls st0) rest (va_Ql (fun (x : Int64) (_ : Unit) => x = r) (fun _ t => va_P E.1 cls6 w1 t.heap ∧ va_D (va_A w H.size) w1) (va_A w H.size) aa) (va_A w H.size)) (wo : Wo E A H0 w H locs)
    (kk : ∀ (H1 : Heap) (locs1 : List Loc), Wo E A H0 w1 H1 locs1 → W p l e R s m args below meth c H1 locs1 (cells + mc) (slots + ms) Q (F0 m (pc + 3) ls (.long r :: rest))) : W p l e R s m args below meth c H locs cells slots Q (F0 m pc ls st0) := by
  refine va_calll hr wo.2.2.1 (fun q _ h => wo.free q h) wo.free (fun r1 u t H1 l1 ht hvm hw hB hz hk hS => ?_)
  subst hw
  obtain ⟨hP1, hD1⟩ := hB
  rw [ht] at hP1
  exact kk H1 l1 ⟨hP1, hD1.weaken (fun _ _ _ h => wo.free _ h), hS, wo.2.2.2⟩
theorem go_v (hr : va_Run p l e R s m args below meth c H locs cells slots mc ms (F0 m pc ls st0) rest (va_Qv (fun (_ : Unit) => True) (fun _ t => va_P E.1 cls6 w1 t.heap ∧ va_D (va_A w H.size) w1) (va_A w H.size) aa) (va_A w H.size)) (wo : Wo E A H0 w H locs)
    (kk : ∀ (H1 : Heap) (locs1 : List Loc), Wo E A H0 w1 H1 locs1 → W p l e R s m args below meth c H1 locs1 (cells + mc) (slots + ms) Q (F0 m (pc + 3) ls rest)) : W p l e R s m args below meth c H locs cells slots Q (F0 m pc ls st0) := by
  refine va_callv hr wo.2.2.1 (fun q _ h => wo.free q h) wo.free (fun u t H1 l1 ht hvm hw hB hz hk hS => ?_)
  obtain ⟨hP1, hD1⟩ := hB
  rw [ht] at hP1
  exact kk H1 l1 ⟨hP1, hD1.weaken (fun _ _ _ h => wo.free _ h), hS, wo.2.2.2⟩
end RW
end
section
def cel (E : EV) (ad n : Nat → Nat) (a : Nat) (σ : HS) : va_E := match a with
  | 0 => .inr (4, [.ref (ad 1), .ref (ad 2), .ref (ad 3), .ref (ad 4), .ref (ad 5), .int (σ.1 0 5), .int (σ.1 0 6), .int (σ.1 0 7), .ref (ad 6), .ref (ad 7), .ref (ad 8)])
  | 1 => .inr (0, [.int (σ.1 1 0), .int (σ.1 1 1), .int (σ.1 1 2), .int (σ.1 1 3), .int (σ.1 1 4), .int (σ.1 1 5), .int (σ.1 1 6), .int (σ.1 1 7), .int (σ.1 1 8), .ref (ad 9)])
  | 2 => .inr (3, [.ref (ad 10), .ref (ad 1), .ref (ad 11), .ref (ad 12), .ref (ad 13), .ref (ad 14)])
  | 3 => .inr (1, [.ref (ad 15), .ref (ad 16), .ref (ad 1), .ref (ad 2)])
  | 4 => .inr (2, [.int (σ.1 4 0), .int (σ.1 4 1), .int (σ.1 4 2)])
  | 5 => .inl (E.2 1, n 5, .inr (.inl (σ.2 5)))
  | 6 => .inl (E.2 1, n 6, .inr (.inl (σ.2 6)))
  | 7 => .inl (E.2 1, n 7, .inr (.inl (σ.2 7)))
  | 8 => .inl (E.2 1, n 8, .inr (.inl (σ.2 8)))
  | 9 => .inl (E.2 0, n 9, .inl (σ.1 9))
  | 10 => .inl (E.2 2, n 10, .inl (σ.1 10))
  | 11 => .inl (E.2 1, n 11, .inr (.inl (σ.2 11)))
  | 12 => .inl (E.2 1, n 12, .inr (.inl (σ.2 12)))
  | 13 => .inl (E.2 2, n 13, .inl (σ.1 13))
  | 14 => .inl (E.2 2, n 14, .inl (σ.1 14))
  | 15 => .inl (E.2 0, n 15, .inl (σ.1 15))
  | 16 => .inl (E.2 0, n 16, .inl (σ.1 16))
  | 17 => .inl (E.2 1, n 17, .inr (.inl (σ.2 17)))
  | 18 => .inl (E.2 0, n 18, .inl (σ.1 18))
  | 19 => .inl (E.2 0, n 19, .inl (σ.1 19))
  | 20 => .inr (5, [.int (σ.1 20 0), .int (σ.1 20 1), .int (σ.1 20 2), .int (σ.1 20 3), .int (σ.1 20 4), .ref (ad 21), .int (σ.1 20 6), .ref (ad 22), .ref (ad 23), .ref (ad 24), .ref (ad 25), .ref (ad 26), .int (σ.1 20 12), .int (σ.1 20 13), .int (σ.1 20 14), .int (σ.1 20 15), .ref (ad 27), .int (σ.1 20 17), .ref (ad 28), .int (σ.1 20 19), .int (σ.1 20 20), .ref (ad 29)])
  | 21 => .inl (E.2 0, n 21, .inl (σ.1 21))
  | 22 => .inl (E.2 2, n 22, .inl (σ.1 22))
  | 23 => .inl (E.2 2, n 23, .inl (σ.1 23))
  | 24 => .inl (E.2 0, n 24, .inl (σ.1 24))
  | 25 => .inl (E.2 3, n 25, .inl (σ.1 25))
  | 26 => .inl (E.2 0, n 26, .inl (σ.1 26))
  | 27 => .inl (E.2 0, n 27, .inl (σ.1 27))
  | 28 => .inl (E.2 0, n 28, .inl (σ.1 28))
  | 29 => .inl (E.2 0, n 29, .inl (σ.1 29))
  | 30 => .inl (E.2 1, n 30, .inr (.inl (σ.2 30)))
  | _ => .inr (6, [])
theorem cel_0 (E : EV) (ad n : Nat → Nat) (σ : HS) : cel E ad n 0 σ = .inr (4, [.ref (ad 1), .ref (ad 2), .ref (ad 3), .ref (ad 4), .ref (ad 5), .int (σ.1 0 5), .int (σ.1 0 6), .int (σ.1 0 7), .ref (ad 6), .ref (ad 7), .ref (ad 8)]) := rfl
theorem cel_1 (E : EV) (ad n : Nat → Nat) (σ : HS) : cel E ad n 1 σ = .inr (0, [.int (σ.1 1 0), .int (σ.1 1 1), .int (σ.1 1 2), .int (σ.1 1 3), .int (σ.1 1 4), .int (σ.1 1 5), .int (σ.1 1 6), .int (σ.1 1 7), .int (σ.1 1 8), .ref (ad 9)]) := rfl
theorem cel_2 (E : EV) (ad n : Nat → Nat) (σ : HS) : cel E ad n 2 σ = .inr (3, [.ref (ad 10), .ref (ad 1), .ref (ad 11), .ref (ad 12), .ref (ad 13), .ref (ad 14)]) := rfl
theorem cel_3 (E : EV) (ad n : Nat → Nat) (σ : HS) : cel E ad n 3 σ = .inr (1, [.ref (ad 15), .ref (ad 16), .ref (ad 1), .ref (ad 2)]) := rfl
theorem cel_4 (E : EV) (ad n : Nat → Nat) (σ : HS) : cel E ad n 4 σ = .inr (2, [.int (σ.1 4 0), .int (σ.1 4 1), .int (σ.1 4 2)]) := rfl
theorem cel_5 (E : EV) (ad n : Nat → Nat) (σ : HS) : cel E ad n 5 σ = .inl (E.2 1, n 5, .inr (.inl (σ.2 5))) := rfl
theorem cel_6 (E : EV) (ad n : Nat → Nat) (σ : HS) : cel E ad n 6 σ = .inl (E.2 1, n 6, .inr (.inl (σ.2 6))) := rfl
theorem cel_7 (E : EV) (ad n : Nat → Nat) (σ : HS) : cel E ad n 7 σ = .inl (E.2 1, n 7, .inr (.inl (σ.2 7))) := rfl
theorem cel_8 (E : EV) (ad n : Nat → Nat) (σ : HS) : cel E ad n 8 σ = .inl (E.2 1, n 8, .inr (.inl (σ.2 8))) := rfl
theorem cel_9 (E : EV) (ad n : Nat → Nat) (σ : HS) : cel E ad n 9 σ = .inl (E.2 0, n 9, .inl (σ.1 9)) := rfl
theorem cel_10 (E : EV) (ad n : Nat → Nat) (σ : HS) : cel E ad n 10 σ = .inl (E.2 2, n 10, .inl (σ.1 10)) := rfl
theorem cel_11 (E : EV) (ad n : Nat → Nat) (σ : HS) : cel E ad n 11 σ = .inl (E.2 1, n 11, .inr (.inl (σ.2 11))) := rfl
theorem cel_12 (E : EV) (ad n : Nat → Nat) (σ : HS) : cel E ad n 12 σ = .inl (E.2 1, n 12, .inr (.inl (σ.2 12))) := rfl
theorem cel_13 (E : EV) (ad n : Nat → Nat) (σ : HS) : cel E ad n 13 σ = .inl (E.2 2, n 13, .inl (σ.1 13)) := rfl
theorem cel_14 (E : EV) (ad n : Nat → Nat) (σ : HS) : cel E ad n 14 σ = .inl (E.2 2, n 14, .inl (σ.1 14)) := rfl
theorem cel_15 (E : EV) (ad n : Nat → Nat) (σ : HS) : cel E ad n 15 σ = .inl (E.2 0, n 15, .inl (σ.1 15)) := rfl
theorem cel_16 (E : EV) (ad n : Nat → Nat) (σ : HS) : cel E ad n 16 σ = .inl (E.2 0, n 16, .inl (σ.1 16)) := rfl
theorem cel_17 (E : EV) (ad n : Nat → Nat) (σ : HS) : cel E ad n 17 σ = .inl (E.2 1, n 17, .inr (.inl (σ.2 17))) := rfl
theorem cel_18 (E : EV) (ad n : Nat → Nat) (σ : HS) : cel E ad n 18 σ = .inl (E.2 0, n 18, .inl (σ.1 18)) := rfl
theorem cel_19 (E : EV) (ad n : Nat → Nat) (σ : HS) : cel E ad n 19 σ = .inl (E.2 0, n 19, .inl (σ.1 19)) := rfl
theorem cel_20 (E : EV) (ad n : Nat → Nat) (σ : HS) : cel E ad n 20 σ = .inr (5, [.int (σ.1 20 0), .int (σ.1 20 1), .int (σ.1 20 2), .int (σ.1 20 3), .int (σ.1 20 4), .ref (ad 21), .int (σ.1 20 6), .ref (ad 22), .ref (ad 23), .ref (ad 24), .ref (ad 25), .ref (ad 26), .int (σ.1 20 12), .int (σ.1 20 13), .int (σ.1 20 14), .int (σ.1 20 15), .ref (ad 27), .int (σ.1 20 17), .ref (ad 28), .int (σ.1 20 19), .int (σ.1 20 20), .ref (ad 29)]) := rfl
theorem cel_21 (E : EV) (ad n : Nat → Nat) (σ : HS) : cel E ad n 21 σ = .inl (E.2 0, n 21, .inl (σ.1 21)) := rfl
theorem cel_22 (E : EV) (ad n : Nat → Nat) (σ : HS) : cel E ad n 22 σ = .inl (E.2 2, n 22, .inl (σ.1 22)) := rfl
theorem cel_23 (E : EV) (ad n : Nat → Nat) (σ : HS) : cel E ad n 23 σ = .inl (E.2 2, n 23, .inl (σ.1 23)) := rfl
theorem cel_24 (E : EV) (ad n : Nat → Nat) (σ : HS) : cel E ad n 24 σ = .inl (E.2 0, n 24, .inl (σ.1 24)) := rfl
theorem cel_25 (E : EV) (ad n : Nat → Nat) (σ : HS) : cel E ad n 25 σ = .inl (E.2 3, n 25, .inl (σ.1 25)) := rfl
theorem cel_26 (E : EV) (ad n : Nat → Nat) (σ : HS) : cel E ad n 26 σ = .inl (E.2 0, n 26, .inl (σ.1 26)) := rfl
theorem cel_27 (E : EV) (ad n : Nat → Nat) (σ : HS) : cel E ad n 27 σ = .inl (E.2 0, n 27, .inl (σ.1 27)) := rfl
theorem cel_28 (E : EV) (ad n : Nat → Nat) (σ : HS) : cel E ad n 28 σ = .inl (E.2 0, n 28, .inl (σ.1 28)) := rfl
theorem cel_29 (E : EV) (ad n : Nat → Nat) (σ : HS) : cel E ad n 29 σ = .inl (E.2 0, n 29, .inl (σ.1 29)) := rfl
theorem cel_30 (E : EV) (ad n : Nat → Nat) (σ : HS) : cel E ad n 30 σ = .inl (E.2 1, n 30, .inr (.inl (σ.2 30))) := rfl
theorem cel_congr {E : EV} {ad n : Nat → Nat} {σ σ1 : HS} (b : Nat) (h1 : σ1.1 b = σ.1 b) (h2 : σ1.2 b = σ.2 b) : cel E ad n b σ1 = cel E ad n b σ := by
  match b, h1, h2 with
  | 0, h1, h2 => rw [cel_0, cel_0]; (try rw [h1]); (try rw [h2])
  | 1, h1, h2 => rw [cel_1, cel_1]; (try rw [h1]); (try rw [h2])
  | 2, h1, h2 => rw [cel_2, cel_2]; (try rw [h1]); (try rw [h2])
  | 3, h1, h2 => rw [cel_3, cel_3]; (try rw [h1]); (try rw [h2])
  | 4, h1, h2 => rw [cel_4, cel_4]; (try rw [h1]); (try rw [h2])
  | 5, h1, h2 => rw [cel_5, cel_5]; (try rw [h1]); (try rw [h2])
  | 6, h1, h2 => rw [cel_6, cel_6]; (try rw [h1]); (try rw [h2])
  | 7, h1, h2 => rw [cel_7, cel_7]; (try rw [h1]); (try rw [h2])
  | 8, h1, h2 => rw [cel_8, cel_8]; (try rw [h1]); (try rw [h2])
  | 9, h1, h2 => rw [cel_9, cel_9]; (try rw [h1]); (try rw [h2])
  | 10, h1, h2 => rw [cel_10, cel_10]; (try rw [h1]); (try rw [h2])
  | 11, h1, h2 => rw [cel_11, cel_11]; (try rw [h1]); (try rw [h2])
  | 12, h1, h2 => rw [cel_12, cel_12]; (try rw [h1]); (try rw [h2])
  | 13, h1, h2 => rw [cel_13, cel_13]; (try rw [h1]); (try rw [h2])
  | 14, h1, h2 => rw [cel_14, cel_14]; (try rw [h1]); (try rw [h2])
  | 15, h1, h2 => rw [cel_15, cel_15]; (try rw [h1]); (try rw [h2])
  | 16, h1, h2 => rw [cel_16, cel_16]; (try rw [h1]); (try rw [h2])
  | 17, h1, h2 => rw [cel_17, cel_17]; (try rw [h1]); (try rw [h2])
  | 18, h1, h2 => rw [cel_18, cel_18]; (try rw [h1]); (try rw [h2])
  | 19, h1, h2 => rw [cel_19, cel_19]; (try rw [h1]); (try rw [h2])
  | 20, h1, h2 => rw [cel_20, cel_20]; (try rw [h1]); (try rw [h2])
  | 21, h1, h2 => rw [cel_21, cel_21]; (try rw [h1]); (try rw [h2])
  | 22, h1, h2 => rw [cel_22, cel_22]; (try rw [h1]); (try rw [h2])
  | 23, h1, h2 => rw [cel_23, cel_23]; (try rw [h1]); (try rw [h2])
  | 24, h1, h2 => rw [cel_24, cel_24]; (try rw [h1]); (try rw [h2])
  | 25, h1, h2 => rw [cel_25, cel_25]; (try rw [h1]); (try rw [h2])
  | 26, h1, h2 => rw [cel_26, cel_26]; (try rw [h1]); (try rw [h2])
  | 27, h1, h2 => rw [cel_27, cel_27]; (try rw [h1]); (try rw [h2])
  | 28, h1, h2 => rw [cel_28, cel_28]; (try rw [h1]); (try rw [h2])
  | 29, h1, h2 => rw [cel_29, cel_29]; (try rw [h1]); (try rw [h2])
  | 30, h1, h2 => rw [cel_30, cel_30]; (try rw [h1]); (try rw [h2])
  | b + 31, _, _ => rfl
def wl (E : EV) (ad n : Nat → Nat) (L : List Nat) (σ : HS) : va_W := L.map (fun a => (ad a, cel E ad n a σ))
section WL
variable {E : EV} {ad n : Nat → Nat} {L : List Nat} {σ σ1 : HS}
theorem wl_at {k a : Nat} (h : L[k]? = some a) : (wl E ad n L σ)[k]? = some (ad a, cel E ad n a σ) := by
  unfold wl
  rw [List.getElem?_map, h]
  rfl
theorem wl_mem {a : Nat} (h : a ∈ L) : ∃ k : Nat, L[k]? = some a := List.mem_iff_getElem?.mp h
theorem wl_set {A : Nat → Prop} {k a : Nat} (hD : va_D A (wl E ad n L σ)) (h : L[k]? = some a) (h1 : ∀ b, b ≠ a → σ1.1 b = σ.1 b) (h2 : ∀ b, b ≠ a → σ1.2 b = σ.2 b) {e : va_E} (he : cel E ad n a σ1 = e) : (wl E ad n L σ).set k (ad a, e) = wl E ad n L σ1 := by
  subst he
  apply List.ext_getElem?
  intro j
  rw [List.getElem?_set]
  by_cases hj : k = j
  · subst hj
    have hlt : k < (wl E ad n L σ).length := by
      have := wl_at (E := E) (ad := ad) (n := n) (σ := σ) h
      exact (List.getElem?_eq_some_iff.mp this).1
    simp only [if_true, hlt]
    exact (wl_at h).symm
  · simp only [hj, if_false]
    cases hL : L[j]? with
    | none =>
      unfold wl
      rw [List.getElem?_map, List.getElem?_map, hL]
      rfl
    | some b =>
      have hb : b ≠ a := by
        intro e
        subst e
        exact hj (hD.1 k j _ _ (wl_at h) (wl_at hL) rfl)
      rw [wl_at hL, wl_at hL, cel_congr b (h1 b hb) (h2 b hb)]
theorem beq_ne {a b : Nat} (h : b ≠ a) : Nat.beq b a = false := by
  cases hb : Nat.beq b a with
  | false => rfl
  | true => exact absurd (Nat.eq_of_beq_eq_true hb) h
theorem stF_1 {a k : Nat} {v : Int32} : ∀ b, b ≠ a → (stF σ a k v).1 b = σ.1 b := fun b h => by
  show cond (Nat.beq b a) _ _ = _
  rw [beq_ne h]; rfl
theorem stI_1 {a k : Nat} {v : Int32} : ∀ b, b ≠ a → (stI σ a k v).1 b = σ.1 b := fun b h => by
  show cond (Nat.beq b a) _ _ = _
  rw [beq_ne h]; rfl
theorem stL_2 {a k : Nat} {v : Int64} : ∀ b, b ≠ a → (stL σ a k v).2 b = σ.2 b := fun b h => by
  show cond (Nat.beq b a) _ _ = _
  rw [beq_ne h]; rfl
end WL
section GR
variable {p : Program} {l : Launch} {e : Env} {R : Room} {s : State} {m : MethodId} {args : Array Value} {below : List Frame} {meth : Method} {c : Code} {H : Heap} {locs : List Loc} {cells slots : Nat} {Q : State → Prop}
variable {E : EV} {ad n : Nat → Nat} {L : List Nat} {σ σ1 : HS} {A : Nat → Prop} {H0 : Heap} {cc : ByteArray} {own : String} {ret : Option FieldType} {nL pc : Nat} {ls : Array Slot} {rest : List Value} {a : Nat}
theorem g_get (cx : Cx E p s m args meth c cc own ret nL) (wo : Wo E A H0 (wl E ad n L σ) H locs) (hm : a ∈ L) {ci N index : Nat} {C : String} {T : u_T} {fs : List Value} {v : Value} (he : cel E ad n a σ = .inr (ci, fs)) (hc : cls6[ci]? = some (C, T, N)) (hin : ∀ w ∈ u_ws C T N, w ∈ ltb) (k : Nat) (hk : k < N) (hl : Cond.fieldLink own index (T k).1 (T k).2.1 (T k).2.2.1 ∈ ltb) (hv : fs[k]? = some v) (hdg : decode cc pc = .ok (.getfield index, 3))
    (kk : W p l e R s m args below meth c H locs cells slots Q (F0 m (pc + 3) ls (v :: rest))) : W p l e R s m args below meth c H locs cells slots Q (F0 m pc ls (.ref (ad a) :: rest)) := by
  obtain ⟨q, hq⟩ := wl_mem hm
  exact r_get cx wo q (by rw [wl_at hq, he]) hc hin k hk hl hv hdg kk
theorem g_put (cx : Cx E p s m args meth c cc own ret nL) (wo : Wo E A H0 (wl E ad n L σ) H locs) (hm : a ∈ L) {ci N index : Nat} {C : String} {T : u_T} {fs : List Value} {v : Int32} (he : cel E ad n a σ = .inr (ci, fs)) (hc : cls6[ci]? = some (C, T, N)) (hin : ∀ w ∈ u_ws C T N, w ∈ ltb) (ty0 : Nat → FieldType) (hty : ∀ k, k < N → parseFieldDescriptor (T k).2.2.1 = some (ty0 k)) (hnm : ∀ a, a < N → ∀ b, b < N → a ≠ b → (T a).2.1 ≠ (T b).2.1) (k : Nat) (hk : k < N) (hl : Cond.fieldLink own index (T k).1 (T k).2.1 (T k).2.2.1 ∈ ltb) (hfin : (T k).2.2.2 = false) (hn : narrow (ty0 k) (.int v) = .int v) (hfit : fits (ty0 k) (.int v) = true) (hlen : k < fs.length) (he1 : cel E ad n a (stF σ a k v) = .inr (ci, fs.set k (.int v))) (hdg : decode cc pc = .ok (.putfield index, 3))
    (kk : ∀ (H1 : Heap) (locs1 : List Loc), Wo E A H0 (wl E ad n L (stF σ a k v)) H1 locs1 → W p l e R s m args below meth c H1 locs1 cells slots Q (F0 m (pc + 3) ls rest)) : W p l e R s m args below meth c H locs cells slots Q (F0 m pc ls (.int v :: .ref (ad a) :: rest)) := by
  obtain ⟨q, hq⟩ := wl_mem hm
  exact r_put cx wo q (by rw [wl_at hq, he]) hc hin ty0 hty hnm k hk hl hfin hn hfit hlen (wl_set wo.2.1 hq stF_1 (fun _ _ => rfl) he1) hdg kk
theorem g_iald (cx : Cx E p s m args meth c cc own ret nL) (wo : Wo E A H0 (wl E ad n L σ) H locs) (hm : a ∈ L) (he : cel E ad n a σ = .inl (E.2 0, n a, .inl (σ.1 a))) {i : Int32} (hin : inb i (n a) = true) (hdg : decode cc pc = .ok (.iaload, 1))
    (kk : W p l e R s m args below meth c H locs cells slots Q (F0 m (pc + 1) ls (.int (σ.1 a i.toNatClampNeg) :: rest))) : W p l e R s m args below meth c H locs cells slots Q (F0 m pc ls (.int i :: .ref (ad a) :: rest)) := by
  obtain ⟨q, hq⟩ := wl_mem hm
  exact r_iald cx wo q (by rw [wl_at hq, he]) hin hdg kk
theorem g_zald (cx : Cx E p s m args meth c cc own ret nL) (wo : Wo E A H0 (wl E ad n L σ) H locs) (hm : a ∈ L) (he : cel E ad n a σ = .inl (E.2 2, n a, .inl (σ.1 a))) {i : Int32} (hin : inb i (n a) = true) (hdg : decode cc pc = .ok (.baload, 1))
    (kk : W p l e R s m args below meth c H locs cells slots Q (F0 m (pc + 1) ls (.int (σ.1 a i.toNatClampNeg) :: rest))) : W p l e R s m args below meth c H locs cells slots Q (F0 m pc ls (.int i :: .ref (ad a) :: rest)) := by
  obtain ⟨q, hq⟩ := wl_mem hm
  exact r_zald cx wo q (by rw [wl_at hq, he]) hin hdg kk
theorem g_bald (cx : Cx E p s m args meth c cc own ret nL) (wo : Wo E A H0 (wl E ad n L σ) H locs) (hm : a ∈ L) (he : cel E ad n a σ = .inl (E.2 3, n a, .inl (σ.1 a))) {i : Int32} (hin : inb i (n a) = true) (hdg : decode cc pc = .ok (.baload, 1))
    (kk : W p l e R s m args below meth c H locs cells slots Q (F0 m (pc + 1) ls (.int (σ.1 a i.toNatClampNeg) :: rest))) : W p l e R s m args below meth c H locs cells slots Q (F0 m pc ls (.int i :: .ref (ad a) :: rest)) := by
  obtain ⟨q, hq⟩ := wl_mem hm
  exact r_bald cx wo q (by rw [wl_at hq, he]) hin hdg kk
theorem g_lald (cx : Cx E p s m args meth c cc own ret nL) (wo : Wo E A H0 (wl E ad n L σ) H locs) (hm : a ∈ L) (he : cel E ad n a σ = .inl (E.2 1, n a, .inr (.inl (σ.2 a)))) {i : Int32} (hin : inb i (n a) = true) (hdg : decode cc pc = .ok (.laload, 1))
    (kk : W p l e R s m args below meth c H locs cells slots Q (F0 m (pc + 1) ls (.long (σ.2 a i.toNatClampNeg) :: rest))) : W p l e R s m args below meth c H locs cells slots Q (F0 m pc ls (.int i :: .ref (ad a) :: rest)) := by
  obtain ⟨q, hq⟩ := wl_mem hm
  exact r_lald cx wo q (by rw [wl_at hq, he]) hin hdg kk
theorem g_iast (cx : Cx E p s m args meth c cc own ret nL) (wo : Wo E A H0 (wl E ad n L σ) H locs) (hm : a ∈ L) (he : ∀ σ, cel E ad n a σ = .inl (E.2 0, n a, .inl (σ.1 a))) {i x : Int32} (hin : inb i (n a) = true) (hdg : decode cc pc = .ok (.iastore, 1))
    (kk : ∀ (H1 : Heap) (locs1 : List Loc), Wo E A H0 (wl E ad n L (stI σ a i.toNatClampNeg x)) H1 locs1 → W p l e R s m args below meth c H1 locs1 cells slots Q (F0 m (pc + 1) ls rest)) : W p l e R s m args below meth c H locs cells slots Q (F0 m pc ls (.int x :: .int i :: .ref (ad a) :: rest)) := by
  obtain ⟨q, hq⟩ := wl_mem hm
  refine r_iast cx wo q (by rw [wl_at hq, he]) hin (wl_set wo.2.1 hq stI_1 (fun _ _ => rfl) ?_) hdg kk
  rw [he]
  show _ = Sum.inl (E.2 0, n a, Sum.inl _)
  simp [stI]
theorem g_zast (cx : Cx E p s m args meth c cc own ret nL) (wo : Wo E A H0 (wl E ad n L σ) H locs) (hm : a ∈ L) (he : ∀ σ, cel E ad n a σ = .inl (E.2 2, n a, .inl (σ.1 a))) {i x : Int32} (hin : inb i (n a) = true) (hdg : decode cc pc = .ok (.bastore, 1))
    (kk : ∀ (H1 : Heap) (locs1 : List Loc), Wo E A H0 (wl E ad n L (stI σ a i.toNatClampNeg (vp_nar .boolean x))) H1 locs1 → W p l e R s m args below meth c H1 locs1 cells slots Q (F0 m (pc + 1) ls rest)) : W p l e R s m args below meth c H locs cells slots Q (F0 m pc ls (.int x :: .int i :: .ref (ad a) :: rest)) := by
  obtain ⟨q, hq⟩ := wl_mem hm
  refine r_zast cx wo q (by rw [wl_at hq, he]) hin (wl_set wo.2.1 hq stI_1 (fun _ _ => rfl) ?_) hdg kk
  rw [he]
  simp [stI]
theorem g_bast (cx : Cx E p s m args meth c cc own ret nL) (wo : Wo E A H0 (wl E ad n L σ) H locs) (hm : a ∈ L) (he : ∀ σ, cel E ad n a σ = .inl (E.2 3, n a, .inl (σ.1 a))) {i x : Int32} (hin : inb i (n a) = true) (hdg : decode cc pc = .ok (.bastore, 1))
    (kk : ∀ (H1 : Heap) (locs1 : List Loc), Wo E A H0 (wl E ad n L (stI σ a i.toNatClampNeg (vp_nar .byte x))) H1 locs1 → W p l e R s m args below meth c H1 locs1 cells slots Q (F0 m (pc + 1) ls rest)) : W p l e R s m args below meth c H locs cells slots Q (F0 m pc ls (.int x :: .int i :: .ref (ad a) :: rest)) := by
  obtain ⟨q, hq⟩ := wl_mem hm
  refine r_bast cx wo q (by rw [wl_at hq, he]) hin (wl_set wo.2.1 hq stI_1 (fun _ _ => rfl) ?_) hdg kk
  rw [he]
  simp [stI]
theorem g_last (cx : Cx E p s m args meth c cc own ret nL) (wo : Wo E A H0 (wl E ad n L σ) H locs) (hm : a ∈ L) (he : ∀ σ, cel E ad n a σ = .inl (E.2 1, n a, .inr (.inl (σ.2 a)))) {i : Int32} {x : Int64} (hin : inb i (n a) = true) (hdg : decode cc pc = .ok (.lastore, 1))
    (kk : ∀ (H1 : Heap) (locs1 : List Loc), Wo E A H0 (wl E ad n L (stL σ a i.toNatClampNeg x)) H1 locs1 → W p l e R s m args below meth c H1 locs1 cells slots Q (F0 m (pc + 1) ls rest)) : W p l e R s m args below meth c H locs cells slots Q (F0 m pc ls (.long x :: .int i :: .ref (ad a) :: rest)) := by
  obtain ⟨q, hq⟩ := wl_mem hm
  refine r_last cx wo q (by rw [wl_at hq, he]) hin (wl_set (σ1 := stL σ a i.toNatClampNeg x) wo.2.1 hq (fun _ _ => rfl) stL_2 ?_) hdg kk
  rw [he]
  simp [stL]
theorem g_alen (cx : Cx E p s m args meth c cc own ret nL) (wo : Wo E A H0 (wl E ad n L σ) H locs) (hm : a ∈ L) (t0 : Nat) {cA : ClassId} {x : vp_A} (he : cel E ad n a σ = .inl (cA, x)) (hx : x.1 = n a) {ty : FieldType} (ht : (tyE E)[t0]? = some (cA, ty)) (hdg : decode cc pc = .ok (.arraylength, 1))
    (kk : W p l e R s m args below meth c H locs cells slots Q (F0 m (pc + 1) ls (.int (nI (n a)) :: rest))) : W p l e R s m args below meth c H locs cells slots Q (F0 m pc ls (.ref (ad a) :: rest)) := by
  obtain ⟨q, hq⟩ := wl_mem hm
  rw [← hx] at kk
  exact r_alen cx wo q t0 (by rw [wl_at hq, he]) ht hdg kk
-- calls
variable {y : MethodName} {bytes : ByteArray} {maxL k index : Nat} {ret1 : Option FieldType} {rm : Room} {C : String} {As : List Value} {st0 : List Value}
theorem Wo.DT {w : va_W} (wo : Wo E A H0 w H locs) : va_D (fun _ => True) w := wo.2.1.weaken (fun _ _ _ _ => trivial)
def MwV (y : MethodName) (bytes : ByteArray) (maxL : Nat) (ret1 : Option FieldType) (k : Nat) : Prop := Cond.instanceMethod y ∈ ltb ∧ Cond.selects y.cls y y ∈ ltb ∧ Cond.initialized y.cls ∈ ltb ∧ Cond.code y bytes maxL ret1 ∈ ltb ∧ (y.cls ≠ "java/lang/invoke/MethodHandle" ∧ y.cls ≠ "java/lang/invoke/VarHandle" ∧ (parseMethodDescriptor y.desc).map (fun d => d.parameters.length) = some k)
def MwS (y : MethodName) (bytes : ByteArray) (maxL : Nat) (ret1 : Option FieldType) (k : Nat) : Prop := Cond.static y ∈ ltb ∧ Cond.initialized y.cls ∈ ltb ∧ Cond.code y bytes maxL ret1 ∈ ltb ∧ (y.cls ≠ "java/lang/invoke/MethodHandle" ∧ y.cls ≠ "java/lang/invoke/VarHandle" ∧ (parseMethodDescriptor y.desc).map (fun d => d.parameters.length) = some k)
theorem call_Vi {r : Int32} (cx : Cx E p s m args meth c cc own ret nL) (wo : Wo E A H0 (wl E ad n L σ) H locs) (ct : CtI l E y bytes maxL ret1 rm (.ref (ad a) :: As) (wl E ad n L σ) r (wl E ad n L σ1)) (hm : a ∈ L) {ci : Nat} {q : vw_C} {fs : List Value} (he : cel E ad n a σ = .inr (ci, fs)) (hc : cls6[ci]? = some q) (hq : q.1 = y.cls) (mw : MwV y bytes maxL ret1 As.length) (hl : Cond.methodLink own index y ∈ ltb)
    (hR : rm.frames + 1 ≤ R.frames ∧ 8 + (maxL + 11) + rm.locals ≤ R.locals) (hrm : cells + rm.cells ≤ R.cells ∧ slots + rm.slots ≤ R.slots) (hsz : ls.size = nL) (hst : st0 = As.reverse ++ .ref (ad a) :: rest) (hW : (rest.map fun v => v.category).sum ≤ 8) (hdg : decode cc pc = .ok (.invokevirtual index, 3))
    (kk : ∀ (H1 : Heap) (locs1 : List Loc), Wo E A H0 (wl E ad n L σ1) H1 locs1 → W p l e R s m args below meth c H1 locs1 (cells + rm.cells) (slots + rm.slots) Q (F0 m (pc + 3) ls (.int r :: rest))) : W p l e R s m args below meth c H locs cells slots Q (F0 m pc ls st0) := by
  obtain ⟨q0, h0⟩ := wl_mem hm
  exact go_i (run_V cx (ct H.size) wo.1 wo.DT q0 hc (by rw [wl_at h0, he]) hq hl mw.1 mw.2.1 mw.2.2.1 mw.2.2.2.1 mw.2.2.2.2 hR hrm hsz hst hW hdg) wo kk
theorem call_Vv (cx : Cx E p s m args meth c cc own ret nL) (wo : Wo E A H0 (wl E ad n L σ) H locs) (ct : CtV l E y bytes maxL ret1 rm (.ref (ad a) :: As) (wl E ad n L σ) (wl E ad n L σ1)) (hm : a ∈ L) {ci : Nat} {q : vw_C} {fs : List Value} (he : cel E ad n a σ = .inr (ci, fs)) (hc : cls6[ci]? = some q) (hq : q.1 = y.cls) (mw : MwV y bytes maxL ret1 As.length) (hl : Cond.methodLink own index y ∈ ltb)
    (hR : rm.frames + 1 ≤ R.frames ∧ 8 + (maxL + 11) + rm.locals ≤ R.locals) (hrm : cells + rm.cells ≤ R.cells ∧ slots + rm.slots ≤ R.slots) (hsz : ls.size = nL) (hst : st0 = As.reverse ++ .ref (ad a) :: rest) (hW : (rest.map fun v => v.category).sum ≤ 8) (hdg : decode cc pc = .ok (.invokevirtual index, 3))
    (kk : ∀ (H1 : Heap) (locs1 : List Loc), Wo E A H0 (wl E ad n L σ1) H1 locs1 → W p l e R s m args below meth c H1 locs1 (cells + rm.cells) (slots + rm.slots) Q (F0 m (pc + 3) ls rest)) : W p l e R s m args below meth c H locs cells slots Q (F0 m pc ls st0) := by
  obtain ⟨q0, h0⟩ := wl_mem hm
  exact go_v (run_V cx (ct H.size) wo.1 wo.DT q0 hc (by rw [wl_at h0, he]) hq hl mw.1 mw.2.1 mw.2.2.1 mw.2.2.2.1 mw.2.2.2.2 hR hrm hsz hst hW hdg) wo kk
theorem call_Vl {r : Int64} (cx : Cx E p s m args meth c cc own ret nL) (wo : Wo E A H0 (wl E ad n L σ) H locs) (ct : CtL l E y bytes maxL ret1 rm (.ref (ad a) :: As) (wl E ad n L σ) r (wl E ad n L σ1)) (hm : a ∈ L) {ci : Nat} {q : vw_C} {fs : List Value} (he : cel E ad n a σ = .inr (ci, fs)) (hc : cls6[ci]? = some q) (hq : q.1 = y.cls) (mw : MwV y bytes maxL ret1 As.length) (hl : Cond.methodLink own index y ∈ ltb)
    (hR : rm.frames + 1 ≤ R.frames ∧ 8 + (maxL + 11) + rm.locals ≤ R.locals) (hrm : cells + rm.cells ≤ R.cells ∧ slots + rm.slots ≤ R.slots) (hsz : ls.size = nL) (hst : st0 = As.reverse ++ .ref (ad a) :: rest) (hW : (rest.map fun v => v.category).sum ≤ 8) (hdg : decode cc pc = .ok (.invokevirtual index, 3))
    (kk : ∀ (H1 : Heap) (locs1 : List Loc), Wo E A H0 (wl E ad n L σ1) H1 locs1 → W p l e R s m args below meth c H1 locs1 (cells + rm.cells) (slots + rm.slots) Q (F0 m (pc + 3) ls (.long r :: rest))) : W p l e R s m args below meth c H locs cells slots Q (F0 m pc ls st0) := by
  obtain ⟨q0, h0⟩ := wl_mem hm
  exact go_l (run_V cx (ct H.size) wo.1 wo.DT q0 hc (by rw [wl_at h0, he]) hq hl mw.1 mw.2.1 mw.2.2.1 mw.2.2.2.1 mw.2.2.2.2 hR hrm hsz hst hW hdg) wo kk
theorem call_Si {r : Int32} (cx : Cx E p s m args meth c cc own ret nL) (wo : Wo E A H0 (wl E ad n L σ) H locs) (ct : CtI l E y bytes maxL ret1 rm As (wl E ad n L σ) r (wl E ad n L σ1)) (mw : MwS y bytes maxL ret1 As.length) (hl : Cond.methodLink own index y ∈ ltb)
    (hR : rm.frames + 1 ≤ R.frames ∧ 8 + (maxL + 11) + rm.locals ≤ R.locals) (hrm : cells + rm.cells ≤ R.cells ∧ slots + rm.slots ≤ R.slots) (hsz : ls.size = nL) (hst : st0 = As.reverse ++ rest) (hW : (rest.map fun v => v.category).sum ≤ 8) (hdg : decode cc pc = .ok (.invokestatic index, 3))
    (kk : ∀ (H1 : Heap) (locs1 : List Loc), Wo E A H0 (wl E ad n L σ1) H1 locs1 → W p l e R s m args below meth c H1 locs1 (cells + rm.cells) (slots + rm.slots) Q (F0 m (pc + 3) ls (.int r :: rest))) : W p l e R s m args below meth c H locs cells slots Q (F0 m pc ls st0) :=
  go_i (run_S cx (ct H.size) wo.1 wo.DT hl mw.1 mw.2.1 mw.2.2.1 mw.2.2.2 hR hrm hsz hst hW hdg) wo kk
theorem call_Sl {r : Int64} (cx : Cx E p s m args meth c cc own ret nL) (wo : Wo E A H0 (wl E ad n L σ) H locs) (ct : CtL l E y bytes maxL ret1 rm As (wl E ad n L σ) r (wl E ad n L σ1)) (mw : MwS y bytes maxL ret1 As.length) (hl : Cond.methodLink own index y ∈ ltb)
    (hR : rm.frames + 1 ≤ R.frames ∧ 8 + (maxL + 11) + rm.locals ≤ R.locals) (hrm : cells + rm.cells ≤ R.cells ∧ slots + rm.slots ≤ R.slots) (hsz : ls.size = nL) (hst : st0 = As.reverse ++ rest) (hW : (rest.map fun v => v.category).sum ≤ 8) (hdg : decode cc pc = .ok (.invokestatic index, 3))
    (kk : ∀ (H1 : Heap) (locs1 : List Loc), Wo E A H0 (wl E ad n L σ1) H1 locs1 → W p l e R s m args below meth c H1 locs1 (cells + rm.cells) (slots + rm.slots) Q (F0 m (pc + 3) ls (.long r :: rest))) : W p l e R s m args below meth c H locs cells slots Q (F0 m pc ls st0) :=
  go_l (run_S cx (ct H.size) wo.1 wo.DT hl mw.1 mw.2.1 mw.2.2.1 mw.2.2.2 hR hrm hsz hst hW hdg) wo kk
theorem call_Sv (cx : Cx E p s m args meth c cc own ret nL) (wo : Wo E A H0 (wl E ad n L σ) H locs) (ct : CtV l E y bytes maxL ret1 rm As (wl E ad n L σ) (wl E ad n L σ1)) (mw : MwS y bytes maxL ret1 As.length) (hl : Cond.methodLink own index y ∈ ltb)
    (hR : rm.frames + 1 ≤ R.frames ∧ 8 + (maxL + 11) + rm.locals ≤ R.locals) (hrm : cells + rm.cells ≤ R.cells ∧ slots + rm.slots ≤ R.slots) (hsz : ls.size = nL) (hst : st0 = As.reverse ++ rest) (hW : (rest.map fun v => v.category).sum ≤ 8) (hdg : decode cc pc = .ok (.invokestatic index, 3))
    (kk : ∀ (H1 : Heap) (locs1 : List Loc), Wo E A H0 (wl E ad n L σ1) H1 locs1 → W p l e R s m args below meth c H1 locs1 (cells + rm.cells) (slots + rm.slots) Q (F0 m (pc + 3) ls rest)) : W p l e R s m args below meth c H locs cells slots Q (F0 m pc ls st0) :=
  go_v (run_S cx (ct H.size) wo.1 wo.DT hl mw.1 mw.2.1 mw.2.2.1 mw.2.2.2 hR hrm hsz hst hW hdg) wo kk
theorem call_SNv {host : String} (cx : Cx E p s m args meth c cc own ret nL) (wo : Wo E A H0 (wl E ad n L σ) H locs) (ct : CtV l E y bytes maxL ret1 rm As (wl E ad n L σ) (wl E ad n L σ1)) (mw : MwS y bytes maxL ret1 As.length) (hl : va_Nw (Cond.methodLinkNest own index y host) s)
    (hR : rm.frames + 1 ≤ R.frames ∧ 8 + (maxL + 11) + rm.locals ≤ R.locals) (hrm : cells + rm.cells ≤ R.cells ∧ slots + rm.slots ≤ R.slots) (hsz : ls.size = nL) (hst : st0 = As.reverse ++ rest) (hW : (rest.map fun v => v.category).sum ≤ 8) (hdg : decode cc pc = .ok (.invokestatic index, 3))
    (kk : ∀ (H1 : Heap) (locs1 : List Loc), Wo E A H0 (wl E ad n L σ1) H1 locs1 → W p l e R s m args below meth c H1 locs1 (cells + rm.cells) (slots + rm.slots) Q (F0 m (pc + 3) ls rest)) : W p l e R s m args below meth c H locs cells slots Q (F0 m pc ls st0) :=
  go_v (run_SN cx (ct H.size) wo.1 wo.DT hl mw.1 mw.2.1 mw.2.2.1 mw.2.2.2 hR hrm hsz hst hW hdg) wo kk
end GR
end
section
def jn {α β : Type} (k : α) (f : α → β) : β := f k
theorem jn_s {α β : Type} {k : α} {f : α → Option β} {R : β} (h : jn k f = some R) : ∃ j, j = k ∧ f j = some R := ⟨k, rfl, h⟩
def nm2 {α β γ : Type} (q : α × β) (k : α → β → γ) : γ := k q.1 q.2
theorem isB_f {x : Int32} (h : isB x = true) : fits .boolean (.int x) = true := by
  rcases of_decide_eq_true h with h | h <;> subst h <;> rfl
def cpok (sp dp k : Int32) (n0 n1 : Nat) : Bool := decide (¬ sp < 0 ∧ ¬ dp < 0 ∧ ¬ k < 0 ∧ sp.toNatClampNeg + k.toNatClampNeg ≤ n0 ∧ dp.toNatClampNeg + k.toNatClampNeg ≤ n1)
def cpL (σ : HS) (a sp b dp k : Nat) : HS := (σ.1, fun x => cond (Nat.beq x b) (va_cpy (σ.2 a) (σ.2 b) sp dp k) (σ.2 x))
def cpI (σ : HS) (a sp b dp k : Nat) : HS := (fun x => cond (Nat.beq x b) (va_cpy (σ.1 a) (σ.1 b) sp dp k) (σ.1 x), σ.2)
section CP
variable {p : Program} {l : Launch} {e : Env} {R : Room} {s : State} {m : MethodId} {args : Array Value} {below : List Frame} {meth : Method} {c : Code} {H : Heap} {locs : List Loc} {cells slots : Nat} {Q : State → Prop}
variable {E : EV} {ad n : Nat → Nat} {L : List Nat} {σ σ1 : HS} {A : Nat → Prop} {H0 : Heap} {cc : ByteArray} {own : String} {ret : Option FieldType} {nL pc : Nat} {ls : Array Slot} {rest : List Value} {a b : Nat}
theorem g_cpJ (cx : Cx E p s m args meth c cc own ret nL) (wo : Wo E A H0 (wl E ad n L σ) H locs) (hm : a ∈ L) (hm1 : b ∈ L) (he : ∀ σ, cel E ad n a σ = .inl (E.2 1, n a, .inr (.inl (σ.2 a)))) (he1 : ∀ σ, cel E ad n b σ = .inl (E.2 1, n b, .inr (.inl (σ.2 b)))) {sp dp k : Int32} {index : Nat} (hok : cpok sp dp k (n a) (n b) = true) (hl : Cond.methodLink own index ⟨"java/lang/System", "arraycopy", "(Ljava/lang/Object;ILjava/lang/Object;II)V"⟩ ∈ ltb) (hsz : ls.size = nL)
    (hframes : 1 ≤ R.frames) (hlocals : (rest.map fun v => v.category).sum + (nativeFrameWords "java/lang/System" "arraycopy" 5 + 11) ≤ R.locals) (hdg : decode cc pc = .ok (.invokestatic index, 3))
    (kk : ∀ (H1 : Heap) (locs1 : List Loc), Wo E A H0 (wl E ad n L (cpL σ a sp.toNatClampNeg b dp.toNatClampNeg k.toNatClampNeg)) H1 locs1 → W p l e R s m args below meth c H1 locs1 cells slots Q (F0 m (pc + 3) ls rest)) : W p l e R s m args below meth c H locs cells slots Q (F0 m pc ls (.int k :: .int dp :: .ref (ad b) :: .int sp :: .ref (ad a) :: rest)) := by
  obtain ⟨q0, h0⟩ := wl_mem hm
  obtain ⟨q1, h1⟩ := wl_mem hm1
  obtain ⟨k1, k2, k3, k4, k5⟩ := of_decide_eq_true hok
  have hts := cx.1.2.2.2.2
  refine va_copyl cx.1.1 cx.1.2.1 (cx.1.2.2.1.trans hsz.symm) cx.1.2.2.2.1 (hts _ hl) (hts _ wv_arraycopy) (hts _ ws_arraycopy) (hts _ wn_SY) cx.2.2.2.1 wo.1 wo.2.1 wo.2.2.1 q0 q1 1 1 (by rw [wl_at h0, he]) (by rw [wl_at h1, he1]) rfl rfl rfl k1 k2 k3 k4 k5 (fun _ _ => rfl) hframes hlocals hdg (fun H1 l1 x1 x2 x3 => ?_)
  have hw := wl_set (σ1 := cpL σ a sp.toNatClampNeg b dp.toNatClampNeg k.toNatClampNeg) wo.2.1 h1 (fun _ _ => rfl) (fun x hx => by show cond (Nat.beq x b) _ _ = _; rw [beq_ne hx]; rfl) (he1 _)
  rw [show (cpL σ a sp.toNatClampNeg b dp.toNatClampNeg k.toNatClampNeg).2 b = va_cpy (σ.2 a) (σ.2 b) sp.toNatClampNeg dp.toNatClampNeg k.toNatClampNeg by simp [cpL]] at hw
  rw [hw] at x1 x2
  exact kk H1 l1 ⟨x1, x2, x3, wo.2.2.2⟩
end CP

theorem mw_LA_homes : MwS y_LA_homes c_LA_homes 8 (some (FieldType.array FieldType.int)) 2 := ⟨ws_LA_homes, wn_LA, wo_LA_homes, by decide +kernel⟩
theorem mw_LA_stepsOf : MwS y_LA_stepsOf c_LA_stepsOf 4 (some (FieldType.array FieldType.int)) 1 := ⟨ws_LA_stepsOf, wn_LA, wo_LA_stepsOf, by decide +kernel⟩
theorem mw_LA_haveNoDivisorInCommon : MwS y_LA_haveNoDivisorInCommon c_LA_haveNoDivisorInCommon 3 (some FieldType.boolean) 2 := ⟨ws_LA_haveNoDivisorInCommon, wn_LA, wo_LA_haveNoDivisorInCommon, by decide +kernel⟩
theorem mw_AR_copyOf : MwS y_AR_copyOf c_AR_copyOf 3 (some (FieldType.array FieldType.int)) 2 := ⟨ws_AR_copyOf, wn_AR, wo_AR_copyOf, by decide +kernel⟩
theorem mw_MA_min : MwS y_MA_min c_MA_min 2 (some FieldType.int) 2 := ⟨ws_MA_min, wn_MA, wo_MA_min, by decide +kernel⟩
theorem mw_RK_writeAll : MwV y_RK_writeAll c_RK_writeAll 5 none 0 := ⟨wi_RK_writeAll, wl_RK_writeAll, wn_RK, wo_RK_writeAll, by decide +kernel⟩
theorem mw_RK_store : MwV y_RK_store c_RK_store 6 none 3 := ⟨wi_RK_store, wl_RK_store, wn_RK, wo_RK_store, by decide +kernel⟩
theorem mw_RK_checkOf : MwV y_RK_checkOf c_RK_checkOf 5 (some FieldType.int) 1 := ⟨wi_RK_checkOf, wl_RK_checkOf, wn_RK, wo_RK_checkOf, by decide +kernel⟩
theorem mw_LA_slot : MwV y_LA_slot c_LA_slot 3 (some FieldType.int) 2 := ⟨wi_LA_slot, wl_LA_slot, wn_LA, wo_LA_slot, by decide +kernel⟩
theorem mw_RK_storeLike : MwV y_RK_storeLike c_RK_storeLike 3 none 2 := ⟨wi_RK_storeLike, wl_RK_storeLike, wn_RK, wo_RK_storeLike, by decide +kernel⟩
theorem mw_LA_logOf : MwV y_LA_logOf c_LA_logOf 2 (some FieldType.int) 1 := ⟨wi_LA_logOf, wl_LA_logOf, wn_LA, wo_LA_logOf, by decide +kernel⟩
theorem mw_LA_cell : MwV y_LA_cell c_LA_cell 3 (some FieldType.int) 2 := ⟨wi_LA_cell, wl_LA_cell, wn_LA, wo_LA_cell, by decide +kernel⟩
theorem mw_PL_find : MwV y_PL_find c_PL_find 4 none 0 := ⟨wi_PL_find, wl_PL_find, wn_PL, wo_PL_find, by decide +kernel⟩
theorem mw_AR_fillI : MwS y_AR_fillI c_AR_fillI 4 none 2 := ⟨ws_AR_fillI, wn_AR, wo_AR_fillI, by decide +kernel⟩
theorem mw_PL_found : MwV y_PL_found c_PL_found 5 (some FieldType.int) 2 := ⟨wi_PL_found, wl_PL_found, wn_PL, wo_PL_found, by decide +kernel⟩
theorem mw_RK_isWritten : MwV y_RK_isWritten c_RK_isWritten 2 (some FieldType.boolean) 1 := ⟨wi_RK_isWritten, wl_RK_isWritten, wn_RK, wo_RK_isWritten, by decide +kernel⟩
theorem mw_RK_isValid : MwV y_RK_isValid c_RK_isValid 2 (some FieldType.boolean) 1 := ⟨wi_RK_isValid, wl_RK_isValid, wn_RK, wo_RK_isValid, by decide +kernel⟩
theorem mw_RK_tag : MwV y_RK_tag c_RK_tag 2 (some FieldType.int) 1 := ⟨wi_RK_tag, wl_RK_tag, wn_RK, wo_RK_tag, by decide +kernel⟩
theorem mw_LA_tagOf : MwV y_LA_tagOf c_LA_tagOf 2 (some FieldType.int) 1 := ⟨wi_LA_tagOf, wl_LA_tagOf, wn_LA, wo_LA_tagOf, by decide +kernel⟩
theorem mw_LW_cell : MwS y_LW_cell c_LW_cell 2 (some FieldType.int) 2 := ⟨ws_LW_cell, wn_LW, wo_LW_cell, by decide +kernel⟩
theorem mw_SF_feed : MwV y_SF_feed c_SF_feed 4 (some FieldType.int) 2 := ⟨wi_SF_feed, wl_SF_feed, wn_SF, wo_SF_feed, by decide +kernel⟩
theorem mw_SF_xorBytes : MwS y_SF_xorBytes c_SF_xorBytes 9 none 5 := ⟨ws_SF_xorBytes, wn_SF, wo_SF_xorBytes, by decide +kernel⟩
theorem mw_SF_write : MwV y_SF_write c_SF_write 2 (some FieldType.boolean) 1 := ⟨wi_SF_write, wl_SF_write, wn_SF, wo_SF_write, by decide +kernel⟩
theorem mw_SF_takeTape : MwV y_SF_takeTape c_SF_takeTape 1 none 0 := ⟨wi_SF_takeTape, wl_SF_takeTape, wn_SF, wo_SF_takeTape, by decide +kernel⟩
theorem mw_AR_fillJ : MwS y_AR_fillJ c_AR_fillJ 5 none 2 := ⟨ws_AR_fillJ, wn_AR, wo_AR_fillJ, by decide +kernel⟩
theorem mw_LA_stripeOfBlock : MwV y_LA_stripeOfBlock c_LA_stripeOfBlock 2 (some FieldType.int) 1 := ⟨wi_LA_stripeOfBlock, wl_LA_stripeOfBlock, wn_LA, wo_LA_stripeOfBlock, by decide +kernel⟩
theorem mw_LA_columnOfBlock : MwV y_LA_columnOfBlock c_LA_columnOfBlock 2 (some FieldType.int) 1 := ⟨wi_LA_columnOfBlock, wl_LA_columnOfBlock, wn_LA, wo_LA_columnOfBlock, by decide +kernel⟩
theorem mw_SF_writeFresh : MwV y_SF_writeFresh c_SF_writeFresh 4 (some FieldType.boolean) 2 := ⟨wi_SF_writeFresh, wl_SF_writeFresh, wn_SF, wo_SF_writeFresh, by decide +kernel⟩
theorem mw_SF_placeOf : MwV y_SF_placeOf c_SF_placeOf 3 (some FieldType.int) 2 := ⟨wi_SF_placeOf, wl_SF_placeOf, wn_SF, wo_SF_placeOf, by decide +kernel⟩
theorem mw_LA_slotOf : MwV y_LA_slotOf c_LA_slotOf 3 (some FieldType.int) 2 := ⟨wi_LA_slotOf, wl_LA_slotOf, wn_LA, wo_LA_slotOf, by decide +kernel⟩
theorem mw_SF_putColumn : MwV y_SF_putColumn c_SF_putColumn 5 (some FieldType.boolean) 3 := ⟨wi_SF_putColumn, wl_SF_putColumn, wn_SF, wo_SF_putColumn, by decide +kernel⟩
theorem mw_SF_putCell : MwV y_SF_putCell c_SF_putCell 4 (some FieldType.boolean) 3 := ⟨wi_SF_putCell, wl_SF_putCell, wn_SF, wo_SF_putCell, by decide +kernel⟩
theorem mw_PW_spendWrite : MwV y_PW_spendWrite c_PW_spendWrite 1 (some FieldType.boolean) 0 := ⟨wi_PW_spendWrite, wl_PW_spendWrite, wn_PW, wo_PW_spendWrite, by decide +kernel⟩
theorem mw_PW_cut : MwV y_PW_cut c_PW_cut 1 none 0 := ⟨wi_PW_cut, wl_PW_cut, wn_PW, wo_PW_cut, by decide +kernel⟩
theorem mw_SF_addRead : MwV y_SF_addRead c_SF_addRead 4 none 2 := ⟨wi_SF_addRead, wl_SF_addRead, wn_SF, wo_SF_addRead, by decide +kernel⟩
theorem mw_RK_addTo : MwV y_RK_addTo c_RK_addTo 4 none 2 := ⟨wi_RK_addTo, wl_RK_addTo, wn_RK, wo_RK_addTo, by decide +kernel⟩
theorem mw_SF_addOthers : MwV y_SF_addOthers c_SF_addOthers 5 none 2 := ⟨wi_SF_addOthers, wl_SF_addOthers, wn_SF, wo_SF_addOthers, by decide +kernel⟩
theorem mw_SF_addFresh : MwV y_SF_addFresh c_SF_addFresh 2 none 0 := ⟨wi_SF_addFresh, wl_SF_addFresh, wn_SF, wo_SF_addFresh, by decide +kernel⟩
theorem mw_SF_writeLogged : MwV y_SF_writeLogged c_SF_writeLogged 4 (some FieldType.boolean) 2 := ⟨wi_SF_writeLogged, wl_SF_writeLogged, wn_SF, wo_SF_writeLogged, by decide +kernel⟩
theorem mw_LA_diskOf : MwV y_LA_diskOf c_LA_diskOf 2 (some FieldType.int) 1 := ⟨wi_LA_diskOf, wl_LA_diskOf, wn_LA, wo_LA_diskOf, by decide +kernel⟩
theorem mw_SF_read : MwV y_SF_read c_SF_read 3 (some FieldType.long) 2 := ⟨wi_SF_read, wl_SF_read, wn_SF, wo_SF_read, by decide +kernel⟩
theorem mw_SF_lose : MwV y_SF_lose c_SF_lose 2 none 1 := ⟨wi_SF_lose, wl_SF_lose, wn_SF, wo_SF_lose, by decide +kernel⟩
theorem mw_SF_off : MwV y_SF_off c_SF_off 1 none 0 := ⟨wi_SF_off, wl_SF_off, wn_SF, wo_SF_off, by decide +kernel⟩
theorem mw_SF_open : MwV y_SF_open c_SF_open 1 (some FieldType.boolean) 0 := ⟨wi_SF_open, wl_SF_open, wn_SF, wo_SF_open, by decide +kernel⟩
theorem mw_SF_replayLogs : MwV y_SF_replayLogs c_SF_replayLogs 4 (some FieldType.boolean) 0 := ⟨wi_SF_replayLogs, wl_SF_replayLogs, wn_SF, wo_SF_replayLogs, by decide +kernel⟩
theorem mw_SF_replayLog : MwV y_SF_replayLog c_SF_replayLog 6 (some FieldType.boolean) 3 := ⟨wi_SF_replayLog, wl_SF_replayLog, wn_SF, wo_SF_replayLog, by decide +kernel⟩
theorem mw_SF_canReplay : MwV y_SF_canReplay c_SF_canReplay 5 (some FieldType.boolean) 3 := ⟨wi_SF_canReplay, wl_SF_canReplay, wn_SF, wo_SF_canReplay, by decide +kernel⟩
theorem mw_SF_clearFreeSpares : MwV y_SF_clearFreeSpares c_SF_clearFreeSpares 5 (some FieldType.boolean) 0 := ⟨wi_SF_clearFreeSpares, wl_SF_clearFreeSpares, wn_SF, wo_SF_clearFreeSpares, by decide +kernel⟩
theorem mw_SF_fail : MwV y_SF_fail c_SF_fail 2 (some FieldType.boolean) 1 := ⟨wi_SF_fail, wl_SF_fail, wn_SF, wo_SF_fail, by decide +kernel⟩
theorem mw_SF_findPlacesIfOff : MwV y_SF_findPlacesIfOff c_SF_findPlacesIfOff 1 none 0 := ⟨wi_SF_findPlacesIfOff, wl_SF_findPlacesIfOff, wn_SF, wo_SF_findPlacesIfOff, by decide +kernel⟩
theorem mw_SF_wouldBreakWithout : MwV y_SF_wouldBreakWithout c_SF_wouldBreakWithout 6 (some FieldType.boolean) 1 := ⟨wi_SF_wouldBreakWithout, wl_SF_wouldBreakWithout, wn_SF, wo_SF_wouldBreakWithout, by decide +kernel⟩
theorem mw_RK_removeDisk : MwV y_RK_removeDisk c_RK_removeDisk 4 none 1 := ⟨wi_RK_removeDisk, wl_RK_removeDisk, wn_RK, wo_RK_removeDisk, by decide +kernel⟩
theorem mw_PL_dropDisk : MwV y_PL_dropDisk c_PL_dropDisk 4 none 1 := ⟨wi_PL_dropDisk, wl_PL_dropDisk, wn_PL, wo_PL_dropDisk, by decide +kernel⟩
theorem mw_SF_replace : MwV y_SF_replace c_SF_replace 2 (some FieldType.boolean) 1 := ⟨wi_SF_replace, wl_SF_replace, wn_SF, wo_SF_replace, by decide +kernel⟩
theorem mw_SF_spoil : MwV y_SF_spoil c_SF_spoil 8 (some FieldType.boolean) 5 := ⟨wi_SF_spoil, wl_SF_spoil, wn_SF, wo_SF_spoil, by decide +kernel⟩
theorem mw_SF_lowestBytes : MwS y_SF_lowestBytes c_SF_lowestBytes 3 (some FieldType.long) 2 := ⟨ws_SF_lowestBytes, wn_SF, wo_SF_lowestBytes, by decide +kernel⟩
theorem mw_SF_spoilPlace : MwV y_SF_spoilPlace c_SF_spoilPlace 7 (some FieldType.boolean) 4 := ⟨wi_SF_spoilPlace, wl_SF_spoilPlace, wn_SF, wo_SF_spoilPlace, by decide +kernel⟩
theorem mw_RK_damage : MwV y_RK_damage c_RK_damage 8 none 4 := ⟨wi_RK_damage, wl_RK_damage, wn_RK, wo_RK_damage, by decide +kernel⟩
theorem mw_RK_isAsWritten : MwV y_RK_isAsWritten c_RK_isAsWritten 3 (some FieldType.boolean) 1 := ⟨wi_RK_isAsWritten, wl_RK_isAsWritten, wn_RK, wo_RK_isAsWritten, by decide +kernel⟩
theorem mw_SF_othersAreValid : MwV y_SF_othersAreValid c_SF_othersAreValid 5 (some FieldType.boolean) 1 := ⟨wi_SF_othersAreValid, wl_SF_othersAreValid, wn_SF, wo_SF_othersAreValid, by decide +kernel⟩
theorem mw_LA_stripeOfSlot : MwV y_LA_stripeOfSlot c_LA_stripeOfSlot 2 (some FieldType.int) 1 := ⟨wi_LA_stripeOfSlot, wl_LA_stripeOfSlot, wn_LA, wo_LA_stripeOfSlot, by decide +kernel⟩
theorem mw_LA_columnOfSlot : MwV y_LA_columnOfSlot c_LA_columnOfSlot 2 (some FieldType.int) 1 := ⟨wi_LA_columnOfSlot, wl_LA_columnOfSlot, wn_LA, wo_LA_columnOfSlot, by decide +kernel⟩
theorem mw_SF_rebuild : MwV y_SF_rebuild c_SF_rebuild 4 (some FieldType.int) 0 := ⟨wi_SF_rebuild, wl_SF_rebuild, wn_SF, wo_SF_rebuild, by decide +kernel⟩
theorem mw_PL_firstFreeSpare : MwV y_PL_firstFreeSpare c_PL_firstFreeSpare 4 (some FieldType.int) 1 := ⟨wi_PL_firstFreeSpare, wl_PL_firstFreeSpare, wn_PL, wo_PL_firstFreeSpare, by decide +kernel⟩
theorem mw_PL_isFree : MwV y_PL_isFree c_PL_isFree 2 (some FieldType.boolean) 1 := ⟨wi_PL_isFree, wl_PL_isFree, wn_PL, wo_PL_isFree, by decide +kernel⟩
theorem mw_PL_firstToRebuild : MwV y_PL_firstToRebuild c_PL_firstToRebuild 4 (some FieldType.int) 1 := ⟨wi_PL_firstToRebuild, wl_PL_firstToRebuild, wn_PL, wo_PL_firstToRebuild, by decide +kernel⟩
theorem mw_SF_moveTo : MwV y_SF_moveTo c_SF_moveTo 3 (some FieldType.boolean) 2 := ⟨wi_SF_moveTo, wl_SF_moveTo, wn_SF, wo_SF_moveTo, by decide +kernel⟩
theorem mw_PL_move : MwV y_PL_move c_PL_move 3 none 2 := ⟨wi_PL_move, wl_PL_move, wn_PL, wo_PL_move, by decide +kernel⟩
theorem mw_SF_copyBack : MwV y_SF_copyBack c_SF_copyBack 3 (some FieldType.int) 0 := ⟨wi_SF_copyBack, wl_SF_copyBack, wn_SF, wo_SF_copyBack, by decide +kernel⟩
theorem mw_PL_firstToCopyBack : MwV y_PL_firstToCopyBack c_PL_firstToCopyBack 5 (some FieldType.int) 0 := ⟨wi_PL_firstToCopyBack, wl_PL_firstToCopyBack, wn_PL, wo_PL_firstToCopyBack, by decide +kernel⟩
theorem mw_SF_scrub : MwV y_SF_scrub c_SF_scrub 3 (some FieldType.int) 0 := ⟨wi_SF_scrub, wl_SF_scrub, wn_SF, wo_SF_scrub, by decide +kernel⟩
theorem mw_SF_spoiltColumn : MwV y_SF_spoiltColumn c_SF_spoiltColumn 4 (some FieldType.int) 1 := ⟨wi_SF_spoiltColumn, wl_SF_spoiltColumn, wn_SF, wo_SF_spoiltColumn, by decide +kernel⟩
theorem mw_SF_isHole : MwV y_SF_isHole c_SF_isHole 4 (some FieldType.boolean) 1 := ⟨wi_SF_isHole, wl_SF_isHole, wn_SF, wo_SF_isHole, by decide +kernel⟩
theorem mw_SF_look : MwV y_SF_look c_SF_look 2 (some FieldType.int) 1 := ⟨wi_SF_look, wl_SF_look, wn_SF, wo_SF_look, by decide +kernel⟩
theorem mw_PL_countLost : MwV y_PL_countLost c_PL_countLost 1 (some FieldType.int) 0 := ⟨wi_PL_countLost, wl_PL_countLost, wn_PL, wo_PL_countLost, by decide +kernel⟩
theorem mw_PL_countPlaces : MwV y_PL_countPlaces c_PL_countPlaces 4 (some FieldType.int) 1 := ⟨wi_PL_countPlaces, wl_PL_countPlaces, wn_PL, wo_PL_countPlaces, by decide +kernel⟩
theorem mw_PL_countSpoilt : MwV y_PL_countSpoilt c_PL_countSpoilt 1 (some FieldType.int) 0 := ⟨wi_PL_countSpoilt, wl_PL_countSpoilt, wn_PL, wo_PL_countSpoilt, by decide +kernel⟩
theorem mw_PL_countFreeSpares : MwV y_PL_countFreeSpares c_PL_countFreeSpares 4 (some FieldType.int) 0 := ⟨wi_PL_countFreeSpares, wl_PL_countFreeSpares, wn_PL, wo_PL_countFreeSpares, by decide +kernel⟩
theorem mw_RK_countLive : MwV y_RK_countLive c_RK_countLive 3 (some FieldType.int) 0 := ⟨wi_RK_countLive, wl_RK_countLive, wn_RK, wo_RK_countLive, by decide +kernel⟩
theorem mw_SF_place : MwV y_SF_place c_SF_place 4 (some FieldType.int) 2 := ⟨wi_SF_place, wl_SF_place, wn_SF, wo_SF_place, by decide +kernel⟩
theorem mw_MD_at : MwS y_MD_at c_MD_at 2 (some FieldType.int) 2 := ⟨ws_MD_at, wn_MD, wo_MD_at, by decide +kernel⟩
theorem mw_MD_diskOf : MwV y_MD_diskOf c_MD_diskOf 3 (some FieldType.int) 2 := ⟨wi_MD_diskOf, wl_MD_diskOf, wn_MD, wo_MD_diskOf, by decide +kernel⟩
theorem mw_MD_thrown : MwV y_MD_thrown c_MD_thrown 1 (some FieldType.int) 0 := ⟨wi_MD_thrown, wl_MD_thrown, wn_MD, wo_MD_thrown, by decide +kernel⟩
theorem mw_MD_feed : MwV y_MD_feed c_MD_feed 5 (some FieldType.int) 2 := ⟨wi_MD_feed, wl_MD_feed, wn_MD, wo_MD_feed, by decide +kernel⟩
theorem mw_MD_fails : MwV y_MD_fails c_MD_fails 3 (some FieldType.boolean) 2 := ⟨wi_MD_fails, wl_MD_fails, wn_MD, wo_MD_fails, by decide +kernel⟩
theorem mw_MD_write : MwV y_MD_write c_MD_write 3 (some FieldType.boolean) 1 := ⟨wi_MD_write, wl_MD_write, wn_MD, wo_MD_write, by decide +kernel⟩
theorem mw_MD_blocks : MwV y_MD_blocks c_MD_blocks 1 (some FieldType.int) 0 := ⟨wi_MD_blocks, wl_MD_blocks, wn_MD, wo_MD_blocks, by decide +kernel⟩
theorem mw_MD_writes : MwV y_MD_writes c_MD_writes 9 (some FieldType.boolean) 1 := ⟨wi_MD_writes, wl_MD_writes, wn_MD, wo_MD_writes, by decide +kernel⟩
theorem mw_MD_placeOf : MwV y_MD_placeOf c_MD_placeOf 3 (some FieldType.int) 2 := ⟨wi_MD_placeOf, wl_MD_placeOf, wn_MD, wo_MD_placeOf, by decide +kernel⟩
theorem mw_MD_found : MwV y_MD_found c_MD_found 6 (some FieldType.int) 2 := ⟨wi_MD_found, wl_MD_found, wn_MD, wo_MD_found, by decide +kernel⟩
theorem mw_MD_isValid : MwV y_MD_isValid c_MD_isValid 5 (some FieldType.boolean) 2 := ⟨wi_MD_isValid, wl_MD_isValid, wn_MD, wo_MD_isValid, by decide +kernel⟩
theorem mw_MD_puts : MwV y_MD_puts c_MD_puts 5 (some FieldType.boolean) 3 := ⟨wi_MD_puts, wl_MD_puts, wn_MD, wo_MD_puts, by decide +kernel⟩
theorem mw_MD_becomes : MwV y_MD_becomes c_MD_becomes 3 none 1 := ⟨wi_MD_becomes, wl_MD_becomes, wn_MD, wo_MD_becomes, by decide +kernel⟩
theorem mw_MD_read : MwV y_MD_read c_MD_read 6 (some FieldType.long) 2 := ⟨wi_MD_read, wl_MD_read, wn_MD, wo_MD_read, by decide +kernel⟩
theorem mw_MD_lose : MwV y_MD_lose c_MD_lose 2 none 1 := ⟨wi_MD_lose, wl_MD_lose, wn_MD, wo_MD_lose, by decide +kernel⟩
theorem mw_MD_off : MwV y_MD_off c_MD_off 1 none 0 := ⟨wi_MD_off, wl_MD_off, wn_MD, wo_MD_off, by decide +kernel⟩
theorem mw_MD_open : MwV y_MD_open c_MD_open 3 (some FieldType.boolean) 0 := ⟨wi_MD_open, wl_MD_open, wn_MD, wo_MD_open, by decide +kernel⟩
theorem mw_MD_opens : MwV y_MD_opens c_MD_opens 4 (some FieldType.boolean) 0 := ⟨wi_MD_opens, wl_MD_opens, wn_MD, wo_MD_opens, by decide +kernel⟩
theorem mw_MD_unlogs : MwV y_MD_unlogs c_MD_unlogs 9 (some FieldType.boolean) 1 := ⟨wi_MD_unlogs, wl_MD_unlogs, wn_MD, wo_MD_unlogs, by decide +kernel⟩
theorem mw_MD_holder : MwV y_MD_holder c_MD_holder 4 (some FieldType.int) 2 := ⟨wi_MD_holder, wl_MD_holder, wn_MD, wo_MD_holder, by decide +kernel⟩
theorem mw_MD_fail : MwV y_MD_fail c_MD_fail 5 (some FieldType.boolean) 1 := ⟨wi_MD_fail, wl_MD_fail, wn_MD, wo_MD_fail, by decide +kernel⟩
theorem mw_MD_isNeeded : MwV y_MD_isNeeded c_MD_isNeeded 4 (some FieldType.boolean) 1 := ⟨wi_MD_isNeeded, wl_MD_isNeeded, wn_MD, wo_MD_isNeeded, by decide +kernel⟩
theorem mw_MD_bad : MwV y_MD_bad c_MD_bad 8 (some FieldType.int) 3 := ⟨wi_MD_bad, wl_MD_bad, wn_MD, wo_MD_bad, by decide +kernel⟩
theorem mw_MD_isSpoilt : MwV y_MD_isSpoilt c_MD_isSpoilt 4 (some FieldType.boolean) 2 := ⟨wi_MD_isSpoilt, wl_MD_isSpoilt, wn_MD, wo_MD_isSpoilt, by decide +kernel⟩
theorem mw_MD_replace : MwV y_MD_replace c_MD_replace 4 (some FieldType.boolean) 1 := ⟨wi_MD_replace, wl_MD_replace, wn_MD, wo_MD_replace, by decide +kernel⟩
theorem mw_MD_spoil : MwV y_MD_spoil c_MD_spoil 9 (some FieldType.boolean) 5 := ⟨wi_MD_spoil, wl_MD_spoil, wn_MD, wo_MD_spoil, by decide +kernel⟩
theorem mw_MD_turn : MwV y_MD_turn c_MD_turn 6 none 3 := ⟨wi_MD_turn, wl_MD_turn, wn_MD, wo_MD_turn, by decide +kernel⟩
theorem mw_MD_isUnseen : MwV y_MD_isUnseen c_MD_isUnseen 6 (some FieldType.boolean) 1 := ⟨wi_MD_isUnseen, wl_MD_isUnseen, wn_MD, wo_MD_isUnseen, by decide +kernel⟩
theorem mw_MD_rebuild : MwV y_MD_rebuild c_MD_rebuild 4 (some FieldType.int) 0 := ⟨wi_MD_rebuild, wl_MD_rebuild, wn_MD, wo_MD_rebuild, by decide +kernel⟩
theorem mw_MD_freeSpare : MwV y_MD_freeSpare c_MD_freeSpare 3 (some FieldType.int) 1 := ⟨wi_MD_freeSpare, wl_MD_freeSpare, wn_MD, wo_MD_freeSpare, by decide +kernel⟩
theorem mw_MD_copyBack : MwV y_MD_copyBack c_MD_copyBack 5 (some FieldType.int) 0 := ⟨wi_MD_copyBack, wl_MD_copyBack, wn_MD, wo_MD_copyBack, by decide +kernel⟩
theorem mw_MD_scrub : MwV y_MD_scrub c_MD_scrub 4 (some FieldType.int) 0 := ⟨wi_MD_scrub, wl_MD_scrub, wn_MD, wo_MD_scrub, by decide +kernel⟩
theorem mw_MD_look : MwV y_MD_look c_MD_look 4 (some FieldType.int) 1 := ⟨wi_MD_look, wl_MD_look, wn_MD, wo_MD_look, by decide +kernel⟩
theorem mw_MD_count : MwV y_MD_count c_MD_count 6 (some FieldType.int) 1 := ⟨wi_MD_count, wl_MD_count, wn_MD, wo_MD_count, by decide +kernel⟩
theorem mw_MD_place : MwV y_MD_place c_MD_place 3 (some FieldType.int) 2 := ⟨wi_MD_place, wl_MD_place, wn_MD, wo_MD_place, by decide +kernel⟩
end
section
def D_LA_cell (F : Nat) (n : Nat → Nat) (σ : HS) (p1 : Int32) (p2 : Int32) : Option (Int32) :=
some ((p1 * ((σ.1 1 2) + (1 : Int32))) + p2)
set_option maxRecDepth 100000 in
set_option maxHeartbeats 4000000 in
theorem k_LA_cell (l : Launch) (E : EV) (ad n : Nat → Nat) (L : List Nat) (hL : ∀ a ∈ ([1] : List Nat), a ∈ L) (F : Nat) (σ  : HS) (p1 : Int32) (p2 : Int32) (r : Int32) (hD : D_LA_cell F n σ p1 p2 = some r) : CtI l E y_LA_cell c_LA_cell 3 (some FieldType.int) ({ frames := 0, cells := 0, slots := 0, locals := 0 }) [.ref (ad 1), .int p1, .int p2] (wl E ad n L σ) r (wl E ad n L σ) := by
  refine fun sz => ent (by decide) (Nat.le_of_ble_eq_true rfl) ?_
  intro p e s m below meth c hsz cx wo ls hl
  have hx := cx.1.1
  have hb := cx.1.2.1
  have hown := cx.1.2.2.2.1
  have hts := cx.1.2.2.2.2
  have hl : lv_has ls 3 [(0, .ref (ad 1)), (1, .int p1), (2, .int p2)] := hl
  have m1 : 1 ∈ L := hL 1 (by decide)
  rw [D_LA_cell] at hD
  refine lv_iload_n hx hb d_LA_cell_0 rfl (lv_at hl 1 rfl) ?_
  refine lv_aload_n hx hb d_LA_cell_1 rfl (lv_at hl 0 rfl) ?_
  refine g_get cx wo m1 (cel_1 E ad n σ) rfl in_LA 2 (by decide) wf_LA_16 rfl d_LA_cell_2 ?_
  refine lv_iconst (v := 1) hx hb d_LA_cell_5 (by decide) ?_
  refine lv_iadd hx hb d_LA_cell_6 ?_
  refine lv_imul hx hb d_LA_cell_7 ?_
  refine lv_iload_n hx hb d_LA_cell_8 rfl (lv_at hl 2 rfl) ?_
  refine lv_iadd hx hb d_LA_cell_9 ?_
  cases hD
  exact t_ireti cx wo rfl rfl d_LA_cell_10
def D_LA_diskOf (F : Nat) (n : Nat → Nat) (σ : HS) (p1 : Int32) : Option (Int32) :=
grd (decide (¬ ((σ.1 1 2) + (1 : Int32)) = 0)) (
  some (p1 / ((σ.1 1 2) + (1 : Int32))))
set_option maxRecDepth 100000 in
set_option maxHeartbeats 4000000 in
theorem k_LA_diskOf (l : Launch) (E : EV) (ad n : Nat → Nat) (L : List Nat) (hL : ∀ a ∈ ([1] : List Nat), a ∈ L) (F : Nat) (σ  : HS) (p1 : Int32) (r : Int32) (hD : D_LA_diskOf F n σ p1 = some r) : CtI l E y_LA_diskOf c_LA_diskOf 2 (some FieldType.int) ({ frames := 0, cells := 0, slots := 0, locals := 0 }) [.ref (ad 1), .int p1] (wl E ad n L σ) r (wl E ad n L σ) := by
  refine fun sz => ent (by decide) (Nat.le_of_ble_eq_true rfl) ?_
  intro p e s m below meth c hsz cx wo ls hl
  have hx := cx.1.1
  have hb := cx.1.2.1
  have hown := cx.1.2.2.2.1
  have hts := cx.1.2.2.2.2
  have hl : lv_has ls 2 [(0, .ref (ad 1)), (1, .int p1)] := hl
  have m1 : 1 ∈ L := hL 1 (by decide)
  rw [D_LA_diskOf] at hD
  refine lv_iload_n hx hb d_LA_diskOf_0 rfl (lv_at hl 1 rfl) ?_
  refine lv_aload_n hx hb d_LA_diskOf_1 rfl (lv_at hl 0 rfl) ?_
  refine g_get cx wo m1 (cel_1 E ad n σ) rfl in_LA 2 (by decide) wf_LA_16 rfl d_LA_diskOf_2 ?_
  refine lv_iconst (v := 1) hx hb d_LA_diskOf_5 (by decide) ?_
  refine lv_iadd hx hb d_LA_diskOf_6 ?_
  obtain ⟨g1, hD⟩ := grd_s hD
  refine lv_idiv hx hb d_LA_diskOf_7 (of_decide_eq_true g1) ?_
  cases hD
  exact t_ireti cx wo rfl rfl d_LA_diskOf_8
def D_LA_logOf (F : Nat) (n : Nat → Nat) (σ : HS) (p1 : Int32) : Option (Int32) :=
(D_LA_cell F n σ p1 (σ.1 1 2)).bind (fun (x1 : Int32) =>
  some x1)
set_option maxRecDepth 100000 in
set_option maxHeartbeats 4000000 in
theorem k_LA_logOf (l : Launch) (E : EV) (ad n : Nat → Nat) (L : List Nat) (hL : ∀ a ∈ ([1] : List Nat), a ∈ L) (F : Nat) (σ  : HS) (p1 : Int32) (r : Int32) (hD : D_LA_logOf F n σ p1 = some r) : CtI l E y_LA_logOf c_LA_logOf 2 (some FieldType.int) ({ frames := 1, cells := 0, slots := 0, locals := 22 }) [.ref (ad 1), .int p1] (wl E ad n L σ) r (wl E ad n L σ) := by
  refine fun sz => ent (by decide) (Nat.le_of_ble_eq_true rfl) ?_
  intro p e s m below meth c hsz cx wo ls hl
  have hx := cx.1.1
  have hb := cx.1.2.1
  have hown := cx.1.2.2.2.1
  have hts := cx.1.2.2.2.2
  have hl : lv_has ls 2 [(0, .ref (ad 1)), (1, .int p1)] := hl
  have m1 : 1 ∈ L := hL 1 (by decide)
  rw [D_LA_logOf] at hD
  refine lv_aload_n hx hb d_LA_logOf_0 rfl (lv_at hl 0 rfl) ?_
  refine lv_iload_n hx hb d_LA_logOf_1 rfl (lv_at hl 1 rfl) ?_
  refine lv_aload_n hx hb d_LA_logOf_2 rfl (lv_at hl 0 rfl) ?_
  refine g_get cx wo m1 (cel_1 E ad n σ) rfl in_LA 2 (by decide) wf_LA_16 rfl d_LA_logOf_3 ?_
  obtain ⟨x1, hcx1, hD⟩ := bd_s hD
  try dsimp only [nm2] at hD
  refine call_Vi cx wo (k_LA_cell l E ad n L (fun a h => hL a ((by decide : ∀ a ∈ ([1] : List Nat), a ∈ ([1] : List Nat)) a h)) F σ  p1 (σ.1 1 2) x1 hcx1) m1 (cel_1 E ad n σ) rfl rfl mw_LA_cell wm_LA_59 ⟨by decide, by decide⟩ ⟨by decide, by decide⟩ hl.1 rfl (Nat.le_of_ble_eq_true rfl) d_LA_logOf_6 (fun H locs wo => ?_)
  cases hD
  exact t_ireti cx wo rfl rfl d_LA_logOf_9
def D_LA_slot (F : Nat) (n : Nat → Nat) (σ : HS) (p1 : Int32) (p2 : Int32) : Option (Int32) :=
some ((p1 * (σ.1 1 0)) + p2)
set_option maxRecDepth 100000 in
set_option maxHeartbeats 4000000 in
theorem k_LA_slot (l : Launch) (E : EV) (ad n : Nat → Nat) (L : List Nat) (hL : ∀ a ∈ ([1] : List Nat), a ∈ L) (F : Nat) (σ  : HS) (p1 : Int32) (p2 : Int32) (r : Int32) (hD : D_LA_slot F n σ p1 p2 = some r) : CtI l E y_LA_slot c_LA_slot 3 (some FieldType.int) ({ frames := 0, cells := 0, slots := 0, locals := 0 }) [.ref (ad 1), .int p1, .int p2] (wl E ad n L σ) r (wl E ad n L σ) := by
  refine fun sz => ent (by decide) (Nat.le_of_ble_eq_true rfl) ?_
  intro p e s m below meth c hsz cx wo ls hl
  have hx := cx.1.1
  have hb := cx.1.2.1
  have hown := cx.1.2.2.2.1
  have hts := cx.1.2.2.2.2
  have hl : lv_has ls 3 [(0, .ref (ad 1)), (1, .int p1), (2, .int p2)] := hl
  have m1 : 1 ∈ L := hL 1 (by decide)
  rw [D_LA_slot] at hD
  refine lv_iload_n hx hb d_LA_slot_0 rfl (lv_at hl 1 rfl) ?_
  refine lv_aload_n hx hb d_LA_slot_1 rfl (lv_at hl 0 rfl) ?_
  refine g_get cx wo m1 (cel_1 E ad n σ) rfl in_LA 0 (by decide) wf_LA_7 rfl d_LA_slot_2 ?_
  refine lv_imul hx hb d_LA_slot_5 ?_
  refine lv_iload_n hx hb d_LA_slot_6 rfl (lv_at hl 2 rfl) ?_
  refine lv_iadd hx hb d_LA_slot_7 ?_
  cases hD
  exact t_ireti cx wo rfl rfl d_LA_slot_8
def D_LA_slotOf (F : Nat) (n : Nat → Nat) (σ : HS) (p1 : Int32) (p2 : Int32) : Option (Int32) :=
grd (decide (¬ (σ.1 1 3) = 0)) (
  grd (decide (¬ (σ.1 1 3) = 0)) (
  (D_LA_slot F n σ (p1 / (σ.1 1 3)) (((σ.1 1 1) * (p1 - p1 / (σ.1 1 3) * (σ.1 1 3))) + p2)).bind (fun (x3 : Int32) =>
  some x3)))
set_option maxRecDepth 100000 in
set_option maxHeartbeats 4000000 in
theorem k_LA_slotOf (l : Launch) (E : EV) (ad n : Nat → Nat) (L : List Nat) (hL : ∀ a ∈ ([1] : List Nat), a ∈ L) (F : Nat) (σ  : HS) (p1 : Int32) (p2 : Int32) (r : Int32) (hD : D_LA_slotOf F n σ p1 p2 = some r) : CtI l E y_LA_slotOf c_LA_slotOf 3 (some FieldType.int) ({ frames := 1, cells := 0, slots := 0, locals := 22 }) [.ref (ad 1), .int p1, .int p2] (wl E ad n L σ) r (wl E ad n L σ) := by
  refine fun sz => ent (by decide) (Nat.le_of_ble_eq_true rfl) ?_
  intro p e s m below meth c hsz cx wo ls hl
  have hx := cx.1.1
  have hb := cx.1.2.1
  have hown := cx.1.2.2.2.1
  have hts := cx.1.2.2.2.2
  have hl : lv_has ls 3 [(0, .ref (ad 1)), (1, .int p1), (2, .int p2)] := hl
  have m1 : 1 ∈ L := hL 1 (by decide)
  rw [D_LA_slotOf] at hD
  refine lv_aload_n hx hb d_LA_slotOf_0 rfl (lv_at hl 0 rfl) ?_
  refine lv_iload_n hx hb d_LA_slotOf_1 rfl (lv_at hl 1 rfl) ?_
  refine lv_aload_n hx hb d_LA_slotOf_2 rfl (lv_at hl 0 rfl) ?_
  refine g_get cx wo m1 (cel_1 E ad n σ) rfl in_LA 3 (by decide) wf_LA_19 rfl d_LA_slotOf_3 ?_
  obtain ⟨g1, hD⟩ := grd_s hD
  refine lv_idiv hx hb d_LA_slotOf_6 (of_decide_eq_true g1) ?_
  refine lv_aload_n hx hb d_LA_slotOf_7 rfl (lv_at hl 0 rfl) ?_
  refine g_get cx wo m1 (cel_1 E ad n σ) rfl in_LA 1 (by decide) wf_LA_13 rfl d_LA_slotOf_8 ?_
  refine lv_iload_n hx hb d_LA_slotOf_11 rfl (lv_at hl 1 rfl) ?_
  refine lv_aload_n hx hb d_LA_slotOf_12 rfl (lv_at hl 0 rfl) ?_
  refine g_get cx wo m1 (cel_1 E ad n σ) rfl in_LA 3 (by decide) wf_LA_19 rfl d_LA_slotOf_13 ?_
  obtain ⟨g2, hD⟩ := grd_s hD
  refine lv_irem hx hb d_LA_slotOf_16 (of_decide_eq_true g2) ?_
  refine lv_imul hx hb d_LA_slotOf_17 ?_
  refine lv_iload_n hx hb d_LA_slotOf_18 rfl (lv_at hl 2 rfl) ?_
  refine lv_iadd hx hb d_LA_slotOf_19 ?_
  obtain ⟨x3, hcx3, hD⟩ := bd_s hD
  try dsimp only [nm2] at hD
  refine call_Vi cx wo (k_LA_slot l E ad n L (fun a h => hL a ((by decide : ∀ a ∈ ([1] : List Nat), a ∈ ([1] : List Nat)) a h)) F σ  (p1 / (σ.1 1 3)) (((σ.1 1 1) * (p1 - p1 / (σ.1 1 3) * (σ.1 1 3))) + p2) x3 hcx3) m1 (cel_1 E ad n σ) rfl rfl mw_LA_slot wm_LA_63 ⟨by decide, by decide⟩ ⟨by decide, by decide⟩ hl.1 rfl (Nat.le_of_ble_eq_true rfl) d_LA_slotOf_20 (fun H locs wo => ?_)
  cases hD
  exact t_ireti cx wo rfl rfl d_LA_slotOf_23
def D_LA_stripeOfSlot (F : Nat) (n : Nat → Nat) (σ : HS) (p1 : Int32) : Option (Int32) :=
grd (decide (¬ (σ.1 1 0) = 0)) (
  grd (decide (¬ (σ.1 1 0) = 0)) (
  grd (decide (¬ (σ.1 1 1) = 0)) (
  some (((p1 / (σ.1 1 0)) * (σ.1 1 3)) + ((p1 - p1 / (σ.1 1 0) * (σ.1 1 0)) / (σ.1 1 1))))))
set_option maxRecDepth 100000 in
set_option maxHeartbeats 4000000 in
theorem k_LA_stripeOfSlot (l : Launch) (E : EV) (ad n : Nat → Nat) (L : List Nat) (hL : ∀ a ∈ ([1] : List Nat), a ∈ L) (F : Nat) (σ  : HS) (p1 : Int32) (r : Int32) (hD : D_LA_stripeOfSlot F n σ p1 = some r) : CtI l E y_LA_stripeOfSlot c_LA_stripeOfSlot 2 (some FieldType.int) ({ frames := 0, cells := 0, slots := 0, locals := 0 }) [.ref (ad 1), .int p1] (wl E ad n L σ) r (wl E ad n L σ) := by
  refine fun sz => ent (by decide) (Nat.le_of_ble_eq_true rfl) ?_
  intro p e s m below meth c hsz cx wo ls hl
  have hx := cx.1.1
  have hb := cx.1.2.1
  have hown := cx.1.2.2.2.1
  have hts := cx.1.2.2.2.2
  have hl : lv_has ls 2 [(0, .ref (ad 1)), (1, .int p1)] := hl
  have m1 : 1 ∈ L := hL 1 (by decide)
  rw [D_LA_stripeOfSlot] at hD
  refine lv_iload_n hx hb d_LA_stripeOfSlot_0 rfl (lv_at hl 1 rfl) ?_
  refine lv_aload_n hx hb d_LA_stripeOfSlot_1 rfl (lv_at hl 0 rfl) ?_
  refine g_get cx wo m1 (cel_1 E ad n σ) rfl in_LA 0 (by decide) wf_LA_7 rfl d_LA_stripeOfSlot_2 ?_
  obtain ⟨g1, hD⟩ := grd_s hD
  refine lv_idiv hx hb d_LA_stripeOfSlot_5 (of_decide_eq_true g1) ?_
  refine lv_aload_n hx hb d_LA_stripeOfSlot_6 rfl (lv_at hl 0 rfl) ?_
  refine g_get cx wo m1 (cel_1 E ad n σ) rfl in_LA 3 (by decide) wf_LA_19 rfl d_LA_stripeOfSlot_7 ?_
  refine lv_imul hx hb d_LA_stripeOfSlot_10 ?_
  refine lv_iload_n hx hb d_LA_stripeOfSlot_11 rfl (lv_at hl 1 rfl) ?_
  refine lv_aload_n hx hb d_LA_stripeOfSlot_12 rfl (lv_at hl 0 rfl) ?_
  refine g_get cx wo m1 (cel_1 E ad n σ) rfl in_LA 0 (by decide) wf_LA_7 rfl d_LA_stripeOfSlot_13 ?_
  obtain ⟨g2, hD⟩ := grd_s hD
  refine lv_irem hx hb d_LA_stripeOfSlot_16 (of_decide_eq_true g2) ?_
  refine lv_aload_n hx hb d_LA_stripeOfSlot_17 rfl (lv_at hl 0 rfl) ?_
  refine g_get cx wo m1 (cel_1 E ad n σ) rfl in_LA 1 (by decide) wf_LA_13 rfl d_LA_stripeOfSlot_18 ?_
  obtain ⟨g3, hD⟩ := grd_s hD
  refine lv_idiv hx hb d_LA_stripeOfSlot_21 (of_decide_eq_true g3) ?_
  refine lv_iadd hx hb d_LA_stripeOfSlot_22 ?_
  cases hD
  exact t_ireti cx wo rfl rfl d_LA_stripeOfSlot_23
def D_LA_columnOfSlot (F : Nat) (n : Nat → Nat) (σ : HS) (p1 : Int32) : Option (Int32) :=
grd (decide (¬ (σ.1 1 0) = 0)) (
  grd (decide (¬ (σ.1 1 1) = 0)) (
  some ((p1 - p1 / (σ.1 1 0) * (σ.1 1 0)) - (p1 - p1 / (σ.1 1 0) * (σ.1 1 0)) / (σ.1 1 1) * (σ.1 1 1))))
set_option maxRecDepth 100000 in
set_option maxHeartbeats 4000000 in
theorem k_LA_columnOfSlot (l : Launch) (E : EV) (ad n : Nat → Nat) (L : List Nat) (hL : ∀ a ∈ ([1] : List Nat), a ∈ L) (F : Nat) (σ  : HS) (p1 : Int32) (r : Int32) (hD : D_LA_columnOfSlot F n σ p1 = some r) : CtI l E y_LA_columnOfSlot c_LA_columnOfSlot 2 (some FieldType.int) ({ frames := 0, cells := 0, slots := 0, locals := 0 }) [.ref (ad 1), .int p1] (wl E ad n L σ) r (wl E ad n L σ) := by
  refine fun sz => ent (by decide) (Nat.le_of_ble_eq_true rfl) ?_
  intro p e s m below meth c hsz cx wo ls hl
  have hx := cx.1.1
  have hb := cx.1.2.1
  have hown := cx.1.2.2.2.1
  have hts := cx.1.2.2.2.2
  have hl : lv_has ls 2 [(0, .ref (ad 1)), (1, .int p1)] := hl
  have m1 : 1 ∈ L := hL 1 (by decide)
  rw [D_LA_columnOfSlot] at hD
  refine lv_iload_n hx hb d_LA_columnOfSlot_0 rfl (lv_at hl 1 rfl) ?_
  refine lv_aload_n hx hb d_LA_columnOfSlot_1 rfl (lv_at hl 0 rfl) ?_
  refine g_get cx wo m1 (cel_1 E ad n σ) rfl in_LA 0 (by decide) wf_LA_7 rfl d_LA_columnOfSlot_2 ?_
  obtain ⟨g1, hD⟩ := grd_s hD
  refine lv_irem hx hb d_LA_columnOfSlot_5 (of_decide_eq_true g1) ?_
  refine lv_aload_n hx hb d_LA_columnOfSlot_6 rfl (lv_at hl 0 rfl) ?_
  refine g_get cx wo m1 (cel_1 E ad n σ) rfl in_LA 1 (by decide) wf_LA_13 rfl d_LA_columnOfSlot_7 ?_
  obtain ⟨g2, hD⟩ := grd_s hD
  refine lv_irem hx hb d_LA_columnOfSlot_10 (of_decide_eq_true g2) ?_
  cases hD
  exact t_ireti cx wo rfl rfl d_LA_columnOfSlot_11
def D_LA_tagOf (F : Nat) (n : Nat → Nat) (σ : HS) (p1 : Int32) : Option (Int32) :=
grd (decide (¬ (σ.1 1 0) = 0)) (
  some ((p1 - p1 / (σ.1 1 0) * (σ.1 1 0)) + (1 : Int32)))
set_option maxRecDepth 100000 in
set_option maxHeartbeats 4000000 in
theorem k_LA_tagOf (l : Launch) (E : EV) (ad n : Nat → Nat) (L : List Nat) (hL : ∀ a ∈ ([1] : List Nat), a ∈ L) (F : Nat) (σ  : HS) (p1 : Int32) (r : Int32) (hD : D_LA_tagOf F n σ p1 = some r) : CtI l E y_LA_tagOf c_LA_tagOf 2 (some FieldType.int) ({ frames := 0, cells := 0, slots := 0, locals := 0 }) [.ref (ad 1), .int p1] (wl E ad n L σ) r (wl E ad n L σ) := by
  refine fun sz => ent (by decide) (Nat.le_of_ble_eq_true rfl) ?_
  intro p e s m below meth c hsz cx wo ls hl
  have hx := cx.1.1
  have hb := cx.1.2.1
  have hown := cx.1.2.2.2.1
  have hts := cx.1.2.2.2.2
  have hl : lv_has ls 2 [(0, .ref (ad 1)), (1, .int p1)] := hl
  have m1 : 1 ∈ L := hL 1 (by decide)
  rw [D_LA_tagOf] at hD
  refine lv_iload_n hx hb d_LA_tagOf_0 rfl (lv_at hl 1 rfl) ?_
  refine lv_aload_n hx hb d_LA_tagOf_1 rfl (lv_at hl 0 rfl) ?_
  refine g_get cx wo m1 (cel_1 E ad n σ) rfl in_LA 0 (by decide) wf_LA_7 rfl d_LA_tagOf_2 ?_
  obtain ⟨g1, hD⟩ := grd_s hD
  refine lv_irem hx hb d_LA_tagOf_5 (of_decide_eq_true g1) ?_
  refine lv_iconst (v := 1) hx hb d_LA_tagOf_6 (by decide) ?_
  refine lv_iadd hx hb d_LA_tagOf_7 ?_
  cases hD
  exact t_ireti cx wo rfl rfl d_LA_tagOf_8
def D_LA_stripeOfBlock (F : Nat) (n : Nat → Nat) (σ : HS) (p1 : Int32) : Option (Int32) :=
grd (decide (¬ (σ.1 1 7) = 0)) (
  some (p1 / (σ.1 1 7)))
set_option maxRecDepth 100000 in
set_option maxHeartbeats 4000000 in
theorem k_LA_stripeOfBlock (l : Launch) (E : EV) (ad n : Nat → Nat) (L : List Nat) (hL : ∀ a ∈ ([1] : List Nat), a ∈ L) (F : Nat) (σ  : HS) (p1 : Int32) (r : Int32) (hD : D_LA_stripeOfBlock F n σ p1 = some r) : CtI l E y_LA_stripeOfBlock c_LA_stripeOfBlock 2 (some FieldType.int) ({ frames := 0, cells := 0, slots := 0, locals := 0 }) [.ref (ad 1), .int p1] (wl E ad n L σ) r (wl E ad n L σ) := by
  refine fun sz => ent (by decide) (Nat.le_of_ble_eq_true rfl) ?_
  intro p e s m below meth c hsz cx wo ls hl
  have hx := cx.1.1
  have hb := cx.1.2.1
  have hown := cx.1.2.2.2.1
  have hts := cx.1.2.2.2.2
  have hl : lv_has ls 2 [(0, .ref (ad 1)), (1, .int p1)] := hl
  have m1 : 1 ∈ L := hL 1 (by decide)
  rw [D_LA_stripeOfBlock] at hD
  refine lv_iload_n hx hb d_LA_stripeOfBlock_0 rfl (lv_at hl 1 rfl) ?_
  refine lv_aload_n hx hb d_LA_stripeOfBlock_1 rfl (lv_at hl 0 rfl) ?_
  refine g_get cx wo m1 (cel_1 E ad n σ) rfl in_LA 7 (by decide) wf_LA_25 rfl d_LA_stripeOfBlock_2 ?_
  obtain ⟨g1, hD⟩ := grd_s hD
  refine lv_idiv hx hb d_LA_stripeOfBlock_5 (of_decide_eq_true g1) ?_
  cases hD
  exact t_ireti cx wo rfl rfl d_LA_stripeOfBlock_6
def D_LA_columnOfBlock (F : Nat) (n : Nat → Nat) (σ : HS) (p1 : Int32) : Option (Int32) :=
grd (decide (¬ (σ.1 1 7) = 0)) (
  some (p1 - p1 / (σ.1 1 7) * (σ.1 1 7)))
set_option maxRecDepth 100000 in
set_option maxHeartbeats 4000000 in
theorem k_LA_columnOfBlock (l : Launch) (E : EV) (ad n : Nat → Nat) (L : List Nat) (hL : ∀ a ∈ ([1] : List Nat), a ∈ L) (F : Nat) (σ  : HS) (p1 : Int32) (r : Int32) (hD : D_LA_columnOfBlock F n σ p1 = some r) : CtI l E y_LA_columnOfBlock c_LA_columnOfBlock 2 (some FieldType.int) ({ frames := 0, cells := 0, slots := 0, locals := 0 }) [.ref (ad 1), .int p1] (wl E ad n L σ) r (wl E ad n L σ) := by
  refine fun sz => ent (by decide) (Nat.le_of_ble_eq_true rfl) ?_
  intro p e s m below meth c hsz cx wo ls hl
  have hx := cx.1.1
  have hb := cx.1.2.1
  have hown := cx.1.2.2.2.1
  have hts := cx.1.2.2.2.2
  have hl : lv_has ls 2 [(0, .ref (ad 1)), (1, .int p1)] := hl
  have m1 : 1 ∈ L := hL 1 (by decide)
  rw [D_LA_columnOfBlock] at hD
  refine lv_iload_n hx hb d_LA_columnOfBlock_0 rfl (lv_at hl 1 rfl) ?_
  refine lv_aload_n hx hb d_LA_columnOfBlock_1 rfl (lv_at hl 0 rfl) ?_
  refine g_get cx wo m1 (cel_1 E ad n σ) rfl in_LA 7 (by decide) wf_LA_25 rfl d_LA_columnOfBlock_2 ?_
  obtain ⟨g1, hD⟩ := grd_s hD
  refine lv_irem hx hb d_LA_columnOfBlock_5 (of_decide_eq_true g1) ?_
  cases hD
  exact t_ireti cx wo rfl rfl d_LA_columnOfBlock_6
def D_PW_cut (F : Nat) (n : Nat → Nat) (σ : HS)  : Option (HS) :=
nm (stF σ 4 0 (0 : Int32)) (fun σ1 =>
  nm (stF σ1 4 1 (0 : Int32)) (fun σ2 =>
  some σ2))
set_option maxRecDepth 100000 in
set_option maxHeartbeats 4000000 in
theorem k_PW_cut (l : Launch) (E : EV) (ad n : Nat → Nat) (L : List Nat) (hL : ∀ a ∈ ([4] : List Nat), a ∈ L) (F : Nat) (σ σo : HS)   (hD : D_PW_cut F n σ  = some σo) : CtV l E y_PW_cut c_PW_cut 1 none ({ frames := 0, cells := 0, slots := 0, locals := 0 }) [.ref (ad 4)] (wl E ad n L σ) (wl E ad n L σo) := by
  refine fun sz => ent (by decide) (Nat.le_of_ble_eq_true rfl) ?_
  intro p e s m below meth c hsz cx wo ls hl
  have hx := cx.1.1
  have hb := cx.1.2.1
  have hown := cx.1.2.2.2.1
  have hts := cx.1.2.2.2.2
  have hl : lv_has ls 1 [(0, .ref (ad 4))] := hl
  have m4 : 4 ∈ L := hL 4 (by decide)
  rw [D_PW_cut] at hD
  refine lv_aload_n hx hb d_PW_cut_0 rfl (lv_at hl 0 rfl) ?_
  refine lv_iconst (v := 0) hx hb d_PW_cut_1 (by decide) ?_
  refine g_put cx wo m4 (cel_4 E ad n σ) rfl in_PW t_PW tok_PW n_PW 0 (by decide) wf_PW_7 rfl rfl rfl (Nat.le_of_ble_eq_true rfl) rfl d_PW_cut_2 (fun H locs wo => ?_)
  obtain ⟨σ1, eσ1⟩ : ∃ z, z = stF σ 4 0 (0 : Int32) := ⟨_, rfl⟩
  rw [← eσ1] at wo
  have hD := nm_at hD eσ1
  try dsimp only at hD
  refine lv_aload_n hx hb d_PW_cut_5 rfl (lv_at hl 0 rfl) ?_
  refine lv_iconst (v := 0) hx hb d_PW_cut_6 (by decide) ?_
  refine g_put cx wo m4 (cel_4 E ad n σ1) rfl in_PW t_PW tok_PW n_PW 1 (by decide) wf_PW_13 rfl rfl rfl (Nat.le_of_ble_eq_true rfl) rfl d_PW_cut_7 (fun H locs wo => ?_)
  obtain ⟨σ2, eσ2⟩ : ∃ z, z = stF σ1 4 1 (0 : Int32) := ⟨_, rfl⟩
  rw [← eσ2] at wo
  have hD := nm_at hD eσ2
  try dsimp only at hD
  cases hD
  exact t_vret cx wo d_PW_cut_10
def D_PW_spendWrite (F : Nat) (n : Nat → Nat) (σ : HS)  : Option (HS × Int32) :=
(if (σ.1 4 1) = (1 : Int32) then
    (D_PW_cut F n σ ).bind (fun (σ7 : HS) =>
    some (σ7, (0 : Int32)))
  else
    (if (σ.1 4 1) ≤ (1 : Int32) then
      nm (stF σ 4 2 ((σ.1 4 2) + (1 : Int32))) (fun σ3 =>
      some (σ3, (1 : Int32)))
    else
      nm (stF σ 4 1 ((σ.1 4 1) - (1 : Int32))) (fun σ4 =>
      nm (stF σ4 4 2 ((σ4.1 4 2) + (1 : Int32))) (fun σ5 =>
      some (σ5, (1 : Int32))))))
set_option maxRecDepth 100000 in
set_option maxHeartbeats 4000000 in
theorem k_PW_spendWrite (l : Launch) (E : EV) (ad n : Nat → Nat) (L : List Nat) (hL : ∀ a ∈ ([4] : List Nat), a ∈ L) (F : Nat) (σ σo : HS)  (r : Int32) (hD : D_PW_spendWrite F n σ  = some (σo, r)) : CtI l E y_PW_spendWrite c_PW_spendWrite 1 (some FieldType.boolean) ({ frames := 1, cells := 0, slots := 0, locals := 20 }) [.ref (ad 4)] (wl E ad n L σ) r (wl E ad n L σo) := by
  refine fun sz => ent (by decide) (Nat.le_of_ble_eq_true rfl) ?_
  intro p e s m below meth c hsz cx wo ls hl
  have hx := cx.1.1
  have hb := cx.1.2.1
  have hown := cx.1.2.2.2.1
  have hts := cx.1.2.2.2.2
  have hl : lv_has ls 1 [(0, .ref (ad 4))] := hl
  have m4 : 4 ∈ L := hL 4 (by decide)
  rw [D_PW_spendWrite] at hD
  refine lv_aload_n hx hb d_PW_spendWrite_0 rfl (lv_at hl 0 rfl) ?_
  refine g_get cx wo m4 (cel_4 E ad n σ) rfl in_PW 1 (by decide) wf_PW_13 rfl d_PW_spendWrite_1 ?_
  refine lv_iconst (v := 1) hx hb d_PW_spendWrite_4 (by decide) ?_
  refine lv_icmp_ne (tgt := 14) hx hb d_PW_spendWrite_5 (by decide) (fun c1 => ?_) (fun c1 => ?_)
  · have hD := ite_n hD c1
    refine lv_aload_n hx hb d_PW_spendWrite_14 rfl (lv_at hl 0 rfl) ?_
    refine g_get cx wo m4 (cel_4 E ad n σ) rfl in_PW 1 (by decide) wf_PW_13 rfl d_PW_spendWrite_15 ?_
    refine lv_iconst (v := 1) hx hb d_PW_spendWrite_18 (by decide) ?_
    refine lv_icmp_le (tgt := 32) hx hb d_PW_spendWrite_19 (by decide) (fun c2 => ?_) (fun c2 => ?_)
    · have hD := ite_p hD c2
      refine lv_aload_n hx hb d_PW_spendWrite_32 rfl (lv_at hl 0 rfl) ?_
      refine lv_dup hx hb d_PW_spendWrite_33 rfl ?_
      refine g_get cx wo m4 (cel_4 E ad n σ) rfl in_PW 2 (by decide) wf_PW_20 rfl d_PW_spendWrite_34 ?_
      refine lv_iconst (v := 1) hx hb d_PW_spendWrite_37 (by decide) ?_
      refine lv_iadd hx hb d_PW_spendWrite_38 ?_
      refine g_put cx wo m4 (cel_4 E ad n σ) rfl in_PW t_PW tok_PW n_PW 2 (by decide) wf_PW_20 rfl rfl rfl (Nat.le_of_ble_eq_true rfl) rfl d_PW_spendWrite_39 (fun H locs wo => ?_)
      obtain ⟨σ3, eσ3⟩ : ∃ z, z = stF σ 4 2 ((σ.1 4 2) + (1 : Int32)) := ⟨_, rfl⟩
      rw [← eσ3] at wo
      have hD := nm_at hD eσ3
      try dsimp only at hD
      refine lv_iconst (v := 1) hx hb d_PW_spendWrite_42 (by decide) ?_
      cases hD
      exact t_ireti cx wo rfl rfl d_PW_spendWrite_43
    · have hD := ite_n hD c2
      refine lv_aload_n hx hb d_PW_spendWrite_22 rfl (lv_at hl 0 rfl) ?_
      refine lv_dup hx hb d_PW_spendWrite_23 rfl ?_
      refine g_get cx wo m4 (cel_4 E ad n σ) rfl in_PW 1 (by decide) wf_PW_13 rfl d_PW_spendWrite_24 ?_
      refine lv_iconst (v := 1) hx hb d_PW_spendWrite_27 (by decide) ?_
      refine lv_isub hx hb d_PW_spendWrite_28 ?_
      refine g_put cx wo m4 (cel_4 E ad n σ) rfl in_PW t_PW tok_PW n_PW 1 (by decide) wf_PW_13 rfl rfl rfl (Nat.le_of_ble_eq_true rfl) rfl d_PW_spendWrite_29 (fun H locs wo => ?_)
      obtain ⟨σ4, eσ4⟩ : ∃ z, z = stF σ 4 1 ((σ.1 4 1) - (1 : Int32)) := ⟨_, rfl⟩
      rw [← eσ4] at wo
      have hD := nm_at hD eσ4
      try dsimp only at hD
      refine lv_aload_n hx hb d_PW_spendWrite_32 rfl (lv_at hl 0 rfl) ?_
      refine lv_dup hx hb d_PW_spendWrite_33 rfl ?_
      refine g_get cx wo m4 (cel_4 E ad n σ4) rfl in_PW 2 (by decide) wf_PW_20 rfl d_PW_spendWrite_34 ?_
      refine lv_iconst (v := 1) hx hb d_PW_spendWrite_37 (by decide) ?_
      refine lv_iadd hx hb d_PW_spendWrite_38 ?_
      refine g_put cx wo m4 (cel_4 E ad n σ4) rfl in_PW t_PW tok_PW n_PW 2 (by decide) wf_PW_20 rfl rfl rfl (Nat.le_of_ble_eq_true rfl) rfl d_PW_spendWrite_39 (fun H locs wo => ?_)
      obtain ⟨σ5, eσ5⟩ : ∃ z, z = stF σ4 4 2 ((σ4.1 4 2) + (1 : Int32)) := ⟨_, rfl⟩
      rw [← eσ5] at wo
      have hD := nm_at hD eσ5
      try dsimp only at hD
      refine lv_iconst (v := 1) hx hb d_PW_spendWrite_42 (by decide) ?_
      cases hD
      exact t_ireti cx wo rfl rfl d_PW_spendWrite_43
  · have hD := ite_p hD c1
    refine lv_aload_n hx hb d_PW_spendWrite_8 rfl (lv_at hl 0 rfl) ?_
    obtain ⟨σ7, hcx6, hD⟩ := bd_s hD
    try dsimp only [nm2] at hD
    refine call_Vv cx wo (k_PW_cut l E ad n L (fun a h => hL a ((by decide : ∀ a ∈ ([4] : List Nat), a ∈ ([4] : List Nat)) a h)) F σ σ7  hcx6) m4 (cel_4 E ad n σ) rfl rfl mw_PW_cut wm_PW_17 ⟨by decide, by decide⟩ ⟨by decide, by decide⟩ hl.1 rfl (Nat.le_of_ble_eq_true rfl) d_PW_spendWrite_9 (fun H locs wo => ?_)
    refine lv_iconst (v := 0) hx hb d_PW_spendWrite_12 (by decide) ?_
    cases hD
    exact t_ireti cx wo rfl rfl d_PW_spendWrite_13
def D_RK_isWritten (F : Nat) (n : Nat → Nat) (σ : HS) (p1 : Int32) : Option (Int32) :=
grd (inb p1 (n 13)) (
  grd (isB (σ.1 13 (p1).toNatClampNeg)) (
  some (σ.1 13 (p1).toNatClampNeg)))
set_option maxRecDepth 100000 in
set_option maxHeartbeats 4000000 in
theorem k_RK_isWritten (l : Launch) (E : EV) (ad n : Nat → Nat) (L : List Nat) (hL : ∀ a ∈ ([2, 13] : List Nat), a ∈ L) (F : Nat) (σ  : HS) (p1 : Int32) (r : Int32) (hD : D_RK_isWritten F n σ p1 = some r) : CtI l E y_RK_isWritten c_RK_isWritten 2 (some FieldType.boolean) ({ frames := 0, cells := 0, slots := 0, locals := 0 }) [.ref (ad 2), .int p1] (wl E ad n L σ) r (wl E ad n L σ) := by
  refine fun sz => ent (by decide) (Nat.le_of_ble_eq_true rfl) ?_
  intro p e s m below meth c hsz cx wo ls hl
  have hx := cx.1.1
  have hb := cx.1.2.1
  have hown := cx.1.2.2.2.1
  have hts := cx.1.2.2.2.2
  have hl : lv_has ls 2 [(0, .ref (ad 2)), (1, .int p1)] := hl
  have m2 : 2 ∈ L := hL 2 (by decide)
  have m13 : 13 ∈ L := hL 13 (by decide)
  rw [D_RK_isWritten] at hD
  refine lv_aload_n hx hb d_RK_isWritten_0 rfl (lv_at hl 0 rfl) ?_
  refine g_get cx wo m2 (cel_2 E ad n σ) rfl in_RK 4 (by decide) wf_RK_35 rfl d_RK_isWritten_1 ?_
  refine lv_iload_n hx hb d_RK_isWritten_4 rfl (lv_at hl 1 rfl) ?_
  obtain ⟨g1, hD⟩ := grd_s hD
  refine g_zald cx wo m13 (cel_13 E ad n σ) g1 d_RK_isWritten_5 ?_
  obtain ⟨g2, hD⟩ := grd_s hD
  cases hD
  exact t_ireti cx wo (isB_n g2) rfl d_RK_isWritten_6
def D_RK_isValid (F : Nat) (n : Nat → Nat) (σ : HS) (p1 : Int32) : Option (Int32) :=
(if p1 = (-1 : Int32) then
    some (0 : Int32)
  else
    grd (inb p1 (n 14)) (
    (if (σ.1 14 (p1).toNatClampNeg) = 0 then
      some (0 : Int32)
    else
      some (1 : Int32))))
set_option maxRecDepth 100000 in
set_option maxHeartbeats 4000000 in
theorem k_RK_isValid (l : Launch) (E : EV) (ad n : Nat → Nat) (L : List Nat) (hL : ∀ a ∈ ([2, 14] : List Nat), a ∈ L) (F : Nat) (σ  : HS) (p1 : Int32) (r : Int32) (hD : D_RK_isValid F n σ p1 = some r) : CtI l E y_RK_isValid c_RK_isValid 2 (some FieldType.boolean) ({ frames := 0, cells := 0, slots := 0, locals := 0 }) [.ref (ad 2), .int p1] (wl E ad n L σ) r (wl E ad n L σ) := by
  refine fun sz => ent (by decide) (Nat.le_of_ble_eq_true rfl) ?_
  intro p e s m below meth c hsz cx wo ls hl
  have hx := cx.1.1
  have hb := cx.1.2.1
  have hown := cx.1.2.2.2.1
  have hts := cx.1.2.2.2.2
  have hl : lv_has ls 2 [(0, .ref (ad 2)), (1, .int p1)] := hl
  have m2 : 2 ∈ L := hL 2 (by decide)
  have m14 : 14 ∈ L := hL 14 (by decide)
  rw [D_RK_isValid] at hD
  refine lv_iload_n hx hb d_RK_isValid_0 rfl (lv_at hl 1 rfl) ?_
  refine lv_iconst (v := -1) hx hb d_RK_isValid_1 (by decide) ?_
  refine lv_icmp_eq (tgt := 18) hx hb d_RK_isValid_2 (by decide) (fun c1 => ?_) (fun c1 => ?_)
  · have hD := ite_p hD c1
    refine lv_iconst (v := 0) hx hb d_RK_isValid_18 (by decide) ?_
    cases hD
    exact t_ireti cx wo rfl rfl d_RK_isValid_19
  · have hD := ite_n hD c1
    refine lv_aload_n hx hb d_RK_isValid_5 rfl (lv_at hl 0 rfl) ?_
    refine g_get cx wo m2 (cel_2 E ad n σ) rfl in_RK 5 (by decide) wf_RK_38 rfl d_RK_isValid_6 ?_
    refine lv_iload_n hx hb d_RK_isValid_9 rfl (lv_at hl 1 rfl) ?_
    obtain ⟨g2, hD⟩ := grd_s hD
    refine g_zald cx wo m14 (cel_14 E ad n σ) g2 d_RK_isValid_10 ?_
    refine lv_if_eq (tgt := 18) hx hb d_RK_isValid_11 (by decide) (fun c3 => ?_) (fun c3 => ?_)
    · have hD := ite_p hD c3
      refine lv_iconst (v := 0) hx hb d_RK_isValid_18 (by decide) ?_
      cases hD
      exact t_ireti cx wo rfl rfl d_RK_isValid_19
    · have hD := ite_n hD c3
      refine lv_iconst (v := 1) hx hb d_RK_isValid_14 (by decide) ?_
      refine lv_goto (tgt := 19) hx hb d_RK_isValid_15 (by decide) ?_
      cases hD
      exact t_ireti cx wo rfl rfl d_RK_isValid_19
def D_RK_tag (F : Nat) (n : Nat → Nat) (σ : HS) (p1 : Int32) : Option (Int32) :=
grd (inb ((p1 * (9 : Int32)) + (8 : Int32)) (n 11)) (
  some (((σ.2 11 (((p1 * (9 : Int32)) + (8 : Int32))).toNatClampNeg) &&& (65535 : Int64))).toInt32)
set_option maxRecDepth 100000 in
set_option maxHeartbeats 4000000 in
theorem k_RK_tag (l : Launch) (E : EV) (ad n : Nat → Nat) (L : List Nat) (hL : ∀ a ∈ ([2, 11] : List Nat), a ∈ L) (F : Nat) (σ  : HS) (p1 : Int32) (r : Int32) (hD : D_RK_tag F n σ p1 = some r) : CtI l E y_RK_tag c_RK_tag 2 (some FieldType.int) ({ frames := 0, cells := 0, slots := 0, locals := 0 }) [.ref (ad 2), .int p1] (wl E ad n L σ) r (wl E ad n L σ) := by
  refine fun sz => ent (by decide) (Nat.le_of_ble_eq_true rfl) ?_
  intro p e s m below meth c hsz cx wo ls hl
  have hx := cx.1.1
  have hb := cx.1.2.1
  have hown := cx.1.2.2.2.1
  have hts := cx.1.2.2.2.2
  have hl : lv_has ls 2 [(0, .ref (ad 2)), (1, .int p1)] := hl
  have m2 : 2 ∈ L := hL 2 (by decide)
  have m11 : 11 ∈ L := hL 11 (by decide)
  rw [D_RK_tag] at hD
  refine lv_aload_n hx hb d_RK_tag_0 rfl (lv_at hl 0 rfl) ?_
  refine g_get cx wo m2 (cel_2 E ad n σ) rfl in_RK 2 (by decide) wf_RK_28 rfl d_RK_tag_1 ?_
  refine lv_iload_n hx hb d_RK_tag_4 rfl (lv_at hl 1 rfl) ?_
  refine lv_bipush (v := 9) hx hb d_RK_tag_5 (by decide) ?_
  refine lv_imul hx hb d_RK_tag_7 ?_
  refine lv_bipush (v := 8) hx hb d_RK_tag_8 (by decide) ?_
  refine lv_iadd hx hb d_RK_tag_10 ?_
  obtain ⟨g1, hD⟩ := grd_s hD
  refine g_lald cx wo m11 (cel_11 E ad n σ) g1 d_RK_tag_11 ?_
  refine lv_ldc2 hx hb hown (hts _ wj_RK_89) d_RK_tag_12 ?_
  refine lv_land hx hb d_RK_tag_15 ?_
  refine lv_l2i hx hb d_RK_tag_16 rfl ?_
  cases hD
  exact t_ireti cx wo rfl rfl d_RK_tag_17
end
