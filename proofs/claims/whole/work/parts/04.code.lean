abbrev c_SF_init : ByteArray := prog_1_method_1_code
abbrev y_SF_init : MethodName := ⟨"StripeField", "<init>", "(III)V"⟩
theorem d_SF_init_0 : decode c_SF_init 0 = .ok (.aload_n 0, 1) := by decide +kernel
theorem d_SF_init_1 : decode c_SF_init 1 = .ok (.invokespecial 1, 3) := by decide +kernel
theorem d_SF_init_4 : decode c_SF_init 4 = .ok (.aload_n 0, 1) := by decide +kernel
theorem d_SF_init_5 : decode c_SF_init 5 = .ok (.new 7, 3) := by decide +kernel
theorem d_SF_init_8 : decode c_SF_init 8 = .ok (.dup, 1) := by decide +kernel
theorem d_SF_init_9 : decode c_SF_init 9 = .ok (.iload_n 1, 1) := by decide +kernel
theorem d_SF_init_10 : decode c_SF_init 10 = .ok (.iload_n 2, 1) := by decide +kernel
theorem d_SF_init_11 : decode c_SF_init 11 = .ok (.iload_n 3, 1) := by decide +kernel
theorem d_SF_init_12 : decode c_SF_init 12 = .ok (.invokespecial 9, 3) := by decide +kernel
theorem d_SF_init_15 : decode c_SF_init 15 = .ok (.putfield 12, 3) := by decide +kernel
theorem d_SF_init_18 : decode c_SF_init 18 = .ok (.aload_n 0, 1) := by decide +kernel
theorem d_SF_init_19 : decode c_SF_init 19 = .ok (.new 18, 3) := by decide +kernel
theorem d_SF_init_22 : decode c_SF_init 22 = .ok (.dup, 1) := by decide +kernel
theorem d_SF_init_23 : decode c_SF_init 23 = .ok (.aload_n 0, 1) := by decide +kernel
theorem d_SF_init_24 : decode c_SF_init 24 = .ok (.getfield 12, 3) := by decide +kernel
theorem d_SF_init_27 : decode c_SF_init 27 = .ok (.invokespecial 20, 3) := by decide +kernel
theorem d_SF_init_30 : decode c_SF_init 30 = .ok (.putfield 23, 3) := by decide +kernel
theorem d_SF_init_33 : decode c_SF_init 33 = .ok (.aload_n 0, 1) := by decide +kernel
theorem d_SF_init_34 : decode c_SF_init 34 = .ok (.new 27, 3) := by decide +kernel
theorem d_SF_init_37 : decode c_SF_init 37 = .ok (.dup, 1) := by decide +kernel
theorem d_SF_init_38 : decode c_SF_init 38 = .ok (.aload_n 0, 1) := by decide +kernel
theorem d_SF_init_39 : decode c_SF_init 39 = .ok (.getfield 12, 3) := by decide +kernel
theorem d_SF_init_42 : decode c_SF_init 42 = .ok (.aload_n 0, 1) := by decide +kernel
theorem d_SF_init_43 : decode c_SF_init 43 = .ok (.getfield 23, 3) := by decide +kernel
theorem d_SF_init_46 : decode c_SF_init 46 = .ok (.invokespecial 29, 3) := by decide +kernel
theorem d_SF_init_49 : decode c_SF_init 49 = .ok (.putfield 32, 3) := by decide +kernel
theorem d_SF_init_52 : decode c_SF_init 52 = .ok (.aload_n 0, 1) := by decide +kernel
theorem d_SF_init_53 : decode c_SF_init 53 = .ok (.new 36, 3) := by decide +kernel
theorem d_SF_init_56 : decode c_SF_init 56 = .ok (.dup, 1) := by decide +kernel
theorem d_SF_init_57 : decode c_SF_init 57 = .ok (.invokespecial 38, 3) := by decide +kernel
theorem d_SF_init_60 : decode c_SF_init 60 = .ok (.putfield 39, 3) := by decide +kernel
theorem d_SF_init_63 : decode c_SF_init 63 = .ok (.aload_n 0, 1) := by decide +kernel
theorem d_SF_init_64 : decode c_SF_init 64 = .ok (.bipush 8, 2) := by decide +kernel
theorem d_SF_init_66 : decode c_SF_init 66 = .ok (.newarray .long, 2) := by decide +kernel
theorem d_SF_init_68 : decode c_SF_init 68 = .ok (.putfield 43, 3) := by decide +kernel
theorem d_SF_init_71 : decode c_SF_init 71 = .ok (.aload_n 0, 1) := by decide +kernel
theorem d_SF_init_72 : decode c_SF_init 72 = .ok (.bipush 8, 2) := by decide +kernel
theorem d_SF_init_74 : decode c_SF_init 74 = .ok (.newarray .long, 2) := by decide +kernel
theorem d_SF_init_76 : decode c_SF_init 76 = .ok (.putfield 47, 3) := by decide +kernel
theorem d_SF_init_79 : decode c_SF_init 79 = .ok (.aload_n 0, 1) := by decide +kernel
theorem d_SF_init_80 : decode c_SF_init 80 = .ok (.bipush 8, 2) := by decide +kernel
theorem d_SF_init_82 : decode c_SF_init 82 = .ok (.newarray .long, 2) := by decide +kernel
theorem d_SF_init_84 : decode c_SF_init 84 = .ok (.putfield 50, 3) := by decide +kernel
theorem d_SF_init_87 : decode c_SF_init 87 = .ok (.aload_n 0, 1) := by decide +kernel
theorem d_SF_init_88 : decode c_SF_init 88 = .ok (.bipush 8, 2) := by decide +kernel
theorem d_SF_init_90 : decode c_SF_init 90 = .ok (.newarray .long, 2) := by decide +kernel
theorem d_SF_init_92 : decode c_SF_init 92 = .ok (.putfield 53, 3) := by decide +kernel
theorem d_SF_init_95 : decode c_SF_init 95 = .ok (.return_, 1) := by decide +kernel
abbrev c_SF_feed : ByteArray := prog_1_method_2_code
abbrev y_SF_feed : MethodName := ⟨"StripeField", "feed", "(IJ)I"⟩
theorem d_SF_feed_0 : decode c_SF_feed 0 = .ok (.iload_n 1, 1) := by decide +kernel
theorem d_SF_feed_1 : decode c_SF_feed 1 = .ok (.iconst 1, 1) := by decide +kernel
theorem d_SF_feed_2 : decode c_SF_feed 2 = .ok (.if_icmp .lt 9, 3) := by decide +kernel
theorem d_SF_feed_5 : decode c_SF_feed 5 = .ok (.iload_n 1, 1) := by decide +kernel
theorem d_SF_feed_6 : decode c_SF_feed 6 = .ok (.bipush 8, 2) := by decide +kernel
theorem d_SF_feed_8 : decode c_SF_feed 8 = .ok (.if_icmp .le 13, 3) := by decide +kernel
theorem d_SF_feed_11 : decode c_SF_feed 11 = .ok (.new 56, 3) := by decide +kernel
theorem d_SF_feed_14 : decode c_SF_feed 14 = .ok (.dup, 1) := by decide +kernel
theorem d_SF_feed_15 : decode c_SF_feed 15 = .ok (.ldc 58, 2) := by decide +kernel
theorem d_SF_feed_17 : decode c_SF_feed 17 = .ok (.invokespecial 60, 3) := by decide +kernel
theorem d_SF_feed_20 : decode c_SF_feed 20 = .ok (.athrow, 1) := by decide +kernel
theorem d_SF_feed_21 : decode c_SF_feed 21 = .ok (.aload_n 0, 1) := by decide +kernel
theorem d_SF_feed_22 : decode c_SF_feed 22 = .ok (.getfield 63, 3) := by decide +kernel
theorem d_SF_feed_25 : decode c_SF_feed 25 = .ok (.iload_n 1, 1) := by decide +kernel
theorem d_SF_feed_26 : decode c_SF_feed 26 = .ok (.iadd, 1) := by decide +kernel
theorem d_SF_feed_27 : decode c_SF_feed 27 = .ok (.bipush 64, 2) := by decide +kernel
theorem d_SF_feed_29 : decode c_SF_feed 29 = .ok (.if_icmp .le 13, 3) := by decide +kernel
theorem d_SF_feed_32 : decode c_SF_feed 32 = .ok (.new 67, 3) := by decide +kernel
theorem d_SF_feed_35 : decode c_SF_feed 35 = .ok (.dup, 1) := by decide +kernel
theorem d_SF_feed_36 : decode c_SF_feed 36 = .ok (.ldc 69, 2) := by decide +kernel
theorem d_SF_feed_38 : decode c_SF_feed 38 = .ok (.invokespecial 71, 3) := by decide +kernel
theorem d_SF_feed_41 : decode c_SF_feed 41 = .ok (.athrow, 1) := by decide +kernel
theorem d_SF_feed_42 : decode c_SF_feed 42 = .ok (.aload_n 0, 1) := by decide +kernel
theorem d_SF_feed_43 : decode c_SF_feed 43 = .ok (.getfield 43, 3) := by decide +kernel
theorem d_SF_feed_46 : decode c_SF_feed 46 = .ok (.iconst 0, 1) := by decide +kernel
theorem d_SF_feed_47 : decode c_SF_feed 47 = .ok (.aload_n 0, 1) := by decide +kernel
theorem d_SF_feed_48 : decode c_SF_feed 48 = .ok (.getfield 63, 3) := by decide +kernel
theorem d_SF_feed_51 : decode c_SF_feed 51 = .ok (.iload_n 1, 1) := by decide +kernel
theorem d_SF_feed_52 : decode c_SF_feed 52 = .ok (.lload_n 2, 1) := by decide +kernel
theorem d_SF_feed_53 : decode c_SF_feed 53 = .ok (.invokestatic 72, 3) := by decide +kernel
theorem d_SF_feed_56 : decode c_SF_feed 56 = .ok (.aload_n 0, 1) := by decide +kernel
theorem d_SF_feed_57 : decode c_SF_feed 57 = .ok (.dup, 1) := by decide +kernel
theorem d_SF_feed_58 : decode c_SF_feed 58 = .ok (.getfield 63, 3) := by decide +kernel
theorem d_SF_feed_61 : decode c_SF_feed 61 = .ok (.iload_n 1, 1) := by decide +kernel
theorem d_SF_feed_62 : decode c_SF_feed 62 = .ok (.iadd, 1) := by decide +kernel
theorem d_SF_feed_63 : decode c_SF_feed 63 = .ok (.putfield 63, 3) := by decide +kernel
theorem d_SF_feed_66 : decode c_SF_feed 66 = .ok (.aload_n 0, 1) := by decide +kernel
theorem d_SF_feed_67 : decode c_SF_feed 67 = .ok (.getfield 63, 3) := by decide +kernel
theorem d_SF_feed_70 : decode c_SF_feed 70 = .ok (.ireturn, 1) := by decide +kernel
abbrev c_SF_xorBytes : ByteArray := prog_1_method_36_code
abbrev y_SF_xorBytes : MethodName := ⟨"StripeField", "xorBytes", "([JIIIJ)V"⟩
theorem d_SF_xorBytes_0 : decode c_SF_xorBytes 0 = .ok (.iconst 0, 1) := by decide +kernel
theorem d_SF_xorBytes_1 : decode c_SF_xorBytes 1 = .ok (.istore 6, 2) := by decide +kernel
theorem d_SF_xorBytes_3 : decode c_SF_xorBytes 3 = .ok (.iload 6, 2) := by decide +kernel
theorem d_SF_xorBytes_5 : decode c_SF_xorBytes 5 = .ok (.iload_n 3, 1) := by decide +kernel
theorem d_SF_xorBytes_6 : decode c_SF_xorBytes 6 = .ok (.if_icmp .ge 49, 3) := by decide +kernel
theorem d_SF_xorBytes_9 : decode c_SF_xorBytes 9 = .ok (.lload 4, 2) := by decide +kernel
theorem d_SF_xorBytes_11 : decode c_SF_xorBytes 11 = .ok (.bipush 8, 2) := by decide +kernel
theorem d_SF_xorBytes_13 : decode c_SF_xorBytes 13 = .ok (.iload 6, 2) := by decide +kernel
theorem d_SF_xorBytes_15 : decode c_SF_xorBytes 15 = .ok (.imul, 1) := by decide +kernel
theorem d_SF_xorBytes_16 : decode c_SF_xorBytes 16 = .ok (.lushr, 1) := by decide +kernel
theorem d_SF_xorBytes_17 : decode c_SF_xorBytes 17 = .ok (.ldc2_w 329, 3) := by decide +kernel
theorem d_SF_xorBytes_20 : decode c_SF_xorBytes 20 = .ok (.land, 1) := by decide +kernel
theorem d_SF_xorBytes_21 : decode c_SF_xorBytes 21 = .ok (.lstore 7, 2) := by decide +kernel
theorem d_SF_xorBytes_23 : decode c_SF_xorBytes 23 = .ok (.aload_n 0, 1) := by decide +kernel
theorem d_SF_xorBytes_24 : decode c_SF_xorBytes 24 = .ok (.iload_n 1, 1) := by decide +kernel
theorem d_SF_xorBytes_25 : decode c_SF_xorBytes 25 = .ok (.iload_n 2, 1) := by decide +kernel
theorem d_SF_xorBytes_26 : decode c_SF_xorBytes 26 = .ok (.iload 6, 2) := by decide +kernel
theorem d_SF_xorBytes_28 : decode c_SF_xorBytes 28 = .ok (.iadd, 1) := by decide +kernel
theorem d_SF_xorBytes_29 : decode c_SF_xorBytes 29 = .ok (.iconst 3, 1) := by decide +kernel
theorem d_SF_xorBytes_30 : decode c_SF_xorBytes 30 = .ok (.iushr, 1) := by decide +kernel
theorem d_SF_xorBytes_31 : decode c_SF_xorBytes 31 = .ok (.iadd, 1) := by decide +kernel
theorem d_SF_xorBytes_32 : decode c_SF_xorBytes 32 = .ok (.dup2, 1) := by decide +kernel
theorem d_SF_xorBytes_33 : decode c_SF_xorBytes 33 = .ok (.laload, 1) := by decide +kernel
theorem d_SF_xorBytes_34 : decode c_SF_xorBytes 34 = .ok (.lload 7, 2) := by decide +kernel
theorem d_SF_xorBytes_36 : decode c_SF_xorBytes 36 = .ok (.bipush 8, 2) := by decide +kernel
theorem d_SF_xorBytes_38 : decode c_SF_xorBytes 38 = .ok (.iload_n 2, 1) := by decide +kernel
theorem d_SF_xorBytes_39 : decode c_SF_xorBytes 39 = .ok (.iload 6, 2) := by decide +kernel
theorem d_SF_xorBytes_41 : decode c_SF_xorBytes 41 = .ok (.iadd, 1) := by decide +kernel
theorem d_SF_xorBytes_42 : decode c_SF_xorBytes 42 = .ok (.bipush 7, 2) := by decide +kernel
theorem d_SF_xorBytes_44 : decode c_SF_xorBytes 44 = .ok (.iand, 1) := by decide +kernel
theorem d_SF_xorBytes_45 : decode c_SF_xorBytes 45 = .ok (.imul, 1) := by decide +kernel
theorem d_SF_xorBytes_46 : decode c_SF_xorBytes 46 = .ok (.lshl, 1) := by decide +kernel
theorem d_SF_xorBytes_47 : decode c_SF_xorBytes 47 = .ok (.lxor, 1) := by decide +kernel
theorem d_SF_xorBytes_48 : decode c_SF_xorBytes 48 = .ok (.lastore, 1) := by decide +kernel
theorem d_SF_xorBytes_49 : decode c_SF_xorBytes 49 = .ok (.iinc 6 1, 3) := by decide +kernel
theorem d_SF_xorBytes_52 : decode c_SF_xorBytes 52 = .ok (.goto (-49), 3) := by decide +kernel
theorem d_SF_xorBytes_55 : decode c_SF_xorBytes 55 = .ok (.return_, 1) := by decide +kernel
abbrev c_SF_write : ByteArray := prog_1_method_3_code
abbrev y_SF_write : MethodName := ⟨"StripeField", "write", "(I)Z"⟩
theorem d_SF_write_0 : decode c_SF_write 0 = .ok (.iload_n 1, 1) := by decide +kernel
theorem d_SF_write_1 : decode c_SF_write 1 = .ok (.ifCond .lt 14, 3) := by decide +kernel
theorem d_SF_write_4 : decode c_SF_write 4 = .ok (.iload_n 1, 1) := by decide +kernel
theorem d_SF_write_5 : decode c_SF_write 5 = .ok (.aload_n 0, 1) := by decide +kernel
theorem d_SF_write_6 : decode c_SF_write 6 = .ok (.getfield 12, 3) := by decide +kernel
theorem d_SF_write_9 : decode c_SF_write 9 = .ok (.getfield 76, 3) := by decide +kernel
theorem d_SF_write_12 : decode c_SF_write 12 = .ok (.if_icmp .lt 13, 3) := by decide +kernel
theorem d_SF_write_15 : decode c_SF_write 15 = .ok (.new 56, 3) := by decide +kernel
theorem d_SF_write_18 : decode c_SF_write 18 = .ok (.dup, 1) := by decide +kernel
theorem d_SF_write_19 : decode c_SF_write 19 = .ok (.ldc 79, 2) := by decide +kernel
theorem d_SF_write_21 : decode c_SF_write 21 = .ok (.invokespecial 60, 3) := by decide +kernel
theorem d_SF_write_24 : decode c_SF_write 24 = .ok (.athrow, 1) := by decide +kernel
theorem d_SF_write_25 : decode c_SF_write 25 = .ok (.aload_n 0, 1) := by decide +kernel
theorem d_SF_write_26 : decode c_SF_write 26 = .ok (.getfield 39, 3) := by decide +kernel
theorem d_SF_write_29 : decode c_SF_write 29 = .ok (.getfield 81, 3) := by decide +kernel
theorem d_SF_write_32 : decode c_SF_write 32 = .ok (.ifCond .ne 13, 3) := by decide +kernel
theorem d_SF_write_35 : decode c_SF_write 35 = .ok (.new 67, 3) := by decide +kernel
theorem d_SF_write_38 : decode c_SF_write 38 = .ok (.dup, 1) := by decide +kernel
theorem d_SF_write_39 : decode c_SF_write 39 = .ok (.ldc 85, 2) := by decide +kernel
theorem d_SF_write_41 : decode c_SF_write 41 = .ok (.invokespecial 71, 3) := by decide +kernel
theorem d_SF_write_44 : decode c_SF_write 44 = .ok (.athrow, 1) := by decide +kernel
theorem d_SF_write_45 : decode c_SF_write 45 = .ok (.aload_n 0, 1) := by decide +kernel
theorem d_SF_write_46 : decode c_SF_write 46 = .ok (.invokevirtual 87, 3) := by decide +kernel
theorem d_SF_write_49 : decode c_SF_write 49 = .ok (.aload_n 0, 1) := by decide +kernel
theorem d_SF_write_50 : decode c_SF_write 50 = .ok (.aload_n 0, 1) := by decide +kernel
theorem d_SF_write_51 : decode c_SF_write 51 = .ok (.getfield 12, 3) := by decide +kernel
theorem d_SF_write_54 : decode c_SF_write 54 = .ok (.iload_n 1, 1) := by decide +kernel
theorem d_SF_write_55 : decode c_SF_write 55 = .ok (.invokevirtual 90, 3) := by decide +kernel
theorem d_SF_write_58 : decode c_SF_write 58 = .ok (.aload_n 0, 1) := by decide +kernel
theorem d_SF_write_59 : decode c_SF_write 59 = .ok (.getfield 12, 3) := by decide +kernel
theorem d_SF_write_62 : decode c_SF_write 62 = .ok (.iload_n 1, 1) := by decide +kernel
theorem d_SF_write_63 : decode c_SF_write 63 = .ok (.invokevirtual 94, 3) := by decide +kernel
theorem d_SF_write_66 : decode c_SF_write 66 = .ok (.invokevirtual 97, 3) := by decide +kernel
theorem d_SF_write_69 : decode c_SF_write 69 = .ok (.ireturn, 1) := by decide +kernel
abbrev c_SF_takeTape : ByteArray := prog_1_method_17_code
abbrev y_SF_takeTape : MethodName := ⟨"StripeField", "takeTape", "()V"⟩
theorem d_SF_takeTape_0 : decode c_SF_takeTape 0 = .ok (.aload_n 0, 1) := by decide +kernel
theorem d_SF_takeTape_1 : decode c_SF_takeTape 1 = .ok (.getfield 43, 3) := by decide +kernel
theorem d_SF_takeTape_4 : decode c_SF_takeTape 4 = .ok (.iconst 0, 1) := by decide +kernel
theorem d_SF_takeTape_5 : decode c_SF_takeTape 5 = .ok (.aload_n 0, 1) := by decide +kernel
theorem d_SF_takeTape_6 : decode c_SF_takeTape 6 = .ok (.getfield 47, 3) := by decide +kernel
theorem d_SF_takeTape_9 : decode c_SF_takeTape 9 = .ok (.iconst 0, 1) := by decide +kernel
theorem d_SF_takeTape_10 : decode c_SF_takeTape 10 = .ok (.bipush 8, 2) := by decide +kernel
theorem d_SF_takeTape_12 : decode c_SF_takeTape 12 = .ok (.invokestatic 259, 3) := by decide +kernel
theorem d_SF_takeTape_15 : decode c_SF_takeTape 15 = .ok (.aload_n 0, 1) := by decide +kernel
theorem d_SF_takeTape_16 : decode c_SF_takeTape 16 = .ok (.getfield 43, 3) := by decide +kernel
theorem d_SF_takeTape_19 : decode c_SF_takeTape 19 = .ok (.lconst 0, 1) := by decide +kernel
theorem d_SF_takeTape_20 : decode c_SF_takeTape 20 = .ok (.invokestatic 103, 3) := by decide +kernel
theorem d_SF_takeTape_23 : decode c_SF_takeTape 23 = .ok (.aload_n 0, 1) := by decide +kernel
theorem d_SF_takeTape_24 : decode c_SF_takeTape 24 = .ok (.iconst 0, 1) := by decide +kernel
theorem d_SF_takeTape_25 : decode c_SF_takeTape 25 = .ok (.putfield 63, 3) := by decide +kernel
theorem d_SF_takeTape_28 : decode c_SF_takeTape 28 = .ok (.return_, 1) := by decide +kernel
abbrev c_SF_writeFresh : ByteArray := prog_1_method_18_code
abbrev y_SF_writeFresh : MethodName := ⟨"StripeField", "writeFresh", "(II)Z"⟩
theorem d_SF_writeFresh_0 : decode c_SF_writeFresh 0 = .ok (.aload_n 0, 1) := by decide +kernel
theorem d_SF_writeFresh_1 : decode c_SF_writeFresh 1 = .ok (.getfield 50, 3) := by decide +kernel
theorem d_SF_writeFresh_4 : decode c_SF_writeFresh 4 = .ok (.lconst 0, 1) := by decide +kernel
theorem d_SF_writeFresh_5 : decode c_SF_writeFresh 5 = .ok (.invokestatic 103, 3) := by decide +kernel
theorem d_SF_writeFresh_8 : decode c_SF_writeFresh 8 = .ok (.aload_n 0, 1) := by decide +kernel
theorem d_SF_writeFresh_9 : decode c_SF_writeFresh 9 = .ok (.iload_n 1, 1) := by decide +kernel
theorem d_SF_writeFresh_10 : decode c_SF_writeFresh 10 = .ok (.aload_n 0, 1) := by decide +kernel
theorem d_SF_writeFresh_11 : decode c_SF_writeFresh 11 = .ok (.getfield 12, 3) := by decide +kernel
theorem d_SF_writeFresh_14 : decode c_SF_writeFresh 14 = .ok (.getfield 265, 3) := by decide +kernel
theorem d_SF_writeFresh_17 : decode c_SF_writeFresh 17 = .ok (.invokevirtual 268, 3) := by decide +kernel
theorem d_SF_writeFresh_20 : decode c_SF_writeFresh 20 = .ok (.iconst (-1), 1) := by decide +kernel
theorem d_SF_writeFresh_21 : decode c_SF_writeFresh 21 = .ok (.if_icmp .ne 14, 3) := by decide +kernel
theorem d_SF_writeFresh_24 : decode c_SF_writeFresh 24 = .ok (.aload_n 0, 1) := by decide +kernel
theorem d_SF_writeFresh_25 : decode c_SF_writeFresh 25 = .ok (.iload_n 1, 1) := by decide +kernel
theorem d_SF_writeFresh_26 : decode c_SF_writeFresh 26 = .ok (.iload_n 2, 1) := by decide +kernel
theorem d_SF_writeFresh_27 : decode c_SF_writeFresh 27 = .ok (.aload_n 0, 1) := by decide +kernel
theorem d_SF_writeFresh_28 : decode c_SF_writeFresh 28 = .ok (.getfield 47, 3) := by decide +kernel
theorem d_SF_writeFresh_31 : decode c_SF_writeFresh 31 = .ok (.invokevirtual 216, 3) := by decide +kernel
theorem d_SF_writeFresh_34 : decode c_SF_writeFresh 34 = .ok (.ireturn, 1) := by decide +kernel
theorem d_SF_writeFresh_35 : decode c_SF_writeFresh 35 = .ok (.iconst 0, 1) := by decide +kernel
theorem d_SF_writeFresh_36 : decode c_SF_writeFresh 36 = .ok (.istore_n 3, 1) := by decide +kernel
theorem d_SF_writeFresh_37 : decode c_SF_writeFresh 37 = .ok (.iload_n 3, 1) := by decide +kernel
theorem d_SF_writeFresh_38 : decode c_SF_writeFresh 38 = .ok (.aload_n 0, 1) := by decide +kernel
theorem d_SF_writeFresh_39 : decode c_SF_writeFresh 39 = .ok (.getfield 12, 3) := by decide +kernel
theorem d_SF_writeFresh_42 : decode c_SF_writeFresh 42 = .ok (.getfield 265, 3) := by decide +kernel
theorem d_SF_writeFresh_45 : decode c_SF_writeFresh 45 = .ok (.if_icmp .ge 20, 3) := by decide +kernel
theorem d_SF_writeFresh_48 : decode c_SF_writeFresh 48 = .ok (.iload_n 3, 1) := by decide +kernel
theorem d_SF_writeFresh_49 : decode c_SF_writeFresh 49 = .ok (.iload_n 2, 1) := by decide +kernel
theorem d_SF_writeFresh_50 : decode c_SF_writeFresh 50 = .ok (.if_icmp .eq 9, 3) := by decide +kernel
theorem d_SF_writeFresh_53 : decode c_SF_writeFresh 53 = .ok (.aload_n 0, 1) := by decide +kernel
theorem d_SF_writeFresh_54 : decode c_SF_writeFresh 54 = .ok (.iload_n 1, 1) := by decide +kernel
theorem d_SF_writeFresh_55 : decode c_SF_writeFresh 55 = .ok (.iload_n 3, 1) := by decide +kernel
theorem d_SF_writeFresh_56 : decode c_SF_writeFresh 56 = .ok (.invokevirtual 109, 3) := by decide +kernel
theorem d_SF_writeFresh_59 : decode c_SF_writeFresh 59 = .ok (.iinc 3 1, 3) := by decide +kernel
theorem d_SF_writeFresh_62 : decode c_SF_writeFresh 62 = .ok (.goto (-25), 3) := by decide +kernel
theorem d_SF_writeFresh_65 : decode c_SF_writeFresh 65 = .ok (.aload_n 0, 1) := by decide +kernel
theorem d_SF_writeFresh_66 : decode c_SF_writeFresh 66 = .ok (.iload_n 1, 1) := by decide +kernel
theorem d_SF_writeFresh_67 : decode c_SF_writeFresh 67 = .ok (.iload_n 2, 1) := by decide +kernel
theorem d_SF_writeFresh_68 : decode c_SF_writeFresh 68 = .ok (.invokevirtual 268, 3) := by decide +kernel
theorem d_SF_writeFresh_71 : decode c_SF_writeFresh 71 = .ok (.iconst (-1), 1) := by decide +kernel
theorem d_SF_writeFresh_72 : decode c_SF_writeFresh 72 = .ok (.if_icmp .ne 24, 3) := by decide +kernel
theorem d_SF_writeFresh_75 : decode c_SF_writeFresh 75 = .ok (.aload_n 0, 1) := by decide +kernel
theorem d_SF_writeFresh_76 : decode c_SF_writeFresh 76 = .ok (.invokevirtual 271, 3) := by decide +kernel
theorem d_SF_writeFresh_79 : decode c_SF_writeFresh 79 = .ok (.aload_n 0, 1) := by decide +kernel
theorem d_SF_writeFresh_80 : decode c_SF_writeFresh 80 = .ok (.iload_n 1, 1) := by decide +kernel
theorem d_SF_writeFresh_81 : decode c_SF_writeFresh 81 = .ok (.aload_n 0, 1) := by decide +kernel
theorem d_SF_writeFresh_82 : decode c_SF_writeFresh 82 = .ok (.getfield 12, 3) := by decide +kernel
theorem d_SF_writeFresh_85 : decode c_SF_writeFresh 85 = .ok (.getfield 265, 3) := by decide +kernel
theorem d_SF_writeFresh_88 : decode c_SF_writeFresh 88 = .ok (.aload_n 0, 1) := by decide +kernel
theorem d_SF_writeFresh_89 : decode c_SF_writeFresh 89 = .ok (.getfield 50, 3) := by decide +kernel
theorem d_SF_writeFresh_92 : decode c_SF_writeFresh 92 = .ok (.invokevirtual 216, 3) := by decide +kernel
theorem d_SF_writeFresh_95 : decode c_SF_writeFresh 95 = .ok (.ireturn, 1) := by decide +kernel
theorem d_SF_writeFresh_96 : decode c_SF_writeFresh 96 = .ok (.aload_n 0, 1) := by decide +kernel
theorem d_SF_writeFresh_97 : decode c_SF_writeFresh 97 = .ok (.iload_n 1, 1) := by decide +kernel
theorem d_SF_writeFresh_98 : decode c_SF_writeFresh 98 = .ok (.iload_n 2, 1) := by decide +kernel
theorem d_SF_writeFresh_99 : decode c_SF_writeFresh 99 = .ok (.invokevirtual 274, 3) := by decide +kernel
theorem d_SF_writeFresh_102 : decode c_SF_writeFresh 102 = .ok (.ireturn, 1) := by decide +kernel
abbrev c_SF_placeOf : ByteArray := prog_1_method_23_code
abbrev y_SF_placeOf : MethodName := ⟨"StripeField", "placeOf", "(II)I"⟩
theorem d_SF_placeOf_0 : decode c_SF_placeOf 0 = .ok (.aload_n 0, 1) := by decide +kernel
theorem d_SF_placeOf_1 : decode c_SF_placeOf 1 = .ok (.getfield 32, 3) := by decide +kernel
theorem d_SF_placeOf_4 : decode c_SF_placeOf 4 = .ok (.getfield 197, 3) := by decide +kernel
theorem d_SF_placeOf_7 : decode c_SF_placeOf 7 = .ok (.aload_n 0, 1) := by decide +kernel
theorem d_SF_placeOf_8 : decode c_SF_placeOf 8 = .ok (.getfield 12, 3) := by decide +kernel
theorem d_SF_placeOf_11 : decode c_SF_placeOf 11 = .ok (.iload_n 1, 1) := by decide +kernel
theorem d_SF_placeOf_12 : decode c_SF_placeOf 12 = .ok (.iload_n 2, 1) := by decide +kernel
theorem d_SF_placeOf_13 : decode c_SF_placeOf 13 = .ok (.invokevirtual 287, 3) := by decide +kernel
theorem d_SF_placeOf_16 : decode c_SF_placeOf 16 = .ok (.iaload, 1) := by decide +kernel
theorem d_SF_placeOf_17 : decode c_SF_placeOf 17 = .ok (.ireturn, 1) := by decide +kernel
abbrev c_SF_putColumn : ByteArray := prog_1_method_25_code
abbrev y_SF_putColumn : MethodName := ⟨"StripeField", "putColumn", "(II[J)Z"⟩
theorem d_SF_putColumn_0 : decode c_SF_putColumn 0 = .ok (.aload_n 0, 1) := by decide +kernel
theorem d_SF_putColumn_1 : decode c_SF_putColumn 1 = .ok (.getfield 12, 3) := by decide +kernel
theorem d_SF_putColumn_4 : decode c_SF_putColumn 4 = .ok (.iload_n 1, 1) := by decide +kernel
theorem d_SF_putColumn_5 : decode c_SF_putColumn 5 = .ok (.iload_n 2, 1) := by decide +kernel
theorem d_SF_putColumn_6 : decode c_SF_putColumn 6 = .ok (.invokevirtual 287, 3) := by decide +kernel
theorem d_SF_putColumn_9 : decode c_SF_putColumn 9 = .ok (.istore 4, 2) := by decide +kernel
theorem d_SF_putColumn_11 : decode c_SF_putColumn 11 = .ok (.aload_n 0, 1) := by decide +kernel
theorem d_SF_putColumn_12 : decode c_SF_putColumn 12 = .ok (.aload_n 0, 1) := by decide +kernel
theorem d_SF_putColumn_13 : decode c_SF_putColumn 13 = .ok (.getfield 32, 3) := by decide +kernel
theorem d_SF_putColumn_16 : decode c_SF_putColumn 16 = .ok (.getfield 197, 3) := by decide +kernel
theorem d_SF_putColumn_19 : decode c_SF_putColumn 19 = .ok (.iload 4, 2) := by decide +kernel
theorem d_SF_putColumn_21 : decode c_SF_putColumn 21 = .ok (.iaload, 1) := by decide +kernel
theorem d_SF_putColumn_22 : decode c_SF_putColumn 22 = .ok (.aload_n 3, 1) := by decide +kernel
theorem d_SF_putColumn_23 : decode c_SF_putColumn 23 = .ok (.aload_n 0, 1) := by decide +kernel
theorem d_SF_putColumn_24 : decode c_SF_putColumn 24 = .ok (.getfield 12, 3) := by decide +kernel
theorem d_SF_putColumn_27 : decode c_SF_putColumn 27 = .ok (.iload 4, 2) := by decide +kernel
theorem d_SF_putColumn_29 : decode c_SF_putColumn 29 = .ok (.invokevirtual 297, 3) := by decide +kernel
theorem d_SF_putColumn_32 : decode c_SF_putColumn 32 = .ok (.invokevirtual 203, 3) := by decide +kernel
theorem d_SF_putColumn_35 : decode c_SF_putColumn 35 = .ok (.ireturn, 1) := by decide +kernel
abbrev c_SF_putCell : ByteArray := prog_1_method_24_code
abbrev y_SF_putCell : MethodName := ⟨"StripeField", "putCell", "(I[JI)Z"⟩
theorem d_SF_putCell_0 : decode c_SF_putCell 0 = .ok (.aload_n 0, 1) := by decide +kernel
theorem d_SF_putCell_1 : decode c_SF_putCell 1 = .ok (.getfield 39, 3) := by decide +kernel
theorem d_SF_putCell_4 : decode c_SF_putCell 4 = .ok (.invokevirtual 290, 3) := by decide +kernel
theorem d_SF_putCell_7 : decode c_SF_putCell 7 = .ok (.ifCond .ne 5, 3) := by decide +kernel
theorem d_SF_putCell_10 : decode c_SF_putCell 10 = .ok (.iconst 0, 1) := by decide +kernel
theorem d_SF_putCell_11 : decode c_SF_putCell 11 = .ok (.ireturn, 1) := by decide +kernel
theorem d_SF_putCell_12 : decode c_SF_putCell 12 = .ok (.aload_n 0, 1) := by decide +kernel
theorem d_SF_putCell_13 : decode c_SF_putCell 13 = .ok (.getfield 23, 3) := by decide +kernel
theorem d_SF_putCell_16 : decode c_SF_putCell 16 = .ok (.iload_n 1, 1) := by decide +kernel
theorem d_SF_putCell_17 : decode c_SF_putCell 17 = .ok (.aload_n 2, 1) := by decide +kernel
theorem d_SF_putCell_18 : decode c_SF_putCell 18 = .ok (.iload_n 3, 1) := by decide +kernel
theorem d_SF_putCell_19 : decode c_SF_putCell 19 = .ok (.invokevirtual 293, 3) := by decide +kernel
theorem d_SF_putCell_22 : decode c_SF_putCell 22 = .ok (.iconst 1, 1) := by decide +kernel
theorem d_SF_putCell_23 : decode c_SF_putCell 23 = .ok (.ireturn, 1) := by decide +kernel
abbrev c_SF_addRead : ByteArray := prog_1_method_21_code
abbrev y_SF_addRead : MethodName := ⟨"StripeField", "addRead", "(II)V"⟩
theorem d_SF_addRead_0 : decode c_SF_addRead 0 = .ok (.aload_n 0, 1) := by decide +kernel
theorem d_SF_addRead_1 : decode c_SF_addRead 1 = .ok (.iload_n 1, 1) := by decide +kernel
theorem d_SF_addRead_2 : decode c_SF_addRead 2 = .ok (.iload_n 2, 1) := by decide +kernel
theorem d_SF_addRead_3 : decode c_SF_addRead 3 = .ok (.invokevirtual 268, 3) := by decide +kernel
theorem d_SF_addRead_6 : decode c_SF_addRead 6 = .ok (.istore_n 3, 1) := by decide +kernel
theorem d_SF_addRead_7 : decode c_SF_addRead 7 = .ok (.aload_n 0, 1) := by decide +kernel
theorem d_SF_addRead_8 : decode c_SF_addRead 8 = .ok (.getfield 23, 3) := by decide +kernel
theorem d_SF_addRead_11 : decode c_SF_addRead 11 = .ok (.iload_n 3, 1) := by decide +kernel
theorem d_SF_addRead_12 : decode c_SF_addRead 12 = .ok (.invokevirtual 280, 3) := by decide +kernel
theorem d_SF_addRead_15 : decode c_SF_addRead 15 = .ok (.ifCond .eq 18, 3) := by decide +kernel
theorem d_SF_addRead_18 : decode c_SF_addRead 18 = .ok (.aload_n 0, 1) := by decide +kernel
theorem d_SF_addRead_19 : decode c_SF_addRead 19 = .ok (.getfield 23, 3) := by decide +kernel
theorem d_SF_addRead_22 : decode c_SF_addRead 22 = .ok (.aload_n 0, 1) := by decide +kernel
theorem d_SF_addRead_23 : decode c_SF_addRead 23 = .ok (.getfield 50, 3) := by decide +kernel
theorem d_SF_addRead_26 : decode c_SF_addRead 26 = .ok (.iload_n 3, 1) := by decide +kernel
theorem d_SF_addRead_27 : decode c_SF_addRead 27 = .ok (.invokevirtual 283, 3) := by decide +kernel
theorem d_SF_addRead_30 : decode c_SF_addRead 30 = .ok (.goto 9, 3) := by decide +kernel
theorem d_SF_addRead_33 : decode c_SF_addRead 33 = .ok (.aload_n 0, 1) := by decide +kernel
theorem d_SF_addRead_34 : decode c_SF_addRead 34 = .ok (.iload_n 1, 1) := by decide +kernel
theorem d_SF_addRead_35 : decode c_SF_addRead 35 = .ok (.iload_n 2, 1) := by decide +kernel
theorem d_SF_addRead_36 : decode c_SF_addRead 36 = .ok (.invokevirtual 213, 3) := by decide +kernel
theorem d_SF_addRead_39 : decode c_SF_addRead 39 = .ok (.return_, 1) := by decide +kernel
abbrev c_SF_addOthers : ByteArray := prog_1_method_22_code
abbrev y_SF_addOthers : MethodName := ⟨"StripeField", "addOthers", "(II)V"⟩
theorem d_SF_addOthers_0 : decode c_SF_addOthers 0 = .ok (.iconst 0, 1) := by decide +kernel
theorem d_SF_addOthers_1 : decode c_SF_addOthers 1 = .ok (.istore_n 3, 1) := by decide +kernel
theorem d_SF_addOthers_2 : decode c_SF_addOthers 2 = .ok (.iload_n 3, 1) := by decide +kernel
theorem d_SF_addOthers_3 : decode c_SF_addOthers 3 = .ok (.aload_n 0, 1) := by decide +kernel
theorem d_SF_addOthers_4 : decode c_SF_addOthers 4 = .ok (.getfield 12, 3) := by decide +kernel
theorem d_SF_addOthers_7 : decode c_SF_addOthers 7 = .ok (.getfield 238, 3) := by decide +kernel
theorem d_SF_addOthers_10 : decode c_SF_addOthers 10 = .ok (.if_icmp .ge 41, 3) := by decide +kernel
theorem d_SF_addOthers_13 : decode c_SF_addOthers 13 = .ok (.aload_n 0, 1) := by decide +kernel
theorem d_SF_addOthers_14 : decode c_SF_addOthers 14 = .ok (.iload_n 1, 1) := by decide +kernel
theorem d_SF_addOthers_15 : decode c_SF_addOthers 15 = .ok (.iload_n 3, 1) := by decide +kernel
theorem d_SF_addOthers_16 : decode c_SF_addOthers 16 = .ok (.invokevirtual 268, 3) := by decide +kernel
theorem d_SF_addOthers_19 : decode c_SF_addOthers 19 = .ok (.istore 4, 2) := by decide +kernel
theorem d_SF_addOthers_21 : decode c_SF_addOthers 21 = .ok (.iload_n 3, 1) := by decide +kernel
theorem d_SF_addOthers_22 : decode c_SF_addOthers 22 = .ok (.iload_n 2, 1) := by decide +kernel
theorem d_SF_addOthers_23 : decode c_SF_addOthers 23 = .ok (.if_icmp .eq 22, 3) := by decide +kernel
theorem d_SF_addOthers_26 : decode c_SF_addOthers 26 = .ok (.iload 4, 2) := by decide +kernel
theorem d_SF_addOthers_28 : decode c_SF_addOthers 28 = .ok (.iconst (-1), 1) := by decide +kernel
theorem d_SF_addOthers_29 : decode c_SF_addOthers 29 = .ok (.if_icmp .eq 16, 3) := by decide +kernel
theorem d_SF_addOthers_32 : decode c_SF_addOthers 32 = .ok (.aload_n 0, 1) := by decide +kernel
theorem d_SF_addOthers_33 : decode c_SF_addOthers 33 = .ok (.getfield 23, 3) := by decide +kernel
theorem d_SF_addOthers_36 : decode c_SF_addOthers 36 = .ok (.aload_n 0, 1) := by decide +kernel
theorem d_SF_addOthers_37 : decode c_SF_addOthers 37 = .ok (.getfield 50, 3) := by decide +kernel
theorem d_SF_addOthers_40 : decode c_SF_addOthers 40 = .ok (.iload 4, 2) := by decide +kernel
theorem d_SF_addOthers_42 : decode c_SF_addOthers 42 = .ok (.invokevirtual 283, 3) := by decide +kernel
theorem d_SF_addOthers_45 : decode c_SF_addOthers 45 = .ok (.iinc 3 1, 3) := by decide +kernel
theorem d_SF_addOthers_48 : decode c_SF_addOthers 48 = .ok (.goto (-46), 3) := by decide +kernel
theorem d_SF_addOthers_51 : decode c_SF_addOthers 51 = .ok (.return_, 1) := by decide +kernel
abbrev c_SF_addFresh : ByteArray := prog_1_method_20_code
abbrev y_SF_addFresh : MethodName := ⟨"StripeField", "addFresh", "()V"⟩
theorem d_SF_addFresh_0 : decode c_SF_addFresh 0 = .ok (.iconst 0, 1) := by decide +kernel
theorem d_SF_addFresh_1 : decode c_SF_addFresh 1 = .ok (.istore_n 1, 1) := by decide +kernel
theorem d_SF_addFresh_2 : decode c_SF_addFresh 2 = .ok (.iload_n 1, 1) := by decide +kernel
theorem d_SF_addFresh_3 : decode c_SF_addFresh 3 = .ok (.bipush 8, 2) := by decide +kernel
theorem d_SF_addFresh_5 : decode c_SF_addFresh 5 = .ok (.if_icmp .ge 24, 3) := by decide +kernel
theorem d_SF_addFresh_8 : decode c_SF_addFresh 8 = .ok (.aload_n 0, 1) := by decide +kernel
theorem d_SF_addFresh_9 : decode c_SF_addFresh 9 = .ok (.getfield 50, 3) := by decide +kernel
theorem d_SF_addFresh_12 : decode c_SF_addFresh 12 = .ok (.iload_n 1, 1) := by decide +kernel
theorem d_SF_addFresh_13 : decode c_SF_addFresh 13 = .ok (.dup2, 1) := by decide +kernel
theorem d_SF_addFresh_14 : decode c_SF_addFresh 14 = .ok (.laload, 1) := by decide +kernel
theorem d_SF_addFresh_15 : decode c_SF_addFresh 15 = .ok (.aload_n 0, 1) := by decide +kernel
theorem d_SF_addFresh_16 : decode c_SF_addFresh 16 = .ok (.getfield 47, 3) := by decide +kernel
theorem d_SF_addFresh_19 : decode c_SF_addFresh 19 = .ok (.iload_n 1, 1) := by decide +kernel
theorem d_SF_addFresh_20 : decode c_SF_addFresh 20 = .ok (.laload, 1) := by decide +kernel
theorem d_SF_addFresh_21 : decode c_SF_addFresh 21 = .ok (.lxor, 1) := by decide +kernel
theorem d_SF_addFresh_22 : decode c_SF_addFresh 22 = .ok (.lastore, 1) := by decide +kernel
theorem d_SF_addFresh_23 : decode c_SF_addFresh 23 = .ok (.iinc 1 1, 3) := by decide +kernel
theorem d_SF_addFresh_26 : decode c_SF_addFresh 26 = .ok (.goto (-24), 3) := by decide +kernel
theorem d_SF_addFresh_29 : decode c_SF_addFresh 29 = .ok (.return_, 1) := by decide +kernel
abbrev c_SF_writeLogged : ByteArray := prog_1_method_19_code
abbrev y_SF_writeLogged : MethodName := ⟨"StripeField", "writeLogged", "(II)Z"⟩
theorem d_SF_writeLogged_0 : decode c_SF_writeLogged 0 = .ok (.aload_n 0, 1) := by decide +kernel
theorem d_SF_writeLogged_1 : decode c_SF_writeLogged 1 = .ok (.getfield 12, 3) := by decide +kernel
theorem d_SF_writeLogged_4 : decode c_SF_writeLogged 4 = .ok (.aload_n 0, 1) := by decide +kernel
theorem d_SF_writeLogged_5 : decode c_SF_writeLogged 5 = .ok (.getfield 12, 3) := by decide +kernel
theorem d_SF_writeLogged_8 : decode c_SF_writeLogged 8 = .ok (.aload_n 0, 1) := by decide +kernel
theorem d_SF_writeLogged_9 : decode c_SF_writeLogged 9 = .ok (.iload_n 1, 1) := by decide +kernel
theorem d_SF_writeLogged_10 : decode c_SF_writeLogged 10 = .ok (.aload_n 0, 1) := by decide +kernel
theorem d_SF_writeLogged_11 : decode c_SF_writeLogged 11 = .ok (.getfield 12, 3) := by decide +kernel
theorem d_SF_writeLogged_14 : decode c_SF_writeLogged 14 = .ok (.getfield 265, 3) := by decide +kernel
theorem d_SF_writeLogged_17 : decode c_SF_writeLogged 17 = .ok (.invokevirtual 268, 3) := by decide +kernel
theorem d_SF_writeLogged_20 : decode c_SF_writeLogged 20 = .ok (.invokevirtual 256, 3) := by decide +kernel
theorem d_SF_writeLogged_23 : decode c_SF_writeLogged 23 = .ok (.invokevirtual 277, 3) := by decide +kernel
theorem d_SF_writeLogged_26 : decode c_SF_writeLogged 26 = .ok (.istore_n 3, 1) := by decide +kernel
theorem d_SF_writeLogged_27 : decode c_SF_writeLogged 27 = .ok (.aload_n 0, 1) := by decide +kernel
theorem d_SF_writeLogged_28 : decode c_SF_writeLogged 28 = .ok (.iload_n 3, 1) := by decide +kernel
theorem d_SF_writeLogged_29 : decode c_SF_writeLogged 29 = .ok (.aload_n 0, 1) := by decide +kernel
theorem d_SF_writeLogged_30 : decode c_SF_writeLogged 30 = .ok (.getfield 50, 3) := by decide +kernel
theorem d_SF_writeLogged_33 : decode c_SF_writeLogged 33 = .ok (.iconst 1, 1) := by decide +kernel
theorem d_SF_writeLogged_34 : decode c_SF_writeLogged 34 = .ok (.bipush 8, 2) := by decide +kernel
theorem d_SF_writeLogged_36 : decode c_SF_writeLogged 36 = .ok (.iload_n 1, 1) := by decide +kernel
theorem d_SF_writeLogged_37 : decode c_SF_writeLogged 37 = .ok (.imul, 1) := by decide +kernel
theorem d_SF_writeLogged_38 : decode c_SF_writeLogged 38 = .ok (.iadd, 1) := by decide +kernel
theorem d_SF_writeLogged_39 : decode c_SF_writeLogged 39 = .ok (.iload_n 2, 1) := by decide +kernel
theorem d_SF_writeLogged_40 : decode c_SF_writeLogged 40 = .ok (.iadd, 1) := by decide +kernel
theorem d_SF_writeLogged_41 : decode c_SF_writeLogged 41 = .ok (.invokevirtual 203, 3) := by decide +kernel
theorem d_SF_writeLogged_44 : decode c_SF_writeLogged 44 = .ok (.ifCond .ne 5, 3) := by decide +kernel
theorem d_SF_writeLogged_47 : decode c_SF_writeLogged 47 = .ok (.iconst 0, 1) := by decide +kernel
theorem d_SF_writeLogged_48 : decode c_SF_writeLogged 48 = .ok (.ireturn, 1) := by decide +kernel
theorem d_SF_writeLogged_49 : decode c_SF_writeLogged 49 = .ok (.aload_n 0, 1) := by decide +kernel
theorem d_SF_writeLogged_50 : decode c_SF_writeLogged 50 = .ok (.iload_n 1, 1) := by decide +kernel
theorem d_SF_writeLogged_51 : decode c_SF_writeLogged 51 = .ok (.iload_n 2, 1) := by decide +kernel
theorem d_SF_writeLogged_52 : decode c_SF_writeLogged 52 = .ok (.aload_n 0, 1) := by decide +kernel
theorem d_SF_writeLogged_53 : decode c_SF_writeLogged 53 = .ok (.getfield 47, 3) := by decide +kernel
theorem d_SF_writeLogged_56 : decode c_SF_writeLogged 56 = .ok (.invokevirtual 216, 3) := by decide +kernel
theorem d_SF_writeLogged_59 : decode c_SF_writeLogged 59 = .ok (.ifCond .ne 5, 3) := by decide +kernel
theorem d_SF_writeLogged_62 : decode c_SF_writeLogged 62 = .ok (.iconst 0, 1) := by decide +kernel
theorem d_SF_writeLogged_63 : decode c_SF_writeLogged 63 = .ok (.ireturn, 1) := by decide +kernel
theorem d_SF_writeLogged_64 : decode c_SF_writeLogged 64 = .ok (.aload_n 0, 1) := by decide +kernel
theorem d_SF_writeLogged_65 : decode c_SF_writeLogged 65 = .ok (.invokevirtual 271, 3) := by decide +kernel
theorem d_SF_writeLogged_68 : decode c_SF_writeLogged 68 = .ok (.aload_n 0, 1) := by decide +kernel
theorem d_SF_writeLogged_69 : decode c_SF_writeLogged 69 = .ok (.iload_n 1, 1) := by decide +kernel
theorem d_SF_writeLogged_70 : decode c_SF_writeLogged 70 = .ok (.aload_n 0, 1) := by decide +kernel
theorem d_SF_writeLogged_71 : decode c_SF_writeLogged 71 = .ok (.getfield 12, 3) := by decide +kernel
theorem d_SF_writeLogged_74 : decode c_SF_writeLogged 74 = .ok (.getfield 265, 3) := by decide +kernel
theorem d_SF_writeLogged_77 : decode c_SF_writeLogged 77 = .ok (.aload_n 0, 1) := by decide +kernel
theorem d_SF_writeLogged_78 : decode c_SF_writeLogged 78 = .ok (.getfield 50, 3) := by decide +kernel
theorem d_SF_writeLogged_81 : decode c_SF_writeLogged 81 = .ok (.invokevirtual 216, 3) := by decide +kernel
theorem d_SF_writeLogged_84 : decode c_SF_writeLogged 84 = .ok (.ifCond .eq 20, 3) := by decide +kernel
theorem d_SF_writeLogged_87 : decode c_SF_writeLogged 87 = .ok (.aload_n 0, 1) := by decide +kernel
theorem d_SF_writeLogged_88 : decode c_SF_writeLogged 88 = .ok (.iload_n 3, 1) := by decide +kernel
theorem d_SF_writeLogged_89 : decode c_SF_writeLogged 89 = .ok (.aload_n 0, 1) := by decide +kernel
theorem d_SF_writeLogged_90 : decode c_SF_writeLogged 90 = .ok (.getfield 53, 3) := by decide +kernel
theorem d_SF_writeLogged_93 : decode c_SF_writeLogged 93 = .ok (.iconst 0, 1) := by decide +kernel
theorem d_SF_writeLogged_94 : decode c_SF_writeLogged 94 = .ok (.invokevirtual 203, 3) := by decide +kernel
theorem d_SF_writeLogged_97 : decode c_SF_writeLogged 97 = .ok (.ifCond .eq 7, 3) := by decide +kernel
theorem d_SF_writeLogged_100 : decode c_SF_writeLogged 100 = .ok (.iconst 1, 1) := by decide +kernel
theorem d_SF_writeLogged_101 : decode c_SF_writeLogged 101 = .ok (.goto 4, 3) := by decide +kernel
theorem d_SF_writeLogged_104 : decode c_SF_writeLogged 104 = .ok (.iconst 0, 1) := by decide +kernel
theorem d_SF_writeLogged_105 : decode c_SF_writeLogged 105 = .ok (.ireturn, 1) := by decide +kernel
abbrev c_SF_read : ByteArray := prog_1_method_4_code
abbrev y_SF_read : MethodName := ⟨"StripeField", "read", "(II)J"⟩
theorem d_SF_read_0 : decode c_SF_read 0 = .ok (.iload_n 1, 1) := by decide +kernel
theorem d_SF_read_1 : decode c_SF_read 1 = .ok (.ifCond .lt 14, 3) := by decide +kernel
theorem d_SF_read_4 : decode c_SF_read 4 = .ok (.iload_n 1, 1) := by decide +kernel
theorem d_SF_read_5 : decode c_SF_read 5 = .ok (.aload_n 0, 1) := by decide +kernel
theorem d_SF_read_6 : decode c_SF_read 6 = .ok (.getfield 12, 3) := by decide +kernel
theorem d_SF_read_9 : decode c_SF_read 9 = .ok (.getfield 76, 3) := by decide +kernel
theorem d_SF_read_12 : decode c_SF_read 12 = .ok (.if_icmp .lt 13, 3) := by decide +kernel
theorem d_SF_read_15 : decode c_SF_read 15 = .ok (.new 56, 3) := by decide +kernel
theorem d_SF_read_18 : decode c_SF_read 18 = .ok (.dup, 1) := by decide +kernel
theorem d_SF_read_19 : decode c_SF_read 19 = .ok (.ldc 79, 2) := by decide +kernel
theorem d_SF_read_21 : decode c_SF_read 21 = .ok (.invokespecial 60, 3) := by decide +kernel
theorem d_SF_read_24 : decode c_SF_read 24 = .ok (.athrow, 1) := by decide +kernel
theorem d_SF_read_25 : decode c_SF_read 25 = .ok (.iload_n 2, 1) := by decide +kernel
theorem d_SF_read_26 : decode c_SF_read 26 = .ok (.ifCond .lt 9, 3) := by decide +kernel
theorem d_SF_read_29 : decode c_SF_read 29 = .ok (.iload_n 2, 1) := by decide +kernel
theorem d_SF_read_30 : decode c_SF_read 30 = .ok (.bipush 8, 2) := by decide +kernel
theorem d_SF_read_32 : decode c_SF_read 32 = .ok (.if_icmp .lt 13, 3) := by decide +kernel
theorem d_SF_read_35 : decode c_SF_read 35 = .ok (.new 56, 3) := by decide +kernel
theorem d_SF_read_38 : decode c_SF_read 38 = .ok (.dup, 1) := by decide +kernel
theorem d_SF_read_39 : decode c_SF_read 39 = .ok (.ldc 101, 2) := by decide +kernel
theorem d_SF_read_41 : decode c_SF_read 41 = .ok (.invokespecial 60, 3) := by decide +kernel
theorem d_SF_read_44 : decode c_SF_read 44 = .ok (.athrow, 1) := by decide +kernel
theorem d_SF_read_45 : decode c_SF_read 45 = .ok (.aload_n 0, 1) := by decide +kernel
theorem d_SF_read_46 : decode c_SF_read 46 = .ok (.getfield 39, 3) := by decide +kernel
theorem d_SF_read_49 : decode c_SF_read 49 = .ok (.getfield 81, 3) := by decide +kernel
theorem d_SF_read_52 : decode c_SF_read 52 = .ok (.ifCond .ne 13, 3) := by decide +kernel
theorem d_SF_read_55 : decode c_SF_read 55 = .ok (.new 67, 3) := by decide +kernel
theorem d_SF_read_58 : decode c_SF_read 58 = .ok (.dup, 1) := by decide +kernel
theorem d_SF_read_59 : decode c_SF_read 59 = .ok (.ldc 85, 2) := by decide +kernel
theorem d_SF_read_61 : decode c_SF_read 61 = .ok (.invokespecial 71, 3) := by decide +kernel
theorem d_SF_read_64 : decode c_SF_read 64 = .ok (.athrow, 1) := by decide +kernel
theorem d_SF_read_65 : decode c_SF_read 65 = .ok (.aload_n 0, 1) := by decide +kernel
theorem d_SF_read_66 : decode c_SF_read 66 = .ok (.getfield 50, 3) := by decide +kernel
theorem d_SF_read_69 : decode c_SF_read 69 = .ok (.lconst 0, 1) := by decide +kernel
theorem d_SF_read_70 : decode c_SF_read 70 = .ok (.invokestatic 103, 3) := by decide +kernel
theorem d_SF_read_73 : decode c_SF_read 73 = .ok (.aload_n 0, 1) := by decide +kernel
theorem d_SF_read_74 : decode c_SF_read 74 = .ok (.aload_n 0, 1) := by decide +kernel
theorem d_SF_read_75 : decode c_SF_read 75 = .ok (.getfield 12, 3) := by decide +kernel
theorem d_SF_read_78 : decode c_SF_read 78 = .ok (.iload_n 1, 1) := by decide +kernel
theorem d_SF_read_79 : decode c_SF_read 79 = .ok (.invokevirtual 90, 3) := by decide +kernel
theorem d_SF_read_82 : decode c_SF_read 82 = .ok (.aload_n 0, 1) := by decide +kernel
theorem d_SF_read_83 : decode c_SF_read 83 = .ok (.getfield 12, 3) := by decide +kernel
theorem d_SF_read_86 : decode c_SF_read 86 = .ok (.iload_n 1, 1) := by decide +kernel
theorem d_SF_read_87 : decode c_SF_read 87 = .ok (.invokevirtual 94, 3) := by decide +kernel
theorem d_SF_read_90 : decode c_SF_read 90 = .ok (.invokevirtual 109, 3) := by decide +kernel
theorem d_SF_read_93 : decode c_SF_read 93 = .ok (.aload_n 0, 1) := by decide +kernel
theorem d_SF_read_94 : decode c_SF_read 94 = .ok (.getfield 50, 3) := by decide +kernel
theorem d_SF_read_97 : decode c_SF_read 97 = .ok (.iload_n 2, 1) := by decide +kernel
theorem d_SF_read_98 : decode c_SF_read 98 = .ok (.laload, 1) := by decide +kernel
theorem d_SF_read_99 : decode c_SF_read 99 = .ok (.lreturn, 1) := by decide +kernel
abbrev c_SF_lose : ByteArray := prog_1_method_5_code
abbrev y_SF_lose : MethodName := ⟨"StripeField", "lose", "(I)V"⟩
theorem d_SF_lose_0 : decode c_SF_lose 0 = .ok (.iload_n 1, 1) := by decide +kernel
theorem d_SF_lose_1 : decode c_SF_lose 1 = .ok (.ifCond .ge 13, 3) := by decide +kernel
theorem d_SF_lose_4 : decode c_SF_lose 4 = .ok (.new 56, 3) := by decide +kernel
theorem d_SF_lose_7 : decode c_SF_lose 7 = .ok (.dup, 1) := by decide +kernel
theorem d_SF_lose_8 : decode c_SF_lose 8 = .ok (.ldc 113, 2) := by decide +kernel
theorem d_SF_lose_10 : decode c_SF_lose 10 = .ok (.invokespecial 60, 3) := by decide +kernel
theorem d_SF_lose_13 : decode c_SF_lose 13 = .ok (.athrow, 1) := by decide +kernel
theorem d_SF_lose_14 : decode c_SF_lose 14 = .ok (.aload_n 0, 1) := by decide +kernel
theorem d_SF_lose_15 : decode c_SF_lose 15 = .ok (.getfield 39, 3) := by decide +kernel
theorem d_SF_lose_18 : decode c_SF_lose 18 = .ok (.iload_n 1, 1) := by decide +kernel
theorem d_SF_lose_19 : decode c_SF_lose 19 = .ok (.putfield 115, 3) := by decide +kernel
theorem d_SF_lose_22 : decode c_SF_lose 22 = .ok (.return_, 1) := by decide +kernel
abbrev c_SF_off : ByteArray := prog_1_method_6_code
abbrev y_SF_off : MethodName := ⟨"StripeField", "off", "()V"⟩
theorem d_SF_off_0 : decode c_SF_off 0 = .ok (.aload_n 0, 1) := by decide +kernel
theorem d_SF_off_1 : decode c_SF_off 1 = .ok (.getfield 39, 3) := by decide +kernel
theorem d_SF_off_4 : decode c_SF_off 4 = .ok (.getfield 81, 3) := by decide +kernel
theorem d_SF_off_7 : decode c_SF_off 7 = .ok (.ifCond .ne 13, 3) := by decide +kernel
theorem d_SF_off_10 : decode c_SF_off 10 = .ok (.new 67, 3) := by decide +kernel
theorem d_SF_off_13 : decode c_SF_off 13 = .ok (.dup, 1) := by decide +kernel
theorem d_SF_off_14 : decode c_SF_off 14 = .ok (.ldc 85, 2) := by decide +kernel
theorem d_SF_off_16 : decode c_SF_off 16 = .ok (.invokespecial 71, 3) := by decide +kernel
theorem d_SF_off_19 : decode c_SF_off 19 = .ok (.athrow, 1) := by decide +kernel
theorem d_SF_off_20 : decode c_SF_off 20 = .ok (.aload_n 0, 1) := by decide +kernel
theorem d_SF_off_21 : decode c_SF_off 21 = .ok (.getfield 39, 3) := by decide +kernel
theorem d_SF_off_24 : decode c_SF_off 24 = .ok (.invokevirtual 118, 3) := by decide +kernel
theorem d_SF_off_27 : decode c_SF_off 27 = .ok (.return_, 1) := by decide +kernel
abbrev c_SF_open : ByteArray := prog_1_method_7_code
abbrev y_SF_open : MethodName := ⟨"StripeField", "open", "()Z"⟩
theorem d_SF_open_0 : decode c_SF_open 0 = .ok (.aload_n 0, 1) := by decide +kernel
theorem d_SF_open_1 : decode c_SF_open 1 = .ok (.getfield 39, 3) := by decide +kernel
theorem d_SF_open_4 : decode c_SF_open 4 = .ok (.getfield 81, 3) := by decide +kernel
theorem d_SF_open_7 : decode c_SF_open 7 = .ok (.ifCond .eq 13, 3) := by decide +kernel
theorem d_SF_open_10 : decode c_SF_open 10 = .ok (.new 67, 3) := by decide +kernel
theorem d_SF_open_13 : decode c_SF_open 13 = .ok (.dup, 1) := by decide +kernel
theorem d_SF_open_14 : decode c_SF_open 14 = .ok (.ldc 121, 2) := by decide +kernel
theorem d_SF_open_16 : decode c_SF_open 16 = .ok (.invokespecial 71, 3) := by decide +kernel
theorem d_SF_open_19 : decode c_SF_open 19 = .ok (.athrow, 1) := by decide +kernel
theorem d_SF_open_20 : decode c_SF_open 20 = .ok (.aload_n 0, 1) := by decide +kernel
theorem d_SF_open_21 : decode c_SF_open 21 = .ok (.getfield 39, 3) := by decide +kernel
theorem d_SF_open_24 : decode c_SF_open 24 = .ok (.iconst 1, 1) := by decide +kernel
theorem d_SF_open_25 : decode c_SF_open 25 = .ok (.putfield 81, 3) := by decide +kernel
theorem d_SF_open_28 : decode c_SF_open 28 = .ok (.aload_n 0, 1) := by decide +kernel
theorem d_SF_open_29 : decode c_SF_open 29 = .ok (.iconst 0, 1) := by decide +kernel
theorem d_SF_open_30 : decode c_SF_open 30 = .ok (.putfield 123, 3) := by decide +kernel
theorem d_SF_open_33 : decode c_SF_open 33 = .ok (.aload_n 0, 1) := by decide +kernel
theorem d_SF_open_34 : decode c_SF_open 34 = .ok (.getfield 32, 3) := by decide +kernel
theorem d_SF_open_37 : decode c_SF_open 37 = .ok (.invokevirtual 126, 3) := by decide +kernel
theorem d_SF_open_40 : decode c_SF_open 40 = .ok (.aload_n 0, 1) := by decide +kernel
theorem d_SF_open_41 : decode c_SF_open 41 = .ok (.invokevirtual 129, 3) := by decide +kernel
theorem d_SF_open_44 : decode c_SF_open 44 = .ok (.ifCond .eq 14, 3) := by decide +kernel
theorem d_SF_open_47 : decode c_SF_open 47 = .ok (.aload_n 0, 1) := by decide +kernel
theorem d_SF_open_48 : decode c_SF_open 48 = .ok (.invokevirtual 133, 3) := by decide +kernel
theorem d_SF_open_51 : decode c_SF_open 51 = .ok (.ifCond .eq 7, 3) := by decide +kernel
theorem d_SF_open_54 : decode c_SF_open 54 = .ok (.iconst 1, 1) := by decide +kernel
theorem d_SF_open_55 : decode c_SF_open 55 = .ok (.goto 4, 3) := by decide +kernel
theorem d_SF_open_58 : decode c_SF_open 58 = .ok (.iconst 0, 1) := by decide +kernel
theorem d_SF_open_59 : decode c_SF_open 59 = .ok (.ireturn, 1) := by decide +kernel
abbrev c_SF_replayLogs : ByteArray := prog_1_method_27_code
abbrev y_SF_replayLogs : MethodName := ⟨"StripeField", "replayLogs", "()Z"⟩
theorem d_SF_replayLogs_0 : decode c_SF_replayLogs 0 = .ok (.iconst 0, 1) := by decide +kernel
theorem d_SF_replayLogs_1 : decode c_SF_replayLogs 1 = .ok (.istore_n 1, 1) := by decide +kernel
theorem d_SF_replayLogs_2 : decode c_SF_replayLogs 2 = .ok (.iload_n 1, 1) := by decide +kernel
theorem d_SF_replayLogs_3 : decode c_SF_replayLogs 3 = .ok (.aload_n 0, 1) := by decide +kernel
theorem d_SF_replayLogs_4 : decode c_SF_replayLogs 4 = .ok (.getfield 12, 3) := by decide +kernel
theorem d_SF_replayLogs_7 : decode c_SF_replayLogs 7 = .ok (.getfield 136, 3) := by decide +kernel
theorem d_SF_replayLogs_10 : decode c_SF_replayLogs 10 = .ok (.if_icmp .ge 60, 3) := by decide +kernel
theorem d_SF_replayLogs_13 : decode c_SF_replayLogs 13 = .ok (.aload_n 0, 1) := by decide +kernel
theorem d_SF_replayLogs_14 : decode c_SF_replayLogs 14 = .ok (.getfield 12, 3) := by decide +kernel
theorem d_SF_replayLogs_17 : decode c_SF_replayLogs 17 = .ok (.iload_n 1, 1) := by decide +kernel
theorem d_SF_replayLogs_18 : decode c_SF_replayLogs 18 = .ok (.invokevirtual 277, 3) := by decide +kernel
theorem d_SF_replayLogs_21 : decode c_SF_replayLogs 21 = .ok (.istore_n 2, 1) := by decide +kernel
theorem d_SF_replayLogs_22 : decode c_SF_replayLogs 22 = .ok (.aload_n 0, 1) := by decide +kernel
theorem d_SF_replayLogs_23 : decode c_SF_replayLogs 23 = .ok (.getfield 23, 3) := by decide +kernel
theorem d_SF_replayLogs_26 : decode c_SF_replayLogs 26 = .ok (.iload_n 2, 1) := by decide +kernel
theorem d_SF_replayLogs_27 : decode c_SF_replayLogs 27 = .ok (.invokevirtual 280, 3) := by decide +kernel
theorem d_SF_replayLogs_30 : decode c_SF_replayLogs 30 = .ok (.ifCond .eq 14, 3) := by decide +kernel
theorem d_SF_replayLogs_33 : decode c_SF_replayLogs 33 = .ok (.aload_n 0, 1) := by decide +kernel
theorem d_SF_replayLogs_34 : decode c_SF_replayLogs 34 = .ok (.getfield 23, 3) := by decide +kernel
theorem d_SF_replayLogs_37 : decode c_SF_replayLogs 37 = .ok (.iload_n 2, 1) := by decide +kernel
theorem d_SF_replayLogs_38 : decode c_SF_replayLogs 38 = .ok (.invokevirtual 309, 3) := by decide +kernel
theorem d_SF_replayLogs_41 : decode c_SF_replayLogs 41 = .ok (.goto 4, 3) := by decide +kernel
theorem d_SF_replayLogs_44 : decode c_SF_replayLogs 44 = .ok (.iconst 0, 1) := by decide +kernel
theorem d_SF_replayLogs_45 : decode c_SF_replayLogs 45 = .ok (.istore_n 3, 1) := by decide +kernel
theorem d_SF_replayLogs_46 : decode c_SF_replayLogs 46 = .ok (.iload_n 3, 1) := by decide +kernel
theorem d_SF_replayLogs_47 : decode c_SF_replayLogs 47 = .ok (.ifCond .le 17, 3) := by decide +kernel
theorem d_SF_replayLogs_50 : decode c_SF_replayLogs 50 = .ok (.aload_n 0, 1) := by decide +kernel
theorem d_SF_replayLogs_51 : decode c_SF_replayLogs 51 = .ok (.iload_n 1, 1) := by decide +kernel
theorem d_SF_replayLogs_52 : decode c_SF_replayLogs 52 = .ok (.iload_n 2, 1) := by decide +kernel
theorem d_SF_replayLogs_53 : decode c_SF_replayLogs 53 = .ok (.iload_n 3, 1) := by decide +kernel
theorem d_SF_replayLogs_54 : decode c_SF_replayLogs 54 = .ok (.iconst 1, 1) := by decide +kernel
theorem d_SF_replayLogs_55 : decode c_SF_replayLogs 55 = .ok (.isub, 1) := by decide +kernel
theorem d_SF_replayLogs_56 : decode c_SF_replayLogs 56 = .ok (.invokevirtual 312, 3) := by decide +kernel
theorem d_SF_replayLogs_59 : decode c_SF_replayLogs 59 = .ok (.ifCond .ne 5, 3) := by decide +kernel
theorem d_SF_replayLogs_62 : decode c_SF_replayLogs 62 = .ok (.iconst 0, 1) := by decide +kernel
theorem d_SF_replayLogs_63 : decode c_SF_replayLogs 63 = .ok (.ireturn, 1) := by decide +kernel
theorem d_SF_replayLogs_64 : decode c_SF_replayLogs 64 = .ok (.iinc 1 1, 3) := by decide +kernel
theorem d_SF_replayLogs_67 : decode c_SF_replayLogs 67 = .ok (.goto (-65), 3) := by decide +kernel
theorem d_SF_replayLogs_70 : decode c_SF_replayLogs 70 = .ok (.iconst 1, 1) := by decide +kernel
theorem d_SF_replayLogs_71 : decode c_SF_replayLogs 71 = .ok (.ireturn, 1) := by decide +kernel
abbrev c_SF_replayLog : ByteArray := prog_1_method_28_code
abbrev y_SF_replayLog : MethodName := ⟨"StripeField", "replayLog", "(III)Z"⟩
theorem d_SF_replayLog_0 : decode c_SF_replayLog 0 = .ok (.iload_n 3, 1) := by decide +kernel
theorem d_SF_replayLog_1 : decode c_SF_replayLog 1 = .ok (.bipush 8, 2) := by decide +kernel
theorem d_SF_replayLog_3 : decode c_SF_replayLog 3 = .ok (.idiv, 1) := by decide +kernel
theorem d_SF_replayLog_4 : decode c_SF_replayLog 4 = .ok (.istore 4, 2) := by decide +kernel
theorem d_SF_replayLog_6 : decode c_SF_replayLog 6 = .ok (.iload_n 3, 1) := by decide +kernel
theorem d_SF_replayLog_7 : decode c_SF_replayLog 7 = .ok (.bipush 8, 2) := by decide +kernel
theorem d_SF_replayLog_9 : decode c_SF_replayLog 9 = .ok (.irem, 1) := by decide +kernel
theorem d_SF_replayLog_10 : decode c_SF_replayLog 10 = .ok (.istore 5, 2) := by decide +kernel
theorem d_SF_replayLog_12 : decode c_SF_replayLog 12 = .ok (.aload_n 0, 1) := by decide +kernel
theorem d_SF_replayLog_13 : decode c_SF_replayLog 13 = .ok (.iload_n 1, 1) := by decide +kernel
theorem d_SF_replayLog_14 : decode c_SF_replayLog 14 = .ok (.iload 4, 2) := by decide +kernel
theorem d_SF_replayLog_16 : decode c_SF_replayLog 16 = .ok (.iload 5, 2) := by decide +kernel
theorem d_SF_replayLog_18 : decode c_SF_replayLog 18 = .ok (.invokevirtual 316, 3) := by decide +kernel
theorem d_SF_replayLog_21 : decode c_SF_replayLog 21 = .ok (.ifCond .eq 64, 3) := by decide +kernel
theorem d_SF_replayLog_24 : decode c_SF_replayLog 24 = .ok (.aload_n 0, 1) := by decide +kernel
theorem d_SF_replayLog_25 : decode c_SF_replayLog 25 = .ok (.getfield 50, 3) := by decide +kernel
theorem d_SF_replayLog_28 : decode c_SF_replayLog 28 = .ok (.lconst 0, 1) := by decide +kernel
theorem d_SF_replayLog_29 : decode c_SF_replayLog 29 = .ok (.invokestatic 103, 3) := by decide +kernel
theorem d_SF_replayLog_32 : decode c_SF_replayLog 32 = .ok (.aload_n 0, 1) := by decide +kernel
theorem d_SF_replayLog_33 : decode c_SF_replayLog 33 = .ok (.getfield 23, 3) := by decide +kernel
theorem d_SF_replayLog_36 : decode c_SF_replayLog 36 = .ok (.aload_n 0, 1) := by decide +kernel
theorem d_SF_replayLog_37 : decode c_SF_replayLog 37 = .ok (.getfield 50, 3) := by decide +kernel
theorem d_SF_replayLog_40 : decode c_SF_replayLog 40 = .ok (.iload_n 2, 1) := by decide +kernel
theorem d_SF_replayLog_41 : decode c_SF_replayLog 41 = .ok (.invokevirtual 283, 3) := by decide +kernel
theorem d_SF_replayLog_44 : decode c_SF_replayLog 44 = .ok (.aload_n 0, 1) := by decide +kernel
theorem d_SF_replayLog_45 : decode c_SF_replayLog 45 = .ok (.getfield 23, 3) := by decide +kernel
theorem d_SF_replayLog_48 : decode c_SF_replayLog 48 = .ok (.aload_n 0, 1) := by decide +kernel
theorem d_SF_replayLog_49 : decode c_SF_replayLog 49 = .ok (.getfield 50, 3) := by decide +kernel
theorem d_SF_replayLog_52 : decode c_SF_replayLog 52 = .ok (.aload_n 0, 1) := by decide +kernel
theorem d_SF_replayLog_53 : decode c_SF_replayLog 53 = .ok (.iload 4, 2) := by decide +kernel
theorem d_SF_replayLog_55 : decode c_SF_replayLog 55 = .ok (.iload 5, 2) := by decide +kernel
theorem d_SF_replayLog_57 : decode c_SF_replayLog 57 = .ok (.invokevirtual 268, 3) := by decide +kernel
theorem d_SF_replayLog_60 : decode c_SF_replayLog 60 = .ok (.invokevirtual 283, 3) := by decide +kernel
theorem d_SF_replayLog_63 : decode c_SF_replayLog 63 = .ok (.aload_n 0, 1) := by decide +kernel
theorem d_SF_replayLog_64 : decode c_SF_replayLog 64 = .ok (.iload 4, 2) := by decide +kernel
theorem d_SF_replayLog_66 : decode c_SF_replayLog 66 = .ok (.aload_n 0, 1) := by decide +kernel
theorem d_SF_replayLog_67 : decode c_SF_replayLog 67 = .ok (.getfield 12, 3) := by decide +kernel
theorem d_SF_replayLog_70 : decode c_SF_replayLog 70 = .ok (.getfield 265, 3) := by decide +kernel
theorem d_SF_replayLog_73 : decode c_SF_replayLog 73 = .ok (.aload_n 0, 1) := by decide +kernel
theorem d_SF_replayLog_74 : decode c_SF_replayLog 74 = .ok (.getfield 50, 3) := by decide +kernel
theorem d_SF_replayLog_77 : decode c_SF_replayLog 77 = .ok (.invokevirtual 216, 3) := by decide +kernel
theorem d_SF_replayLog_80 : decode c_SF_replayLog 80 = .ok (.ifCond .ne 5, 3) := by decide +kernel
theorem d_SF_replayLog_83 : decode c_SF_replayLog 83 = .ok (.iconst 0, 1) := by decide +kernel
theorem d_SF_replayLog_84 : decode c_SF_replayLog 84 = .ok (.ireturn, 1) := by decide +kernel
theorem d_SF_replayLog_85 : decode c_SF_replayLog 85 = .ok (.aload_n 0, 1) := by decide +kernel
theorem d_SF_replayLog_86 : decode c_SF_replayLog 86 = .ok (.iload_n 2, 1) := by decide +kernel
theorem d_SF_replayLog_87 : decode c_SF_replayLog 87 = .ok (.aload_n 0, 1) := by decide +kernel
theorem d_SF_replayLog_88 : decode c_SF_replayLog 88 = .ok (.getfield 53, 3) := by decide +kernel
theorem d_SF_replayLog_91 : decode c_SF_replayLog 91 = .ok (.iconst 0, 1) := by decide +kernel
theorem d_SF_replayLog_92 : decode c_SF_replayLog 92 = .ok (.invokevirtual 203, 3) := by decide +kernel
theorem d_SF_replayLog_95 : decode c_SF_replayLog 95 = .ok (.ireturn, 1) := by decide +kernel
abbrev c_SF_canReplay : ByteArray := prog_1_method_29_code
abbrev y_SF_canReplay : MethodName := ⟨"StripeField", "canReplay", "(III)Z"⟩
theorem d_SF_canReplay_0 : decode c_SF_canReplay 0 = .ok (.iload_n 2, 1) := by decide +kernel
theorem d_SF_canReplay_1 : decode c_SF_canReplay 1 = .ok (.aload_n 0, 1) := by decide +kernel
theorem d_SF_canReplay_2 : decode c_SF_canReplay 2 = .ok (.getfield 12, 3) := by decide +kernel
theorem d_SF_canReplay_5 : decode c_SF_canReplay 5 = .ok (.getfield 207, 3) := by decide +kernel
theorem d_SF_canReplay_8 : decode c_SF_canReplay 8 = .ok (.if_icmp .ge 14, 3) := by decide +kernel
theorem d_SF_canReplay_11 : decode c_SF_canReplay 11 = .ok (.iload_n 3, 1) := by decide +kernel
theorem d_SF_canReplay_12 : decode c_SF_canReplay 12 = .ok (.aload_n 0, 1) := by decide +kernel
theorem d_SF_canReplay_13 : decode c_SF_canReplay 13 = .ok (.getfield 12, 3) := by decide +kernel
theorem d_SF_canReplay_16 : decode c_SF_canReplay 16 = .ok (.getfield 265, 3) := by decide +kernel
theorem d_SF_canReplay_19 : decode c_SF_canReplay 19 = .ok (.if_icmp .lt 5, 3) := by decide +kernel
theorem d_SF_canReplay_22 : decode c_SF_canReplay 22 = .ok (.iconst 0, 1) := by decide +kernel
theorem d_SF_canReplay_23 : decode c_SF_canReplay 23 = .ok (.ireturn, 1) := by decide +kernel
theorem d_SF_canReplay_24 : decode c_SF_canReplay 24 = .ok (.aload_n 0, 1) := by decide +kernel
theorem d_SF_canReplay_25 : decode c_SF_canReplay 25 = .ok (.iload_n 2, 1) := by decide +kernel
theorem d_SF_canReplay_26 : decode c_SF_canReplay 26 = .ok (.aload_n 0, 1) := by decide +kernel
theorem d_SF_canReplay_27 : decode c_SF_canReplay 27 = .ok (.getfield 12, 3) := by decide +kernel
theorem d_SF_canReplay_30 : decode c_SF_canReplay 30 = .ok (.getfield 265, 3) := by decide +kernel
theorem d_SF_canReplay_33 : decode c_SF_canReplay 33 = .ok (.invokevirtual 268, 3) := by decide +kernel
theorem d_SF_canReplay_36 : decode c_SF_canReplay 36 = .ok (.istore 4, 2) := by decide +kernel
theorem d_SF_canReplay_38 : decode c_SF_canReplay 38 = .ok (.iload 4, 2) := by decide +kernel
theorem d_SF_canReplay_40 : decode c_SF_canReplay 40 = .ok (.iconst (-1), 1) := by decide +kernel
theorem d_SF_canReplay_41 : decode c_SF_canReplay 41 = .ok (.if_icmp .eq 36, 3) := by decide +kernel
theorem d_SF_canReplay_44 : decode c_SF_canReplay 44 = .ok (.aload_n 0, 1) := by decide +kernel
theorem d_SF_canReplay_45 : decode c_SF_canReplay 45 = .ok (.getfield 12, 3) := by decide +kernel
theorem d_SF_canReplay_48 : decode c_SF_canReplay 48 = .ok (.iload 4, 2) := by decide +kernel
theorem d_SF_canReplay_50 : decode c_SF_canReplay 50 = .ok (.invokevirtual 256, 3) := by decide +kernel
theorem d_SF_canReplay_53 : decode c_SF_canReplay 53 = .ok (.iload_n 1, 1) := by decide +kernel
theorem d_SF_canReplay_54 : decode c_SF_canReplay 54 = .ok (.if_icmp .ne 23, 3) := by decide +kernel
theorem d_SF_canReplay_57 : decode c_SF_canReplay 57 = .ok (.aload_n 0, 1) := by decide +kernel
theorem d_SF_canReplay_58 : decode c_SF_canReplay 58 = .ok (.getfield 23, 3) := by decide +kernel
theorem d_SF_canReplay_61 : decode c_SF_canReplay 61 = .ok (.aload_n 0, 1) := by decide +kernel
theorem d_SF_canReplay_62 : decode c_SF_canReplay 62 = .ok (.iload_n 2, 1) := by decide +kernel
theorem d_SF_canReplay_63 : decode c_SF_canReplay 63 = .ok (.iload_n 3, 1) := by decide +kernel
theorem d_SF_canReplay_64 : decode c_SF_canReplay 64 = .ok (.invokevirtual 268, 3) := by decide +kernel
theorem d_SF_canReplay_67 : decode c_SF_canReplay 67 = .ok (.invokevirtual 280, 3) := by decide +kernel
theorem d_SF_canReplay_70 : decode c_SF_canReplay 70 = .ok (.ifCond .eq 7, 3) := by decide +kernel
theorem d_SF_canReplay_73 : decode c_SF_canReplay 73 = .ok (.iconst 1, 1) := by decide +kernel
theorem d_SF_canReplay_74 : decode c_SF_canReplay 74 = .ok (.goto 4, 3) := by decide +kernel
theorem d_SF_canReplay_77 : decode c_SF_canReplay 77 = .ok (.iconst 0, 1) := by decide +kernel
theorem d_SF_canReplay_78 : decode c_SF_canReplay 78 = .ok (.ireturn, 1) := by decide +kernel
abbrev c_SF_clearFreeSpares : ByteArray := prog_1_method_30_code
abbrev y_SF_clearFreeSpares : MethodName := ⟨"StripeField", "clearFreeSpares", "()Z"⟩
theorem d_SF_clearFreeSpares_0 : decode c_SF_clearFreeSpares 0 = .ok (.iconst 0, 1) := by decide +kernel
theorem d_SF_clearFreeSpares_1 : decode c_SF_clearFreeSpares 1 = .ok (.istore_n 1, 1) := by decide +kernel
theorem d_SF_clearFreeSpares_2 : decode c_SF_clearFreeSpares 2 = .ok (.iload_n 1, 1) := by decide +kernel
theorem d_SF_clearFreeSpares_3 : decode c_SF_clearFreeSpares 3 = .ok (.aload_n 0, 1) := by decide +kernel
theorem d_SF_clearFreeSpares_4 : decode c_SF_clearFreeSpares 4 = .ok (.getfield 12, 3) := by decide +kernel
theorem d_SF_clearFreeSpares_7 : decode c_SF_clearFreeSpares 7 = .ok (.getfield 159, 3) := by decide +kernel
theorem d_SF_clearFreeSpares_10 : decode c_SF_clearFreeSpares 10 = .ok (.if_icmp .ge 114, 3) := by decide +kernel
theorem d_SF_clearFreeSpares_13 : decode c_SF_clearFreeSpares 13 = .ok (.aload_n 0, 1) := by decide +kernel
theorem d_SF_clearFreeSpares_14 : decode c_SF_clearFreeSpares 14 = .ok (.getfield 12, 3) := by decide +kernel
theorem d_SF_clearFreeSpares_17 : decode c_SF_clearFreeSpares 17 = .ok (.getfield 248, 3) := by decide +kernel
theorem d_SF_clearFreeSpares_20 : decode c_SF_clearFreeSpares 20 = .ok (.istore_n 2, 1) := by decide +kernel
theorem d_SF_clearFreeSpares_21 : decode c_SF_clearFreeSpares 21 = .ok (.iload_n 2, 1) := by decide +kernel
theorem d_SF_clearFreeSpares_22 : decode c_SF_clearFreeSpares 22 = .ok (.aload_n 0, 1) := by decide +kernel
theorem d_SF_clearFreeSpares_23 : decode c_SF_clearFreeSpares 23 = .ok (.getfield 12, 3) := by decide +kernel
theorem d_SF_clearFreeSpares_26 : decode c_SF_clearFreeSpares 26 = .ok (.getfield 136, 3) := by decide +kernel
theorem d_SF_clearFreeSpares_29 : decode c_SF_clearFreeSpares 29 = .ok (.if_icmp .ge 89, 3) := by decide +kernel
theorem d_SF_clearFreeSpares_32 : decode c_SF_clearFreeSpares 32 = .ok (.aload_n 0, 1) := by decide +kernel
theorem d_SF_clearFreeSpares_33 : decode c_SF_clearFreeSpares 33 = .ok (.getfield 12, 3) := by decide +kernel
theorem d_SF_clearFreeSpares_36 : decode c_SF_clearFreeSpares 36 = .ok (.getfield 200, 3) := by decide +kernel
theorem d_SF_clearFreeSpares_39 : decode c_SF_clearFreeSpares 39 = .ok (.aload_n 0, 1) := by decide +kernel
theorem d_SF_clearFreeSpares_40 : decode c_SF_clearFreeSpares 40 = .ok (.getfield 12, 3) := by decide +kernel
theorem d_SF_clearFreeSpares_43 : decode c_SF_clearFreeSpares 43 = .ok (.iload_n 1, 1) := by decide +kernel
theorem d_SF_clearFreeSpares_44 : decode c_SF_clearFreeSpares 44 = .ok (.iload_n 2, 1) := by decide +kernel
theorem d_SF_clearFreeSpares_45 : decode c_SF_clearFreeSpares 45 = .ok (.invokevirtual 253, 3) := by decide +kernel
theorem d_SF_clearFreeSpares_48 : decode c_SF_clearFreeSpares 48 = .ok (.iaload, 1) := by decide +kernel
theorem d_SF_clearFreeSpares_49 : decode c_SF_clearFreeSpares 49 = .ok (.istore_n 3, 1) := by decide +kernel
theorem d_SF_clearFreeSpares_50 : decode c_SF_clearFreeSpares 50 = .ok (.aload_n 0, 1) := by decide +kernel
theorem d_SF_clearFreeSpares_51 : decode c_SF_clearFreeSpares 51 = .ok (.getfield 32, 3) := by decide +kernel
theorem d_SF_clearFreeSpares_54 : decode c_SF_clearFreeSpares 54 = .ok (.getfield 176, 3) := by decide +kernel
theorem d_SF_clearFreeSpares_57 : decode c_SF_clearFreeSpares 57 = .ok (.iload_n 3, 1) := by decide +kernel
theorem d_SF_clearFreeSpares_58 : decode c_SF_clearFreeSpares 58 = .ok (.iaload, 1) := by decide +kernel
theorem d_SF_clearFreeSpares_59 : decode c_SF_clearFreeSpares 59 = .ok (.iconst (-1), 1) := by decide +kernel
theorem d_SF_clearFreeSpares_60 : decode c_SF_clearFreeSpares 60 = .ok (.if_icmp .ne 29, 3) := by decide +kernel
theorem d_SF_clearFreeSpares_63 : decode c_SF_clearFreeSpares 63 = .ok (.aload_n 0, 1) := by decide +kernel
theorem d_SF_clearFreeSpares_64 : decode c_SF_clearFreeSpares 64 = .ok (.getfield 23, 3) := by decide +kernel
theorem d_SF_clearFreeSpares_67 : decode c_SF_clearFreeSpares 67 = .ok (.iload_n 3, 1) := by decide +kernel
theorem d_SF_clearFreeSpares_68 : decode c_SF_clearFreeSpares 68 = .ok (.invokevirtual 280, 3) := by decide +kernel
theorem d_SF_clearFreeSpares_71 : decode c_SF_clearFreeSpares 71 = .ok (.ifCond .eq 18, 3) := by decide +kernel
theorem d_SF_clearFreeSpares_74 : decode c_SF_clearFreeSpares 74 = .ok (.aload_n 0, 1) := by decide +kernel
theorem d_SF_clearFreeSpares_75 : decode c_SF_clearFreeSpares 75 = .ok (.getfield 23, 3) := by decide +kernel
theorem d_SF_clearFreeSpares_78 : decode c_SF_clearFreeSpares 78 = .ok (.iload_n 3, 1) := by decide +kernel
theorem d_SF_clearFreeSpares_79 : decode c_SF_clearFreeSpares 79 = .ok (.invokevirtual 309, 3) := by decide +kernel
theorem d_SF_clearFreeSpares_82 : decode c_SF_clearFreeSpares 82 = .ok (.ifCond .le 7, 3) := by decide +kernel
theorem d_SF_clearFreeSpares_85 : decode c_SF_clearFreeSpares 85 = .ok (.iconst 1, 1) := by decide +kernel
theorem d_SF_clearFreeSpares_86 : decode c_SF_clearFreeSpares 86 = .ok (.goto 4, 3) := by decide +kernel
theorem d_SF_clearFreeSpares_89 : decode c_SF_clearFreeSpares 89 = .ok (.iconst 0, 1) := by decide +kernel
theorem d_SF_clearFreeSpares_90 : decode c_SF_clearFreeSpares 90 = .ok (.istore 4, 2) := by decide +kernel
theorem d_SF_clearFreeSpares_92 : decode c_SF_clearFreeSpares 92 = .ok (.iload 4, 2) := by decide +kernel
theorem d_SF_clearFreeSpares_94 : decode c_SF_clearFreeSpares 94 = .ok (.ifCond .eq 18, 3) := by decide +kernel
theorem d_SF_clearFreeSpares_97 : decode c_SF_clearFreeSpares 97 = .ok (.aload_n 0, 1) := by decide +kernel
theorem d_SF_clearFreeSpares_98 : decode c_SF_clearFreeSpares 98 = .ok (.iload_n 3, 1) := by decide +kernel
theorem d_SF_clearFreeSpares_99 : decode c_SF_clearFreeSpares 99 = .ok (.aload_n 0, 1) := by decide +kernel
theorem d_SF_clearFreeSpares_100 : decode c_SF_clearFreeSpares 100 = .ok (.getfield 53, 3) := by decide +kernel
theorem d_SF_clearFreeSpares_103 : decode c_SF_clearFreeSpares 103 = .ok (.iconst 0, 1) := by decide +kernel
theorem d_SF_clearFreeSpares_104 : decode c_SF_clearFreeSpares 104 = .ok (.invokevirtual 203, 3) := by decide +kernel
theorem d_SF_clearFreeSpares_107 : decode c_SF_clearFreeSpares 107 = .ok (.ifCond .ne 5, 3) := by decide +kernel
theorem d_SF_clearFreeSpares_110 : decode c_SF_clearFreeSpares 110 = .ok (.iconst 0, 1) := by decide +kernel
theorem d_SF_clearFreeSpares_111 : decode c_SF_clearFreeSpares 111 = .ok (.ireturn, 1) := by decide +kernel
theorem d_SF_clearFreeSpares_112 : decode c_SF_clearFreeSpares 112 = .ok (.iinc 2 1, 3) := by decide +kernel
theorem d_SF_clearFreeSpares_115 : decode c_SF_clearFreeSpares 115 = .ok (.goto (-94), 3) := by decide +kernel
theorem d_SF_clearFreeSpares_118 : decode c_SF_clearFreeSpares 118 = .ok (.iinc 1 1, 3) := by decide +kernel
theorem d_SF_clearFreeSpares_121 : decode c_SF_clearFreeSpares 121 = .ok (.goto (-119), 3) := by decide +kernel
theorem d_SF_clearFreeSpares_124 : decode c_SF_clearFreeSpares 124 = .ok (.iconst 1, 1) := by decide +kernel
theorem d_SF_clearFreeSpares_125 : decode c_SF_clearFreeSpares 125 = .ok (.ireturn, 1) := by decide +kernel
abbrev c_SF_fail : ByteArray := prog_1_method_8_code
abbrev y_SF_fail : MethodName := ⟨"StripeField", "fail", "(I)Z"⟩
theorem d_SF_fail_0 : decode c_SF_fail 0 = .ok (.iload_n 1, 1) := by decide +kernel
theorem d_SF_fail_1 : decode c_SF_fail 1 = .ok (.ifCond .lt 14, 3) := by decide +kernel
theorem d_SF_fail_4 : decode c_SF_fail 4 = .ok (.iload_n 1, 1) := by decide +kernel
theorem d_SF_fail_5 : decode c_SF_fail 5 = .ok (.aload_n 0, 1) := by decide +kernel
theorem d_SF_fail_6 : decode c_SF_fail 6 = .ok (.getfield 12, 3) := by decide +kernel
theorem d_SF_fail_9 : decode c_SF_fail 9 = .ok (.getfield 136, 3) := by decide +kernel
theorem d_SF_fail_12 : decode c_SF_fail 12 = .ok (.if_icmp .lt 13, 3) := by decide +kernel
theorem d_SF_fail_15 : decode c_SF_fail 15 = .ok (.new 56, 3) := by decide +kernel
theorem d_SF_fail_18 : decode c_SF_fail 18 = .ok (.dup, 1) := by decide +kernel
theorem d_SF_fail_19 : decode c_SF_fail 19 = .ok (.ldc 139, 2) := by decide +kernel
theorem d_SF_fail_21 : decode c_SF_fail 21 = .ok (.invokespecial 60, 3) := by decide +kernel
theorem d_SF_fail_24 : decode c_SF_fail 24 = .ok (.athrow, 1) := by decide +kernel
theorem d_SF_fail_25 : decode c_SF_fail 25 = .ok (.aload_n 0, 1) := by decide +kernel
theorem d_SF_fail_26 : decode c_SF_fail 26 = .ok (.getfield 23, 3) := by decide +kernel
theorem d_SF_fail_29 : decode c_SF_fail 29 = .ok (.getfield 141, 3) := by decide +kernel
theorem d_SF_fail_32 : decode c_SF_fail 32 = .ok (.iload_n 1, 1) := by decide +kernel
theorem d_SF_fail_33 : decode c_SF_fail 33 = .ok (.baload, 1) := by decide +kernel
theorem d_SF_fail_34 : decode c_SF_fail 34 = .ok (.ifCond .ne 5, 3) := by decide +kernel
theorem d_SF_fail_37 : decode c_SF_fail 37 = .ok (.iconst 0, 1) := by decide +kernel
theorem d_SF_fail_38 : decode c_SF_fail 38 = .ok (.ireturn, 1) := by decide +kernel
theorem d_SF_fail_39 : decode c_SF_fail 39 = .ok (.aload_n 0, 1) := by decide +kernel
theorem d_SF_fail_40 : decode c_SF_fail 40 = .ok (.invokevirtual 145, 3) := by decide +kernel
theorem d_SF_fail_43 : decode c_SF_fail 43 = .ok (.aload_n 0, 1) := by decide +kernel
theorem d_SF_fail_44 : decode c_SF_fail 44 = .ok (.iload_n 1, 1) := by decide +kernel
theorem d_SF_fail_45 : decode c_SF_fail 45 = .ok (.invokevirtual 148, 3) := by decide +kernel
theorem d_SF_fail_48 : decode c_SF_fail 48 = .ok (.ifCond .eq 5, 3) := by decide +kernel
theorem d_SF_fail_51 : decode c_SF_fail 51 = .ok (.iconst 0, 1) := by decide +kernel
theorem d_SF_fail_52 : decode c_SF_fail 52 = .ok (.ireturn, 1) := by decide +kernel
theorem d_SF_fail_53 : decode c_SF_fail 53 = .ok (.aload_n 0, 1) := by decide +kernel
theorem d_SF_fail_54 : decode c_SF_fail 54 = .ok (.getfield 23, 3) := by decide +kernel
theorem d_SF_fail_57 : decode c_SF_fail 57 = .ok (.iload_n 1, 1) := by decide +kernel
theorem d_SF_fail_58 : decode c_SF_fail 58 = .ok (.invokevirtual 152, 3) := by decide +kernel
theorem d_SF_fail_61 : decode c_SF_fail 61 = .ok (.aload_n 0, 1) := by decide +kernel
theorem d_SF_fail_62 : decode c_SF_fail 62 = .ok (.getfield 32, 3) := by decide +kernel
theorem d_SF_fail_65 : decode c_SF_fail 65 = .ok (.iload_n 1, 1) := by decide +kernel
theorem d_SF_fail_66 : decode c_SF_fail 66 = .ok (.invokevirtual 156, 3) := by decide +kernel
theorem d_SF_fail_69 : decode c_SF_fail 69 = .ok (.iconst 1, 1) := by decide +kernel
theorem d_SF_fail_70 : decode c_SF_fail 70 = .ok (.ireturn, 1) := by decide +kernel
abbrev c_SF_findPlacesIfOff : ByteArray := prog_1_method_16_code
abbrev y_SF_findPlacesIfOff : MethodName := ⟨"StripeField", "findPlacesIfOff", "()V"⟩
theorem d_SF_findPlacesIfOff_0 : decode c_SF_findPlacesIfOff 0 = .ok (.aload_n 0, 1) := by decide +kernel
theorem d_SF_findPlacesIfOff_1 : decode c_SF_findPlacesIfOff 1 = .ok (.getfield 39, 3) := by decide +kernel
theorem d_SF_findPlacesIfOff_4 : decode c_SF_findPlacesIfOff 4 = .ok (.getfield 81, 3) := by decide +kernel
theorem d_SF_findPlacesIfOff_7 : decode c_SF_findPlacesIfOff 7 = .ok (.ifCond .ne 10, 3) := by decide +kernel
theorem d_SF_findPlacesIfOff_10 : decode c_SF_findPlacesIfOff 10 = .ok (.aload_n 0, 1) := by decide +kernel
theorem d_SF_findPlacesIfOff_11 : decode c_SF_findPlacesIfOff 11 = .ok (.getfield 32, 3) := by decide +kernel
theorem d_SF_findPlacesIfOff_14 : decode c_SF_findPlacesIfOff 14 = .ok (.invokevirtual 126, 3) := by decide +kernel
theorem d_SF_findPlacesIfOff_17 : decode c_SF_findPlacesIfOff 17 = .ok (.return_, 1) := by decide +kernel
abbrev c_SF_wouldBreakWithout : ByteArray := prog_1_method_31_code
abbrev y_SF_wouldBreakWithout : MethodName := ⟨"StripeField", "wouldBreakWithout", "(I)Z"⟩
theorem d_SF_wouldBreakWithout_0 : decode c_SF_wouldBreakWithout 0 = .ok (.iconst 0, 1) := by decide +kernel
theorem d_SF_wouldBreakWithout_1 : decode c_SF_wouldBreakWithout 1 = .ok (.istore_n 2, 1) := by decide +kernel
theorem d_SF_wouldBreakWithout_2 : decode c_SF_wouldBreakWithout 2 = .ok (.iload_n 2, 1) := by decide +kernel
theorem d_SF_wouldBreakWithout_3 : decode c_SF_wouldBreakWithout 3 = .ok (.aload_n 0, 1) := by decide +kernel
theorem d_SF_wouldBreakWithout_4 : decode c_SF_wouldBreakWithout 4 = .ok (.getfield 12, 3) := by decide +kernel
theorem d_SF_wouldBreakWithout_7 : decode c_SF_wouldBreakWithout 7 = .ok (.getfield 207, 3) := by decide +kernel
theorem d_SF_wouldBreakWithout_10 : decode c_SF_wouldBreakWithout 10 = .ok (.if_icmp .ge 76, 3) := by decide +kernel
theorem d_SF_wouldBreakWithout_13 : decode c_SF_wouldBreakWithout 13 = .ok (.iconst 0, 1) := by decide +kernel
theorem d_SF_wouldBreakWithout_14 : decode c_SF_wouldBreakWithout 14 = .ok (.istore_n 3, 1) := by decide +kernel
theorem d_SF_wouldBreakWithout_15 : decode c_SF_wouldBreakWithout 15 = .ok (.iconst 0, 1) := by decide +kernel
theorem d_SF_wouldBreakWithout_16 : decode c_SF_wouldBreakWithout 16 = .ok (.istore 4, 2) := by decide +kernel
theorem d_SF_wouldBreakWithout_18 : decode c_SF_wouldBreakWithout 18 = .ok (.iload 4, 2) := by decide +kernel
theorem d_SF_wouldBreakWithout_20 : decode c_SF_wouldBreakWithout 20 = .ok (.aload_n 0, 1) := by decide +kernel
theorem d_SF_wouldBreakWithout_21 : decode c_SF_wouldBreakWithout 21 = .ok (.getfield 12, 3) := by decide +kernel
theorem d_SF_wouldBreakWithout_24 : decode c_SF_wouldBreakWithout 24 = .ok (.getfield 238, 3) := by decide +kernel
theorem d_SF_wouldBreakWithout_27 : decode c_SF_wouldBreakWithout 27 = .ok (.if_icmp .ge 46, 3) := by decide +kernel
theorem d_SF_wouldBreakWithout_30 : decode c_SF_wouldBreakWithout 30 = .ok (.aload_n 0, 1) := by decide +kernel
theorem d_SF_wouldBreakWithout_31 : decode c_SF_wouldBreakWithout 31 = .ok (.iload_n 2, 1) := by decide +kernel
theorem d_SF_wouldBreakWithout_32 : decode c_SF_wouldBreakWithout 32 = .ok (.iload 4, 2) := by decide +kernel
theorem d_SF_wouldBreakWithout_34 : decode c_SF_wouldBreakWithout 34 = .ok (.invokevirtual 268, 3) := by decide +kernel
theorem d_SF_wouldBreakWithout_37 : decode c_SF_wouldBreakWithout 37 = .ok (.istore 5, 2) := by decide +kernel
theorem d_SF_wouldBreakWithout_39 : decode c_SF_wouldBreakWithout 39 = .ok (.aload_n 0, 1) := by decide +kernel
theorem d_SF_wouldBreakWithout_40 : decode c_SF_wouldBreakWithout 40 = .ok (.getfield 23, 3) := by decide +kernel
theorem d_SF_wouldBreakWithout_43 : decode c_SF_wouldBreakWithout 43 = .ok (.iload 5, 2) := by decide +kernel
theorem d_SF_wouldBreakWithout_45 : decode c_SF_wouldBreakWithout 45 = .ok (.invokevirtual 280, 3) := by decide +kernel
theorem d_SF_wouldBreakWithout_48 : decode c_SF_wouldBreakWithout 48 = .ok (.ifCond .eq 16, 3) := by decide +kernel
theorem d_SF_wouldBreakWithout_51 : decode c_SF_wouldBreakWithout 51 = .ok (.aload_n 0, 1) := by decide +kernel
theorem d_SF_wouldBreakWithout_52 : decode c_SF_wouldBreakWithout 52 = .ok (.getfield 12, 3) := by decide +kernel
theorem d_SF_wouldBreakWithout_55 : decode c_SF_wouldBreakWithout 55 = .ok (.iload 5, 2) := by decide +kernel
theorem d_SF_wouldBreakWithout_57 : decode c_SF_wouldBreakWithout 57 = .ok (.invokevirtual 256, 3) := by decide +kernel
theorem d_SF_wouldBreakWithout_60 : decode c_SF_wouldBreakWithout 60 = .ok (.iload_n 1, 1) := by decide +kernel
theorem d_SF_wouldBreakWithout_61 : decode c_SF_wouldBreakWithout 61 = .ok (.if_icmp .ne 6, 3) := by decide +kernel
theorem d_SF_wouldBreakWithout_64 : decode c_SF_wouldBreakWithout 64 = .ok (.iinc 3 1, 3) := by decide +kernel
theorem d_SF_wouldBreakWithout_67 : decode c_SF_wouldBreakWithout 67 = .ok (.iinc 4 1, 3) := by decide +kernel
theorem d_SF_wouldBreakWithout_70 : decode c_SF_wouldBreakWithout 70 = .ok (.goto (-52), 3) := by decide +kernel
theorem d_SF_wouldBreakWithout_73 : decode c_SF_wouldBreakWithout 73 = .ok (.iload_n 3, 1) := by decide +kernel
theorem d_SF_wouldBreakWithout_74 : decode c_SF_wouldBreakWithout 74 = .ok (.iconst 1, 1) := by decide +kernel
theorem d_SF_wouldBreakWithout_75 : decode c_SF_wouldBreakWithout 75 = .ok (.if_icmp .le 5, 3) := by decide +kernel
theorem d_SF_wouldBreakWithout_78 : decode c_SF_wouldBreakWithout 78 = .ok (.iconst 1, 1) := by decide +kernel
theorem d_SF_wouldBreakWithout_79 : decode c_SF_wouldBreakWithout 79 = .ok (.ireturn, 1) := by decide +kernel
theorem d_SF_wouldBreakWithout_80 : decode c_SF_wouldBreakWithout 80 = .ok (.iinc 2 1, 3) := by decide +kernel
theorem d_SF_wouldBreakWithout_83 : decode c_SF_wouldBreakWithout 83 = .ok (.goto (-81), 3) := by decide +kernel
theorem d_SF_wouldBreakWithout_86 : decode c_SF_wouldBreakWithout 86 = .ok (.iconst 0, 1) := by decide +kernel
theorem d_SF_wouldBreakWithout_87 : decode c_SF_wouldBreakWithout 87 = .ok (.ireturn, 1) := by decide +kernel
abbrev c_SF_replace : ByteArray := prog_1_method_9_code
abbrev y_SF_replace : MethodName := ⟨"StripeField", "replace", "(I)Z"⟩
theorem d_SF_replace_0 : decode c_SF_replace 0 = .ok (.iload_n 1, 1) := by decide +kernel
theorem d_SF_replace_1 : decode c_SF_replace 1 = .ok (.ifCond .lt 14, 3) := by decide +kernel
theorem d_SF_replace_4 : decode c_SF_replace 4 = .ok (.iload_n 1, 1) := by decide +kernel
theorem d_SF_replace_5 : decode c_SF_replace 5 = .ok (.aload_n 0, 1) := by decide +kernel
theorem d_SF_replace_6 : decode c_SF_replace 6 = .ok (.getfield 12, 3) := by decide +kernel
theorem d_SF_replace_9 : decode c_SF_replace 9 = .ok (.getfield 136, 3) := by decide +kernel
theorem d_SF_replace_12 : decode c_SF_replace 12 = .ok (.if_icmp .lt 13, 3) := by decide +kernel
theorem d_SF_replace_15 : decode c_SF_replace 15 = .ok (.new 56, 3) := by decide +kernel
theorem d_SF_replace_18 : decode c_SF_replace 18 = .ok (.dup, 1) := by decide +kernel
theorem d_SF_replace_19 : decode c_SF_replace 19 = .ok (.ldc 139, 2) := by decide +kernel
theorem d_SF_replace_21 : decode c_SF_replace 21 = .ok (.invokespecial 60, 3) := by decide +kernel
theorem d_SF_replace_24 : decode c_SF_replace 24 = .ok (.athrow, 1) := by decide +kernel
theorem d_SF_replace_25 : decode c_SF_replace 25 = .ok (.aload_n 0, 1) := by decide +kernel
theorem d_SF_replace_26 : decode c_SF_replace 26 = .ok (.getfield 23, 3) := by decide +kernel
theorem d_SF_replace_29 : decode c_SF_replace 29 = .ok (.getfield 141, 3) := by decide +kernel
theorem d_SF_replace_32 : decode c_SF_replace 32 = .ok (.iload_n 1, 1) := by decide +kernel
theorem d_SF_replace_33 : decode c_SF_replace 33 = .ok (.baload, 1) := by decide +kernel
theorem d_SF_replace_34 : decode c_SF_replace 34 = .ok (.ifCond .eq 5, 3) := by decide +kernel
theorem d_SF_replace_37 : decode c_SF_replace 37 = .ok (.iconst 0, 1) := by decide +kernel
theorem d_SF_replace_38 : decode c_SF_replace 38 = .ok (.ireturn, 1) := by decide +kernel
theorem d_SF_replace_39 : decode c_SF_replace 39 = .ok (.aload_n 0, 1) := by decide +kernel
theorem d_SF_replace_40 : decode c_SF_replace 40 = .ok (.getfield 23, 3) := by decide +kernel
theorem d_SF_replace_43 : decode c_SF_replace 43 = .ok (.getfield 141, 3) := by decide +kernel
theorem d_SF_replace_46 : decode c_SF_replace 46 = .ok (.iload_n 1, 1) := by decide +kernel
theorem d_SF_replace_47 : decode c_SF_replace 47 = .ok (.iconst 1, 1) := by decide +kernel
theorem d_SF_replace_48 : decode c_SF_replace 48 = .ok (.bastore, 1) := by decide +kernel
theorem d_SF_replace_49 : decode c_SF_replace 49 = .ok (.iconst 1, 1) := by decide +kernel
theorem d_SF_replace_50 : decode c_SF_replace 50 = .ok (.ireturn, 1) := by decide +kernel
abbrev c_SF_spoil : ByteArray := prog_1_method_10_code
abbrev y_SF_spoil : MethodName := ⟨"StripeField", "spoil", "(IIIIJ)Z"⟩
theorem d_SF_spoil_0 : decode c_SF_spoil 0 = .ok (.iload_n 1, 1) := by decide +kernel
theorem d_SF_spoil_1 : decode c_SF_spoil 1 = .ok (.ifCond .lt 14, 3) := by decide +kernel
theorem d_SF_spoil_4 : decode c_SF_spoil 4 = .ok (.iload_n 1, 1) := by decide +kernel
theorem d_SF_spoil_5 : decode c_SF_spoil 5 = .ok (.aload_n 0, 1) := by decide +kernel
theorem d_SF_spoil_6 : decode c_SF_spoil 6 = .ok (.getfield 12, 3) := by decide +kernel
theorem d_SF_spoil_9 : decode c_SF_spoil 9 = .ok (.getfield 136, 3) := by decide +kernel
theorem d_SF_spoil_12 : decode c_SF_spoil 12 = .ok (.if_icmp .lt 13, 3) := by decide +kernel
theorem d_SF_spoil_15 : decode c_SF_spoil 15 = .ok (.new 56, 3) := by decide +kernel
theorem d_SF_spoil_18 : decode c_SF_spoil 18 = .ok (.dup, 1) := by decide +kernel
theorem d_SF_spoil_19 : decode c_SF_spoil 19 = .ok (.ldc 139, 2) := by decide +kernel
theorem d_SF_spoil_21 : decode c_SF_spoil 21 = .ok (.invokespecial 60, 3) := by decide +kernel
theorem d_SF_spoil_24 : decode c_SF_spoil 24 = .ok (.athrow, 1) := by decide +kernel
theorem d_SF_spoil_25 : decode c_SF_spoil 25 = .ok (.iload_n 2, 1) := by decide +kernel
theorem d_SF_spoil_26 : decode c_SF_spoil 26 = .ok (.ifCond .lt 14, 3) := by decide +kernel
theorem d_SF_spoil_29 : decode c_SF_spoil 29 = .ok (.iload_n 2, 1) := by decide +kernel
theorem d_SF_spoil_30 : decode c_SF_spoil 30 = .ok (.aload_n 0, 1) := by decide +kernel
theorem d_SF_spoil_31 : decode c_SF_spoil 31 = .ok (.getfield 12, 3) := by decide +kernel
theorem d_SF_spoil_34 : decode c_SF_spoil 34 = .ok (.getfield 159, 3) := by decide +kernel
theorem d_SF_spoil_37 : decode c_SF_spoil 37 = .ok (.if_icmp .lt 13, 3) := by decide +kernel
theorem d_SF_spoil_40 : decode c_SF_spoil 40 = .ok (.new 56, 3) := by decide +kernel
theorem d_SF_spoil_43 : decode c_SF_spoil 43 = .ok (.dup, 1) := by decide +kernel
theorem d_SF_spoil_44 : decode c_SF_spoil 44 = .ok (.ldc 162, 2) := by decide +kernel
theorem d_SF_spoil_46 : decode c_SF_spoil 46 = .ok (.invokespecial 60, 3) := by decide +kernel
theorem d_SF_spoil_49 : decode c_SF_spoil 49 = .ok (.athrow, 1) := by decide +kernel
theorem d_SF_spoil_50 : decode c_SF_spoil 50 = .ok (.iload 4, 2) := by decide +kernel
theorem d_SF_spoil_52 : decode c_SF_spoil 52 = .ok (.iconst 1, 1) := by decide +kernel
theorem d_SF_spoil_53 : decode c_SF_spoil 53 = .ok (.if_icmp .lt 10, 3) := by decide +kernel
theorem d_SF_spoil_56 : decode c_SF_spoil 56 = .ok (.iload 4, 2) := by decide +kernel
theorem d_SF_spoil_58 : decode c_SF_spoil 58 = .ok (.bipush 8, 2) := by decide +kernel
theorem d_SF_spoil_60 : decode c_SF_spoil 60 = .ok (.if_icmp .le 13, 3) := by decide +kernel
theorem d_SF_spoil_63 : decode c_SF_spoil 63 = .ok (.new 56, 3) := by decide +kernel
theorem d_SF_spoil_66 : decode c_SF_spoil 66 = .ok (.dup, 1) := by decide +kernel
theorem d_SF_spoil_67 : decode c_SF_spoil 67 = .ok (.ldc 58, 2) := by decide +kernel
theorem d_SF_spoil_69 : decode c_SF_spoil 69 = .ok (.invokespecial 60, 3) := by decide +kernel
theorem d_SF_spoil_72 : decode c_SF_spoil 72 = .ok (.athrow, 1) := by decide +kernel
theorem d_SF_spoil_73 : decode c_SF_spoil 73 = .ok (.iload_n 3, 1) := by decide +kernel
theorem d_SF_spoil_74 : decode c_SF_spoil 74 = .ok (.ifCond .lt 12, 3) := by decide +kernel
theorem d_SF_spoil_77 : decode c_SF_spoil 77 = .ok (.iload_n 3, 1) := by decide +kernel
theorem d_SF_spoil_78 : decode c_SF_spoil 78 = .ok (.bipush 70, 2) := by decide +kernel
theorem d_SF_spoil_80 : decode c_SF_spoil 80 = .ok (.iload 4, 2) := by decide +kernel
theorem d_SF_spoil_82 : decode c_SF_spoil 82 = .ok (.isub, 1) := by decide +kernel
theorem d_SF_spoil_83 : decode c_SF_spoil 83 = .ok (.if_icmp .le 13, 3) := by decide +kernel
theorem d_SF_spoil_86 : decode c_SF_spoil 86 = .ok (.new 56, 3) := by decide +kernel
theorem d_SF_spoil_89 : decode c_SF_spoil 89 = .ok (.dup, 1) := by decide +kernel
theorem d_SF_spoil_90 : decode c_SF_spoil 90 = .ok (.ldc 164, 2) := by decide +kernel
theorem d_SF_spoil_92 : decode c_SF_spoil 92 = .ok (.invokespecial 60, 3) := by decide +kernel
theorem d_SF_spoil_95 : decode c_SF_spoil 95 = .ok (.athrow, 1) := by decide +kernel
theorem d_SF_spoil_96 : decode c_SF_spoil 96 = .ok (.iload 4, 2) := by decide +kernel
theorem d_SF_spoil_98 : decode c_SF_spoil 98 = .ok (.lload 5, 2) := by decide +kernel
theorem d_SF_spoil_100 : decode c_SF_spoil 100 = .ok (.invokestatic 166, 3) := by decide +kernel
theorem d_SF_spoil_103 : decode c_SF_spoil 103 = .ok (.lconst 0, 1) := by decide +kernel
theorem d_SF_spoil_104 : decode c_SF_spoil 104 = .ok (.lcmp, 1) := by decide +kernel
theorem d_SF_spoil_105 : decode c_SF_spoil 105 = .ok (.ifCond .ne 13, 3) := by decide +kernel
theorem d_SF_spoil_108 : decode c_SF_spoil 108 = .ok (.new 56, 3) := by decide +kernel
theorem d_SF_spoil_111 : decode c_SF_spoil 111 = .ok (.dup, 1) := by decide +kernel
theorem d_SF_spoil_112 : decode c_SF_spoil 112 = .ok (.ldc 170, 2) := by decide +kernel
theorem d_SF_spoil_114 : decode c_SF_spoil 114 = .ok (.invokespecial 60, 3) := by decide +kernel
theorem d_SF_spoil_117 : decode c_SF_spoil 117 = .ok (.athrow, 1) := by decide +kernel
theorem d_SF_spoil_118 : decode c_SF_spoil 118 = .ok (.aload_n 0, 1) := by decide +kernel
theorem d_SF_spoil_119 : decode c_SF_spoil 119 = .ok (.getfield 12, 3) := by decide +kernel
theorem d_SF_spoil_122 : decode c_SF_spoil 122 = .ok (.iload_n 1, 1) := by decide +kernel
theorem d_SF_spoil_123 : decode c_SF_spoil 123 = .ok (.iload_n 2, 1) := by decide +kernel
theorem d_SF_spoil_124 : decode c_SF_spoil 124 = .ok (.invokevirtual 172, 3) := by decide +kernel
theorem d_SF_spoil_127 : decode c_SF_spoil 127 = .ok (.istore 7, 2) := by decide +kernel
theorem d_SF_spoil_129 : decode c_SF_spoil 129 = .ok (.aload_n 0, 1) := by decide +kernel
theorem d_SF_spoil_130 : decode c_SF_spoil 130 = .ok (.getfield 39, 3) := by decide +kernel
theorem d_SF_spoil_133 : decode c_SF_spoil 133 = .ok (.getfield 81, 3) := by decide +kernel
theorem d_SF_spoil_136 : decode c_SF_spoil 136 = .ok (.ifCond .eq 29, 3) := by decide +kernel
theorem d_SF_spoil_139 : decode c_SF_spoil 139 = .ok (.aload_n 0, 1) := by decide +kernel
theorem d_SF_spoil_140 : decode c_SF_spoil 140 = .ok (.getfield 23, 3) := by decide +kernel
theorem d_SF_spoil_143 : decode c_SF_spoil 143 = .ok (.getfield 141, 3) := by decide +kernel
theorem d_SF_spoil_146 : decode c_SF_spoil 146 = .ok (.iload_n 1, 1) := by decide +kernel
theorem d_SF_spoil_147 : decode c_SF_spoil 147 = .ok (.baload, 1) := by decide +kernel
theorem d_SF_spoil_148 : decode c_SF_spoil 148 = .ok (.ifCond .eq 17, 3) := by decide +kernel
theorem d_SF_spoil_151 : decode c_SF_spoil 151 = .ok (.aload_n 0, 1) := by decide +kernel
theorem d_SF_spoil_152 : decode c_SF_spoil 152 = .ok (.getfield 32, 3) := by decide +kernel
theorem d_SF_spoil_155 : decode c_SF_spoil 155 = .ok (.getfield 176, 3) := by decide +kernel
theorem d_SF_spoil_158 : decode c_SF_spoil 158 = .ok (.iload 7, 2) := by decide +kernel
theorem d_SF_spoil_160 : decode c_SF_spoil 160 = .ok (.iaload, 1) := by decide +kernel
theorem d_SF_spoil_161 : decode c_SF_spoil 161 = .ok (.iconst (-1), 1) := by decide +kernel
theorem d_SF_spoil_162 : decode c_SF_spoil 162 = .ok (.if_icmp .ne 5, 3) := by decide +kernel
theorem d_SF_spoil_165 : decode c_SF_spoil 165 = .ok (.iconst 0, 1) := by decide +kernel
theorem d_SF_spoil_166 : decode c_SF_spoil 166 = .ok (.ireturn, 1) := by decide +kernel
theorem d_SF_spoil_167 : decode c_SF_spoil 167 = .ok (.aload_n 0, 1) := by decide +kernel
theorem d_SF_spoil_168 : decode c_SF_spoil 168 = .ok (.iload 7, 2) := by decide +kernel
theorem d_SF_spoil_170 : decode c_SF_spoil 170 = .ok (.iload_n 3, 1) := by decide +kernel
theorem d_SF_spoil_171 : decode c_SF_spoil 171 = .ok (.iload 4, 2) := by decide +kernel
theorem d_SF_spoil_173 : decode c_SF_spoil 173 = .ok (.lload 5, 2) := by decide +kernel
theorem d_SF_spoil_175 : decode c_SF_spoil 175 = .ok (.invokevirtual 180, 3) := by decide +kernel
theorem d_SF_spoil_178 : decode c_SF_spoil 178 = .ok (.ireturn, 1) := by decide +kernel
abbrev c_SF_lowestBytes : ByteArray := prog_1_method_37_code
abbrev y_SF_lowestBytes : MethodName := ⟨"StripeField", "lowestBytes", "(IJ)J"⟩
theorem d_SF_lowestBytes_0 : decode c_SF_lowestBytes 0 = .ok (.iload_n 0, 1) := by decide +kernel
theorem d_SF_lowestBytes_1 : decode c_SF_lowestBytes 1 = .ok (.bipush 8, 2) := by decide +kernel
theorem d_SF_lowestBytes_3 : decode c_SF_lowestBytes 3 = .ok (.if_icmp .lt 7, 3) := by decide +kernel
theorem d_SF_lowestBytes_6 : decode c_SF_lowestBytes 6 = .ok (.lload_n 1, 1) := by decide +kernel
theorem d_SF_lowestBytes_7 : decode c_SF_lowestBytes 7 = .ok (.goto 13, 3) := by decide +kernel
theorem d_SF_lowestBytes_10 : decode c_SF_lowestBytes 10 = .ok (.lload_n 1, 1) := by decide +kernel
theorem d_SF_lowestBytes_11 : decode c_SF_lowestBytes 11 = .ok (.lconst 1, 1) := by decide +kernel
theorem d_SF_lowestBytes_12 : decode c_SF_lowestBytes 12 = .ok (.bipush 8, 2) := by decide +kernel
theorem d_SF_lowestBytes_14 : decode c_SF_lowestBytes 14 = .ok (.iload_n 0, 1) := by decide +kernel
theorem d_SF_lowestBytes_15 : decode c_SF_lowestBytes 15 = .ok (.imul, 1) := by decide +kernel
theorem d_SF_lowestBytes_16 : decode c_SF_lowestBytes 16 = .ok (.lshl, 1) := by decide +kernel
theorem d_SF_lowestBytes_17 : decode c_SF_lowestBytes 17 = .ok (.lconst 1, 1) := by decide +kernel
theorem d_SF_lowestBytes_18 : decode c_SF_lowestBytes 18 = .ok (.lsub, 1) := by decide +kernel
theorem d_SF_lowestBytes_19 : decode c_SF_lowestBytes 19 = .ok (.land, 1) := by decide +kernel
theorem d_SF_lowestBytes_20 : decode c_SF_lowestBytes 20 = .ok (.lreturn, 1) := by decide +kernel
abbrev c_SF_spoilPlace : ByteArray := prog_1_method_32_code
abbrev y_SF_spoilPlace : MethodName := ⟨"StripeField", "spoilPlace", "(IIIJ)Z"⟩
theorem d_SF_spoilPlace_0 : decode c_SF_spoilPlace 0 = .ok (.aload_n 0, 1) := by decide +kernel
theorem d_SF_spoilPlace_1 : decode c_SF_spoilPlace 1 = .ok (.getfield 23, 3) := by decide +kernel
theorem d_SF_spoilPlace_4 : decode c_SF_spoilPlace 4 = .ok (.iload_n 1, 1) := by decide +kernel
theorem d_SF_spoilPlace_5 : decode c_SF_spoilPlace 5 = .ok (.iload_n 2, 1) := by decide +kernel
theorem d_SF_spoilPlace_6 : decode c_SF_spoilPlace 6 = .ok (.iload_n 3, 1) := by decide +kernel
theorem d_SF_spoilPlace_7 : decode c_SF_spoilPlace 7 = .ok (.lload 4, 2) := by decide +kernel
theorem d_SF_spoilPlace_9 : decode c_SF_spoilPlace 9 = .ok (.invokevirtual 319, 3) := by decide +kernel
theorem d_SF_spoilPlace_12 : decode c_SF_spoilPlace 12 = .ok (.aload_n 0, 1) := by decide +kernel
theorem d_SF_spoilPlace_13 : decode c_SF_spoilPlace 13 = .ok (.getfield 23, 3) := by decide +kernel
theorem d_SF_spoilPlace_16 : decode c_SF_spoilPlace 16 = .ok (.iload_n 1, 1) := by decide +kernel
theorem d_SF_spoilPlace_17 : decode c_SF_spoilPlace 17 = .ok (.invokevirtual 280, 3) := by decide +kernel
theorem d_SF_spoilPlace_20 : decode c_SF_spoilPlace 20 = .ok (.ifCond .eq 14, 3) := by decide +kernel
theorem d_SF_spoilPlace_23 : decode c_SF_spoilPlace 23 = .ok (.aload_n 0, 1) := by decide +kernel
theorem d_SF_spoilPlace_24 : decode c_SF_spoilPlace 24 = .ok (.getfield 23, 3) := by decide +kernel
theorem d_SF_spoilPlace_27 : decode c_SF_spoilPlace 27 = .ok (.iload_n 1, 1) := by decide +kernel
theorem d_SF_spoilPlace_28 : decode c_SF_spoilPlace 28 = .ok (.invokevirtual 323, 3) := by decide +kernel
theorem d_SF_spoilPlace_31 : decode c_SF_spoilPlace 31 = .ok (.goto 16, 3) := by decide +kernel
theorem d_SF_spoilPlace_34 : decode c_SF_spoilPlace 34 = .ok (.aload_n 0, 1) := by decide +kernel
theorem d_SF_spoilPlace_35 : decode c_SF_spoilPlace 35 = .ok (.aload_n 0, 1) := by decide +kernel
theorem d_SF_spoilPlace_36 : decode c_SF_spoilPlace 36 = .ok (.getfield 32, 3) := by decide +kernel
theorem d_SF_spoilPlace_39 : decode c_SF_spoilPlace 39 = .ok (.getfield 176, 3) := by decide +kernel
theorem d_SF_spoilPlace_42 : decode c_SF_spoilPlace 42 = .ok (.iload_n 1, 1) := by decide +kernel
theorem d_SF_spoilPlace_43 : decode c_SF_spoilPlace 43 = .ok (.iaload, 1) := by decide +kernel
theorem d_SF_spoilPlace_44 : decode c_SF_spoilPlace 44 = .ok (.invokevirtual 326, 3) := by decide +kernel
theorem d_SF_spoilPlace_47 : decode c_SF_spoilPlace 47 = .ok (.istore 6, 2) := by decide +kernel
theorem d_SF_spoilPlace_49 : decode c_SF_spoilPlace 49 = .ok (.iload 6, 2) := by decide +kernel
theorem d_SF_spoilPlace_51 : decode c_SF_spoilPlace 51 = .ok (.ifCond .ne 15, 3) := by decide +kernel
theorem d_SF_spoilPlace_54 : decode c_SF_spoilPlace 54 = .ok (.aload_n 0, 1) := by decide +kernel
theorem d_SF_spoilPlace_55 : decode c_SF_spoilPlace 55 = .ok (.getfield 23, 3) := by decide +kernel
theorem d_SF_spoilPlace_58 : decode c_SF_spoilPlace 58 = .ok (.iload_n 1, 1) := by decide +kernel
theorem d_SF_spoilPlace_59 : decode c_SF_spoilPlace 59 = .ok (.iload_n 2, 1) := by decide +kernel
theorem d_SF_spoilPlace_60 : decode c_SF_spoilPlace 60 = .ok (.iload_n 3, 1) := by decide +kernel
theorem d_SF_spoilPlace_61 : decode c_SF_spoilPlace 61 = .ok (.lload 4, 2) := by decide +kernel
theorem d_SF_spoilPlace_63 : decode c_SF_spoilPlace 63 = .ok (.invokevirtual 319, 3) := by decide +kernel
theorem d_SF_spoilPlace_66 : decode c_SF_spoilPlace 66 = .ok (.iload 6, 2) := by decide +kernel
theorem d_SF_spoilPlace_68 : decode c_SF_spoilPlace 68 = .ok (.ireturn, 1) := by decide +kernel
abbrev c_SF_othersAreValid : ByteArray := prog_1_method_33_code
abbrev y_SF_othersAreValid : MethodName := ⟨"StripeField", "othersAreValid", "(I)Z"⟩
theorem d_SF_othersAreValid_0 : decode c_SF_othersAreValid 0 = .ok (.aload_n 0, 1) := by decide +kernel
theorem d_SF_othersAreValid_1 : decode c_SF_othersAreValid 1 = .ok (.getfield 12, 3) := by decide +kernel
theorem d_SF_othersAreValid_4 : decode c_SF_othersAreValid 4 = .ok (.iload_n 1, 1) := by decide +kernel
theorem d_SF_othersAreValid_5 : decode c_SF_othersAreValid 5 = .ok (.invokevirtual 300, 3) := by decide +kernel
theorem d_SF_othersAreValid_8 : decode c_SF_othersAreValid 8 = .ok (.istore_n 2, 1) := by decide +kernel
theorem d_SF_othersAreValid_9 : decode c_SF_othersAreValid 9 = .ok (.aload_n 0, 1) := by decide +kernel
theorem d_SF_othersAreValid_10 : decode c_SF_othersAreValid 10 = .ok (.getfield 12, 3) := by decide +kernel
theorem d_SF_othersAreValid_13 : decode c_SF_othersAreValid 13 = .ok (.iload_n 1, 1) := by decide +kernel
theorem d_SF_othersAreValid_14 : decode c_SF_othersAreValid 14 = .ok (.invokevirtual 303, 3) := by decide +kernel
theorem d_SF_othersAreValid_17 : decode c_SF_othersAreValid 17 = .ok (.istore_n 3, 1) := by decide +kernel
theorem d_SF_othersAreValid_18 : decode c_SF_othersAreValid 18 = .ok (.iconst 0, 1) := by decide +kernel
theorem d_SF_othersAreValid_19 : decode c_SF_othersAreValid 19 = .ok (.istore 4, 2) := by decide +kernel
theorem d_SF_othersAreValid_21 : decode c_SF_othersAreValid 21 = .ok (.iload 4, 2) := by decide +kernel
theorem d_SF_othersAreValid_23 : decode c_SF_othersAreValid 23 = .ok (.aload_n 0, 1) := by decide +kernel
theorem d_SF_othersAreValid_24 : decode c_SF_othersAreValid 24 = .ok (.getfield 12, 3) := by decide +kernel
theorem d_SF_othersAreValid_27 : decode c_SF_othersAreValid 27 = .ok (.getfield 238, 3) := by decide +kernel
theorem d_SF_othersAreValid_30 : decode c_SF_othersAreValid 30 = .ok (.if_icmp .ge 34, 3) := by decide +kernel
theorem d_SF_othersAreValid_33 : decode c_SF_othersAreValid 33 = .ok (.iload 4, 2) := by decide +kernel
theorem d_SF_othersAreValid_35 : decode c_SF_othersAreValid 35 = .ok (.iload_n 3, 1) := by decide +kernel
theorem d_SF_othersAreValid_36 : decode c_SF_othersAreValid 36 = .ok (.if_icmp .eq 22, 3) := by decide +kernel
theorem d_SF_othersAreValid_39 : decode c_SF_othersAreValid 39 = .ok (.aload_n 0, 1) := by decide +kernel
theorem d_SF_othersAreValid_40 : decode c_SF_othersAreValid 40 = .ok (.getfield 23, 3) := by decide +kernel
theorem d_SF_othersAreValid_43 : decode c_SF_othersAreValid 43 = .ok (.aload_n 0, 1) := by decide +kernel
theorem d_SF_othersAreValid_44 : decode c_SF_othersAreValid 44 = .ok (.iload_n 2, 1) := by decide +kernel
theorem d_SF_othersAreValid_45 : decode c_SF_othersAreValid 45 = .ok (.iload 4, 2) := by decide +kernel
theorem d_SF_othersAreValid_47 : decode c_SF_othersAreValid 47 = .ok (.invokevirtual 268, 3) := by decide +kernel
theorem d_SF_othersAreValid_50 : decode c_SF_othersAreValid 50 = .ok (.invokevirtual 280, 3) := by decide +kernel
theorem d_SF_othersAreValid_53 : decode c_SF_othersAreValid 53 = .ok (.ifCond .ne 5, 3) := by decide +kernel
theorem d_SF_othersAreValid_56 : decode c_SF_othersAreValid 56 = .ok (.iconst 0, 1) := by decide +kernel
theorem d_SF_othersAreValid_57 : decode c_SF_othersAreValid 57 = .ok (.ireturn, 1) := by decide +kernel
theorem d_SF_othersAreValid_58 : decode c_SF_othersAreValid 58 = .ok (.iinc 4 1, 3) := by decide +kernel
theorem d_SF_othersAreValid_61 : decode c_SF_othersAreValid 61 = .ok (.goto (-40), 3) := by decide +kernel
theorem d_SF_othersAreValid_64 : decode c_SF_othersAreValid 64 = .ok (.iconst 1, 1) := by decide +kernel
theorem d_SF_othersAreValid_65 : decode c_SF_othersAreValid 65 = .ok (.ireturn, 1) := by decide +kernel
abbrev c_SF_rebuild : ByteArray := prog_1_method_11_code
abbrev y_SF_rebuild : MethodName := ⟨"StripeField", "rebuild", "()I"⟩
theorem d_SF_rebuild_0 : decode c_SF_rebuild 0 = .ok (.aload_n 0, 1) := by decide +kernel
theorem d_SF_rebuild_1 : decode c_SF_rebuild 1 = .ok (.getfield 39, 3) := by decide +kernel
theorem d_SF_rebuild_4 : decode c_SF_rebuild 4 = .ok (.getfield 81, 3) := by decide +kernel
theorem d_SF_rebuild_7 : decode c_SF_rebuild 7 = .ok (.ifCond .ne 13, 3) := by decide +kernel
theorem d_SF_rebuild_10 : decode c_SF_rebuild 10 = .ok (.new 67, 3) := by decide +kernel
theorem d_SF_rebuild_13 : decode c_SF_rebuild 13 = .ok (.dup, 1) := by decide +kernel
theorem d_SF_rebuild_14 : decode c_SF_rebuild 14 = .ok (.ldc 85, 2) := by decide +kernel
theorem d_SF_rebuild_16 : decode c_SF_rebuild 16 = .ok (.invokespecial 71, 3) := by decide +kernel
theorem d_SF_rebuild_19 : decode c_SF_rebuild 19 = .ok (.athrow, 1) := by decide +kernel
theorem d_SF_rebuild_20 : decode c_SF_rebuild 20 = .ok (.iconst 0, 1) := by decide +kernel
theorem d_SF_rebuild_21 : decode c_SF_rebuild 21 = .ok (.istore_n 1, 1) := by decide +kernel
theorem d_SF_rebuild_22 : decode c_SF_rebuild 22 = .ok (.iload_n 1, 1) := by decide +kernel
theorem d_SF_rebuild_23 : decode c_SF_rebuild 23 = .ok (.aload_n 0, 1) := by decide +kernel
theorem d_SF_rebuild_24 : decode c_SF_rebuild 24 = .ok (.getfield 12, 3) := by decide +kernel
theorem d_SF_rebuild_27 : decode c_SF_rebuild 27 = .ok (.getfield 159, 3) := by decide +kernel
theorem d_SF_rebuild_30 : decode c_SF_rebuild 30 = .ok (.if_icmp .ge 56, 3) := by decide +kernel
theorem d_SF_rebuild_33 : decode c_SF_rebuild 33 = .ok (.aload_n 0, 1) := by decide +kernel
theorem d_SF_rebuild_34 : decode c_SF_rebuild 34 = .ok (.getfield 32, 3) := by decide +kernel
theorem d_SF_rebuild_37 : decode c_SF_rebuild 37 = .ok (.iload_n 1, 1) := by decide +kernel
theorem d_SF_rebuild_38 : decode c_SF_rebuild 38 = .ok (.invokevirtual 184, 3) := by decide +kernel
theorem d_SF_rebuild_41 : decode c_SF_rebuild 41 = .ok (.istore_n 2, 1) := by decide +kernel
theorem d_SF_rebuild_42 : decode c_SF_rebuild 42 = .ok (.iload_n 2, 1) := by decide +kernel
theorem d_SF_rebuild_43 : decode c_SF_rebuild 43 = .ok (.iconst (-1), 1) := by decide +kernel
theorem d_SF_rebuild_44 : decode c_SF_rebuild 44 = .ok (.if_icmp .ne 7, 3) := by decide +kernel
theorem d_SF_rebuild_47 : decode c_SF_rebuild 47 = .ok (.iconst (-1), 1) := by decide +kernel
theorem d_SF_rebuild_48 : decode c_SF_rebuild 48 = .ok (.goto 11, 3) := by decide +kernel
theorem d_SF_rebuild_51 : decode c_SF_rebuild 51 = .ok (.aload_n 0, 1) := by decide +kernel
theorem d_SF_rebuild_52 : decode c_SF_rebuild 52 = .ok (.getfield 32, 3) := by decide +kernel
theorem d_SF_rebuild_55 : decode c_SF_rebuild 55 = .ok (.iload_n 1, 1) := by decide +kernel
theorem d_SF_rebuild_56 : decode c_SF_rebuild 56 = .ok (.invokevirtual 187, 3) := by decide +kernel
theorem d_SF_rebuild_59 : decode c_SF_rebuild 59 = .ok (.istore_n 3, 1) := by decide +kernel
theorem d_SF_rebuild_60 : decode c_SF_rebuild 60 = .ok (.iload_n 3, 1) := by decide +kernel
theorem d_SF_rebuild_61 : decode c_SF_rebuild 61 = .ok (.iconst (-1), 1) := by decide +kernel
theorem d_SF_rebuild_62 : decode c_SF_rebuild 62 = .ok (.if_icmp .eq 18, 3) := by decide +kernel
theorem d_SF_rebuild_65 : decode c_SF_rebuild 65 = .ok (.aload_n 0, 1) := by decide +kernel
theorem d_SF_rebuild_66 : decode c_SF_rebuild 66 = .ok (.iload_n 3, 1) := by decide +kernel
theorem d_SF_rebuild_67 : decode c_SF_rebuild 67 = .ok (.iload_n 2, 1) := by decide +kernel
theorem d_SF_rebuild_68 : decode c_SF_rebuild 68 = .ok (.invokevirtual 190, 3) := by decide +kernel
theorem d_SF_rebuild_71 : decode c_SF_rebuild 71 = .ok (.ifCond .eq 7, 3) := by decide +kernel
theorem d_SF_rebuild_74 : decode c_SF_rebuild 74 = .ok (.iconst 1, 1) := by decide +kernel
theorem d_SF_rebuild_75 : decode c_SF_rebuild 75 = .ok (.goto 4, 3) := by decide +kernel
theorem d_SF_rebuild_78 : decode c_SF_rebuild 78 = .ok (.iconst (-1), 1) := by decide +kernel
theorem d_SF_rebuild_79 : decode c_SF_rebuild 79 = .ok (.ireturn, 1) := by decide +kernel
theorem d_SF_rebuild_80 : decode c_SF_rebuild 80 = .ok (.iinc 1 1, 3) := by decide +kernel
theorem d_SF_rebuild_83 : decode c_SF_rebuild 83 = .ok (.goto (-61), 3) := by decide +kernel
theorem d_SF_rebuild_86 : decode c_SF_rebuild 86 = .ok (.iconst 0, 1) := by decide +kernel
theorem d_SF_rebuild_87 : decode c_SF_rebuild 87 = .ok (.ireturn, 1) := by decide +kernel
abbrev c_SF_moveTo : ByteArray := prog_1_method_26_code
abbrev y_SF_moveTo : MethodName := ⟨"StripeField", "moveTo", "(II)Z"⟩
theorem d_SF_moveTo_0 : decode c_SF_moveTo 0 = .ok (.aload_n 0, 1) := by decide +kernel
theorem d_SF_moveTo_1 : decode c_SF_moveTo 1 = .ok (.getfield 50, 3) := by decide +kernel
theorem d_SF_moveTo_4 : decode c_SF_moveTo 4 = .ok (.lconst 0, 1) := by decide +kernel
theorem d_SF_moveTo_5 : decode c_SF_moveTo 5 = .ok (.invokestatic 103, 3) := by decide +kernel
theorem d_SF_moveTo_8 : decode c_SF_moveTo 8 = .ok (.aload_n 0, 1) := by decide +kernel
theorem d_SF_moveTo_9 : decode c_SF_moveTo 9 = .ok (.aload_n 0, 1) := by decide +kernel
theorem d_SF_moveTo_10 : decode c_SF_moveTo 10 = .ok (.getfield 12, 3) := by decide +kernel
theorem d_SF_moveTo_13 : decode c_SF_moveTo 13 = .ok (.iload_n 1, 1) := by decide +kernel
theorem d_SF_moveTo_14 : decode c_SF_moveTo 14 = .ok (.invokevirtual 300, 3) := by decide +kernel
theorem d_SF_moveTo_17 : decode c_SF_moveTo 17 = .ok (.aload_n 0, 1) := by decide +kernel
theorem d_SF_moveTo_18 : decode c_SF_moveTo 18 = .ok (.getfield 12, 3) := by decide +kernel
theorem d_SF_moveTo_21 : decode c_SF_moveTo 21 = .ok (.iload_n 1, 1) := by decide +kernel
theorem d_SF_moveTo_22 : decode c_SF_moveTo 22 = .ok (.invokevirtual 303, 3) := by decide +kernel
theorem d_SF_moveTo_25 : decode c_SF_moveTo 25 = .ok (.invokevirtual 109, 3) := by decide +kernel
theorem d_SF_moveTo_28 : decode c_SF_moveTo 28 = .ok (.aload_n 0, 1) := by decide +kernel
theorem d_SF_moveTo_29 : decode c_SF_moveTo 29 = .ok (.iload_n 2, 1) := by decide +kernel
theorem d_SF_moveTo_30 : decode c_SF_moveTo 30 = .ok (.aload_n 0, 1) := by decide +kernel
theorem d_SF_moveTo_31 : decode c_SF_moveTo 31 = .ok (.getfield 50, 3) := by decide +kernel
theorem d_SF_moveTo_34 : decode c_SF_moveTo 34 = .ok (.aload_n 0, 1) := by decide +kernel
theorem d_SF_moveTo_35 : decode c_SF_moveTo 35 = .ok (.getfield 12, 3) := by decide +kernel
theorem d_SF_moveTo_38 : decode c_SF_moveTo 38 = .ok (.iload_n 1, 1) := by decide +kernel
theorem d_SF_moveTo_39 : decode c_SF_moveTo 39 = .ok (.invokevirtual 297, 3) := by decide +kernel
theorem d_SF_moveTo_42 : decode c_SF_moveTo 42 = .ok (.invokevirtual 203, 3) := by decide +kernel
theorem d_SF_moveTo_45 : decode c_SF_moveTo 45 = .ok (.ifCond .ne 5, 3) := by decide +kernel
theorem d_SF_moveTo_48 : decode c_SF_moveTo 48 = .ok (.iconst 0, 1) := by decide +kernel
theorem d_SF_moveTo_49 : decode c_SF_moveTo 49 = .ok (.ireturn, 1) := by decide +kernel
theorem d_SF_moveTo_50 : decode c_SF_moveTo 50 = .ok (.aload_n 0, 1) := by decide +kernel
theorem d_SF_moveTo_51 : decode c_SF_moveTo 51 = .ok (.getfield 32, 3) := by decide +kernel
theorem d_SF_moveTo_54 : decode c_SF_moveTo 54 = .ok (.iload_n 1, 1) := by decide +kernel
theorem d_SF_moveTo_55 : decode c_SF_moveTo 55 = .ok (.iload_n 2, 1) := by decide +kernel
theorem d_SF_moveTo_56 : decode c_SF_moveTo 56 = .ok (.invokevirtual 306, 3) := by decide +kernel
theorem d_SF_moveTo_59 : decode c_SF_moveTo 59 = .ok (.iconst 1, 1) := by decide +kernel
theorem d_SF_moveTo_60 : decode c_SF_moveTo 60 = .ok (.ireturn, 1) := by decide +kernel
abbrev c_SF_copyBack : ByteArray := prog_1_method_12_code
abbrev y_SF_copyBack : MethodName := ⟨"StripeField", "copyBack", "()I"⟩
theorem d_SF_copyBack_0 : decode c_SF_copyBack 0 = .ok (.aload_n 0, 1) := by decide +kernel
theorem d_SF_copyBack_1 : decode c_SF_copyBack 1 = .ok (.getfield 39, 3) := by decide +kernel
theorem d_SF_copyBack_4 : decode c_SF_copyBack 4 = .ok (.getfield 81, 3) := by decide +kernel
theorem d_SF_copyBack_7 : decode c_SF_copyBack 7 = .ok (.ifCond .ne 13, 3) := by decide +kernel
theorem d_SF_copyBack_10 : decode c_SF_copyBack 10 = .ok (.new 67, 3) := by decide +kernel
theorem d_SF_copyBack_13 : decode c_SF_copyBack 13 = .ok (.dup, 1) := by decide +kernel
theorem d_SF_copyBack_14 : decode c_SF_copyBack 14 = .ok (.ldc 85, 2) := by decide +kernel
theorem d_SF_copyBack_16 : decode c_SF_copyBack 16 = .ok (.invokespecial 71, 3) := by decide +kernel
theorem d_SF_copyBack_19 : decode c_SF_copyBack 19 = .ok (.athrow, 1) := by decide +kernel
theorem d_SF_copyBack_20 : decode c_SF_copyBack 20 = .ok (.aload_n 0, 1) := by decide +kernel
theorem d_SF_copyBack_21 : decode c_SF_copyBack 21 = .ok (.getfield 32, 3) := by decide +kernel
theorem d_SF_copyBack_24 : decode c_SF_copyBack 24 = .ok (.invokevirtual 193, 3) := by decide +kernel
theorem d_SF_copyBack_27 : decode c_SF_copyBack 27 = .ok (.istore_n 1, 1) := by decide +kernel
theorem d_SF_copyBack_28 : decode c_SF_copyBack 28 = .ok (.iload_n 1, 1) := by decide +kernel
theorem d_SF_copyBack_29 : decode c_SF_copyBack 29 = .ok (.iconst (-1), 1) := by decide +kernel
theorem d_SF_copyBack_30 : decode c_SF_copyBack 30 = .ok (.if_icmp .ne 5, 3) := by decide +kernel
theorem d_SF_copyBack_33 : decode c_SF_copyBack 33 = .ok (.iconst 0, 1) := by decide +kernel
theorem d_SF_copyBack_34 : decode c_SF_copyBack 34 = .ok (.ireturn, 1) := by decide +kernel
theorem d_SF_copyBack_35 : decode c_SF_copyBack 35 = .ok (.aload_n 0, 1) := by decide +kernel
theorem d_SF_copyBack_36 : decode c_SF_copyBack 36 = .ok (.getfield 32, 3) := by decide +kernel
theorem d_SF_copyBack_39 : decode c_SF_copyBack 39 = .ok (.getfield 197, 3) := by decide +kernel
theorem d_SF_copyBack_42 : decode c_SF_copyBack 42 = .ok (.iload_n 1, 1) := by decide +kernel
theorem d_SF_copyBack_43 : decode c_SF_copyBack 43 = .ok (.iaload, 1) := by decide +kernel
theorem d_SF_copyBack_44 : decode c_SF_copyBack 44 = .ok (.istore_n 2, 1) := by decide +kernel
theorem d_SF_copyBack_45 : decode c_SF_copyBack 45 = .ok (.aload_n 0, 1) := by decide +kernel
theorem d_SF_copyBack_46 : decode c_SF_copyBack 46 = .ok (.iload_n 1, 1) := by decide +kernel
theorem d_SF_copyBack_47 : decode c_SF_copyBack 47 = .ok (.aload_n 0, 1) := by decide +kernel
theorem d_SF_copyBack_48 : decode c_SF_copyBack 48 = .ok (.getfield 12, 3) := by decide +kernel
theorem d_SF_copyBack_51 : decode c_SF_copyBack 51 = .ok (.getfield 200, 3) := by decide +kernel
theorem d_SF_copyBack_54 : decode c_SF_copyBack 54 = .ok (.iload_n 1, 1) := by decide +kernel
theorem d_SF_copyBack_55 : decode c_SF_copyBack 55 = .ok (.iaload, 1) := by decide +kernel
theorem d_SF_copyBack_56 : decode c_SF_copyBack 56 = .ok (.invokevirtual 190, 3) := by decide +kernel
theorem d_SF_copyBack_59 : decode c_SF_copyBack 59 = .ok (.ifCond .ne 5, 3) := by decide +kernel
theorem d_SF_copyBack_62 : decode c_SF_copyBack 62 = .ok (.iconst (-1), 1) := by decide +kernel
theorem d_SF_copyBack_63 : decode c_SF_copyBack 63 = .ok (.ireturn, 1) := by decide +kernel
theorem d_SF_copyBack_64 : decode c_SF_copyBack 64 = .ok (.iload_n 2, 1) := by decide +kernel
theorem d_SF_copyBack_65 : decode c_SF_copyBack 65 = .ok (.iconst (-1), 1) := by decide +kernel
theorem d_SF_copyBack_66 : decode c_SF_copyBack 66 = .ok (.if_icmp .eq 16, 3) := by decide +kernel
theorem d_SF_copyBack_69 : decode c_SF_copyBack 69 = .ok (.aload_n 0, 1) := by decide +kernel
theorem d_SF_copyBack_70 : decode c_SF_copyBack 70 = .ok (.iload_n 2, 1) := by decide +kernel
theorem d_SF_copyBack_71 : decode c_SF_copyBack 71 = .ok (.aload_n 0, 1) := by decide +kernel
theorem d_SF_copyBack_72 : decode c_SF_copyBack 72 = .ok (.getfield 53, 3) := by decide +kernel
theorem d_SF_copyBack_75 : decode c_SF_copyBack 75 = .ok (.iconst 0, 1) := by decide +kernel
theorem d_SF_copyBack_76 : decode c_SF_copyBack 76 = .ok (.invokevirtual 203, 3) := by decide +kernel
theorem d_SF_copyBack_79 : decode c_SF_copyBack 79 = .ok (.ifCond .eq 7, 3) := by decide +kernel
theorem d_SF_copyBack_82 : decode c_SF_copyBack 82 = .ok (.iconst 1, 1) := by decide +kernel
theorem d_SF_copyBack_83 : decode c_SF_copyBack 83 = .ok (.goto 4, 3) := by decide +kernel
theorem d_SF_copyBack_86 : decode c_SF_copyBack 86 = .ok (.iconst (-1), 1) := by decide +kernel
theorem d_SF_copyBack_87 : decode c_SF_copyBack 87 = .ok (.ireturn, 1) := by decide +kernel
abbrev c_SF_scrub : ByteArray := prog_1_method_13_code
abbrev y_SF_scrub : MethodName := ⟨"StripeField", "scrub", "()I"⟩
theorem d_SF_scrub_0 : decode c_SF_scrub 0 = .ok (.aload_n 0, 1) := by decide +kernel
theorem d_SF_scrub_1 : decode c_SF_scrub 1 = .ok (.getfield 39, 3) := by decide +kernel
theorem d_SF_scrub_4 : decode c_SF_scrub 4 = .ok (.getfield 81, 3) := by decide +kernel
theorem d_SF_scrub_7 : decode c_SF_scrub 7 = .ok (.ifCond .ne 13, 3) := by decide +kernel
theorem d_SF_scrub_10 : decode c_SF_scrub 10 = .ok (.new 67, 3) := by decide +kernel
theorem d_SF_scrub_13 : decode c_SF_scrub 13 = .ok (.dup, 1) := by decide +kernel
theorem d_SF_scrub_14 : decode c_SF_scrub 14 = .ok (.ldc 85, 2) := by decide +kernel
theorem d_SF_scrub_16 : decode c_SF_scrub 16 = .ok (.invokespecial 71, 3) := by decide +kernel
theorem d_SF_scrub_19 : decode c_SF_scrub 19 = .ok (.athrow, 1) := by decide +kernel
theorem d_SF_scrub_20 : decode c_SF_scrub 20 = .ok (.aload_n 0, 1) := by decide +kernel
theorem d_SF_scrub_21 : decode c_SF_scrub 21 = .ok (.getfield 123, 3) := by decide +kernel
theorem d_SF_scrub_24 : decode c_SF_scrub 24 = .ok (.istore_n 1, 1) := by decide +kernel
theorem d_SF_scrub_25 : decode c_SF_scrub 25 = .ok (.aload_n 0, 1) := by decide +kernel
theorem d_SF_scrub_26 : decode c_SF_scrub 26 = .ok (.iload_n 1, 1) := by decide +kernel
theorem d_SF_scrub_27 : decode c_SF_scrub 27 = .ok (.iconst 1, 1) := by decide +kernel
theorem d_SF_scrub_28 : decode c_SF_scrub 28 = .ok (.iadd, 1) := by decide +kernel
theorem d_SF_scrub_29 : decode c_SF_scrub 29 = .ok (.aload_n 0, 1) := by decide +kernel
theorem d_SF_scrub_30 : decode c_SF_scrub 30 = .ok (.getfield 12, 3) := by decide +kernel
theorem d_SF_scrub_33 : decode c_SF_scrub 33 = .ok (.getfield 207, 3) := by decide +kernel
theorem d_SF_scrub_36 : decode c_SF_scrub 36 = .ok (.if_icmp .ge 9, 3) := by decide +kernel
theorem d_SF_scrub_39 : decode c_SF_scrub 39 = .ok (.iload_n 1, 1) := by decide +kernel
theorem d_SF_scrub_40 : decode c_SF_scrub 40 = .ok (.iconst 1, 1) := by decide +kernel
theorem d_SF_scrub_41 : decode c_SF_scrub 41 = .ok (.iadd, 1) := by decide +kernel
theorem d_SF_scrub_42 : decode c_SF_scrub 42 = .ok (.goto 4, 3) := by decide +kernel
theorem d_SF_scrub_45 : decode c_SF_scrub 45 = .ok (.iconst 0, 1) := by decide +kernel
theorem d_SF_scrub_46 : decode c_SF_scrub 46 = .ok (.putfield 123, 3) := by decide +kernel
theorem d_SF_scrub_49 : decode c_SF_scrub 49 = .ok (.aload_n 0, 1) := by decide +kernel
theorem d_SF_scrub_50 : decode c_SF_scrub 50 = .ok (.iload_n 1, 1) := by decide +kernel
theorem d_SF_scrub_51 : decode c_SF_scrub 51 = .ok (.invokevirtual 210, 3) := by decide +kernel
theorem d_SF_scrub_54 : decode c_SF_scrub 54 = .ok (.istore_n 2, 1) := by decide +kernel
theorem d_SF_scrub_55 : decode c_SF_scrub 55 = .ok (.iload_n 2, 1) := by decide +kernel
theorem d_SF_scrub_56 : decode c_SF_scrub 56 = .ok (.iconst (-1), 1) := by decide +kernel
theorem d_SF_scrub_57 : decode c_SF_scrub 57 = .ok (.if_icmp .eq 36, 3) := by decide +kernel
theorem d_SF_scrub_60 : decode c_SF_scrub 60 = .ok (.aload_n 0, 1) := by decide +kernel
theorem d_SF_scrub_61 : decode c_SF_scrub 61 = .ok (.getfield 50, 3) := by decide +kernel
theorem d_SF_scrub_64 : decode c_SF_scrub 64 = .ok (.lconst 0, 1) := by decide +kernel
theorem d_SF_scrub_65 : decode c_SF_scrub 65 = .ok (.invokestatic 103, 3) := by decide +kernel
theorem d_SF_scrub_68 : decode c_SF_scrub 68 = .ok (.aload_n 0, 1) := by decide +kernel
theorem d_SF_scrub_69 : decode c_SF_scrub 69 = .ok (.iload_n 1, 1) := by decide +kernel
theorem d_SF_scrub_70 : decode c_SF_scrub 70 = .ok (.iload_n 2, 1) := by decide +kernel
theorem d_SF_scrub_71 : decode c_SF_scrub 71 = .ok (.invokevirtual 213, 3) := by decide +kernel
theorem d_SF_scrub_74 : decode c_SF_scrub 74 = .ok (.aload_n 0, 1) := by decide +kernel
theorem d_SF_scrub_75 : decode c_SF_scrub 75 = .ok (.iload_n 1, 1) := by decide +kernel
theorem d_SF_scrub_76 : decode c_SF_scrub 76 = .ok (.iload_n 2, 1) := by decide +kernel
theorem d_SF_scrub_77 : decode c_SF_scrub 77 = .ok (.aload_n 0, 1) := by decide +kernel
theorem d_SF_scrub_78 : decode c_SF_scrub 78 = .ok (.getfield 50, 3) := by decide +kernel
theorem d_SF_scrub_81 : decode c_SF_scrub 81 = .ok (.invokevirtual 216, 3) := by decide +kernel
theorem d_SF_scrub_84 : decode c_SF_scrub 84 = .ok (.ifCond .eq 7, 3) := by decide +kernel
theorem d_SF_scrub_87 : decode c_SF_scrub 87 = .ok (.iconst 1, 1) := by decide +kernel
theorem d_SF_scrub_88 : decode c_SF_scrub 88 = .ok (.goto 4, 3) := by decide +kernel
theorem d_SF_scrub_91 : decode c_SF_scrub 91 = .ok (.iconst (-1), 1) := by decide +kernel
theorem d_SF_scrub_92 : decode c_SF_scrub 92 = .ok (.ireturn, 1) := by decide +kernel
theorem d_SF_scrub_93 : decode c_SF_scrub 93 = .ok (.aload_n 0, 1) := by decide +kernel
theorem d_SF_scrub_94 : decode c_SF_scrub 94 = .ok (.iload_n 1, 1) := by decide +kernel
theorem d_SF_scrub_95 : decode c_SF_scrub 95 = .ok (.invokevirtual 220, 3) := by decide +kernel
theorem d_SF_scrub_98 : decode c_SF_scrub 98 = .ok (.ifCond .eq 13, 3) := by decide +kernel
theorem d_SF_scrub_101 : decode c_SF_scrub 101 = .ok (.aload_n 0, 1) := by decide +kernel
theorem d_SF_scrub_102 : decode c_SF_scrub 102 = .ok (.dup, 1) := by decide +kernel
theorem d_SF_scrub_103 : decode c_SF_scrub 103 = .ok (.getfield 223, 3) := by decide +kernel
theorem d_SF_scrub_106 : decode c_SF_scrub 106 = .ok (.iconst 1, 1) := by decide +kernel
theorem d_SF_scrub_107 : decode c_SF_scrub 107 = .ok (.iadd, 1) := by decide +kernel
theorem d_SF_scrub_108 : decode c_SF_scrub 108 = .ok (.putfield 223, 3) := by decide +kernel
theorem d_SF_scrub_111 : decode c_SF_scrub 111 = .ok (.iconst 0, 1) := by decide +kernel
theorem d_SF_scrub_112 : decode c_SF_scrub 112 = .ok (.ireturn, 1) := by decide +kernel
abbrev c_SF_spoiltColumn : ByteArray := prog_1_method_34_code
abbrev y_SF_spoiltColumn : MethodName := ⟨"StripeField", "spoiltColumn", "(I)I"⟩
theorem d_SF_spoiltColumn_0 : decode c_SF_spoiltColumn 0 = .ok (.iconst 0, 1) := by decide +kernel
theorem d_SF_spoiltColumn_1 : decode c_SF_spoiltColumn 1 = .ok (.istore_n 2, 1) := by decide +kernel
theorem d_SF_spoiltColumn_2 : decode c_SF_spoiltColumn 2 = .ok (.iload_n 2, 1) := by decide +kernel
theorem d_SF_spoiltColumn_3 : decode c_SF_spoiltColumn 3 = .ok (.aload_n 0, 1) := by decide +kernel
theorem d_SF_spoiltColumn_4 : decode c_SF_spoiltColumn 4 = .ok (.getfield 12, 3) := by decide +kernel
theorem d_SF_spoiltColumn_7 : decode c_SF_spoiltColumn 7 = .ok (.getfield 238, 3) := by decide +kernel
theorem d_SF_spoiltColumn_10 : decode c_SF_spoiltColumn 10 = .ok (.if_icmp .ge 34, 3) := by decide +kernel
theorem d_SF_spoiltColumn_13 : decode c_SF_spoiltColumn 13 = .ok (.aload_n 0, 1) := by decide +kernel
theorem d_SF_spoiltColumn_14 : decode c_SF_spoiltColumn 14 = .ok (.iload_n 1, 1) := by decide +kernel
theorem d_SF_spoiltColumn_15 : decode c_SF_spoiltColumn 15 = .ok (.iload_n 2, 1) := by decide +kernel
theorem d_SF_spoiltColumn_16 : decode c_SF_spoiltColumn 16 = .ok (.invokevirtual 268, 3) := by decide +kernel
theorem d_SF_spoiltColumn_19 : decode c_SF_spoiltColumn 19 = .ok (.istore_n 3, 1) := by decide +kernel
theorem d_SF_spoiltColumn_20 : decode c_SF_spoiltColumn 20 = .ok (.iload_n 3, 1) := by decide +kernel
theorem d_SF_spoiltColumn_21 : decode c_SF_spoiltColumn 21 = .ok (.iconst (-1), 1) := by decide +kernel
theorem d_SF_spoiltColumn_22 : decode c_SF_spoiltColumn 22 = .ok (.if_icmp .eq 16, 3) := by decide +kernel
theorem d_SF_spoiltColumn_25 : decode c_SF_spoiltColumn 25 = .ok (.aload_n 0, 1) := by decide +kernel
theorem d_SF_spoiltColumn_26 : decode c_SF_spoiltColumn 26 = .ok (.getfield 23, 3) := by decide +kernel
theorem d_SF_spoiltColumn_29 : decode c_SF_spoiltColumn 29 = .ok (.iload_n 3, 1) := by decide +kernel
theorem d_SF_spoiltColumn_30 : decode c_SF_spoiltColumn 30 = .ok (.invokevirtual 280, 3) := by decide +kernel
theorem d_SF_spoiltColumn_33 : decode c_SF_spoiltColumn 33 = .ok (.ifCond .ne 5, 3) := by decide +kernel
theorem d_SF_spoiltColumn_36 : decode c_SF_spoiltColumn 36 = .ok (.iload_n 2, 1) := by decide +kernel
theorem d_SF_spoiltColumn_37 : decode c_SF_spoiltColumn 37 = .ok (.ireturn, 1) := by decide +kernel
theorem d_SF_spoiltColumn_38 : decode c_SF_spoiltColumn 38 = .ok (.iinc 2 1, 3) := by decide +kernel
theorem d_SF_spoiltColumn_41 : decode c_SF_spoiltColumn 41 = .ok (.goto (-39), 3) := by decide +kernel
theorem d_SF_spoiltColumn_44 : decode c_SF_spoiltColumn 44 = .ok (.iconst (-1), 1) := by decide +kernel
theorem d_SF_spoiltColumn_45 : decode c_SF_spoiltColumn 45 = .ok (.ireturn, 1) := by decide +kernel
abbrev c_SF_isHole : ByteArray := prog_1_method_35_code
abbrev y_SF_isHole : MethodName := ⟨"StripeField", "isHole", "(I)Z"⟩
theorem d_SF_isHole_0 : decode c_SF_isHole 0 = .ok (.aload_n 0, 1) := by decide +kernel
theorem d_SF_isHole_1 : decode c_SF_isHole 1 = .ok (.getfield 50, 3) := by decide +kernel
theorem d_SF_isHole_4 : decode c_SF_isHole 4 = .ok (.lconst 0, 1) := by decide +kernel
theorem d_SF_isHole_5 : decode c_SF_isHole 5 = .ok (.invokestatic 103, 3) := by decide +kernel
theorem d_SF_isHole_8 : decode c_SF_isHole 8 = .ok (.iconst 0, 1) := by decide +kernel
theorem d_SF_isHole_9 : decode c_SF_isHole 9 = .ok (.istore_n 2, 1) := by decide +kernel
theorem d_SF_isHole_10 : decode c_SF_isHole 10 = .ok (.iload_n 2, 1) := by decide +kernel
theorem d_SF_isHole_11 : decode c_SF_isHole 11 = .ok (.aload_n 0, 1) := by decide +kernel
theorem d_SF_isHole_12 : decode c_SF_isHole 12 = .ok (.getfield 12, 3) := by decide +kernel
theorem d_SF_isHole_15 : decode c_SF_isHole 15 = .ok (.getfield 238, 3) := by decide +kernel
theorem d_SF_isHole_18 : decode c_SF_isHole 18 = .ok (.if_icmp .ge 35, 3) := by decide +kernel
theorem d_SF_isHole_21 : decode c_SF_isHole 21 = .ok (.aload_n 0, 1) := by decide +kernel
theorem d_SF_isHole_22 : decode c_SF_isHole 22 = .ok (.iload_n 1, 1) := by decide +kernel
theorem d_SF_isHole_23 : decode c_SF_isHole 23 = .ok (.iload_n 2, 1) := by decide +kernel
theorem d_SF_isHole_24 : decode c_SF_isHole 24 = .ok (.invokevirtual 268, 3) := by decide +kernel
theorem d_SF_isHole_27 : decode c_SF_isHole 27 = .ok (.istore_n 3, 1) := by decide +kernel
theorem d_SF_isHole_28 : decode c_SF_isHole 28 = .ok (.iload_n 3, 1) := by decide +kernel
theorem d_SF_isHole_29 : decode c_SF_isHole 29 = .ok (.iconst (-1), 1) := by decide +kernel
theorem d_SF_isHole_30 : decode c_SF_isHole 30 = .ok (.if_icmp .ne 5, 3) := by decide +kernel
theorem d_SF_isHole_33 : decode c_SF_isHole 33 = .ok (.iconst 0, 1) := by decide +kernel
theorem d_SF_isHole_34 : decode c_SF_isHole 34 = .ok (.ireturn, 1) := by decide +kernel
theorem d_SF_isHole_35 : decode c_SF_isHole 35 = .ok (.aload_n 0, 1) := by decide +kernel
theorem d_SF_isHole_36 : decode c_SF_isHole 36 = .ok (.getfield 23, 3) := by decide +kernel
theorem d_SF_isHole_39 : decode c_SF_isHole 39 = .ok (.aload_n 0, 1) := by decide +kernel
theorem d_SF_isHole_40 : decode c_SF_isHole 40 = .ok (.getfield 50, 3) := by decide +kernel
theorem d_SF_isHole_43 : decode c_SF_isHole 43 = .ok (.iload_n 3, 1) := by decide +kernel
theorem d_SF_isHole_44 : decode c_SF_isHole 44 = .ok (.invokevirtual 283, 3) := by decide +kernel
theorem d_SF_isHole_47 : decode c_SF_isHole 47 = .ok (.iinc 2 1, 3) := by decide +kernel
theorem d_SF_isHole_50 : decode c_SF_isHole 50 = .ok (.goto (-40), 3) := by decide +kernel
theorem d_SF_isHole_53 : decode c_SF_isHole 53 = .ok (.iconst 0, 1) := by decide +kernel
theorem d_SF_isHole_54 : decode c_SF_isHole 54 = .ok (.istore_n 2, 1) := by decide +kernel
theorem d_SF_isHole_55 : decode c_SF_isHole 55 = .ok (.iload_n 2, 1) := by decide +kernel
theorem d_SF_isHole_56 : decode c_SF_isHole 56 = .ok (.bipush 8, 2) := by decide +kernel
theorem d_SF_isHole_58 : decode c_SF_isHole 58 = .ok (.if_icmp .ge 22, 3) := by decide +kernel
theorem d_SF_isHole_61 : decode c_SF_isHole 61 = .ok (.aload_n 0, 1) := by decide +kernel
theorem d_SF_isHole_62 : decode c_SF_isHole 62 = .ok (.getfield 50, 3) := by decide +kernel
theorem d_SF_isHole_65 : decode c_SF_isHole 65 = .ok (.iload_n 2, 1) := by decide +kernel
theorem d_SF_isHole_66 : decode c_SF_isHole 66 = .ok (.laload, 1) := by decide +kernel
theorem d_SF_isHole_67 : decode c_SF_isHole 67 = .ok (.lconst 0, 1) := by decide +kernel
theorem d_SF_isHole_68 : decode c_SF_isHole 68 = .ok (.lcmp, 1) := by decide +kernel
theorem d_SF_isHole_69 : decode c_SF_isHole 69 = .ok (.ifCond .eq 5, 3) := by decide +kernel
theorem d_SF_isHole_72 : decode c_SF_isHole 72 = .ok (.iconst 1, 1) := by decide +kernel
theorem d_SF_isHole_73 : decode c_SF_isHole 73 = .ok (.ireturn, 1) := by decide +kernel
theorem d_SF_isHole_74 : decode c_SF_isHole 74 = .ok (.iinc 2 1, 3) := by decide +kernel
theorem d_SF_isHole_77 : decode c_SF_isHole 77 = .ok (.goto (-22), 3) := by decide +kernel
theorem d_SF_isHole_80 : decode c_SF_isHole 80 = .ok (.iconst 0, 1) := by decide +kernel
theorem d_SF_isHole_81 : decode c_SF_isHole 81 = .ok (.ireturn, 1) := by decide +kernel
abbrev c_SF_look : ByteArray := prog_1_method_14_code
abbrev y_SF_look : MethodName := ⟨"StripeField", "look", "(I)I"⟩
theorem d_SF_look_0 : decode c_SF_look 0 = .ok (.iload_n 1, 1) := by decide +kernel
theorem d_SF_look_1 : decode c_SF_look 1 = .ok (.iconst 2, 1) := by decide +kernel
theorem d_SF_look_2 : decode c_SF_look 2 = .ok (.if_icmp .lt 12, 3) := by decide +kernel
theorem d_SF_look_5 : decode c_SF_look 5 = .ok (.iload_n 1, 1) := by decide +kernel
theorem d_SF_look_6 : decode c_SF_look 6 = .ok (.iconst 4, 1) := by decide +kernel
theorem d_SF_look_7 : decode c_SF_look 7 = .ok (.if_icmp .gt 7, 3) := by decide +kernel
theorem d_SF_look_10 : decode c_SF_look 10 = .ok (.aload_n 0, 1) := by decide +kernel
theorem d_SF_look_11 : decode c_SF_look 11 = .ok (.invokevirtual 145, 3) := by decide +kernel
theorem d_SF_look_14 : decode c_SF_look 14 = .ok (.iload_n 1, 1) := by decide +kernel
theorem d_SF_look_15 : decode c_SF_look 15 = .ok (.tableswitch 168 0 12 #[65, 81, 89, 97, 105, 113, 121, 126, 134, 139, 147, 155, 163], 65) := by decide +kernel
theorem d_SF_look_80 : decode c_SF_look 80 = .ok (.aload_n 0, 1) := by decide +kernel
theorem d_SF_look_81 : decode c_SF_look 81 = .ok (.getfield 39, 3) := by decide +kernel
theorem d_SF_look_84 : decode c_SF_look 84 = .ok (.getfield 81, 3) := by decide +kernel
theorem d_SF_look_87 : decode c_SF_look 87 = .ok (.ifCond .eq 7, 3) := by decide +kernel
theorem d_SF_look_90 : decode c_SF_look 90 = .ok (.iconst 1, 1) := by decide +kernel
theorem d_SF_look_91 : decode c_SF_look 91 = .ok (.goto 4, 3) := by decide +kernel
theorem d_SF_look_94 : decode c_SF_look 94 = .ok (.iconst 0, 1) := by decide +kernel
theorem d_SF_look_95 : decode c_SF_look 95 = .ok (.ireturn, 1) := by decide +kernel
theorem d_SF_look_96 : decode c_SF_look 96 = .ok (.aload_n 0, 1) := by decide +kernel
theorem d_SF_look_97 : decode c_SF_look 97 = .ok (.getfield 39, 3) := by decide +kernel
theorem d_SF_look_100 : decode c_SF_look 100 = .ok (.getfield 226, 3) := by decide +kernel
theorem d_SF_look_103 : decode c_SF_look 103 = .ok (.ireturn, 1) := by decide +kernel
theorem d_SF_look_104 : decode c_SF_look 104 = .ok (.aload_n 0, 1) := by decide +kernel
theorem d_SF_look_105 : decode c_SF_look 105 = .ok (.getfield 32, 3) := by decide +kernel
theorem d_SF_look_108 : decode c_SF_look 108 = .ok (.invokevirtual 229, 3) := by decide +kernel
theorem d_SF_look_111 : decode c_SF_look 111 = .ok (.ireturn, 1) := by decide +kernel
theorem d_SF_look_112 : decode c_SF_look 112 = .ok (.aload_n 0, 1) := by decide +kernel
theorem d_SF_look_113 : decode c_SF_look 113 = .ok (.getfield 32, 3) := by decide +kernel
theorem d_SF_look_116 : decode c_SF_look 116 = .ok (.invokevirtual 232, 3) := by decide +kernel
theorem d_SF_look_119 : decode c_SF_look 119 = .ok (.ireturn, 1) := by decide +kernel
theorem d_SF_look_120 : decode c_SF_look 120 = .ok (.aload_n 0, 1) := by decide +kernel
theorem d_SF_look_121 : decode c_SF_look 121 = .ok (.getfield 32, 3) := by decide +kernel
theorem d_SF_look_124 : decode c_SF_look 124 = .ok (.invokevirtual 235, 3) := by decide +kernel
theorem d_SF_look_127 : decode c_SF_look 127 = .ok (.ireturn, 1) := by decide +kernel
theorem d_SF_look_128 : decode c_SF_look 128 = .ok (.aload_n 0, 1) := by decide +kernel
theorem d_SF_look_129 : decode c_SF_look 129 = .ok (.getfield 12, 3) := by decide +kernel
theorem d_SF_look_132 : decode c_SF_look 132 = .ok (.getfield 76, 3) := by decide +kernel
theorem d_SF_look_135 : decode c_SF_look 135 = .ok (.ireturn, 1) := by decide +kernel
theorem d_SF_look_136 : decode c_SF_look 136 = .ok (.aload_n 0, 1) := by decide +kernel
theorem d_SF_look_137 : decode c_SF_look 137 = .ok (.getfield 223, 3) := by decide +kernel
theorem d_SF_look_140 : decode c_SF_look 140 = .ok (.ireturn, 1) := by decide +kernel
theorem d_SF_look_141 : decode c_SF_look 141 = .ok (.aload_n 0, 1) := by decide +kernel
theorem d_SF_look_142 : decode c_SF_look 142 = .ok (.getfield 12, 3) := by decide +kernel
theorem d_SF_look_145 : decode c_SF_look 145 = .ok (.getfield 207, 3) := by decide +kernel
theorem d_SF_look_148 : decode c_SF_look 148 = .ok (.ireturn, 1) := by decide +kernel
theorem d_SF_look_149 : decode c_SF_look 149 = .ok (.aload_n 0, 1) := by decide +kernel
theorem d_SF_look_150 : decode c_SF_look 150 = .ok (.getfield 123, 3) := by decide +kernel
theorem d_SF_look_153 : decode c_SF_look 153 = .ok (.ireturn, 1) := by decide +kernel
theorem d_SF_look_154 : decode c_SF_look 154 = .ok (.aload_n 0, 1) := by decide +kernel
theorem d_SF_look_155 : decode c_SF_look 155 = .ok (.getfield 12, 3) := by decide +kernel
theorem d_SF_look_158 : decode c_SF_look 158 = .ok (.getfield 238, 3) := by decide +kernel
theorem d_SF_look_161 : decode c_SF_look 161 = .ok (.ireturn, 1) := by decide +kernel
theorem d_SF_look_162 : decode c_SF_look 162 = .ok (.aload_n 0, 1) := by decide +kernel
theorem d_SF_look_163 : decode c_SF_look 163 = .ok (.getfield 12, 3) := by decide +kernel
theorem d_SF_look_166 : decode c_SF_look 166 = .ok (.getfield 136, 3) := by decide +kernel
theorem d_SF_look_169 : decode c_SF_look 169 = .ok (.ireturn, 1) := by decide +kernel
theorem d_SF_look_170 : decode c_SF_look 170 = .ok (.aload_n 0, 1) := by decide +kernel
theorem d_SF_look_171 : decode c_SF_look 171 = .ok (.getfield 23, 3) := by decide +kernel
theorem d_SF_look_174 : decode c_SF_look 174 = .ok (.invokevirtual 241, 3) := by decide +kernel
theorem d_SF_look_177 : decode c_SF_look 177 = .ok (.ireturn, 1) := by decide +kernel
theorem d_SF_look_178 : decode c_SF_look 178 = .ok (.aload_n 0, 1) := by decide +kernel
theorem d_SF_look_179 : decode c_SF_look 179 = .ok (.getfield 63, 3) := by decide +kernel
theorem d_SF_look_182 : decode c_SF_look 182 = .ok (.ireturn, 1) := by decide +kernel
theorem d_SF_look_183 : decode c_SF_look 183 = .ok (.new 56, 3) := by decide +kernel
theorem d_SF_look_186 : decode c_SF_look 186 = .ok (.dup, 1) := by decide +kernel
theorem d_SF_look_187 : decode c_SF_look 187 = .ok (.ldc 244, 2) := by decide +kernel
theorem d_SF_look_189 : decode c_SF_look 189 = .ok (.invokespecial 60, 3) := by decide +kernel
theorem d_SF_look_192 : decode c_SF_look 192 = .ok (.athrow, 1) := by decide +kernel
abbrev c_SF_place : ByteArray := prog_1_method_15_code
abbrev y_SF_place : MethodName := ⟨"StripeField", "place", "(II)I"⟩
theorem d_SF_place_0 : decode c_SF_place 0 = .ok (.iload_n 1, 1) := by decide +kernel
theorem d_SF_place_1 : decode c_SF_place 1 = .ok (.ifCond .lt 14, 3) := by decide +kernel
theorem d_SF_place_4 : decode c_SF_place 4 = .ok (.iload_n 1, 1) := by decide +kernel
theorem d_SF_place_5 : decode c_SF_place 5 = .ok (.aload_n 0, 1) := by decide +kernel
theorem d_SF_place_6 : decode c_SF_place 6 = .ok (.getfield 12, 3) := by decide +kernel
theorem d_SF_place_9 : decode c_SF_place 9 = .ok (.getfield 159, 3) := by decide +kernel
theorem d_SF_place_12 : decode c_SF_place 12 = .ok (.if_icmp .lt 13, 3) := by decide +kernel
theorem d_SF_place_15 : decode c_SF_place 15 = .ok (.new 56, 3) := by decide +kernel
theorem d_SF_place_18 : decode c_SF_place 18 = .ok (.dup, 1) := by decide +kernel
theorem d_SF_place_19 : decode c_SF_place 19 = .ok (.ldc 246, 2) := by decide +kernel
theorem d_SF_place_21 : decode c_SF_place 21 = .ok (.invokespecial 60, 3) := by decide +kernel
theorem d_SF_place_24 : decode c_SF_place 24 = .ok (.athrow, 1) := by decide +kernel
theorem d_SF_place_25 : decode c_SF_place 25 = .ok (.iload_n 2, 1) := by decide +kernel
theorem d_SF_place_26 : decode c_SF_place 26 = .ok (.ifCond .lt 14, 3) := by decide +kernel
theorem d_SF_place_29 : decode c_SF_place 29 = .ok (.iload_n 2, 1) := by decide +kernel
theorem d_SF_place_30 : decode c_SF_place 30 = .ok (.aload_n 0, 1) := by decide +kernel
theorem d_SF_place_31 : decode c_SF_place 31 = .ok (.getfield 12, 3) := by decide +kernel
theorem d_SF_place_34 : decode c_SF_place 34 = .ok (.getfield 248, 3) := by decide +kernel
theorem d_SF_place_37 : decode c_SF_place 37 = .ok (.if_icmp .lt 13, 3) := by decide +kernel
theorem d_SF_place_40 : decode c_SF_place 40 = .ok (.new 56, 3) := by decide +kernel
theorem d_SF_place_43 : decode c_SF_place 43 = .ok (.dup, 1) := by decide +kernel
theorem d_SF_place_44 : decode c_SF_place 44 = .ok (.ldc 251, 2) := by decide +kernel
theorem d_SF_place_46 : decode c_SF_place 46 = .ok (.invokespecial 60, 3) := by decide +kernel
theorem d_SF_place_49 : decode c_SF_place 49 = .ok (.athrow, 1) := by decide +kernel
theorem d_SF_place_50 : decode c_SF_place 50 = .ok (.aload_n 0, 1) := by decide +kernel
theorem d_SF_place_51 : decode c_SF_place 51 = .ok (.invokevirtual 145, 3) := by decide +kernel
theorem d_SF_place_54 : decode c_SF_place 54 = .ok (.aload_n 0, 1) := by decide +kernel
theorem d_SF_place_55 : decode c_SF_place 55 = .ok (.getfield 32, 3) := by decide +kernel
theorem d_SF_place_58 : decode c_SF_place 58 = .ok (.getfield 197, 3) := by decide +kernel
theorem d_SF_place_61 : decode c_SF_place 61 = .ok (.aload_n 0, 1) := by decide +kernel
theorem d_SF_place_62 : decode c_SF_place 62 = .ok (.getfield 12, 3) := by decide +kernel
theorem d_SF_place_65 : decode c_SF_place 65 = .ok (.iload_n 1, 1) := by decide +kernel
theorem d_SF_place_66 : decode c_SF_place 66 = .ok (.iload_n 2, 1) := by decide +kernel
theorem d_SF_place_67 : decode c_SF_place 67 = .ok (.invokevirtual 253, 3) := by decide +kernel
theorem d_SF_place_70 : decode c_SF_place 70 = .ok (.iaload, 1) := by decide +kernel
theorem d_SF_place_71 : decode c_SF_place 71 = .ok (.istore_n 3, 1) := by decide +kernel
theorem d_SF_place_72 : decode c_SF_place 72 = .ok (.iload_n 3, 1) := by decide +kernel
theorem d_SF_place_73 : decode c_SF_place 73 = .ok (.iconst (-1), 1) := by decide +kernel
theorem d_SF_place_74 : decode c_SF_place 74 = .ok (.if_icmp .ne 7, 3) := by decide +kernel
theorem d_SF_place_77 : decode c_SF_place 77 = .ok (.iconst (-1), 1) := by decide +kernel
theorem d_SF_place_78 : decode c_SF_place 78 = .ok (.goto 11, 3) := by decide +kernel
theorem d_SF_place_81 : decode c_SF_place 81 = .ok (.aload_n 0, 1) := by decide +kernel
theorem d_SF_place_82 : decode c_SF_place 82 = .ok (.getfield 12, 3) := by decide +kernel
theorem d_SF_place_85 : decode c_SF_place 85 = .ok (.iload_n 3, 1) := by decide +kernel
theorem d_SF_place_86 : decode c_SF_place 86 = .ok (.invokevirtual 256, 3) := by decide +kernel
theorem d_SF_place_89 : decode c_SF_place 89 = .ok (.ireturn, 1) := by decide +kernel
