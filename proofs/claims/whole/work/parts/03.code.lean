abbrev c_LA_init : ByteArray := prog_2_method_1_code
abbrev y_LA_init : MethodName := ⟨"StripeField$Layout", "<init>", "(III)V"⟩
theorem d_LA_init_0 : decode c_LA_init 0 = .ok (.aload_n 0, 1) := by decide +kernel
theorem d_LA_init_1 : decode c_LA_init 1 = .ok (.invokespecial 1, 3) := by decide +kernel
theorem d_LA_init_4 : decode c_LA_init 4 = .ok (.aload_n 0, 1) := by decide +kernel
theorem d_LA_init_5 : decode c_LA_init 5 = .ok (.iload_n 1, 1) := by decide +kernel
theorem d_LA_init_6 : decode c_LA_init 6 = .ok (.bipush 6, 2) := by decide +kernel
theorem d_LA_init_8 : decode c_LA_init 8 = .ok (.if_icmp .lt 13, 3) := by decide +kernel
theorem d_LA_init_11 : decode c_LA_init 11 = .ok (.iload_n 1, 1) := by decide +kernel
theorem d_LA_init_12 : decode c_LA_init 12 = .ok (.bipush 16, 2) := by decide +kernel
theorem d_LA_init_14 : decode c_LA_init 14 = .ok (.if_icmp .gt 7, 3) := by decide +kernel
theorem d_LA_init_17 : decode c_LA_init 17 = .ok (.iload_n 1, 1) := by decide +kernel
theorem d_LA_init_18 : decode c_LA_init 18 = .ok (.goto 5, 3) := by decide +kernel
theorem d_LA_init_21 : decode c_LA_init 21 = .ok (.bipush 8, 2) := by decide +kernel
theorem d_LA_init_23 : decode c_LA_init 23 = .ok (.putfield 7, 3) := by decide +kernel
theorem d_LA_init_26 : decode c_LA_init 26 = .ok (.aload_n 0, 1) := by decide +kernel
theorem d_LA_init_27 : decode c_LA_init 27 = .ok (.iload_n 2, 1) := by decide +kernel
theorem d_LA_init_28 : decode c_LA_init 28 = .ok (.iconst 3, 1) := by decide +kernel
theorem d_LA_init_29 : decode c_LA_init 29 = .ok (.if_icmp .lt 21, 3) := by decide +kernel
theorem d_LA_init_32 : decode c_LA_init 32 = .ok (.iload_n 2, 1) := by decide +kernel
theorem d_LA_init_33 : decode c_LA_init 33 = .ok (.bipush 8, 2) := by decide +kernel
theorem d_LA_init_35 : decode c_LA_init 35 = .ok (.if_icmp .gt 15, 3) := by decide +kernel
theorem d_LA_init_38 : decode c_LA_init 38 = .ok (.iload_n 2, 1) := by decide +kernel
theorem d_LA_init_39 : decode c_LA_init 39 = .ok (.aload_n 0, 1) := by decide +kernel
theorem d_LA_init_40 : decode c_LA_init 40 = .ok (.getfield 7, 3) := by decide +kernel
theorem d_LA_init_43 : decode c_LA_init 43 = .ok (.if_icmp .ge 7, 3) := by decide +kernel
theorem d_LA_init_46 : decode c_LA_init 46 = .ok (.iload_n 2, 1) := by decide +kernel
theorem d_LA_init_47 : decode c_LA_init 47 = .ok (.goto 4, 3) := by decide +kernel
theorem d_LA_init_50 : decode c_LA_init 50 = .ok (.iconst 3, 1) := by decide +kernel
theorem d_LA_init_51 : decode c_LA_init 51 = .ok (.putfield 13, 3) := by decide +kernel
theorem d_LA_init_54 : decode c_LA_init 54 = .ok (.aload_n 0, 1) := by decide +kernel
theorem d_LA_init_55 : decode c_LA_init 55 = .ok (.iload_n 3, 1) := by decide +kernel
theorem d_LA_init_56 : decode c_LA_init 56 = .ok (.bipush 48, 2) := by decide +kernel
theorem d_LA_init_58 : decode c_LA_init 58 = .ok (.if_icmp .lt 13, 3) := by decide +kernel
theorem d_LA_init_61 : decode c_LA_init 61 = .ok (.iload_n 3, 1) := by decide +kernel
theorem d_LA_init_62 : decode c_LA_init 62 = .ok (.bipush 64, 2) := by decide +kernel
theorem d_LA_init_64 : decode c_LA_init 64 = .ok (.if_icmp .gt 7, 3) := by decide +kernel
theorem d_LA_init_67 : decode c_LA_init 67 = .ok (.iload_n 3, 1) := by decide +kernel
theorem d_LA_init_68 : decode c_LA_init 68 = .ok (.goto 5, 3) := by decide +kernel
theorem d_LA_init_71 : decode c_LA_init 71 = .ok (.bipush 48, 2) := by decide +kernel
theorem d_LA_init_73 : decode c_LA_init 73 = .ok (.putfield 16, 3) := by decide +kernel
theorem d_LA_init_76 : decode c_LA_init 76 = .ok (.aload_n 0, 1) := by decide +kernel
theorem d_LA_init_77 : decode c_LA_init 77 = .ok (.aload_n 0, 1) := by decide +kernel
theorem d_LA_init_78 : decode c_LA_init 78 = .ok (.getfield 7, 3) := by decide +kernel
theorem d_LA_init_81 : decode c_LA_init 81 = .ok (.iconst 1, 1) := by decide +kernel
theorem d_LA_init_82 : decode c_LA_init 82 = .ok (.isub, 1) := by decide +kernel
theorem d_LA_init_83 : decode c_LA_init 83 = .ok (.aload_n 0, 1) := by decide +kernel
theorem d_LA_init_84 : decode c_LA_init 84 = .ok (.getfield 13, 3) := by decide +kernel
theorem d_LA_init_87 : decode c_LA_init 87 = .ok (.idiv, 1) := by decide +kernel
theorem d_LA_init_88 : decode c_LA_init 88 = .ok (.putfield 19, 3) := by decide +kernel
theorem d_LA_init_91 : decode c_LA_init 91 = .ok (.aload_n 0, 1) := by decide +kernel
theorem d_LA_init_92 : decode c_LA_init 92 = .ok (.aload_n 0, 1) := by decide +kernel
theorem d_LA_init_93 : decode c_LA_init 93 = .ok (.getfield 16, 3) := by decide +kernel
theorem d_LA_init_96 : decode c_LA_init 96 = .ok (.aload_n 0, 1) := by decide +kernel
theorem d_LA_init_97 : decode c_LA_init 97 = .ok (.getfield 19, 3) := by decide +kernel
theorem d_LA_init_100 : decode c_LA_init 100 = .ok (.imul, 1) := by decide +kernel
theorem d_LA_init_101 : decode c_LA_init 101 = .ok (.putfield 22, 3) := by decide +kernel
theorem d_LA_init_104 : decode c_LA_init 104 = .ok (.aload_n 0, 1) := by decide +kernel
theorem d_LA_init_105 : decode c_LA_init 105 = .ok (.aload_n 0, 1) := by decide +kernel
theorem d_LA_init_106 : decode c_LA_init 106 = .ok (.getfield 13, 3) := by decide +kernel
theorem d_LA_init_109 : decode c_LA_init 109 = .ok (.iconst 1, 1) := by decide +kernel
theorem d_LA_init_110 : decode c_LA_init 110 = .ok (.isub, 1) := by decide +kernel
theorem d_LA_init_111 : decode c_LA_init 111 = .ok (.putfield 25, 3) := by decide +kernel
theorem d_LA_init_114 : decode c_LA_init 114 = .ok (.aload_n 0, 1) := by decide +kernel
theorem d_LA_init_115 : decode c_LA_init 115 = .ok (.aload_n 0, 1) := by decide +kernel
theorem d_LA_init_116 : decode c_LA_init 116 = .ok (.getfield 22, 3) := by decide +kernel
theorem d_LA_init_119 : decode c_LA_init 119 = .ok (.aload_n 0, 1) := by decide +kernel
theorem d_LA_init_120 : decode c_LA_init 120 = .ok (.getfield 25, 3) := by decide +kernel
theorem d_LA_init_123 : decode c_LA_init 123 = .ok (.imul, 1) := by decide +kernel
theorem d_LA_init_124 : decode c_LA_init 124 = .ok (.putfield 28, 3) := by decide +kernel
theorem d_LA_init_127 : decode c_LA_init 127 = .ok (.aload_n 0, 1) := by decide +kernel
theorem d_LA_init_128 : decode c_LA_init 128 = .ok (.aload_n 0, 1) := by decide +kernel
theorem d_LA_init_129 : decode c_LA_init 129 = .ok (.getfield 13, 3) := by decide +kernel
theorem d_LA_init_132 : decode c_LA_init 132 = .ok (.aload_n 0, 1) := by decide +kernel
theorem d_LA_init_133 : decode c_LA_init 133 = .ok (.getfield 19, 3) := by decide +kernel
theorem d_LA_init_136 : decode c_LA_init 136 = .ok (.imul, 1) := by decide +kernel
theorem d_LA_init_137 : decode c_LA_init 137 = .ok (.putfield 31, 3) := by decide +kernel
theorem d_LA_init_140 : decode c_LA_init 140 = .ok (.aload_n 0, 1) := by decide +kernel
theorem d_LA_init_141 : decode c_LA_init 141 = .ok (.aload_n 0, 1) := by decide +kernel
theorem d_LA_init_142 : decode c_LA_init 142 = .ok (.getfield 7, 3) := by decide +kernel
theorem d_LA_init_145 : decode c_LA_init 145 = .ok (.aload_n 0, 1) := by decide +kernel
theorem d_LA_init_146 : decode c_LA_init 146 = .ok (.getfield 16, 3) := by decide +kernel
theorem d_LA_init_149 : decode c_LA_init 149 = .ok (.iconst 1, 1) := by decide +kernel
theorem d_LA_init_150 : decode c_LA_init 150 = .ok (.iadd, 1) := by decide +kernel
theorem d_LA_init_151 : decode c_LA_init 151 = .ok (.imul, 1) := by decide +kernel
theorem d_LA_init_152 : decode c_LA_init 152 = .ok (.putfield 34, 3) := by decide +kernel
theorem d_LA_init_155 : decode c_LA_init 155 = .ok (.aload_n 0, 1) := by decide +kernel
theorem d_LA_init_156 : decode c_LA_init 156 = .ok (.aload_n 0, 1) := by decide +kernel
theorem d_LA_init_157 : decode c_LA_init 157 = .ok (.getfield 7, 3) := by decide +kernel
theorem d_LA_init_160 : decode c_LA_init 160 = .ok (.aload_n 0, 1) := by decide +kernel
theorem d_LA_init_161 : decode c_LA_init 161 = .ok (.getfield 16, 3) := by decide +kernel
theorem d_LA_init_164 : decode c_LA_init 164 = .ok (.invokestatic 37, 3) := by decide +kernel
theorem d_LA_init_167 : decode c_LA_init 167 = .ok (.putfield 41, 3) := by decide +kernel
theorem d_LA_init_170 : decode c_LA_init 170 = .ok (.return_, 1) := by decide +kernel
abbrev c_LA_homes : ByteArray := prog_2_method_2_code
abbrev y_LA_homes : MethodName := ⟨"StripeField$Layout", "homes", "(II)[I"⟩
theorem d_LA_homes_0 : decode c_LA_homes 0 = .ok (.iload_n 0, 1) := by decide +kernel
theorem d_LA_homes_1 : decode c_LA_homes 1 = .ok (.invokestatic 45, 3) := by decide +kernel
theorem d_LA_homes_4 : decode c_LA_homes 4 = .ok (.astore_n 2, 1) := by decide +kernel
theorem d_LA_homes_5 : decode c_LA_homes 5 = .ok (.iload_n 1, 1) := by decide +kernel
theorem d_LA_homes_6 : decode c_LA_homes 6 = .ok (.iload_n 0, 1) := by decide +kernel
theorem d_LA_homes_7 : decode c_LA_homes 7 = .ok (.imul, 1) := by decide +kernel
theorem d_LA_homes_8 : decode c_LA_homes 8 = .ok (.newarray .int, 2) := by decide +kernel
theorem d_LA_homes_10 : decode c_LA_homes 10 = .ok (.astore_n 3, 1) := by decide +kernel
theorem d_LA_homes_11 : decode c_LA_homes 11 = .ok (.iconst 0, 1) := by decide +kernel
theorem d_LA_homes_12 : decode c_LA_homes 12 = .ok (.istore 4, 2) := by decide +kernel
theorem d_LA_homes_14 : decode c_LA_homes 14 = .ok (.iload 4, 2) := by decide +kernel
theorem d_LA_homes_16 : decode c_LA_homes 16 = .ok (.iload_n 1, 1) := by decide +kernel
theorem d_LA_homes_17 : decode c_LA_homes 17 = .ok (.if_icmp .ge 63, 3) := by decide +kernel
theorem d_LA_homes_20 : decode c_LA_homes 20 = .ok (.aload_n 2, 1) := by decide +kernel
theorem d_LA_homes_21 : decode c_LA_homes 21 = .ok (.iload 4, 2) := by decide +kernel
theorem d_LA_homes_23 : decode c_LA_homes 23 = .ok (.aload_n 2, 1) := by decide +kernel
theorem d_LA_homes_24 : decode c_LA_homes 24 = .ok (.arraylength, 1) := by decide +kernel
theorem d_LA_homes_25 : decode c_LA_homes 25 = .ok (.irem, 1) := by decide +kernel
theorem d_LA_homes_26 : decode c_LA_homes 26 = .ok (.iaload, 1) := by decide +kernel
theorem d_LA_homes_27 : decode c_LA_homes 27 = .ok (.istore 5, 2) := by decide +kernel
theorem d_LA_homes_29 : decode c_LA_homes 29 = .ok (.iconst 0, 1) := by decide +kernel
theorem d_LA_homes_30 : decode c_LA_homes 30 = .ok (.istore 6, 2) := by decide +kernel
theorem d_LA_homes_32 : decode c_LA_homes 32 = .ok (.iload 6, 2) := by decide +kernel
theorem d_LA_homes_34 : decode c_LA_homes 34 = .ok (.iload_n 0, 1) := by decide +kernel
theorem d_LA_homes_35 : decode c_LA_homes 35 = .ok (.if_icmp .ge 39, 3) := by decide +kernel
theorem d_LA_homes_38 : decode c_LA_homes 38 = .ok (.iload 4, 2) := by decide +kernel
theorem d_LA_homes_40 : decode c_LA_homes 40 = .ok (.iload 6, 2) := by decide +kernel
theorem d_LA_homes_42 : decode c_LA_homes 42 = .ok (.iload 5, 2) := by decide +kernel
theorem d_LA_homes_44 : decode c_LA_homes 44 = .ok (.imul, 1) := by decide +kernel
theorem d_LA_homes_45 : decode c_LA_homes 45 = .ok (.iadd, 1) := by decide +kernel
theorem d_LA_homes_46 : decode c_LA_homes 46 = .ok (.iload_n 0, 1) := by decide +kernel
theorem d_LA_homes_47 : decode c_LA_homes 47 = .ok (.irem, 1) := by decide +kernel
theorem d_LA_homes_48 : decode c_LA_homes 48 = .ok (.istore 7, 2) := by decide +kernel
theorem d_LA_homes_50 : decode c_LA_homes 50 = .ok (.aload_n 3, 1) := by decide +kernel
theorem d_LA_homes_51 : decode c_LA_homes 51 = .ok (.iload 4, 2) := by decide +kernel
theorem d_LA_homes_53 : decode c_LA_homes 53 = .ok (.iload_n 0, 1) := by decide +kernel
theorem d_LA_homes_54 : decode c_LA_homes 54 = .ok (.imul, 1) := by decide +kernel
theorem d_LA_homes_55 : decode c_LA_homes 55 = .ok (.iload 6, 2) := by decide +kernel
theorem d_LA_homes_57 : decode c_LA_homes 57 = .ok (.iadd, 1) := by decide +kernel
theorem d_LA_homes_58 : decode c_LA_homes 58 = .ok (.iload 7, 2) := by decide +kernel
theorem d_LA_homes_60 : decode c_LA_homes 60 = .ok (.iload_n 1, 1) := by decide +kernel
theorem d_LA_homes_61 : decode c_LA_homes 61 = .ok (.iconst 1, 1) := by decide +kernel
theorem d_LA_homes_62 : decode c_LA_homes 62 = .ok (.iadd, 1) := by decide +kernel
theorem d_LA_homes_63 : decode c_LA_homes 63 = .ok (.imul, 1) := by decide +kernel
theorem d_LA_homes_64 : decode c_LA_homes 64 = .ok (.iload 4, 2) := by decide +kernel
theorem d_LA_homes_66 : decode c_LA_homes 66 = .ok (.iadd, 1) := by decide +kernel
theorem d_LA_homes_67 : decode c_LA_homes 67 = .ok (.iastore, 1) := by decide +kernel
theorem d_LA_homes_68 : decode c_LA_homes 68 = .ok (.iinc 6 1, 3) := by decide +kernel
theorem d_LA_homes_71 : decode c_LA_homes 71 = .ok (.goto (-39), 3) := by decide +kernel
theorem d_LA_homes_74 : decode c_LA_homes 74 = .ok (.iinc 4 1, 3) := by decide +kernel
theorem d_LA_homes_77 : decode c_LA_homes 77 = .ok (.goto (-63), 3) := by decide +kernel
theorem d_LA_homes_80 : decode c_LA_homes 80 = .ok (.aload_n 3, 1) := by decide +kernel
theorem d_LA_homes_81 : decode c_LA_homes 81 = .ok (.areturn, 1) := by decide +kernel
abbrev c_LA_stepsOf : ByteArray := prog_2_method_3_code
abbrev y_LA_stepsOf : MethodName := ⟨"StripeField$Layout", "stepsOf", "(I)[I"⟩
theorem d_LA_stepsOf_0 : decode c_LA_stepsOf 0 = .ok (.iload_n 0, 1) := by decide +kernel
theorem d_LA_stepsOf_1 : decode c_LA_stepsOf 1 = .ok (.newarray .int, 2) := by decide +kernel
theorem d_LA_stepsOf_3 : decode c_LA_stepsOf 3 = .ok (.astore_n 1, 1) := by decide +kernel
theorem d_LA_stepsOf_4 : decode c_LA_stepsOf 4 = .ok (.iconst 0, 1) := by decide +kernel
theorem d_LA_stepsOf_5 : decode c_LA_stepsOf 5 = .ok (.istore_n 2, 1) := by decide +kernel
theorem d_LA_stepsOf_6 : decode c_LA_stepsOf 6 = .ok (.iconst 1, 1) := by decide +kernel
theorem d_LA_stepsOf_7 : decode c_LA_stepsOf 7 = .ok (.istore_n 3, 1) := by decide +kernel
theorem d_LA_stepsOf_8 : decode c_LA_stepsOf 8 = .ok (.iload_n 3, 1) := by decide +kernel
theorem d_LA_stepsOf_9 : decode c_LA_stepsOf 9 = .ok (.iload_n 0, 1) := by decide +kernel
theorem d_LA_stepsOf_10 : decode c_LA_stepsOf 10 = .ok (.if_icmp .ge 24, 3) := by decide +kernel
theorem d_LA_stepsOf_13 : decode c_LA_stepsOf 13 = .ok (.iload_n 3, 1) := by decide +kernel
theorem d_LA_stepsOf_14 : decode c_LA_stepsOf 14 = .ok (.iload_n 0, 1) := by decide +kernel
theorem d_LA_stepsOf_15 : decode c_LA_stepsOf 15 = .ok (.invokestatic 49, 3) := by decide +kernel
theorem d_LA_stepsOf_18 : decode c_LA_stepsOf 18 = .ok (.ifCond .eq 10, 3) := by decide +kernel
theorem d_LA_stepsOf_21 : decode c_LA_stepsOf 21 = .ok (.aload_n 1, 1) := by decide +kernel
theorem d_LA_stepsOf_22 : decode c_LA_stepsOf 22 = .ok (.iload_n 2, 1) := by decide +kernel
theorem d_LA_stepsOf_23 : decode c_LA_stepsOf 23 = .ok (.iload_n 3, 1) := by decide +kernel
theorem d_LA_stepsOf_24 : decode c_LA_stepsOf 24 = .ok (.iastore, 1) := by decide +kernel
theorem d_LA_stepsOf_25 : decode c_LA_stepsOf 25 = .ok (.iinc 2 1, 3) := by decide +kernel
theorem d_LA_stepsOf_28 : decode c_LA_stepsOf 28 = .ok (.iinc 3 1, 3) := by decide +kernel
theorem d_LA_stepsOf_31 : decode c_LA_stepsOf 31 = .ok (.goto (-23), 3) := by decide +kernel
theorem d_LA_stepsOf_34 : decode c_LA_stepsOf 34 = .ok (.aload_n 1, 1) := by decide +kernel
theorem d_LA_stepsOf_35 : decode c_LA_stepsOf 35 = .ok (.iload_n 2, 1) := by decide +kernel
theorem d_LA_stepsOf_36 : decode c_LA_stepsOf 36 = .ok (.invokestatic 53, 3) := by decide +kernel
theorem d_LA_stepsOf_39 : decode c_LA_stepsOf 39 = .ok (.areturn, 1) := by decide +kernel
abbrev c_LA_haveNoDivisorInCommon : ByteArray := prog_2_method_4_code
abbrev y_LA_haveNoDivisorInCommon : MethodName := ⟨"StripeField$Layout", "haveNoDivisorInCommon", "(II)Z"⟩
theorem d_LA_haveNoDivisorInCommon_0 : decode c_LA_haveNoDivisorInCommon 0 = .ok (.iconst 2, 1) := by decide +kernel
theorem d_LA_haveNoDivisorInCommon_1 : decode c_LA_haveNoDivisorInCommon 1 = .ok (.istore_n 2, 1) := by decide +kernel
theorem d_LA_haveNoDivisorInCommon_2 : decode c_LA_haveNoDivisorInCommon 2 = .ok (.iload_n 2, 1) := by decide +kernel
theorem d_LA_haveNoDivisorInCommon_3 : decode c_LA_haveNoDivisorInCommon 3 = .ok (.iload_n 0, 1) := by decide +kernel
theorem d_LA_haveNoDivisorInCommon_4 : decode c_LA_haveNoDivisorInCommon 4 = .ok (.if_icmp .gt 23, 3) := by decide +kernel
theorem d_LA_haveNoDivisorInCommon_7 : decode c_LA_haveNoDivisorInCommon 7 = .ok (.iload_n 0, 1) := by decide +kernel
theorem d_LA_haveNoDivisorInCommon_8 : decode c_LA_haveNoDivisorInCommon 8 = .ok (.iload_n 2, 1) := by decide +kernel
theorem d_LA_haveNoDivisorInCommon_9 : decode c_LA_haveNoDivisorInCommon 9 = .ok (.irem, 1) := by decide +kernel
theorem d_LA_haveNoDivisorInCommon_10 : decode c_LA_haveNoDivisorInCommon 10 = .ok (.ifCond .ne 11, 3) := by decide +kernel
theorem d_LA_haveNoDivisorInCommon_13 : decode c_LA_haveNoDivisorInCommon 13 = .ok (.iload_n 1, 1) := by decide +kernel
theorem d_LA_haveNoDivisorInCommon_14 : decode c_LA_haveNoDivisorInCommon 14 = .ok (.iload_n 2, 1) := by decide +kernel
theorem d_LA_haveNoDivisorInCommon_15 : decode c_LA_haveNoDivisorInCommon 15 = .ok (.irem, 1) := by decide +kernel
theorem d_LA_haveNoDivisorInCommon_16 : decode c_LA_haveNoDivisorInCommon 16 = .ok (.ifCond .ne 5, 3) := by decide +kernel
theorem d_LA_haveNoDivisorInCommon_19 : decode c_LA_haveNoDivisorInCommon 19 = .ok (.iconst 0, 1) := by decide +kernel
theorem d_LA_haveNoDivisorInCommon_20 : decode c_LA_haveNoDivisorInCommon 20 = .ok (.ireturn, 1) := by decide +kernel
theorem d_LA_haveNoDivisorInCommon_21 : decode c_LA_haveNoDivisorInCommon 21 = .ok (.iinc 2 1, 3) := by decide +kernel
theorem d_LA_haveNoDivisorInCommon_24 : decode c_LA_haveNoDivisorInCommon 24 = .ok (.goto (-22), 3) := by decide +kernel
theorem d_LA_haveNoDivisorInCommon_27 : decode c_LA_haveNoDivisorInCommon 27 = .ok (.iconst 1, 1) := by decide +kernel
theorem d_LA_haveNoDivisorInCommon_28 : decode c_LA_haveNoDivisorInCommon 28 = .ok (.ireturn, 1) := by decide +kernel
abbrev c_AR_copyOf : ByteArray := prog_17_method_123_code
abbrev y_AR_copyOf : MethodName := ⟨"java/util/Arrays", "copyOf", "([II)[I"⟩
theorem d_AR_copyOf_0 : decode c_AR_copyOf 0 = .ok (.iload_n 1, 1) := by decide +kernel
theorem d_AR_copyOf_1 : decode c_AR_copyOf 1 = .ok (.aload_n 0, 1) := by decide +kernel
theorem d_AR_copyOf_2 : decode c_AR_copyOf 2 = .ok (.arraylength, 1) := by decide +kernel
theorem d_AR_copyOf_3 : decode c_AR_copyOf 3 = .ok (.if_icmp .ne 11, 3) := by decide +kernel
theorem d_AR_copyOf_6 : decode c_AR_copyOf 6 = .ok (.aload_n 0, 1) := by decide +kernel
theorem d_AR_copyOf_7 : decode c_AR_copyOf 7 = .ok (.invokevirtual 316, 3) := by decide +kernel
theorem d_AR_copyOf_10 : decode c_AR_copyOf 10 = .ok (.checkcast 317, 3) := by decide +kernel
theorem d_AR_copyOf_13 : decode c_AR_copyOf 13 = .ok (.areturn, 1) := by decide +kernel
theorem d_AR_copyOf_14 : decode c_AR_copyOf 14 = .ok (.iload_n 1, 1) := by decide +kernel
theorem d_AR_copyOf_15 : decode c_AR_copyOf 15 = .ok (.newarray .int, 2) := by decide +kernel
theorem d_AR_copyOf_17 : decode c_AR_copyOf 17 = .ok (.astore_n 2, 1) := by decide +kernel
theorem d_AR_copyOf_18 : decode c_AR_copyOf 18 = .ok (.aload_n 0, 1) := by decide +kernel
theorem d_AR_copyOf_19 : decode c_AR_copyOf 19 = .ok (.iconst 0, 1) := by decide +kernel
theorem d_AR_copyOf_20 : decode c_AR_copyOf 20 = .ok (.aload_n 2, 1) := by decide +kernel
theorem d_AR_copyOf_21 : decode c_AR_copyOf 21 = .ok (.iconst 0, 1) := by decide +kernel
theorem d_AR_copyOf_22 : decode c_AR_copyOf 22 = .ok (.aload_n 0, 1) := by decide +kernel
theorem d_AR_copyOf_23 : decode c_AR_copyOf 23 = .ok (.arraylength, 1) := by decide +kernel
theorem d_AR_copyOf_24 : decode c_AR_copyOf 24 = .ok (.iload_n 1, 1) := by decide +kernel
theorem d_AR_copyOf_25 : decode c_AR_copyOf 25 = .ok (.invokestatic 304, 3) := by decide +kernel
theorem d_AR_copyOf_28 : decode c_AR_copyOf 28 = .ok (.invokestatic 150, 3) := by decide +kernel
theorem d_AR_copyOf_31 : decode c_AR_copyOf 31 = .ok (.aload_n 2, 1) := by decide +kernel
theorem d_AR_copyOf_32 : decode c_AR_copyOf 32 = .ok (.areturn, 1) := by decide +kernel
abbrev c_MA_min : ByteArray := prog_12_method_69_code
abbrev y_MA_min : MethodName := ⟨"java/lang/Math", "min", "(II)I"⟩
theorem d_MA_min_0 : decode c_MA_min 0 = .ok (.iload_n 0, 1) := by decide +kernel
theorem d_MA_min_1 : decode c_MA_min 1 = .ok (.iload_n 1, 1) := by decide +kernel
theorem d_MA_min_2 : decode c_MA_min 2 = .ok (.if_icmp .gt 7, 3) := by decide +kernel
theorem d_MA_min_5 : decode c_MA_min 5 = .ok (.iload_n 0, 1) := by decide +kernel
theorem d_MA_min_6 : decode c_MA_min 6 = .ok (.goto 4, 3) := by decide +kernel
theorem d_MA_min_9 : decode c_MA_min 9 = .ok (.iload_n 1, 1) := by decide +kernel
theorem d_MA_min_10 : decode c_MA_min 10 = .ok (.ireturn, 1) := by decide +kernel
abbrev c_RK_init : ByteArray := prog_5_method_1_code
abbrev y_RK_init : MethodName := ⟨"StripeField$Rack", "<init>", "(LStripeField$Layout;)V"⟩
theorem d_RK_init_0 : decode c_RK_init 0 = .ok (.aload_n 0, 1) := by decide +kernel
theorem d_RK_init_1 : decode c_RK_init 1 = .ok (.invokespecial 3, 3) := by decide +kernel
theorem d_RK_init_4 : decode c_RK_init 4 = .ok (.aload_n 0, 1) := by decide +kernel
theorem d_RK_init_5 : decode c_RK_init 5 = .ok (.aload_n 1, 1) := by decide +kernel
theorem d_RK_init_6 : decode c_RK_init 6 = .ok (.putfield 9, 3) := by decide +kernel
theorem d_RK_init_9 : decode c_RK_init 9 = .ok (.aload_n 0, 1) := by decide +kernel
theorem d_RK_init_10 : decode c_RK_init 10 = .ok (.aload_n 1, 1) := by decide +kernel
theorem d_RK_init_11 : decode c_RK_init 11 = .ok (.getfield 15, 3) := by decide +kernel
theorem d_RK_init_14 : decode c_RK_init 14 = .ok (.newarray .boolean, 2) := by decide +kernel
theorem d_RK_init_16 : decode c_RK_init 16 = .ok (.putfield 21, 3) := by decide +kernel
theorem d_RK_init_19 : decode c_RK_init 19 = .ok (.aload_n 0, 1) := by decide +kernel
theorem d_RK_init_20 : decode c_RK_init 20 = .ok (.aload_n 1, 1) := by decide +kernel
theorem d_RK_init_21 : decode c_RK_init 21 = .ok (.getfield 25, 3) := by decide +kernel
theorem d_RK_init_24 : decode c_RK_init 24 = .ok (.bipush 9, 2) := by decide +kernel
theorem d_RK_init_26 : decode c_RK_init 26 = .ok (.imul, 1) := by decide +kernel
theorem d_RK_init_27 : decode c_RK_init 27 = .ok (.newarray .long, 2) := by decide +kernel
theorem d_RK_init_29 : decode c_RK_init 29 = .ok (.putfield 28, 3) := by decide +kernel
theorem d_RK_init_32 : decode c_RK_init 32 = .ok (.aload_n 0, 1) := by decide +kernel
theorem d_RK_init_33 : decode c_RK_init 33 = .ok (.aload_n 1, 1) := by decide +kernel
theorem d_RK_init_34 : decode c_RK_init 34 = .ok (.getfield 25, 3) := by decide +kernel
theorem d_RK_init_37 : decode c_RK_init 37 = .ok (.bipush 9, 2) := by decide +kernel
theorem d_RK_init_39 : decode c_RK_init 39 = .ok (.imul, 1) := by decide +kernel
theorem d_RK_init_40 : decode c_RK_init 40 = .ok (.newarray .long, 2) := by decide +kernel
theorem d_RK_init_42 : decode c_RK_init 42 = .ok (.putfield 32, 3) := by decide +kernel
theorem d_RK_init_45 : decode c_RK_init 45 = .ok (.aload_n 0, 1) := by decide +kernel
theorem d_RK_init_46 : decode c_RK_init 46 = .ok (.aload_n 1, 1) := by decide +kernel
theorem d_RK_init_47 : decode c_RK_init 47 = .ok (.getfield 25, 3) := by decide +kernel
theorem d_RK_init_50 : decode c_RK_init 50 = .ok (.newarray .boolean, 2) := by decide +kernel
theorem d_RK_init_52 : decode c_RK_init 52 = .ok (.putfield 35, 3) := by decide +kernel
theorem d_RK_init_55 : decode c_RK_init 55 = .ok (.aload_n 0, 1) := by decide +kernel
theorem d_RK_init_56 : decode c_RK_init 56 = .ok (.aload_n 1, 1) := by decide +kernel
theorem d_RK_init_57 : decode c_RK_init 57 = .ok (.getfield 25, 3) := by decide +kernel
theorem d_RK_init_60 : decode c_RK_init 60 = .ok (.newarray .boolean, 2) := by decide +kernel
theorem d_RK_init_62 : decode c_RK_init 62 = .ok (.putfield 38, 3) := by decide +kernel
theorem d_RK_init_65 : decode c_RK_init 65 = .ok (.iconst 0, 1) := by decide +kernel
theorem d_RK_init_66 : decode c_RK_init 66 = .ok (.istore_n 2, 1) := by decide +kernel
theorem d_RK_init_67 : decode c_RK_init 67 = .ok (.iload_n 2, 1) := by decide +kernel
theorem d_RK_init_68 : decode c_RK_init 68 = .ok (.aload_n 1, 1) := by decide +kernel
theorem d_RK_init_69 : decode c_RK_init 69 = .ok (.getfield 15, 3) := by decide +kernel
theorem d_RK_init_72 : decode c_RK_init 72 = .ok (.if_icmp .ge 16, 3) := by decide +kernel
theorem d_RK_init_75 : decode c_RK_init 75 = .ok (.aload_n 0, 1) := by decide +kernel
theorem d_RK_init_76 : decode c_RK_init 76 = .ok (.getfield 21, 3) := by decide +kernel
theorem d_RK_init_79 : decode c_RK_init 79 = .ok (.iload_n 2, 1) := by decide +kernel
theorem d_RK_init_80 : decode c_RK_init 80 = .ok (.iconst 1, 1) := by decide +kernel
theorem d_RK_init_81 : decode c_RK_init 81 = .ok (.bastore, 1) := by decide +kernel
theorem d_RK_init_82 : decode c_RK_init 82 = .ok (.iinc 2 1, 3) := by decide +kernel
theorem d_RK_init_85 : decode c_RK_init 85 = .ok (.goto (-18), 3) := by decide +kernel
theorem d_RK_init_88 : decode c_RK_init 88 = .ok (.aload_n 0, 1) := by decide +kernel
theorem d_RK_init_89 : decode c_RK_init 89 = .ok (.invokevirtual 41, 3) := by decide +kernel
theorem d_RK_init_92 : decode c_RK_init 92 = .ok (.return_, 1) := by decide +kernel
abbrev c_RK_writeAll : ByteArray := prog_5_method_2_code
abbrev y_RK_writeAll : MethodName := ⟨"StripeField$Rack", "writeAll", "()V"⟩
theorem d_RK_writeAll_0 : decode c_RK_writeAll 0 = .ok (.bipush 8, 2) := by decide +kernel
theorem d_RK_writeAll_2 : decode c_RK_writeAll 2 = .ok (.newarray .long, 2) := by decide +kernel
theorem d_RK_writeAll_4 : decode c_RK_writeAll 4 = .ok (.astore_n 1, 1) := by decide +kernel
theorem d_RK_writeAll_5 : decode c_RK_writeAll 5 = .ok (.iconst 0, 1) := by decide +kernel
theorem d_RK_writeAll_6 : decode c_RK_writeAll 6 = .ok (.istore_n 2, 1) := by decide +kernel
theorem d_RK_writeAll_7 : decode c_RK_writeAll 7 = .ok (.iload_n 2, 1) := by decide +kernel
theorem d_RK_writeAll_8 : decode c_RK_writeAll 8 = .ok (.aload_n 0, 1) := by decide +kernel
theorem d_RK_writeAll_9 : decode c_RK_writeAll 9 = .ok (.getfield 9, 3) := by decide +kernel
theorem d_RK_writeAll_12 : decode c_RK_writeAll 12 = .ok (.getfield 15, 3) := by decide +kernel
theorem d_RK_writeAll_15 : decode c_RK_writeAll 15 = .ok (.if_icmp .ge 87, 3) := by decide +kernel
theorem d_RK_writeAll_18 : decode c_RK_writeAll 18 = .ok (.aload_n 0, 1) := by decide +kernel
theorem d_RK_writeAll_19 : decode c_RK_writeAll 19 = .ok (.getfield 9, 3) := by decide +kernel
theorem d_RK_writeAll_22 : decode c_RK_writeAll 22 = .ok (.getfield 44, 3) := by decide +kernel
theorem d_RK_writeAll_25 : decode c_RK_writeAll 25 = .ok (.iload_n 2, 1) := by decide +kernel
theorem d_RK_writeAll_26 : decode c_RK_writeAll 26 = .ok (.iaload, 1) := by decide +kernel
theorem d_RK_writeAll_27 : decode c_RK_writeAll 27 = .ok (.istore_n 3, 1) := by decide +kernel
theorem d_RK_writeAll_28 : decode c_RK_writeAll 28 = .ok (.aload_n 0, 1) := by decide +kernel
theorem d_RK_writeAll_29 : decode c_RK_writeAll 29 = .ok (.iload_n 3, 1) := by decide +kernel
theorem d_RK_writeAll_30 : decode c_RK_writeAll 30 = .ok (.aload_n 1, 1) := by decide +kernel
theorem d_RK_writeAll_31 : decode c_RK_writeAll 31 = .ok (.iload_n 2, 1) := by decide +kernel
theorem d_RK_writeAll_32 : decode c_RK_writeAll 32 = .ok (.aload_n 0, 1) := by decide +kernel
theorem d_RK_writeAll_33 : decode c_RK_writeAll 33 = .ok (.getfield 9, 3) := by decide +kernel
theorem d_RK_writeAll_36 : decode c_RK_writeAll 36 = .ok (.getfield 48, 3) := by decide +kernel
theorem d_RK_writeAll_39 : decode c_RK_writeAll 39 = .ok (.if_icmp .ge 9, 3) := by decide +kernel
theorem d_RK_writeAll_42 : decode c_RK_writeAll 42 = .ok (.iload_n 2, 1) := by decide +kernel
theorem d_RK_writeAll_43 : decode c_RK_writeAll 43 = .ok (.iconst 1, 1) := by decide +kernel
theorem d_RK_writeAll_44 : decode c_RK_writeAll 44 = .ok (.iadd, 1) := by decide +kernel
theorem d_RK_writeAll_45 : decode c_RK_writeAll 45 = .ok (.goto 4, 3) := by decide +kernel
theorem d_RK_writeAll_48 : decode c_RK_writeAll 48 = .ok (.iconst 0, 1) := by decide +kernel
theorem d_RK_writeAll_49 : decode c_RK_writeAll 49 = .ok (.invokevirtual 51, 3) := by decide +kernel
theorem d_RK_writeAll_52 : decode c_RK_writeAll 52 = .ok (.iconst 1, 1) := by decide +kernel
theorem d_RK_writeAll_53 : decode c_RK_writeAll 53 = .ok (.istore 4, 2) := by decide +kernel
theorem d_RK_writeAll_55 : decode c_RK_writeAll 55 = .ok (.iload 4, 2) := by decide +kernel
theorem d_RK_writeAll_57 : decode c_RK_writeAll 57 = .ok (.aload_n 0, 1) := by decide +kernel
theorem d_RK_writeAll_58 : decode c_RK_writeAll 58 = .ok (.getfield 9, 3) := by decide +kernel
theorem d_RK_writeAll_61 : decode c_RK_writeAll 61 = .ok (.getfield 55, 3) := by decide +kernel
theorem d_RK_writeAll_64 : decode c_RK_writeAll 64 = .ok (.if_icmp .ge 32, 3) := by decide +kernel
theorem d_RK_writeAll_67 : decode c_RK_writeAll 67 = .ok (.aload_n 0, 1) := by decide +kernel
theorem d_RK_writeAll_68 : decode c_RK_writeAll 68 = .ok (.iload_n 3, 1) := by decide +kernel
theorem d_RK_writeAll_69 : decode c_RK_writeAll 69 = .ok (.aload_n 0, 1) := by decide +kernel
theorem d_RK_writeAll_70 : decode c_RK_writeAll 70 = .ok (.getfield 9, 3) := by decide +kernel
theorem d_RK_writeAll_73 : decode c_RK_writeAll 73 = .ok (.getfield 44, 3) := by decide +kernel
theorem d_RK_writeAll_76 : decode c_RK_writeAll 76 = .ok (.aload_n 0, 1) := by decide +kernel
theorem d_RK_writeAll_77 : decode c_RK_writeAll 77 = .ok (.getfield 9, 3) := by decide +kernel
theorem d_RK_writeAll_80 : decode c_RK_writeAll 80 = .ok (.iload 4, 2) := by decide +kernel
theorem d_RK_writeAll_82 : decode c_RK_writeAll 82 = .ok (.iload_n 2, 1) := by decide +kernel
theorem d_RK_writeAll_83 : decode c_RK_writeAll 83 = .ok (.invokevirtual 58, 3) := by decide +kernel
theorem d_RK_writeAll_86 : decode c_RK_writeAll 86 = .ok (.iaload, 1) := by decide +kernel
theorem d_RK_writeAll_87 : decode c_RK_writeAll 87 = .ok (.invokevirtual 62, 3) := by decide +kernel
theorem d_RK_writeAll_90 : decode c_RK_writeAll 90 = .ok (.iinc 4 1, 3) := by decide +kernel
theorem d_RK_writeAll_93 : decode c_RK_writeAll 93 = .ok (.goto (-38), 3) := by decide +kernel
theorem d_RK_writeAll_96 : decode c_RK_writeAll 96 = .ok (.iinc 2 1, 3) := by decide +kernel
theorem d_RK_writeAll_99 : decode c_RK_writeAll 99 = .ok (.goto (-92), 3) := by decide +kernel
theorem d_RK_writeAll_102 : decode c_RK_writeAll 102 = .ok (.aload_n 0, 1) := by decide +kernel
theorem d_RK_writeAll_103 : decode c_RK_writeAll 103 = .ok (.aload_n 0, 1) := by decide +kernel
theorem d_RK_writeAll_104 : decode c_RK_writeAll 104 = .ok (.getfield 9, 3) := by decide +kernel
theorem d_RK_writeAll_107 : decode c_RK_writeAll 107 = .ok (.iconst 0, 1) := by decide +kernel
theorem d_RK_writeAll_108 : decode c_RK_writeAll 108 = .ok (.invokevirtual 66, 3) := by decide +kernel
theorem d_RK_writeAll_111 : decode c_RK_writeAll 111 = .ok (.aload_n 1, 1) := by decide +kernel
theorem d_RK_writeAll_112 : decode c_RK_writeAll 112 = .ok (.iconst 0, 1) := by decide +kernel
theorem d_RK_writeAll_113 : decode c_RK_writeAll 113 = .ok (.invokevirtual 51, 3) := by decide +kernel
theorem d_RK_writeAll_116 : decode c_RK_writeAll 116 = .ok (.iconst 1, 1) := by decide +kernel
theorem d_RK_writeAll_117 : decode c_RK_writeAll 117 = .ok (.istore_n 2, 1) := by decide +kernel
theorem d_RK_writeAll_118 : decode c_RK_writeAll 118 = .ok (.iload_n 2, 1) := by decide +kernel
theorem d_RK_writeAll_119 : decode c_RK_writeAll 119 = .ok (.aload_n 0, 1) := by decide +kernel
theorem d_RK_writeAll_120 : decode c_RK_writeAll 120 = .ok (.getfield 9, 3) := by decide +kernel
theorem d_RK_writeAll_123 : decode c_RK_writeAll 123 = .ok (.getfield 15, 3) := by decide +kernel
theorem d_RK_writeAll_126 : decode c_RK_writeAll 126 = .ok (.if_icmp .ge 29, 3) := by decide +kernel
theorem d_RK_writeAll_129 : decode c_RK_writeAll 129 = .ok (.aload_n 0, 1) := by decide +kernel
theorem d_RK_writeAll_130 : decode c_RK_writeAll 130 = .ok (.aload_n 0, 1) := by decide +kernel
theorem d_RK_writeAll_131 : decode c_RK_writeAll 131 = .ok (.getfield 9, 3) := by decide +kernel
theorem d_RK_writeAll_134 : decode c_RK_writeAll 134 = .ok (.iconst 0, 1) := by decide +kernel
theorem d_RK_writeAll_135 : decode c_RK_writeAll 135 = .ok (.invokevirtual 66, 3) := by decide +kernel
theorem d_RK_writeAll_138 : decode c_RK_writeAll 138 = .ok (.aload_n 0, 1) := by decide +kernel
theorem d_RK_writeAll_139 : decode c_RK_writeAll 139 = .ok (.getfield 9, 3) := by decide +kernel
theorem d_RK_writeAll_142 : decode c_RK_writeAll 142 = .ok (.iload_n 2, 1) := by decide +kernel
theorem d_RK_writeAll_143 : decode c_RK_writeAll 143 = .ok (.invokevirtual 66, 3) := by decide +kernel
theorem d_RK_writeAll_146 : decode c_RK_writeAll 146 = .ok (.invokevirtual 62, 3) := by decide +kernel
theorem d_RK_writeAll_149 : decode c_RK_writeAll 149 = .ok (.iinc 2 1, 3) := by decide +kernel
theorem d_RK_writeAll_152 : decode c_RK_writeAll 152 = .ok (.goto (-34), 3) := by decide +kernel
theorem d_RK_writeAll_155 : decode c_RK_writeAll 155 = .ok (.return_, 1) := by decide +kernel
abbrev c_RK_store : ByteArray := prog_5_method_4_code
abbrev y_RK_store : MethodName := ⟨"StripeField$Rack", "store", "(I[JI)V"⟩
theorem d_RK_store_0 : decode c_RK_store 0 = .ok (.iload_n 1, 1) := by decide +kernel
theorem d_RK_store_1 : decode c_RK_store 1 = .ok (.iconst (-1), 1) := by decide +kernel
theorem d_RK_store_2 : decode c_RK_store 2 = .ok (.if_icmp .ne 4, 3) := by decide +kernel
theorem d_RK_store_5 : decode c_RK_store 5 = .ok (.return_, 1) := by decide +kernel
theorem d_RK_store_6 : decode c_RK_store 6 = .ok (.iload_n 1, 1) := by decide +kernel
theorem d_RK_store_7 : decode c_RK_store 7 = .ok (.bipush 9, 2) := by decide +kernel
theorem d_RK_store_9 : decode c_RK_store 9 = .ok (.imul, 1) := by decide +kernel
theorem d_RK_store_10 : decode c_RK_store 10 = .ok (.istore 4, 2) := by decide +kernel
theorem d_RK_store_12 : decode c_RK_store 12 = .ok (.iconst 0, 1) := by decide +kernel
theorem d_RK_store_13 : decode c_RK_store 13 = .ok (.istore 5, 2) := by decide +kernel
theorem d_RK_store_15 : decode c_RK_store 15 = .ok (.iload 5, 2) := by decide +kernel
theorem d_RK_store_17 : decode c_RK_store 17 = .ok (.bipush 8, 2) := by decide +kernel
theorem d_RK_store_19 : decode c_RK_store 19 = .ok (.if_icmp .ge 34, 3) := by decide +kernel
theorem d_RK_store_22 : decode c_RK_store 22 = .ok (.aload_n 0, 1) := by decide +kernel
theorem d_RK_store_23 : decode c_RK_store 23 = .ok (.getfield 28, 3) := by decide +kernel
theorem d_RK_store_26 : decode c_RK_store 26 = .ok (.iload 4, 2) := by decide +kernel
theorem d_RK_store_28 : decode c_RK_store 28 = .ok (.iload 5, 2) := by decide +kernel
theorem d_RK_store_30 : decode c_RK_store 30 = .ok (.iadd, 1) := by decide +kernel
theorem d_RK_store_31 : decode c_RK_store 31 = .ok (.aload_n 2, 1) := by decide +kernel
theorem d_RK_store_32 : decode c_RK_store 32 = .ok (.iload 5, 2) := by decide +kernel
theorem d_RK_store_34 : decode c_RK_store 34 = .ok (.laload, 1) := by decide +kernel
theorem d_RK_store_35 : decode c_RK_store 35 = .ok (.lastore, 1) := by decide +kernel
theorem d_RK_store_36 : decode c_RK_store 36 = .ok (.aload_n 0, 1) := by decide +kernel
theorem d_RK_store_37 : decode c_RK_store 37 = .ok (.getfield 32, 3) := by decide +kernel
theorem d_RK_store_40 : decode c_RK_store 40 = .ok (.iload 4, 2) := by decide +kernel
theorem d_RK_store_42 : decode c_RK_store 42 = .ok (.iload 5, 2) := by decide +kernel
theorem d_RK_store_44 : decode c_RK_store 44 = .ok (.iadd, 1) := by decide +kernel
theorem d_RK_store_45 : decode c_RK_store 45 = .ok (.lconst 0, 1) := by decide +kernel
theorem d_RK_store_46 : decode c_RK_store 46 = .ok (.lastore, 1) := by decide +kernel
theorem d_RK_store_47 : decode c_RK_store 47 = .ok (.iinc 5 1, 3) := by decide +kernel
theorem d_RK_store_50 : decode c_RK_store 50 = .ok (.goto (-35), 3) := by decide +kernel
theorem d_RK_store_53 : decode c_RK_store 53 = .ok (.iload 4, 2) := by decide +kernel
theorem d_RK_store_55 : decode c_RK_store 55 = .ok (.bipush 8, 2) := by decide +kernel
theorem d_RK_store_57 : decode c_RK_store 57 = .ok (.iadd, 1) := by decide +kernel
theorem d_RK_store_58 : decode c_RK_store 58 = .ok (.istore 5, 2) := by decide +kernel
theorem d_RK_store_60 : decode c_RK_store 60 = .ok (.aload_n 0, 1) := by decide +kernel
theorem d_RK_store_61 : decode c_RK_store 61 = .ok (.getfield 32, 3) := by decide +kernel
theorem d_RK_store_64 : decode c_RK_store 64 = .ok (.iload 5, 2) := by decide +kernel
theorem d_RK_store_66 : decode c_RK_store 66 = .ok (.lconst 0, 1) := by decide +kernel
theorem d_RK_store_67 : decode c_RK_store 67 = .ok (.lastore, 1) := by decide +kernel
theorem d_RK_store_68 : decode c_RK_store 68 = .ok (.aload_n 0, 1) := by decide +kernel
theorem d_RK_store_69 : decode c_RK_store 69 = .ok (.getfield 28, 3) := by decide +kernel
theorem d_RK_store_72 : decode c_RK_store 72 = .ok (.iload 5, 2) := by decide +kernel
theorem d_RK_store_74 : decode c_RK_store 74 = .ok (.iload_n 3, 1) := by decide +kernel
theorem d_RK_store_75 : decode c_RK_store 75 = .ok (.i2l, 1) := by decide +kernel
theorem d_RK_store_76 : decode c_RK_store 76 = .ok (.lastore, 1) := by decide +kernel
theorem d_RK_store_77 : decode c_RK_store 77 = .ok (.aload_n 0, 1) := by decide +kernel
theorem d_RK_store_78 : decode c_RK_store 78 = .ok (.getfield 28, 3) := by decide +kernel
theorem d_RK_store_81 : decode c_RK_store 81 = .ok (.iload 5, 2) := by decide +kernel
theorem d_RK_store_83 : decode c_RK_store 83 = .ok (.dup2, 1) := by decide +kernel
theorem d_RK_store_84 : decode c_RK_store 84 = .ok (.laload, 1) := by decide +kernel
theorem d_RK_store_85 : decode c_RK_store 85 = .ok (.aload_n 0, 1) := by decide +kernel
theorem d_RK_store_86 : decode c_RK_store 86 = .ok (.iload_n 1, 1) := by decide +kernel
theorem d_RK_store_87 : decode c_RK_store 87 = .ok (.invokevirtual 76, 3) := by decide +kernel
theorem d_RK_store_90 : decode c_RK_store 90 = .ok (.i2l, 1) := by decide +kernel
theorem d_RK_store_91 : decode c_RK_store 91 = .ok (.ldc2_w 79, 3) := by decide +kernel
theorem d_RK_store_94 : decode c_RK_store 94 = .ok (.land, 1) := by decide +kernel
theorem d_RK_store_95 : decode c_RK_store 95 = .ok (.bipush 16, 2) := by decide +kernel
theorem d_RK_store_97 : decode c_RK_store 97 = .ok (.lshl, 1) := by decide +kernel
theorem d_RK_store_98 : decode c_RK_store 98 = .ok (.lor, 1) := by decide +kernel
theorem d_RK_store_99 : decode c_RK_store 99 = .ok (.lastore, 1) := by decide +kernel
theorem d_RK_store_100 : decode c_RK_store 100 = .ok (.aload_n 0, 1) := by decide +kernel
theorem d_RK_store_101 : decode c_RK_store 101 = .ok (.getfield 35, 3) := by decide +kernel
theorem d_RK_store_104 : decode c_RK_store 104 = .ok (.iload_n 1, 1) := by decide +kernel
theorem d_RK_store_105 : decode c_RK_store 105 = .ok (.iconst 1, 1) := by decide +kernel
theorem d_RK_store_106 : decode c_RK_store 106 = .ok (.bastore, 1) := by decide +kernel
theorem d_RK_store_107 : decode c_RK_store 107 = .ok (.aload_n 0, 1) := by decide +kernel
theorem d_RK_store_108 : decode c_RK_store 108 = .ok (.getfield 38, 3) := by decide +kernel
theorem d_RK_store_111 : decode c_RK_store 111 = .ok (.iload_n 1, 1) := by decide +kernel
theorem d_RK_store_112 : decode c_RK_store 112 = .ok (.iconst 1, 1) := by decide +kernel
theorem d_RK_store_113 : decode c_RK_store 113 = .ok (.bastore, 1) := by decide +kernel
theorem d_RK_store_114 : decode c_RK_store 114 = .ok (.return_, 1) := by decide +kernel
abbrev c_RK_checkOf : ByteArray := prog_5_method_5_code
abbrev y_RK_checkOf : MethodName := ⟨"StripeField$Rack", "checkOf", "(I)I"⟩
theorem d_RK_checkOf_0 : decode c_RK_checkOf 0 = .ok (.iconst (-1), 1) := by decide +kernel
theorem d_RK_checkOf_1 : decode c_RK_checkOf 1 = .ok (.istore_n 2, 1) := by decide +kernel
theorem d_RK_checkOf_2 : decode c_RK_checkOf 2 = .ok (.iconst 0, 1) := by decide +kernel
theorem d_RK_checkOf_3 : decode c_RK_checkOf 3 = .ok (.istore_n 3, 1) := by decide +kernel
theorem d_RK_checkOf_4 : decode c_RK_checkOf 4 = .ok (.iload_n 3, 1) := by decide +kernel
theorem d_RK_checkOf_5 : decode c_RK_checkOf 5 = .ok (.bipush 66, 2) := by decide +kernel
theorem d_RK_checkOf_7 : decode c_RK_checkOf 7 = .ok (.if_icmp .ge 73, 3) := by decide +kernel
theorem d_RK_checkOf_10 : decode c_RK_checkOf 10 = .ok (.iload_n 2, 1) := by decide +kernel
theorem d_RK_checkOf_11 : decode c_RK_checkOf 11 = .ok (.aload_n 0, 1) := by decide +kernel
theorem d_RK_checkOf_12 : decode c_RK_checkOf 12 = .ok (.getfield 28, 3) := by decide +kernel
theorem d_RK_checkOf_15 : decode c_RK_checkOf 15 = .ok (.iload_n 1, 1) := by decide +kernel
theorem d_RK_checkOf_16 : decode c_RK_checkOf 16 = .ok (.bipush 9, 2) := by decide +kernel
theorem d_RK_checkOf_18 : decode c_RK_checkOf 18 = .ok (.imul, 1) := by decide +kernel
theorem d_RK_checkOf_19 : decode c_RK_checkOf 19 = .ok (.iload_n 3, 1) := by decide +kernel
theorem d_RK_checkOf_20 : decode c_RK_checkOf 20 = .ok (.iconst 3, 1) := by decide +kernel
theorem d_RK_checkOf_21 : decode c_RK_checkOf 21 = .ok (.iushr, 1) := by decide +kernel
theorem d_RK_checkOf_22 : decode c_RK_checkOf 22 = .ok (.iadd, 1) := by decide +kernel
theorem d_RK_checkOf_23 : decode c_RK_checkOf 23 = .ok (.laload, 1) := by decide +kernel
theorem d_RK_checkOf_24 : decode c_RK_checkOf 24 = .ok (.bipush 8, 2) := by decide +kernel
theorem d_RK_checkOf_26 : decode c_RK_checkOf 26 = .ok (.iload_n 3, 1) := by decide +kernel
theorem d_RK_checkOf_27 : decode c_RK_checkOf 27 = .ok (.bipush 7, 2) := by decide +kernel
theorem d_RK_checkOf_29 : decode c_RK_checkOf 29 = .ok (.iand, 1) := by decide +kernel
theorem d_RK_checkOf_30 : decode c_RK_checkOf 30 = .ok (.imul, 1) := by decide +kernel
theorem d_RK_checkOf_31 : decode c_RK_checkOf 31 = .ok (.lushr, 1) := by decide +kernel
theorem d_RK_checkOf_32 : decode c_RK_checkOf 32 = .ok (.l2i, 1) := by decide +kernel
theorem d_RK_checkOf_33 : decode c_RK_checkOf 33 = .ok (.sipush 255, 3) := by decide +kernel
theorem d_RK_checkOf_36 : decode c_RK_checkOf 36 = .ok (.iand, 1) := by decide +kernel
theorem d_RK_checkOf_37 : decode c_RK_checkOf 37 = .ok (.ixor, 1) := by decide +kernel
theorem d_RK_checkOf_38 : decode c_RK_checkOf 38 = .ok (.istore_n 2, 1) := by decide +kernel
theorem d_RK_checkOf_39 : decode c_RK_checkOf 39 = .ok (.iconst 0, 1) := by decide +kernel
theorem d_RK_checkOf_40 : decode c_RK_checkOf 40 = .ok (.istore 4, 2) := by decide +kernel
theorem d_RK_checkOf_42 : decode c_RK_checkOf 42 = .ok (.iload 4, 2) := by decide +kernel
theorem d_RK_checkOf_44 : decode c_RK_checkOf 44 = .ok (.bipush 8, 2) := by decide +kernel
theorem d_RK_checkOf_46 : decode c_RK_checkOf 46 = .ok (.if_icmp .ge 28, 3) := by decide +kernel
theorem d_RK_checkOf_49 : decode c_RK_checkOf 49 = .ok (.iload_n 2, 1) := by decide +kernel
theorem d_RK_checkOf_50 : decode c_RK_checkOf 50 = .ok (.iconst 1, 1) := by decide +kernel
theorem d_RK_checkOf_51 : decode c_RK_checkOf 51 = .ok (.iand, 1) := by decide +kernel
theorem d_RK_checkOf_52 : decode c_RK_checkOf 52 = .ok (.ifCond .eq 12, 3) := by decide +kernel
theorem d_RK_checkOf_55 : decode c_RK_checkOf 55 = .ok (.iload_n 2, 1) := by decide +kernel
theorem d_RK_checkOf_56 : decode c_RK_checkOf 56 = .ok (.iconst 1, 1) := by decide +kernel
theorem d_RK_checkOf_57 : decode c_RK_checkOf 57 = .ok (.iushr, 1) := by decide +kernel
theorem d_RK_checkOf_58 : decode c_RK_checkOf 58 = .ok (.ldc 81, 2) := by decide +kernel
theorem d_RK_checkOf_60 : decode c_RK_checkOf 60 = .ok (.ixor, 1) := by decide +kernel
theorem d_RK_checkOf_61 : decode c_RK_checkOf 61 = .ok (.goto 6, 3) := by decide +kernel
theorem d_RK_checkOf_64 : decode c_RK_checkOf 64 = .ok (.iload_n 2, 1) := by decide +kernel
theorem d_RK_checkOf_65 : decode c_RK_checkOf 65 = .ok (.iconst 1, 1) := by decide +kernel
theorem d_RK_checkOf_66 : decode c_RK_checkOf 66 = .ok (.iushr, 1) := by decide +kernel
theorem d_RK_checkOf_67 : decode c_RK_checkOf 67 = .ok (.istore_n 2, 1) := by decide +kernel
theorem d_RK_checkOf_68 : decode c_RK_checkOf 68 = .ok (.iinc 4 1, 3) := by decide +kernel
theorem d_RK_checkOf_71 : decode c_RK_checkOf 71 = .ok (.goto (-29), 3) := by decide +kernel
theorem d_RK_checkOf_74 : decode c_RK_checkOf 74 = .ok (.iinc 3 1, 3) := by decide +kernel
theorem d_RK_checkOf_77 : decode c_RK_checkOf 77 = .ok (.goto (-73), 3) := by decide +kernel
theorem d_RK_checkOf_80 : decode c_RK_checkOf 80 = .ok (.iload_n 2, 1) := by decide +kernel
theorem d_RK_checkOf_81 : decode c_RK_checkOf 81 = .ok (.iconst (-1), 1) := by decide +kernel
theorem d_RK_checkOf_82 : decode c_RK_checkOf 82 = .ok (.ixor, 1) := by decide +kernel
theorem d_RK_checkOf_83 : decode c_RK_checkOf 83 = .ok (.ireturn, 1) := by decide +kernel
abbrev c_LA_slot : ByteArray := prog_2_method_8_code
abbrev y_LA_slot : MethodName := ⟨"StripeField$Layout", "slot", "(II)I"⟩
theorem d_LA_slot_0 : decode c_LA_slot 0 = .ok (.iload_n 1, 1) := by decide +kernel
theorem d_LA_slot_1 : decode c_LA_slot 1 = .ok (.aload_n 0, 1) := by decide +kernel
theorem d_LA_slot_2 : decode c_LA_slot 2 = .ok (.getfield 7, 3) := by decide +kernel
theorem d_LA_slot_5 : decode c_LA_slot 5 = .ok (.imul, 1) := by decide +kernel
theorem d_LA_slot_6 : decode c_LA_slot 6 = .ok (.iload_n 2, 1) := by decide +kernel
theorem d_LA_slot_7 : decode c_LA_slot 7 = .ok (.iadd, 1) := by decide +kernel
theorem d_LA_slot_8 : decode c_LA_slot 8 = .ok (.ireturn, 1) := by decide +kernel
abbrev c_RK_storeLike : ByteArray := prog_5_method_3_code
abbrev y_RK_storeLike : MethodName := ⟨"StripeField$Rack", "storeLike", "(II)V"⟩
theorem d_RK_storeLike_0 : decode c_RK_storeLike 0 = .ok (.aload_n 0, 1) := by decide +kernel
theorem d_RK_storeLike_1 : decode c_RK_storeLike 1 = .ok (.getfield 28, 3) := by decide +kernel
theorem d_RK_storeLike_4 : decode c_RK_storeLike 4 = .ok (.iload_n 1, 1) := by decide +kernel
theorem d_RK_storeLike_5 : decode c_RK_storeLike 5 = .ok (.bipush 9, 2) := by decide +kernel
theorem d_RK_storeLike_7 : decode c_RK_storeLike 7 = .ok (.imul, 1) := by decide +kernel
theorem d_RK_storeLike_8 : decode c_RK_storeLike 8 = .ok (.aload_n 0, 1) := by decide +kernel
theorem d_RK_storeLike_9 : decode c_RK_storeLike 9 = .ok (.getfield 28, 3) := by decide +kernel
theorem d_RK_storeLike_12 : decode c_RK_storeLike 12 = .ok (.iload_n 2, 1) := by decide +kernel
theorem d_RK_storeLike_13 : decode c_RK_storeLike 13 = .ok (.bipush 9, 2) := by decide +kernel
theorem d_RK_storeLike_15 : decode c_RK_storeLike 15 = .ok (.imul, 1) := by decide +kernel
theorem d_RK_storeLike_16 : decode c_RK_storeLike 16 = .ok (.bipush 9, 2) := by decide +kernel
theorem d_RK_storeLike_18 : decode c_RK_storeLike 18 = .ok (.invokestatic 70, 3) := by decide +kernel
theorem d_RK_storeLike_21 : decode c_RK_storeLike 21 = .ok (.aload_n 0, 1) := by decide +kernel
theorem d_RK_storeLike_22 : decode c_RK_storeLike 22 = .ok (.getfield 35, 3) := by decide +kernel
theorem d_RK_storeLike_25 : decode c_RK_storeLike 25 = .ok (.iload_n 2, 1) := by decide +kernel
theorem d_RK_storeLike_26 : decode c_RK_storeLike 26 = .ok (.iconst 1, 1) := by decide +kernel
theorem d_RK_storeLike_27 : decode c_RK_storeLike 27 = .ok (.bastore, 1) := by decide +kernel
theorem d_RK_storeLike_28 : decode c_RK_storeLike 28 = .ok (.aload_n 0, 1) := by decide +kernel
theorem d_RK_storeLike_29 : decode c_RK_storeLike 29 = .ok (.getfield 38, 3) := by decide +kernel
theorem d_RK_storeLike_32 : decode c_RK_storeLike 32 = .ok (.iload_n 2, 1) := by decide +kernel
theorem d_RK_storeLike_33 : decode c_RK_storeLike 33 = .ok (.iconst 1, 1) := by decide +kernel
theorem d_RK_storeLike_34 : decode c_RK_storeLike 34 = .ok (.bastore, 1) := by decide +kernel
theorem d_RK_storeLike_35 : decode c_RK_storeLike 35 = .ok (.return_, 1) := by decide +kernel
abbrev c_LA_logOf : ByteArray := prog_2_method_7_code
abbrev y_LA_logOf : MethodName := ⟨"StripeField$Layout", "logOf", "(I)I"⟩
theorem d_LA_logOf_0 : decode c_LA_logOf 0 = .ok (.aload_n 0, 1) := by decide +kernel
theorem d_LA_logOf_1 : decode c_LA_logOf 1 = .ok (.iload_n 1, 1) := by decide +kernel
theorem d_LA_logOf_2 : decode c_LA_logOf 2 = .ok (.aload_n 0, 1) := by decide +kernel
theorem d_LA_logOf_3 : decode c_LA_logOf 3 = .ok (.getfield 16, 3) := by decide +kernel
theorem d_LA_logOf_6 : decode c_LA_logOf 6 = .ok (.invokevirtual 59, 3) := by decide +kernel
theorem d_LA_logOf_9 : decode c_LA_logOf 9 = .ok (.ireturn, 1) := by decide +kernel
abbrev c_LA_cell : ByteArray := prog_2_method_5_code
abbrev y_LA_cell : MethodName := ⟨"StripeField$Layout", "cell", "(II)I"⟩
theorem d_LA_cell_0 : decode c_LA_cell 0 = .ok (.iload_n 1, 1) := by decide +kernel
theorem d_LA_cell_1 : decode c_LA_cell 1 = .ok (.aload_n 0, 1) := by decide +kernel
theorem d_LA_cell_2 : decode c_LA_cell 2 = .ok (.getfield 16, 3) := by decide +kernel
theorem d_LA_cell_5 : decode c_LA_cell 5 = .ok (.iconst 1, 1) := by decide +kernel
theorem d_LA_cell_6 : decode c_LA_cell 6 = .ok (.iadd, 1) := by decide +kernel
theorem d_LA_cell_7 : decode c_LA_cell 7 = .ok (.imul, 1) := by decide +kernel
theorem d_LA_cell_8 : decode c_LA_cell 8 = .ok (.iload_n 2, 1) := by decide +kernel
theorem d_LA_cell_9 : decode c_LA_cell 9 = .ok (.iadd, 1) := by decide +kernel
theorem d_LA_cell_10 : decode c_LA_cell 10 = .ok (.ireturn, 1) := by decide +kernel
abbrev c_PL_init : ByteArray := prog_3_method_1_code
abbrev y_PL_init : MethodName := ⟨"StripeField$Places", "<init>", "(LStripeField$Layout;LStripeField$Rack;)V"⟩
theorem d_PL_init_0 : decode c_PL_init 0 = .ok (.aload_n 0, 1) := by decide +kernel
theorem d_PL_init_1 : decode c_PL_init 1 = .ok (.invokespecial 3, 3) := by decide +kernel
theorem d_PL_init_4 : decode c_PL_init 4 = .ok (.aload_n 0, 1) := by decide +kernel
theorem d_PL_init_5 : decode c_PL_init 5 = .ok (.aload_n 1, 1) := by decide +kernel
theorem d_PL_init_6 : decode c_PL_init 6 = .ok (.putfield 9, 3) := by decide +kernel
theorem d_PL_init_9 : decode c_PL_init 9 = .ok (.aload_n 0, 1) := by decide +kernel
theorem d_PL_init_10 : decode c_PL_init 10 = .ok (.aload_n 2, 1) := by decide +kernel
theorem d_PL_init_11 : decode c_PL_init 11 = .ok (.putfield 15, 3) := by decide +kernel
theorem d_PL_init_14 : decode c_PL_init 14 = .ok (.aload_n 0, 1) := by decide +kernel
theorem d_PL_init_15 : decode c_PL_init 15 = .ok (.aload_n 1, 1) := by decide +kernel
theorem d_PL_init_16 : decode c_PL_init 16 = .ok (.getfield 19, 3) := by decide +kernel
theorem d_PL_init_19 : decode c_PL_init 19 = .ok (.aload_n 1, 1) := by decide +kernel
theorem d_PL_init_20 : decode c_PL_init 20 = .ok (.getfield 25, 3) := by decide +kernel
theorem d_PL_init_23 : decode c_PL_init 23 = .ok (.imul, 1) := by decide +kernel
theorem d_PL_init_24 : decode c_PL_init 24 = .ok (.newarray .int, 2) := by decide +kernel
theorem d_PL_init_26 : decode c_PL_init 26 = .ok (.putfield 28, 3) := by decide +kernel
theorem d_PL_init_29 : decode c_PL_init 29 = .ok (.aload_n 0, 1) := by decide +kernel
theorem d_PL_init_30 : decode c_PL_init 30 = .ok (.aload_n 1, 1) := by decide +kernel
theorem d_PL_init_31 : decode c_PL_init 31 = .ok (.getfield 32, 3) := by decide +kernel
theorem d_PL_init_34 : decode c_PL_init 34 = .ok (.newarray .int, 2) := by decide +kernel
theorem d_PL_init_36 : decode c_PL_init 36 = .ok (.putfield 35, 3) := by decide +kernel
theorem d_PL_init_39 : decode c_PL_init 39 = .ok (.aload_n 0, 1) := by decide +kernel
theorem d_PL_init_40 : decode c_PL_init 40 = .ok (.invokevirtual 38, 3) := by decide +kernel
theorem d_PL_init_43 : decode c_PL_init 43 = .ok (.return_, 1) := by decide +kernel
abbrev c_PL_find : ByteArray := prog_3_method_2_code
abbrev y_PL_find : MethodName := ⟨"StripeField$Places", "find", "()V"⟩
theorem d_PL_find_0 : decode c_PL_find 0 = .ok (.aload_n 0, 1) := by decide +kernel
theorem d_PL_find_1 : decode c_PL_find 1 = .ok (.getfield 28, 3) := by decide +kernel
theorem d_PL_find_4 : decode c_PL_find 4 = .ok (.iconst (-1), 1) := by decide +kernel
theorem d_PL_find_5 : decode c_PL_find 5 = .ok (.invokestatic 41, 3) := by decide +kernel
theorem d_PL_find_8 : decode c_PL_find 8 = .ok (.aload_n 0, 1) := by decide +kernel
theorem d_PL_find_9 : decode c_PL_find 9 = .ok (.getfield 35, 3) := by decide +kernel
theorem d_PL_find_12 : decode c_PL_find 12 = .ok (.iconst (-1), 1) := by decide +kernel
theorem d_PL_find_13 : decode c_PL_find 13 = .ok (.invokestatic 41, 3) := by decide +kernel
theorem d_PL_find_16 : decode c_PL_find 16 = .ok (.iconst 0, 1) := by decide +kernel
theorem d_PL_find_17 : decode c_PL_find 17 = .ok (.istore_n 1, 1) := by decide +kernel
theorem d_PL_find_18 : decode c_PL_find 18 = .ok (.iload_n 1, 1) := by decide +kernel
theorem d_PL_find_19 : decode c_PL_find 19 = .ok (.aload_n 0, 1) := by decide +kernel
theorem d_PL_find_20 : decode c_PL_find 20 = .ok (.getfield 9, 3) := by decide +kernel
theorem d_PL_find_23 : decode c_PL_find 23 = .ok (.getfield 19, 3) := by decide +kernel
theorem d_PL_find_26 : decode c_PL_find 26 = .ok (.if_icmp .ge 72, 3) := by decide +kernel
theorem d_PL_find_29 : decode c_PL_find 29 = .ok (.iconst 0, 1) := by decide +kernel
theorem d_PL_find_30 : decode c_PL_find 30 = .ok (.istore_n 2, 1) := by decide +kernel
theorem d_PL_find_31 : decode c_PL_find 31 = .ok (.iload_n 2, 1) := by decide +kernel
theorem d_PL_find_32 : decode c_PL_find 32 = .ok (.aload_n 0, 1) := by decide +kernel
theorem d_PL_find_33 : decode c_PL_find 33 = .ok (.getfield 9, 3) := by decide +kernel
theorem d_PL_find_36 : decode c_PL_find 36 = .ok (.getfield 47, 3) := by decide +kernel
theorem d_PL_find_39 : decode c_PL_find 39 = .ok (.if_icmp .ge 53, 3) := by decide +kernel
theorem d_PL_find_42 : decode c_PL_find 42 = .ok (.aload_n 0, 1) := by decide +kernel
theorem d_PL_find_43 : decode c_PL_find 43 = .ok (.getfield 9, 3) := by decide +kernel
theorem d_PL_find_46 : decode c_PL_find 46 = .ok (.iload_n 1, 1) := by decide +kernel
theorem d_PL_find_47 : decode c_PL_find 47 = .ok (.iload_n 2, 1) := by decide +kernel
theorem d_PL_find_48 : decode c_PL_find 48 = .ok (.invokevirtual 50, 3) := by decide +kernel
theorem d_PL_find_51 : decode c_PL_find 51 = .ok (.istore_n 3, 1) := by decide +kernel
theorem d_PL_find_52 : decode c_PL_find 52 = .ok (.aload_n 0, 1) := by decide +kernel
theorem d_PL_find_53 : decode c_PL_find 53 = .ok (.getfield 28, 3) := by decide +kernel
theorem d_PL_find_56 : decode c_PL_find 56 = .ok (.iload_n 3, 1) := by decide +kernel
theorem d_PL_find_57 : decode c_PL_find 57 = .ok (.aload_n 0, 1) := by decide +kernel
theorem d_PL_find_58 : decode c_PL_find 58 = .ok (.iload_n 1, 1) := by decide +kernel
theorem d_PL_find_59 : decode c_PL_find 59 = .ok (.iload_n 3, 1) := by decide +kernel
theorem d_PL_find_60 : decode c_PL_find 60 = .ok (.invokevirtual 54, 3) := by decide +kernel
theorem d_PL_find_63 : decode c_PL_find 63 = .ok (.iastore, 1) := by decide +kernel
theorem d_PL_find_64 : decode c_PL_find 64 = .ok (.aload_n 0, 1) := by decide +kernel
theorem d_PL_find_65 : decode c_PL_find 65 = .ok (.getfield 28, 3) := by decide +kernel
theorem d_PL_find_68 : decode c_PL_find 68 = .ok (.iload_n 3, 1) := by decide +kernel
theorem d_PL_find_69 : decode c_PL_find 69 = .ok (.iaload, 1) := by decide +kernel
theorem d_PL_find_70 : decode c_PL_find 70 = .ok (.iconst (-1), 1) := by decide +kernel
theorem d_PL_find_71 : decode c_PL_find 71 = .ok (.if_icmp .eq 15, 3) := by decide +kernel
theorem d_PL_find_74 : decode c_PL_find 74 = .ok (.aload_n 0, 1) := by decide +kernel
theorem d_PL_find_75 : decode c_PL_find 75 = .ok (.getfield 35, 3) := by decide +kernel
theorem d_PL_find_78 : decode c_PL_find 78 = .ok (.aload_n 0, 1) := by decide +kernel
theorem d_PL_find_79 : decode c_PL_find 79 = .ok (.getfield 28, 3) := by decide +kernel
theorem d_PL_find_82 : decode c_PL_find 82 = .ok (.iload_n 3, 1) := by decide +kernel
theorem d_PL_find_83 : decode c_PL_find 83 = .ok (.iaload, 1) := by decide +kernel
theorem d_PL_find_84 : decode c_PL_find 84 = .ok (.iload_n 3, 1) := by decide +kernel
theorem d_PL_find_85 : decode c_PL_find 85 = .ok (.iastore, 1) := by decide +kernel
theorem d_PL_find_86 : decode c_PL_find 86 = .ok (.iinc 2 1, 3) := by decide +kernel
theorem d_PL_find_89 : decode c_PL_find 89 = .ok (.goto (-58), 3) := by decide +kernel
theorem d_PL_find_92 : decode c_PL_find 92 = .ok (.iinc 1 1, 3) := by decide +kernel
theorem d_PL_find_95 : decode c_PL_find 95 = .ok (.goto (-77), 3) := by decide +kernel
theorem d_PL_find_98 : decode c_PL_find 98 = .ok (.return_, 1) := by decide +kernel
abbrev c_AR_fillI : ByteArray := prog_17_method_103_code
abbrev y_AR_fillI : MethodName := ⟨"java/util/Arrays", "fill", "([II)V"⟩
theorem d_AR_fillI_0 : decode c_AR_fillI 0 = .ok (.iconst 0, 1) := by decide +kernel
theorem d_AR_fillI_1 : decode c_AR_fillI 1 = .ok (.istore_n 2, 1) := by decide +kernel
theorem d_AR_fillI_2 : decode c_AR_fillI 2 = .ok (.aload_n 0, 1) := by decide +kernel
theorem d_AR_fillI_3 : decode c_AR_fillI 3 = .ok (.arraylength, 1) := by decide +kernel
theorem d_AR_fillI_4 : decode c_AR_fillI 4 = .ok (.istore_n 3, 1) := by decide +kernel
theorem d_AR_fillI_5 : decode c_AR_fillI 5 = .ok (.iload_n 2, 1) := by decide +kernel
theorem d_AR_fillI_6 : decode c_AR_fillI 6 = .ok (.iload_n 3, 1) := by decide +kernel
theorem d_AR_fillI_7 : decode c_AR_fillI 7 = .ok (.if_icmp .ge 13, 3) := by decide +kernel
theorem d_AR_fillI_10 : decode c_AR_fillI 10 = .ok (.aload_n 0, 1) := by decide +kernel
theorem d_AR_fillI_11 : decode c_AR_fillI 11 = .ok (.iload_n 2, 1) := by decide +kernel
theorem d_AR_fillI_12 : decode c_AR_fillI 12 = .ok (.iload_n 1, 1) := by decide +kernel
theorem d_AR_fillI_13 : decode c_AR_fillI 13 = .ok (.iastore, 1) := by decide +kernel
theorem d_AR_fillI_14 : decode c_AR_fillI 14 = .ok (.iinc 2 1, 3) := by decide +kernel
theorem d_AR_fillI_17 : decode c_AR_fillI 17 = .ok (.goto (-12), 3) := by decide +kernel
theorem d_AR_fillI_20 : decode c_AR_fillI 20 = .ok (.return_, 1) := by decide +kernel
abbrev c_PL_found : ByteArray := prog_3_method_3_code
abbrev y_PL_found : MethodName := ⟨"StripeField$Places", "found", "(II)I"⟩
theorem d_PL_found_0 : decode c_PL_found 0 = .ok (.aload_n 0, 1) := by decide +kernel
theorem d_PL_found_1 : decode c_PL_found 1 = .ok (.getfield 15, 3) := by decide +kernel
theorem d_PL_found_4 : decode c_PL_found 4 = .ok (.aload_n 0, 1) := by decide +kernel
theorem d_PL_found_5 : decode c_PL_found 5 = .ok (.getfield 9, 3) := by decide +kernel
theorem d_PL_found_8 : decode c_PL_found 8 = .ok (.getfield 57, 3) := by decide +kernel
theorem d_PL_found_11 : decode c_PL_found 11 = .ok (.iload_n 2, 1) := by decide +kernel
theorem d_PL_found_12 : decode c_PL_found 12 = .ok (.iaload, 1) := by decide +kernel
theorem d_PL_found_13 : decode c_PL_found 13 = .ok (.invokevirtual 60, 3) := by decide +kernel
theorem d_PL_found_16 : decode c_PL_found 16 = .ok (.ifCond .eq 13, 3) := by decide +kernel
theorem d_PL_found_19 : decode c_PL_found 19 = .ok (.aload_n 0, 1) := by decide +kernel
theorem d_PL_found_20 : decode c_PL_found 20 = .ok (.getfield 9, 3) := by decide +kernel
theorem d_PL_found_23 : decode c_PL_found 23 = .ok (.getfield 57, 3) := by decide +kernel
theorem d_PL_found_26 : decode c_PL_found 26 = .ok (.iload_n 2, 1) := by decide +kernel
theorem d_PL_found_27 : decode c_PL_found 27 = .ok (.iaload, 1) := by decide +kernel
theorem d_PL_found_28 : decode c_PL_found 28 = .ok (.ireturn, 1) := by decide +kernel
theorem d_PL_found_29 : decode c_PL_found 29 = .ok (.aload_n 0, 1) := by decide +kernel
theorem d_PL_found_30 : decode c_PL_found 30 = .ok (.getfield 9, 3) := by decide +kernel
theorem d_PL_found_33 : decode c_PL_found 33 = .ok (.getfield 47, 3) := by decide +kernel
theorem d_PL_found_36 : decode c_PL_found 36 = .ok (.istore_n 3, 1) := by decide +kernel
theorem d_PL_found_37 : decode c_PL_found 37 = .ok (.iload_n 3, 1) := by decide +kernel
theorem d_PL_found_38 : decode c_PL_found 38 = .ok (.aload_n 0, 1) := by decide +kernel
theorem d_PL_found_39 : decode c_PL_found 39 = .ok (.getfield 9, 3) := by decide +kernel
theorem d_PL_found_42 : decode c_PL_found 42 = .ok (.getfield 25, 3) := by decide +kernel
theorem d_PL_found_45 : decode c_PL_found 45 = .ok (.if_icmp .ge 63, 3) := by decide +kernel
theorem d_PL_found_48 : decode c_PL_found 48 = .ok (.aload_n 0, 1) := by decide +kernel
theorem d_PL_found_49 : decode c_PL_found 49 = .ok (.getfield 9, 3) := by decide +kernel
theorem d_PL_found_52 : decode c_PL_found 52 = .ok (.getfield 57, 3) := by decide +kernel
theorem d_PL_found_55 : decode c_PL_found 55 = .ok (.aload_n 0, 1) := by decide +kernel
theorem d_PL_found_56 : decode c_PL_found 56 = .ok (.getfield 9, 3) := by decide +kernel
theorem d_PL_found_59 : decode c_PL_found 59 = .ok (.iload_n 1, 1) := by decide +kernel
theorem d_PL_found_60 : decode c_PL_found 60 = .ok (.iload_n 3, 1) := by decide +kernel
theorem d_PL_found_61 : decode c_PL_found 61 = .ok (.invokevirtual 50, 3) := by decide +kernel
theorem d_PL_found_64 : decode c_PL_found 64 = .ok (.iaload, 1) := by decide +kernel
theorem d_PL_found_65 : decode c_PL_found 65 = .ok (.istore 4, 2) := by decide +kernel
theorem d_PL_found_67 : decode c_PL_found 67 = .ok (.aload_n 0, 1) := by decide +kernel
theorem d_PL_found_68 : decode c_PL_found 68 = .ok (.getfield 15, 3) := by decide +kernel
theorem d_PL_found_71 : decode c_PL_found 71 = .ok (.iload 4, 2) := by decide +kernel
theorem d_PL_found_73 : decode c_PL_found 73 = .ok (.invokevirtual 66, 3) := by decide +kernel
theorem d_PL_found_76 : decode c_PL_found 76 = .ok (.ifCond .eq 26, 3) := by decide +kernel
theorem d_PL_found_79 : decode c_PL_found 79 = .ok (.aload_n 0, 1) := by decide +kernel
theorem d_PL_found_80 : decode c_PL_found 80 = .ok (.getfield 15, 3) := by decide +kernel
theorem d_PL_found_83 : decode c_PL_found 83 = .ok (.iload 4, 2) := by decide +kernel
theorem d_PL_found_85 : decode c_PL_found 85 = .ok (.invokevirtual 69, 3) := by decide +kernel
theorem d_PL_found_88 : decode c_PL_found 88 = .ok (.aload_n 0, 1) := by decide +kernel
theorem d_PL_found_89 : decode c_PL_found 89 = .ok (.getfield 9, 3) := by decide +kernel
theorem d_PL_found_92 : decode c_PL_found 92 = .ok (.iload_n 2, 1) := by decide +kernel
theorem d_PL_found_93 : decode c_PL_found 93 = .ok (.invokevirtual 73, 3) := by decide +kernel
theorem d_PL_found_96 : decode c_PL_found 96 = .ok (.if_icmp .ne 6, 3) := by decide +kernel
theorem d_PL_found_99 : decode c_PL_found 99 = .ok (.iload 4, 2) := by decide +kernel
theorem d_PL_found_101 : decode c_PL_found 101 = .ok (.ireturn, 1) := by decide +kernel
theorem d_PL_found_102 : decode c_PL_found 102 = .ok (.iinc 3 1, 3) := by decide +kernel
theorem d_PL_found_105 : decode c_PL_found 105 = .ok (.goto (-68), 3) := by decide +kernel
theorem d_PL_found_108 : decode c_PL_found 108 = .ok (.iconst (-1), 1) := by decide +kernel
theorem d_PL_found_109 : decode c_PL_found 109 = .ok (.ireturn, 1) := by decide +kernel
abbrev c_RK_isWritten : ByteArray := prog_5_method_9_code
abbrev y_RK_isWritten : MethodName := ⟨"StripeField$Rack", "isWritten", "(I)Z"⟩
theorem d_RK_isWritten_0 : decode c_RK_isWritten 0 = .ok (.aload_n 0, 1) := by decide +kernel
theorem d_RK_isWritten_1 : decode c_RK_isWritten 1 = .ok (.getfield 35, 3) := by decide +kernel
theorem d_RK_isWritten_4 : decode c_RK_isWritten 4 = .ok (.iload_n 1, 1) := by decide +kernel
theorem d_RK_isWritten_5 : decode c_RK_isWritten 5 = .ok (.baload, 1) := by decide +kernel
theorem d_RK_isWritten_6 : decode c_RK_isWritten 6 = .ok (.ireturn, 1) := by decide +kernel
abbrev c_RK_isValid : ByteArray := prog_5_method_10_code
abbrev y_RK_isValid : MethodName := ⟨"StripeField$Rack", "isValid", "(I)Z"⟩
theorem d_RK_isValid_0 : decode c_RK_isValid 0 = .ok (.iload_n 1, 1) := by decide +kernel
theorem d_RK_isValid_1 : decode c_RK_isValid 1 = .ok (.iconst (-1), 1) := by decide +kernel
theorem d_RK_isValid_2 : decode c_RK_isValid 2 = .ok (.if_icmp .eq 16, 3) := by decide +kernel
theorem d_RK_isValid_5 : decode c_RK_isValid 5 = .ok (.aload_n 0, 1) := by decide +kernel
theorem d_RK_isValid_6 : decode c_RK_isValid 6 = .ok (.getfield 38, 3) := by decide +kernel
theorem d_RK_isValid_9 : decode c_RK_isValid 9 = .ok (.iload_n 1, 1) := by decide +kernel
theorem d_RK_isValid_10 : decode c_RK_isValid 10 = .ok (.baload, 1) := by decide +kernel
theorem d_RK_isValid_11 : decode c_RK_isValid 11 = .ok (.ifCond .eq 7, 3) := by decide +kernel
theorem d_RK_isValid_14 : decode c_RK_isValid 14 = .ok (.iconst 1, 1) := by decide +kernel
theorem d_RK_isValid_15 : decode c_RK_isValid 15 = .ok (.goto 4, 3) := by decide +kernel
theorem d_RK_isValid_18 : decode c_RK_isValid 18 = .ok (.iconst 0, 1) := by decide +kernel
theorem d_RK_isValid_19 : decode c_RK_isValid 19 = .ok (.ireturn, 1) := by decide +kernel
abbrev c_RK_tag : ByteArray := prog_5_method_11_code
abbrev y_RK_tag : MethodName := ⟨"StripeField$Rack", "tag", "(I)I"⟩
theorem d_RK_tag_0 : decode c_RK_tag 0 = .ok (.aload_n 0, 1) := by decide +kernel
theorem d_RK_tag_1 : decode c_RK_tag 1 = .ok (.getfield 28, 3) := by decide +kernel
theorem d_RK_tag_4 : decode c_RK_tag 4 = .ok (.iload_n 1, 1) := by decide +kernel
theorem d_RK_tag_5 : decode c_RK_tag 5 = .ok (.bipush 9, 2) := by decide +kernel
theorem d_RK_tag_7 : decode c_RK_tag 7 = .ok (.imul, 1) := by decide +kernel
theorem d_RK_tag_8 : decode c_RK_tag 8 = .ok (.bipush 8, 2) := by decide +kernel
theorem d_RK_tag_10 : decode c_RK_tag 10 = .ok (.iadd, 1) := by decide +kernel
theorem d_RK_tag_11 : decode c_RK_tag 11 = .ok (.laload, 1) := by decide +kernel
theorem d_RK_tag_12 : decode c_RK_tag 12 = .ok (.ldc2_w 89, 3) := by decide +kernel
theorem d_RK_tag_15 : decode c_RK_tag 15 = .ok (.land, 1) := by decide +kernel
theorem d_RK_tag_16 : decode c_RK_tag 16 = .ok (.l2i, 1) := by decide +kernel
theorem d_RK_tag_17 : decode c_RK_tag 17 = .ok (.ireturn, 1) := by decide +kernel
abbrev c_LA_tagOf : ByteArray := prog_2_method_12_code
abbrev y_LA_tagOf : MethodName := ⟨"StripeField$Layout", "tagOf", "(I)I"⟩
theorem d_LA_tagOf_0 : decode c_LA_tagOf 0 = .ok (.iload_n 1, 1) := by decide +kernel
theorem d_LA_tagOf_1 : decode c_LA_tagOf 1 = .ok (.aload_n 0, 1) := by decide +kernel
theorem d_LA_tagOf_2 : decode c_LA_tagOf 2 = .ok (.getfield 7, 3) := by decide +kernel
theorem d_LA_tagOf_5 : decode c_LA_tagOf 5 = .ok (.irem, 1) := by decide +kernel
theorem d_LA_tagOf_6 : decode c_LA_tagOf 6 = .ok (.iconst 1, 1) := by decide +kernel
theorem d_LA_tagOf_7 : decode c_LA_tagOf 7 = .ok (.iadd, 1) := by decide +kernel
theorem d_LA_tagOf_8 : decode c_LA_tagOf 8 = .ok (.ireturn, 1) := by decide +kernel
abbrev c_PW_init : ByteArray := prog_4_method_1_code
abbrev y_PW_init : MethodName := ⟨"StripeField$Power", "<init>", "()V"⟩
theorem d_PW_init_0 : decode c_PW_init 0 = .ok (.aload_n 0, 1) := by decide +kernel
theorem d_PW_init_1 : decode c_PW_init 1 = .ok (.invokespecial 1, 3) := by decide +kernel
theorem d_PW_init_4 : decode c_PW_init 4 = .ok (.aload_n 0, 1) := by decide +kernel
theorem d_PW_init_5 : decode c_PW_init 5 = .ok (.iconst 1, 1) := by decide +kernel
theorem d_PW_init_6 : decode c_PW_init 6 = .ok (.putfield 7, 3) := by decide +kernel
theorem d_PW_init_9 : decode c_PW_init 9 = .ok (.return_, 1) := by decide +kernel
abbrev c_AR_fillJ : ByteArray := prog_17_method_101_code
abbrev y_AR_fillJ : MethodName := ⟨"java/util/Arrays", "fill", "([JJ)V"⟩
theorem d_AR_fillJ_0 : decode c_AR_fillJ 0 = .ok (.iconst 0, 1) := by decide +kernel
theorem d_AR_fillJ_1 : decode c_AR_fillJ 1 = .ok (.istore_n 3, 1) := by decide +kernel
theorem d_AR_fillJ_2 : decode c_AR_fillJ 2 = .ok (.aload_n 0, 1) := by decide +kernel
theorem d_AR_fillJ_3 : decode c_AR_fillJ 3 = .ok (.arraylength, 1) := by decide +kernel
theorem d_AR_fillJ_4 : decode c_AR_fillJ 4 = .ok (.istore 4, 2) := by decide +kernel
theorem d_AR_fillJ_6 : decode c_AR_fillJ 6 = .ok (.iload_n 3, 1) := by decide +kernel
theorem d_AR_fillJ_7 : decode c_AR_fillJ 7 = .ok (.iload 4, 2) := by decide +kernel
theorem d_AR_fillJ_9 : decode c_AR_fillJ 9 = .ok (.if_icmp .ge 13, 3) := by decide +kernel
theorem d_AR_fillJ_12 : decode c_AR_fillJ 12 = .ok (.aload_n 0, 1) := by decide +kernel
theorem d_AR_fillJ_13 : decode c_AR_fillJ 13 = .ok (.iload_n 3, 1) := by decide +kernel
theorem d_AR_fillJ_14 : decode c_AR_fillJ 14 = .ok (.lload_n 1, 1) := by decide +kernel
theorem d_AR_fillJ_15 : decode c_AR_fillJ 15 = .ok (.lastore, 1) := by decide +kernel
theorem d_AR_fillJ_16 : decode c_AR_fillJ 16 = .ok (.iinc 3 1, 3) := by decide +kernel
theorem d_AR_fillJ_19 : decode c_AR_fillJ 19 = .ok (.goto (-13), 3) := by decide +kernel
theorem d_AR_fillJ_22 : decode c_AR_fillJ 22 = .ok (.return_, 1) := by decide +kernel
abbrev c_LA_stripeOfBlock : ByteArray := prog_2_method_13_code
abbrev y_LA_stripeOfBlock : MethodName := ⟨"StripeField$Layout", "stripeOfBlock", "(I)I"⟩
theorem d_LA_stripeOfBlock_0 : decode c_LA_stripeOfBlock 0 = .ok (.iload_n 1, 1) := by decide +kernel
theorem d_LA_stripeOfBlock_1 : decode c_LA_stripeOfBlock 1 = .ok (.aload_n 0, 1) := by decide +kernel
theorem d_LA_stripeOfBlock_2 : decode c_LA_stripeOfBlock 2 = .ok (.getfield 25, 3) := by decide +kernel
theorem d_LA_stripeOfBlock_5 : decode c_LA_stripeOfBlock 5 = .ok (.idiv, 1) := by decide +kernel
theorem d_LA_stripeOfBlock_6 : decode c_LA_stripeOfBlock 6 = .ok (.ireturn, 1) := by decide +kernel
abbrev c_LA_columnOfBlock : ByteArray := prog_2_method_14_code
abbrev y_LA_columnOfBlock : MethodName := ⟨"StripeField$Layout", "columnOfBlock", "(I)I"⟩
theorem d_LA_columnOfBlock_0 : decode c_LA_columnOfBlock 0 = .ok (.iload_n 1, 1) := by decide +kernel
theorem d_LA_columnOfBlock_1 : decode c_LA_columnOfBlock 1 = .ok (.aload_n 0, 1) := by decide +kernel
theorem d_LA_columnOfBlock_2 : decode c_LA_columnOfBlock 2 = .ok (.getfield 25, 3) := by decide +kernel
theorem d_LA_columnOfBlock_5 : decode c_LA_columnOfBlock 5 = .ok (.irem, 1) := by decide +kernel
theorem d_LA_columnOfBlock_6 : decode c_LA_columnOfBlock 6 = .ok (.ireturn, 1) := by decide +kernel
abbrev c_LA_slotOf : ByteArray := prog_2_method_9_code
abbrev y_LA_slotOf : MethodName := ⟨"StripeField$Layout", "slotOf", "(II)I"⟩
theorem d_LA_slotOf_0 : decode c_LA_slotOf 0 = .ok (.aload_n 0, 1) := by decide +kernel
theorem d_LA_slotOf_1 : decode c_LA_slotOf 1 = .ok (.iload_n 1, 1) := by decide +kernel
theorem d_LA_slotOf_2 : decode c_LA_slotOf 2 = .ok (.aload_n 0, 1) := by decide +kernel
theorem d_LA_slotOf_3 : decode c_LA_slotOf 3 = .ok (.getfield 19, 3) := by decide +kernel
theorem d_LA_slotOf_6 : decode c_LA_slotOf 6 = .ok (.idiv, 1) := by decide +kernel
theorem d_LA_slotOf_7 : decode c_LA_slotOf 7 = .ok (.aload_n 0, 1) := by decide +kernel
theorem d_LA_slotOf_8 : decode c_LA_slotOf 8 = .ok (.getfield 13, 3) := by decide +kernel
theorem d_LA_slotOf_11 : decode c_LA_slotOf 11 = .ok (.iload_n 1, 1) := by decide +kernel
theorem d_LA_slotOf_12 : decode c_LA_slotOf 12 = .ok (.aload_n 0, 1) := by decide +kernel
theorem d_LA_slotOf_13 : decode c_LA_slotOf 13 = .ok (.getfield 19, 3) := by decide +kernel
theorem d_LA_slotOf_16 : decode c_LA_slotOf 16 = .ok (.irem, 1) := by decide +kernel
theorem d_LA_slotOf_17 : decode c_LA_slotOf 17 = .ok (.imul, 1) := by decide +kernel
theorem d_LA_slotOf_18 : decode c_LA_slotOf 18 = .ok (.iload_n 2, 1) := by decide +kernel
theorem d_LA_slotOf_19 : decode c_LA_slotOf 19 = .ok (.iadd, 1) := by decide +kernel
theorem d_LA_slotOf_20 : decode c_LA_slotOf 20 = .ok (.invokevirtual 63, 3) := by decide +kernel
theorem d_LA_slotOf_23 : decode c_LA_slotOf 23 = .ok (.ireturn, 1) := by decide +kernel
abbrev c_PW_spendWrite : ByteArray := prog_4_method_3_code
abbrev y_PW_spendWrite : MethodName := ⟨"StripeField$Power", "spendWrite", "()Z"⟩
theorem d_PW_spendWrite_0 : decode c_PW_spendWrite 0 = .ok (.aload_n 0, 1) := by decide +kernel
theorem d_PW_spendWrite_1 : decode c_PW_spendWrite 1 = .ok (.getfield 13, 3) := by decide +kernel
theorem d_PW_spendWrite_4 : decode c_PW_spendWrite 4 = .ok (.iconst 1, 1) := by decide +kernel
theorem d_PW_spendWrite_5 : decode c_PW_spendWrite 5 = .ok (.if_icmp .ne 9, 3) := by decide +kernel
theorem d_PW_spendWrite_8 : decode c_PW_spendWrite 8 = .ok (.aload_n 0, 1) := by decide +kernel
theorem d_PW_spendWrite_9 : decode c_PW_spendWrite 9 = .ok (.invokevirtual 17, 3) := by decide +kernel
theorem d_PW_spendWrite_12 : decode c_PW_spendWrite 12 = .ok (.iconst 0, 1) := by decide +kernel
theorem d_PW_spendWrite_13 : decode c_PW_spendWrite 13 = .ok (.ireturn, 1) := by decide +kernel
theorem d_PW_spendWrite_14 : decode c_PW_spendWrite 14 = .ok (.aload_n 0, 1) := by decide +kernel
theorem d_PW_spendWrite_15 : decode c_PW_spendWrite 15 = .ok (.getfield 13, 3) := by decide +kernel
theorem d_PW_spendWrite_18 : decode c_PW_spendWrite 18 = .ok (.iconst 1, 1) := by decide +kernel
theorem d_PW_spendWrite_19 : decode c_PW_spendWrite 19 = .ok (.if_icmp .le 13, 3) := by decide +kernel
theorem d_PW_spendWrite_22 : decode c_PW_spendWrite 22 = .ok (.aload_n 0, 1) := by decide +kernel
theorem d_PW_spendWrite_23 : decode c_PW_spendWrite 23 = .ok (.dup, 1) := by decide +kernel
theorem d_PW_spendWrite_24 : decode c_PW_spendWrite 24 = .ok (.getfield 13, 3) := by decide +kernel
theorem d_PW_spendWrite_27 : decode c_PW_spendWrite 27 = .ok (.iconst 1, 1) := by decide +kernel
theorem d_PW_spendWrite_28 : decode c_PW_spendWrite 28 = .ok (.isub, 1) := by decide +kernel
theorem d_PW_spendWrite_29 : decode c_PW_spendWrite 29 = .ok (.putfield 13, 3) := by decide +kernel
theorem d_PW_spendWrite_32 : decode c_PW_spendWrite 32 = .ok (.aload_n 0, 1) := by decide +kernel
theorem d_PW_spendWrite_33 : decode c_PW_spendWrite 33 = .ok (.dup, 1) := by decide +kernel
theorem d_PW_spendWrite_34 : decode c_PW_spendWrite 34 = .ok (.getfield 20, 3) := by decide +kernel
theorem d_PW_spendWrite_37 : decode c_PW_spendWrite 37 = .ok (.iconst 1, 1) := by decide +kernel
theorem d_PW_spendWrite_38 : decode c_PW_spendWrite 38 = .ok (.iadd, 1) := by decide +kernel
theorem d_PW_spendWrite_39 : decode c_PW_spendWrite 39 = .ok (.putfield 20, 3) := by decide +kernel
theorem d_PW_spendWrite_42 : decode c_PW_spendWrite 42 = .ok (.iconst 1, 1) := by decide +kernel
theorem d_PW_spendWrite_43 : decode c_PW_spendWrite 43 = .ok (.ireturn, 1) := by decide +kernel
abbrev c_PW_cut : ByteArray := prog_4_method_2_code
abbrev y_PW_cut : MethodName := ⟨"StripeField$Power", "cut", "()V"⟩
theorem d_PW_cut_0 : decode c_PW_cut 0 = .ok (.aload_n 0, 1) := by decide +kernel
theorem d_PW_cut_1 : decode c_PW_cut 1 = .ok (.iconst 0, 1) := by decide +kernel
theorem d_PW_cut_2 : decode c_PW_cut 2 = .ok (.putfield 7, 3) := by decide +kernel
theorem d_PW_cut_5 : decode c_PW_cut 5 = .ok (.aload_n 0, 1) := by decide +kernel
theorem d_PW_cut_6 : decode c_PW_cut 6 = .ok (.iconst 0, 1) := by decide +kernel
theorem d_PW_cut_7 : decode c_PW_cut 7 = .ok (.putfield 13, 3) := by decide +kernel
theorem d_PW_cut_10 : decode c_PW_cut 10 = .ok (.return_, 1) := by decide +kernel
abbrev c_RK_addTo : ByteArray := prog_5_method_12_code
abbrev y_RK_addTo : MethodName := ⟨"StripeField$Rack", "addTo", "([JI)V"⟩
theorem d_RK_addTo_0 : decode c_RK_addTo 0 = .ok (.iconst 0, 1) := by decide +kernel
theorem d_RK_addTo_1 : decode c_RK_addTo 1 = .ok (.istore_n 3, 1) := by decide +kernel
theorem d_RK_addTo_2 : decode c_RK_addTo 2 = .ok (.iload_n 3, 1) := by decide +kernel
theorem d_RK_addTo_3 : decode c_RK_addTo 3 = .ok (.bipush 8, 2) := by decide +kernel
theorem d_RK_addTo_5 : decode c_RK_addTo 5 = .ok (.if_icmp .ge 26, 3) := by decide +kernel
theorem d_RK_addTo_8 : decode c_RK_addTo 8 = .ok (.aload_n 1, 1) := by decide +kernel
theorem d_RK_addTo_9 : decode c_RK_addTo 9 = .ok (.iload_n 3, 1) := by decide +kernel
theorem d_RK_addTo_10 : decode c_RK_addTo 10 = .ok (.dup2, 1) := by decide +kernel
theorem d_RK_addTo_11 : decode c_RK_addTo 11 = .ok (.laload, 1) := by decide +kernel
theorem d_RK_addTo_12 : decode c_RK_addTo 12 = .ok (.aload_n 0, 1) := by decide +kernel
theorem d_RK_addTo_13 : decode c_RK_addTo 13 = .ok (.getfield 28, 3) := by decide +kernel
theorem d_RK_addTo_16 : decode c_RK_addTo 16 = .ok (.iload_n 2, 1) := by decide +kernel
theorem d_RK_addTo_17 : decode c_RK_addTo 17 = .ok (.bipush 9, 2) := by decide +kernel
theorem d_RK_addTo_19 : decode c_RK_addTo 19 = .ok (.imul, 1) := by decide +kernel
theorem d_RK_addTo_20 : decode c_RK_addTo 20 = .ok (.iload_n 3, 1) := by decide +kernel
theorem d_RK_addTo_21 : decode c_RK_addTo 21 = .ok (.iadd, 1) := by decide +kernel
theorem d_RK_addTo_22 : decode c_RK_addTo 22 = .ok (.laload, 1) := by decide +kernel
theorem d_RK_addTo_23 : decode c_RK_addTo 23 = .ok (.lxor, 1) := by decide +kernel
theorem d_RK_addTo_24 : decode c_RK_addTo 24 = .ok (.lastore, 1) := by decide +kernel
theorem d_RK_addTo_25 : decode c_RK_addTo 25 = .ok (.iinc 3 1, 3) := by decide +kernel
theorem d_RK_addTo_28 : decode c_RK_addTo 28 = .ok (.goto (-26), 3) := by decide +kernel
theorem d_RK_addTo_31 : decode c_RK_addTo 31 = .ok (.return_, 1) := by decide +kernel
abbrev c_LA_diskOf : ByteArray := prog_2_method_6_code
abbrev y_LA_diskOf : MethodName := ⟨"StripeField$Layout", "diskOf", "(I)I"⟩
theorem d_LA_diskOf_0 : decode c_LA_diskOf 0 = .ok (.iload_n 1, 1) := by decide +kernel
theorem d_LA_diskOf_1 : decode c_LA_diskOf 1 = .ok (.aload_n 0, 1) := by decide +kernel
theorem d_LA_diskOf_2 : decode c_LA_diskOf 2 = .ok (.getfield 16, 3) := by decide +kernel
theorem d_LA_diskOf_5 : decode c_LA_diskOf 5 = .ok (.iconst 1, 1) := by decide +kernel
theorem d_LA_diskOf_6 : decode c_LA_diskOf 6 = .ok (.iadd, 1) := by decide +kernel
theorem d_LA_diskOf_7 : decode c_LA_diskOf 7 = .ok (.idiv, 1) := by decide +kernel
theorem d_LA_diskOf_8 : decode c_LA_diskOf 8 = .ok (.ireturn, 1) := by decide +kernel
abbrev c_RK_removeDisk : ByteArray := prog_5_method_8_code
abbrev y_RK_removeDisk : MethodName := ⟨"StripeField$Rack", "removeDisk", "(I)V"⟩
theorem d_RK_removeDisk_0 : decode c_RK_removeDisk 0 = .ok (.aload_n 0, 1) := by decide +kernel
theorem d_RK_removeDisk_1 : decode c_RK_removeDisk 1 = .ok (.getfield 21, 3) := by decide +kernel
theorem d_RK_removeDisk_4 : decode c_RK_removeDisk 4 = .ok (.iload_n 1, 1) := by decide +kernel
theorem d_RK_removeDisk_5 : decode c_RK_removeDisk 5 = .ok (.iconst 0, 1) := by decide +kernel
theorem d_RK_removeDisk_6 : decode c_RK_removeDisk 6 = .ok (.bastore, 1) := by decide +kernel
theorem d_RK_removeDisk_7 : decode c_RK_removeDisk 7 = .ok (.aload_n 0, 1) := by decide +kernel
theorem d_RK_removeDisk_8 : decode c_RK_removeDisk 8 = .ok (.getfield 9, 3) := by decide +kernel
theorem d_RK_removeDisk_11 : decode c_RK_removeDisk 11 = .ok (.iload_n 1, 1) := by decide +kernel
theorem d_RK_removeDisk_12 : decode c_RK_removeDisk 12 = .ok (.iconst 0, 1) := by decide +kernel
theorem d_RK_removeDisk_13 : decode c_RK_removeDisk 13 = .ok (.invokevirtual 86, 3) := by decide +kernel
theorem d_RK_removeDisk_16 : decode c_RK_removeDisk 16 = .ok (.istore_n 2, 1) := by decide +kernel
theorem d_RK_removeDisk_17 : decode c_RK_removeDisk 17 = .ok (.iload_n 2, 1) := by decide +kernel
theorem d_RK_removeDisk_18 : decode c_RK_removeDisk 18 = .ok (.istore_n 3, 1) := by decide +kernel
theorem d_RK_removeDisk_19 : decode c_RK_removeDisk 19 = .ok (.iload_n 3, 1) := by decide +kernel
theorem d_RK_removeDisk_20 : decode c_RK_removeDisk 20 = .ok (.aload_n 0, 1) := by decide +kernel
theorem d_RK_removeDisk_21 : decode c_RK_removeDisk 21 = .ok (.getfield 9, 3) := by decide +kernel
theorem d_RK_removeDisk_24 : decode c_RK_removeDisk 24 = .ok (.iload_n 1, 1) := by decide +kernel
theorem d_RK_removeDisk_25 : decode c_RK_removeDisk 25 = .ok (.invokevirtual 66, 3) := by decide +kernel
theorem d_RK_removeDisk_28 : decode c_RK_removeDisk 28 = .ok (.if_icmp .gt 23, 3) := by decide +kernel
theorem d_RK_removeDisk_31 : decode c_RK_removeDisk 31 = .ok (.aload_n 0, 1) := by decide +kernel
theorem d_RK_removeDisk_32 : decode c_RK_removeDisk 32 = .ok (.getfield 35, 3) := by decide +kernel
theorem d_RK_removeDisk_35 : decode c_RK_removeDisk 35 = .ok (.iload_n 3, 1) := by decide +kernel
theorem d_RK_removeDisk_36 : decode c_RK_removeDisk 36 = .ok (.iconst 0, 1) := by decide +kernel
theorem d_RK_removeDisk_37 : decode c_RK_removeDisk 37 = .ok (.bastore, 1) := by decide +kernel
theorem d_RK_removeDisk_38 : decode c_RK_removeDisk 38 = .ok (.aload_n 0, 1) := by decide +kernel
theorem d_RK_removeDisk_39 : decode c_RK_removeDisk 39 = .ok (.getfield 38, 3) := by decide +kernel
theorem d_RK_removeDisk_42 : decode c_RK_removeDisk 42 = .ok (.iload_n 3, 1) := by decide +kernel
theorem d_RK_removeDisk_43 : decode c_RK_removeDisk 43 = .ok (.iconst 0, 1) := by decide +kernel
theorem d_RK_removeDisk_44 : decode c_RK_removeDisk 44 = .ok (.bastore, 1) := by decide +kernel
theorem d_RK_removeDisk_45 : decode c_RK_removeDisk 45 = .ok (.iinc 3 1, 3) := by decide +kernel
theorem d_RK_removeDisk_48 : decode c_RK_removeDisk 48 = .ok (.goto (-29), 3) := by decide +kernel
theorem d_RK_removeDisk_51 : decode c_RK_removeDisk 51 = .ok (.return_, 1) := by decide +kernel
abbrev c_PL_dropDisk : ByteArray := prog_3_method_5_code
abbrev y_PL_dropDisk : MethodName := ⟨"StripeField$Places", "dropDisk", "(I)V"⟩
theorem d_PL_dropDisk_0 : decode c_PL_dropDisk 0 = .ok (.iconst 0, 1) := by decide +kernel
theorem d_PL_dropDisk_1 : decode c_PL_dropDisk 1 = .ok (.istore_n 2, 1) := by decide +kernel
theorem d_PL_dropDisk_2 : decode c_PL_dropDisk 2 = .ok (.iload_n 2, 1) := by decide +kernel
theorem d_PL_dropDisk_3 : decode c_PL_dropDisk 3 = .ok (.aload_n 0, 1) := by decide +kernel
theorem d_PL_dropDisk_4 : decode c_PL_dropDisk 4 = .ok (.getfield 9, 3) := by decide +kernel
theorem d_PL_dropDisk_7 : decode c_PL_dropDisk 7 = .ok (.getfield 19, 3) := by decide +kernel
theorem d_PL_dropDisk_10 : decode c_PL_dropDisk 10 = .ok (.if_icmp .ge 48, 3) := by decide +kernel
theorem d_PL_dropDisk_13 : decode c_PL_dropDisk 13 = .ok (.aload_n 0, 1) := by decide +kernel
theorem d_PL_dropDisk_14 : decode c_PL_dropDisk 14 = .ok (.getfield 9, 3) := by decide +kernel
theorem d_PL_dropDisk_17 : decode c_PL_dropDisk 17 = .ok (.iload_n 1, 1) := by decide +kernel
theorem d_PL_dropDisk_18 : decode c_PL_dropDisk 18 = .ok (.iload_n 2, 1) := by decide +kernel
theorem d_PL_dropDisk_19 : decode c_PL_dropDisk 19 = .ok (.invokevirtual 76, 3) := by decide +kernel
theorem d_PL_dropDisk_22 : decode c_PL_dropDisk 22 = .ok (.istore_n 3, 1) := by decide +kernel
theorem d_PL_dropDisk_23 : decode c_PL_dropDisk 23 = .ok (.aload_n 0, 1) := by decide +kernel
theorem d_PL_dropDisk_24 : decode c_PL_dropDisk 24 = .ok (.getfield 35, 3) := by decide +kernel
theorem d_PL_dropDisk_27 : decode c_PL_dropDisk 27 = .ok (.iload_n 3, 1) := by decide +kernel
theorem d_PL_dropDisk_28 : decode c_PL_dropDisk 28 = .ok (.iaload, 1) := by decide +kernel
theorem d_PL_dropDisk_29 : decode c_PL_dropDisk 29 = .ok (.iconst (-1), 1) := by decide +kernel
theorem d_PL_dropDisk_30 : decode c_PL_dropDisk 30 = .ok (.if_icmp .eq 22, 3) := by decide +kernel
theorem d_PL_dropDisk_33 : decode c_PL_dropDisk 33 = .ok (.aload_n 0, 1) := by decide +kernel
theorem d_PL_dropDisk_34 : decode c_PL_dropDisk 34 = .ok (.getfield 28, 3) := by decide +kernel
theorem d_PL_dropDisk_37 : decode c_PL_dropDisk 37 = .ok (.aload_n 0, 1) := by decide +kernel
theorem d_PL_dropDisk_38 : decode c_PL_dropDisk 38 = .ok (.getfield 35, 3) := by decide +kernel
theorem d_PL_dropDisk_41 : decode c_PL_dropDisk 41 = .ok (.iload_n 3, 1) := by decide +kernel
theorem d_PL_dropDisk_42 : decode c_PL_dropDisk 42 = .ok (.iaload, 1) := by decide +kernel
theorem d_PL_dropDisk_43 : decode c_PL_dropDisk 43 = .ok (.iconst (-1), 1) := by decide +kernel
theorem d_PL_dropDisk_44 : decode c_PL_dropDisk 44 = .ok (.iastore, 1) := by decide +kernel
theorem d_PL_dropDisk_45 : decode c_PL_dropDisk 45 = .ok (.aload_n 0, 1) := by decide +kernel
theorem d_PL_dropDisk_46 : decode c_PL_dropDisk 46 = .ok (.getfield 35, 3) := by decide +kernel
theorem d_PL_dropDisk_49 : decode c_PL_dropDisk 49 = .ok (.iload_n 3, 1) := by decide +kernel
theorem d_PL_dropDisk_50 : decode c_PL_dropDisk 50 = .ok (.iconst (-1), 1) := by decide +kernel
theorem d_PL_dropDisk_51 : decode c_PL_dropDisk 51 = .ok (.iastore, 1) := by decide +kernel
theorem d_PL_dropDisk_52 : decode c_PL_dropDisk 52 = .ok (.iinc 2 1, 3) := by decide +kernel
theorem d_PL_dropDisk_55 : decode c_PL_dropDisk 55 = .ok (.goto (-53), 3) := by decide +kernel
theorem d_PL_dropDisk_58 : decode c_PL_dropDisk 58 = .ok (.return_, 1) := by decide +kernel
abbrev c_RK_damage : ByteArray := prog_5_method_6_code
abbrev y_RK_damage : MethodName := ⟨"StripeField$Rack", "damage", "(IIIJ)V"⟩
theorem d_RK_damage_0 : decode c_RK_damage 0 = .ok (.aload_n 0, 1) := by decide +kernel
theorem d_RK_damage_1 : decode c_RK_damage 1 = .ok (.getfield 28, 3) := by decide +kernel
theorem d_RK_damage_4 : decode c_RK_damage 4 = .ok (.iload_n 1, 1) := by decide +kernel
theorem d_RK_damage_5 : decode c_RK_damage 5 = .ok (.bipush 9, 2) := by decide +kernel
theorem d_RK_damage_7 : decode c_RK_damage 7 = .ok (.imul, 1) := by decide +kernel
theorem d_RK_damage_8 : decode c_RK_damage 8 = .ok (.iload_n 2, 1) := by decide +kernel
theorem d_RK_damage_9 : decode c_RK_damage 9 = .ok (.iload_n 3, 1) := by decide +kernel
theorem d_RK_damage_10 : decode c_RK_damage 10 = .ok (.lload 4, 2) := by decide +kernel
theorem d_RK_damage_12 : decode c_RK_damage 12 = .ok (.invokestatic 82, 3) := by decide +kernel
theorem d_RK_damage_15 : decode c_RK_damage 15 = .ok (.aload_n 0, 1) := by decide +kernel
theorem d_RK_damage_16 : decode c_RK_damage 16 = .ok (.getfield 32, 3) := by decide +kernel
theorem d_RK_damage_19 : decode c_RK_damage 19 = .ok (.iload_n 1, 1) := by decide +kernel
theorem d_RK_damage_20 : decode c_RK_damage 20 = .ok (.bipush 9, 2) := by decide +kernel
theorem d_RK_damage_22 : decode c_RK_damage 22 = .ok (.imul, 1) := by decide +kernel
theorem d_RK_damage_23 : decode c_RK_damage 23 = .ok (.iload_n 2, 1) := by decide +kernel
theorem d_RK_damage_24 : decode c_RK_damage 24 = .ok (.iload_n 3, 1) := by decide +kernel
theorem d_RK_damage_25 : decode c_RK_damage 25 = .ok (.lload 4, 2) := by decide +kernel
theorem d_RK_damage_27 : decode c_RK_damage 27 = .ok (.invokestatic 82, 3) := by decide +kernel
theorem d_RK_damage_30 : decode c_RK_damage 30 = .ok (.aload_n 0, 1) := by decide +kernel
theorem d_RK_damage_31 : decode c_RK_damage 31 = .ok (.getfield 28, 3) := by decide +kernel
theorem d_RK_damage_34 : decode c_RK_damage 34 = .ok (.iload_n 1, 1) := by decide +kernel
theorem d_RK_damage_35 : decode c_RK_damage 35 = .ok (.bipush 9, 2) := by decide +kernel
theorem d_RK_damage_37 : decode c_RK_damage 37 = .ok (.imul, 1) := by decide +kernel
theorem d_RK_damage_38 : decode c_RK_damage 38 = .ok (.bipush 8, 2) := by decide +kernel
theorem d_RK_damage_40 : decode c_RK_damage 40 = .ok (.iadd, 1) := by decide +kernel
theorem d_RK_damage_41 : decode c_RK_damage 41 = .ok (.laload, 1) := by decide +kernel
theorem d_RK_damage_42 : decode c_RK_damage 42 = .ok (.bipush 16, 2) := by decide +kernel
theorem d_RK_damage_44 : decode c_RK_damage 44 = .ok (.lushr, 1) := by decide +kernel
theorem d_RK_damage_45 : decode c_RK_damage 45 = .ok (.lstore 6, 2) := by decide +kernel
theorem d_RK_damage_47 : decode c_RK_damage 47 = .ok (.aload_n 0, 1) := by decide +kernel
theorem d_RK_damage_48 : decode c_RK_damage 48 = .ok (.getfield 38, 3) := by decide +kernel
theorem d_RK_damage_51 : decode c_RK_damage 51 = .ok (.iload_n 1, 1) := by decide +kernel
theorem d_RK_damage_52 : decode c_RK_damage 52 = .ok (.lload 6, 2) := by decide +kernel
theorem d_RK_damage_54 : decode c_RK_damage 54 = .ok (.aload_n 0, 1) := by decide +kernel
theorem d_RK_damage_55 : decode c_RK_damage 55 = .ok (.iload_n 1, 1) := by decide +kernel
theorem d_RK_damage_56 : decode c_RK_damage 56 = .ok (.invokevirtual 76, 3) := by decide +kernel
theorem d_RK_damage_59 : decode c_RK_damage 59 = .ok (.i2l, 1) := by decide +kernel
theorem d_RK_damage_60 : decode c_RK_damage 60 = .ok (.ldc2_w 79, 3) := by decide +kernel
theorem d_RK_damage_63 : decode c_RK_damage 63 = .ok (.land, 1) := by decide +kernel
theorem d_RK_damage_64 : decode c_RK_damage 64 = .ok (.lcmp, 1) := by decide +kernel
theorem d_RK_damage_65 : decode c_RK_damage 65 = .ok (.ifCond .ne 7, 3) := by decide +kernel
theorem d_RK_damage_68 : decode c_RK_damage 68 = .ok (.iconst 1, 1) := by decide +kernel
theorem d_RK_damage_69 : decode c_RK_damage 69 = .ok (.goto 4, 3) := by decide +kernel
theorem d_RK_damage_72 : decode c_RK_damage 72 = .ok (.iconst 0, 1) := by decide +kernel
theorem d_RK_damage_73 : decode c_RK_damage 73 = .ok (.bastore, 1) := by decide +kernel
theorem d_RK_damage_74 : decode c_RK_damage 74 = .ok (.return_, 1) := by decide +kernel
abbrev c_RK_isAsWritten : ByteArray := prog_5_method_7_code
abbrev y_RK_isAsWritten : MethodName := ⟨"StripeField$Rack", "isAsWritten", "(I)Z"⟩
theorem d_RK_isAsWritten_0 : decode c_RK_isAsWritten 0 = .ok (.iconst 0, 1) := by decide +kernel
theorem d_RK_isAsWritten_1 : decode c_RK_isAsWritten 1 = .ok (.istore_n 2, 1) := by decide +kernel
theorem d_RK_isAsWritten_2 : decode c_RK_isAsWritten 2 = .ok (.iload_n 2, 1) := by decide +kernel
theorem d_RK_isAsWritten_3 : decode c_RK_isAsWritten 3 = .ok (.bipush 9, 2) := by decide +kernel
theorem d_RK_isAsWritten_5 : decode c_RK_isAsWritten 5 = .ok (.if_icmp .ge 27, 3) := by decide +kernel
theorem d_RK_isAsWritten_8 : decode c_RK_isAsWritten 8 = .ok (.aload_n 0, 1) := by decide +kernel
theorem d_RK_isAsWritten_9 : decode c_RK_isAsWritten 9 = .ok (.getfield 32, 3) := by decide +kernel
theorem d_RK_isAsWritten_12 : decode c_RK_isAsWritten 12 = .ok (.iload_n 1, 1) := by decide +kernel
theorem d_RK_isAsWritten_13 : decode c_RK_isAsWritten 13 = .ok (.bipush 9, 2) := by decide +kernel
theorem d_RK_isAsWritten_15 : decode c_RK_isAsWritten 15 = .ok (.imul, 1) := by decide +kernel
theorem d_RK_isAsWritten_16 : decode c_RK_isAsWritten 16 = .ok (.iload_n 2, 1) := by decide +kernel
theorem d_RK_isAsWritten_17 : decode c_RK_isAsWritten 17 = .ok (.iadd, 1) := by decide +kernel
theorem d_RK_isAsWritten_18 : decode c_RK_isAsWritten 18 = .ok (.laload, 1) := by decide +kernel
theorem d_RK_isAsWritten_19 : decode c_RK_isAsWritten 19 = .ok (.lconst 0, 1) := by decide +kernel
theorem d_RK_isAsWritten_20 : decode c_RK_isAsWritten 20 = .ok (.lcmp, 1) := by decide +kernel
theorem d_RK_isAsWritten_21 : decode c_RK_isAsWritten 21 = .ok (.ifCond .eq 5, 3) := by decide +kernel
theorem d_RK_isAsWritten_24 : decode c_RK_isAsWritten 24 = .ok (.iconst 0, 1) := by decide +kernel
theorem d_RK_isAsWritten_25 : decode c_RK_isAsWritten 25 = .ok (.ireturn, 1) := by decide +kernel
theorem d_RK_isAsWritten_26 : decode c_RK_isAsWritten 26 = .ok (.iinc 2 1, 3) := by decide +kernel
theorem d_RK_isAsWritten_29 : decode c_RK_isAsWritten 29 = .ok (.goto (-27), 3) := by decide +kernel
theorem d_RK_isAsWritten_32 : decode c_RK_isAsWritten 32 = .ok (.iconst 1, 1) := by decide +kernel
theorem d_RK_isAsWritten_33 : decode c_RK_isAsWritten 33 = .ok (.ireturn, 1) := by decide +kernel
abbrev c_LA_stripeOfSlot : ByteArray := prog_2_method_10_code
abbrev y_LA_stripeOfSlot : MethodName := ⟨"StripeField$Layout", "stripeOfSlot", "(I)I"⟩
theorem d_LA_stripeOfSlot_0 : decode c_LA_stripeOfSlot 0 = .ok (.iload_n 1, 1) := by decide +kernel
theorem d_LA_stripeOfSlot_1 : decode c_LA_stripeOfSlot 1 = .ok (.aload_n 0, 1) := by decide +kernel
theorem d_LA_stripeOfSlot_2 : decode c_LA_stripeOfSlot 2 = .ok (.getfield 7, 3) := by decide +kernel
theorem d_LA_stripeOfSlot_5 : decode c_LA_stripeOfSlot 5 = .ok (.idiv, 1) := by decide +kernel
theorem d_LA_stripeOfSlot_6 : decode c_LA_stripeOfSlot 6 = .ok (.aload_n 0, 1) := by decide +kernel
theorem d_LA_stripeOfSlot_7 : decode c_LA_stripeOfSlot 7 = .ok (.getfield 19, 3) := by decide +kernel
theorem d_LA_stripeOfSlot_10 : decode c_LA_stripeOfSlot 10 = .ok (.imul, 1) := by decide +kernel
theorem d_LA_stripeOfSlot_11 : decode c_LA_stripeOfSlot 11 = .ok (.iload_n 1, 1) := by decide +kernel
theorem d_LA_stripeOfSlot_12 : decode c_LA_stripeOfSlot 12 = .ok (.aload_n 0, 1) := by decide +kernel
theorem d_LA_stripeOfSlot_13 : decode c_LA_stripeOfSlot 13 = .ok (.getfield 7, 3) := by decide +kernel
theorem d_LA_stripeOfSlot_16 : decode c_LA_stripeOfSlot 16 = .ok (.irem, 1) := by decide +kernel
theorem d_LA_stripeOfSlot_17 : decode c_LA_stripeOfSlot 17 = .ok (.aload_n 0, 1) := by decide +kernel
theorem d_LA_stripeOfSlot_18 : decode c_LA_stripeOfSlot 18 = .ok (.getfield 13, 3) := by decide +kernel
theorem d_LA_stripeOfSlot_21 : decode c_LA_stripeOfSlot 21 = .ok (.idiv, 1) := by decide +kernel
theorem d_LA_stripeOfSlot_22 : decode c_LA_stripeOfSlot 22 = .ok (.iadd, 1) := by decide +kernel
theorem d_LA_stripeOfSlot_23 : decode c_LA_stripeOfSlot 23 = .ok (.ireturn, 1) := by decide +kernel
abbrev c_LA_columnOfSlot : ByteArray := prog_2_method_11_code
abbrev y_LA_columnOfSlot : MethodName := ⟨"StripeField$Layout", "columnOfSlot", "(I)I"⟩
theorem d_LA_columnOfSlot_0 : decode c_LA_columnOfSlot 0 = .ok (.iload_n 1, 1) := by decide +kernel
theorem d_LA_columnOfSlot_1 : decode c_LA_columnOfSlot 1 = .ok (.aload_n 0, 1) := by decide +kernel
theorem d_LA_columnOfSlot_2 : decode c_LA_columnOfSlot 2 = .ok (.getfield 7, 3) := by decide +kernel
theorem d_LA_columnOfSlot_5 : decode c_LA_columnOfSlot 5 = .ok (.irem, 1) := by decide +kernel
theorem d_LA_columnOfSlot_6 : decode c_LA_columnOfSlot 6 = .ok (.aload_n 0, 1) := by decide +kernel
theorem d_LA_columnOfSlot_7 : decode c_LA_columnOfSlot 7 = .ok (.getfield 13, 3) := by decide +kernel
theorem d_LA_columnOfSlot_10 : decode c_LA_columnOfSlot 10 = .ok (.irem, 1) := by decide +kernel
theorem d_LA_columnOfSlot_11 : decode c_LA_columnOfSlot 11 = .ok (.ireturn, 1) := by decide +kernel
abbrev c_PL_firstFreeSpare : ByteArray := prog_3_method_7_code
abbrev y_PL_firstFreeSpare : MethodName := ⟨"StripeField$Places", "firstFreeSpare", "(I)I"⟩
theorem d_PL_firstFreeSpare_0 : decode c_PL_firstFreeSpare 0 = .ok (.aload_n 0, 1) := by decide +kernel
theorem d_PL_firstFreeSpare_1 : decode c_PL_firstFreeSpare 1 = .ok (.getfield 9, 3) := by decide +kernel
theorem d_PL_firstFreeSpare_4 : decode c_PL_firstFreeSpare 4 = .ok (.getfield 47, 3) := by decide +kernel
theorem d_PL_firstFreeSpare_7 : decode c_PL_firstFreeSpare 7 = .ok (.istore_n 2, 1) := by decide +kernel
theorem d_PL_firstFreeSpare_8 : decode c_PL_firstFreeSpare 8 = .ok (.iload_n 2, 1) := by decide +kernel
theorem d_PL_firstFreeSpare_9 : decode c_PL_firstFreeSpare 9 = .ok (.aload_n 0, 1) := by decide +kernel
theorem d_PL_firstFreeSpare_10 : decode c_PL_firstFreeSpare 10 = .ok (.getfield 9, 3) := by decide +kernel
theorem d_PL_firstFreeSpare_13 : decode c_PL_firstFreeSpare 13 = .ok (.getfield 25, 3) := by decide +kernel
theorem d_PL_firstFreeSpare_16 : decode c_PL_firstFreeSpare 16 = .ok (.if_icmp .ge 37, 3) := by decide +kernel
theorem d_PL_firstFreeSpare_19 : decode c_PL_firstFreeSpare 19 = .ok (.aload_n 0, 1) := by decide +kernel
theorem d_PL_firstFreeSpare_20 : decode c_PL_firstFreeSpare 20 = .ok (.getfield 9, 3) := by decide +kernel
theorem d_PL_firstFreeSpare_23 : decode c_PL_firstFreeSpare 23 = .ok (.getfield 57, 3) := by decide +kernel
theorem d_PL_firstFreeSpare_26 : decode c_PL_firstFreeSpare 26 = .ok (.aload_n 0, 1) := by decide +kernel
theorem d_PL_firstFreeSpare_27 : decode c_PL_firstFreeSpare 27 = .ok (.getfield 9, 3) := by decide +kernel
theorem d_PL_firstFreeSpare_30 : decode c_PL_firstFreeSpare 30 = .ok (.iload_n 1, 1) := by decide +kernel
theorem d_PL_firstFreeSpare_31 : decode c_PL_firstFreeSpare 31 = .ok (.iload_n 2, 1) := by decide +kernel
theorem d_PL_firstFreeSpare_32 : decode c_PL_firstFreeSpare 32 = .ok (.invokevirtual 50, 3) := by decide +kernel
theorem d_PL_firstFreeSpare_35 : decode c_PL_firstFreeSpare 35 = .ok (.iaload, 1) := by decide +kernel
theorem d_PL_firstFreeSpare_36 : decode c_PL_firstFreeSpare 36 = .ok (.istore_n 3, 1) := by decide +kernel
theorem d_PL_firstFreeSpare_37 : decode c_PL_firstFreeSpare 37 = .ok (.aload_n 0, 1) := by decide +kernel
theorem d_PL_firstFreeSpare_38 : decode c_PL_firstFreeSpare 38 = .ok (.iload_n 3, 1) := by decide +kernel
theorem d_PL_firstFreeSpare_39 : decode c_PL_firstFreeSpare 39 = .ok (.invokevirtual 86, 3) := by decide +kernel
theorem d_PL_firstFreeSpare_42 : decode c_PL_firstFreeSpare 42 = .ok (.ifCond .eq 5, 3) := by decide +kernel
theorem d_PL_firstFreeSpare_45 : decode c_PL_firstFreeSpare 45 = .ok (.iload_n 3, 1) := by decide +kernel
theorem d_PL_firstFreeSpare_46 : decode c_PL_firstFreeSpare 46 = .ok (.ireturn, 1) := by decide +kernel
theorem d_PL_firstFreeSpare_47 : decode c_PL_firstFreeSpare 47 = .ok (.iinc 2 1, 3) := by decide +kernel
theorem d_PL_firstFreeSpare_50 : decode c_PL_firstFreeSpare 50 = .ok (.goto (-42), 3) := by decide +kernel
theorem d_PL_firstFreeSpare_53 : decode c_PL_firstFreeSpare 53 = .ok (.iconst (-1), 1) := by decide +kernel
theorem d_PL_firstFreeSpare_54 : decode c_PL_firstFreeSpare 54 = .ok (.ireturn, 1) := by decide +kernel
abbrev c_PL_isFree : ByteArray := prog_3_method_6_code
abbrev y_PL_isFree : MethodName := ⟨"StripeField$Places", "isFree", "(I)Z"⟩
theorem d_PL_isFree_0 : decode c_PL_isFree 0 = .ok (.aload_n 0, 1) := by decide +kernel
theorem d_PL_isFree_1 : decode c_PL_isFree 1 = .ok (.getfield 35, 3) := by decide +kernel
theorem d_PL_isFree_4 : decode c_PL_isFree 4 = .ok (.iload_n 1, 1) := by decide +kernel
theorem d_PL_isFree_5 : decode c_PL_isFree 5 = .ok (.iaload, 1) := by decide +kernel
theorem d_PL_isFree_6 : decode c_PL_isFree 6 = .ok (.iconst (-1), 1) := by decide +kernel
theorem d_PL_isFree_7 : decode c_PL_isFree 7 = .ok (.if_icmp .ne 26, 3) := by decide +kernel
theorem d_PL_isFree_10 : decode c_PL_isFree 10 = .ok (.aload_n 0, 1) := by decide +kernel
theorem d_PL_isFree_11 : decode c_PL_isFree 11 = .ok (.getfield 15, 3) := by decide +kernel
theorem d_PL_isFree_14 : decode c_PL_isFree 14 = .ok (.getfield 79, 3) := by decide +kernel
theorem d_PL_isFree_17 : decode c_PL_isFree 17 = .ok (.aload_n 0, 1) := by decide +kernel
theorem d_PL_isFree_18 : decode c_PL_isFree 18 = .ok (.getfield 9, 3) := by decide +kernel
theorem d_PL_isFree_21 : decode c_PL_isFree 21 = .ok (.iload_n 1, 1) := by decide +kernel
theorem d_PL_isFree_22 : decode c_PL_isFree 22 = .ok (.invokevirtual 83, 3) := by decide +kernel
theorem d_PL_isFree_25 : decode c_PL_isFree 25 = .ok (.baload, 1) := by decide +kernel
theorem d_PL_isFree_26 : decode c_PL_isFree 26 = .ok (.ifCond .eq 7, 3) := by decide +kernel
theorem d_PL_isFree_29 : decode c_PL_isFree 29 = .ok (.iconst 1, 1) := by decide +kernel
theorem d_PL_isFree_30 : decode c_PL_isFree 30 = .ok (.goto 4, 3) := by decide +kernel
theorem d_PL_isFree_33 : decode c_PL_isFree 33 = .ok (.iconst 0, 1) := by decide +kernel
theorem d_PL_isFree_34 : decode c_PL_isFree 34 = .ok (.ireturn, 1) := by decide +kernel
abbrev c_PL_firstToRebuild : ByteArray := prog_3_method_8_code
abbrev y_PL_firstToRebuild : MethodName := ⟨"StripeField$Places", "firstToRebuild", "(I)I"⟩
theorem d_PL_firstToRebuild_0 : decode c_PL_firstToRebuild 0 = .ok (.iconst 0, 1) := by decide +kernel
theorem d_PL_firstToRebuild_1 : decode c_PL_firstToRebuild 1 = .ok (.istore_n 2, 1) := by decide +kernel
theorem d_PL_firstToRebuild_2 : decode c_PL_firstToRebuild 2 = .ok (.iload_n 2, 1) := by decide +kernel
theorem d_PL_firstToRebuild_3 : decode c_PL_firstToRebuild 3 = .ok (.aload_n 0, 1) := by decide +kernel
theorem d_PL_firstToRebuild_4 : decode c_PL_firstToRebuild 4 = .ok (.getfield 9, 3) := by decide +kernel
theorem d_PL_firstToRebuild_7 : decode c_PL_firstToRebuild 7 = .ok (.getfield 47, 3) := by decide +kernel
theorem d_PL_firstToRebuild_10 : decode c_PL_firstToRebuild 10 = .ok (.if_icmp .ge 58, 3) := by decide +kernel
theorem d_PL_firstToRebuild_13 : decode c_PL_firstToRebuild 13 = .ok (.aload_n 0, 1) := by decide +kernel
theorem d_PL_firstToRebuild_14 : decode c_PL_firstToRebuild 14 = .ok (.getfield 9, 3) := by decide +kernel
theorem d_PL_firstToRebuild_17 : decode c_PL_firstToRebuild 17 = .ok (.iload_n 1, 1) := by decide +kernel
theorem d_PL_firstToRebuild_18 : decode c_PL_firstToRebuild 18 = .ok (.iload_n 2, 1) := by decide +kernel
theorem d_PL_firstToRebuild_19 : decode c_PL_firstToRebuild 19 = .ok (.invokevirtual 50, 3) := by decide +kernel
theorem d_PL_firstToRebuild_22 : decode c_PL_firstToRebuild 22 = .ok (.istore_n 3, 1) := by decide +kernel
theorem d_PL_firstToRebuild_23 : decode c_PL_firstToRebuild 23 = .ok (.aload_n 0, 1) := by decide +kernel
theorem d_PL_firstToRebuild_24 : decode c_PL_firstToRebuild 24 = .ok (.getfield 28, 3) := by decide +kernel
theorem d_PL_firstToRebuild_27 : decode c_PL_firstToRebuild 27 = .ok (.iload_n 3, 1) := by decide +kernel
theorem d_PL_firstToRebuild_28 : decode c_PL_firstToRebuild 28 = .ok (.iaload, 1) := by decide +kernel
theorem d_PL_firstToRebuild_29 : decode c_PL_firstToRebuild 29 = .ok (.iconst (-1), 1) := by decide +kernel
theorem d_PL_firstToRebuild_30 : decode c_PL_firstToRebuild 30 = .ok (.if_icmp .ne 32, 3) := by decide +kernel
theorem d_PL_firstToRebuild_33 : decode c_PL_firstToRebuild 33 = .ok (.aload_n 0, 1) := by decide +kernel
theorem d_PL_firstToRebuild_34 : decode c_PL_firstToRebuild 34 = .ok (.getfield 15, 3) := by decide +kernel
theorem d_PL_firstToRebuild_37 : decode c_PL_firstToRebuild 37 = .ok (.getfield 79, 3) := by decide +kernel
theorem d_PL_firstToRebuild_40 : decode c_PL_firstToRebuild 40 = .ok (.aload_n 0, 1) := by decide +kernel
theorem d_PL_firstToRebuild_41 : decode c_PL_firstToRebuild 41 = .ok (.getfield 9, 3) := by decide +kernel
theorem d_PL_firstToRebuild_44 : decode c_PL_firstToRebuild 44 = .ok (.aload_n 0, 1) := by decide +kernel
theorem d_PL_firstToRebuild_45 : decode c_PL_firstToRebuild 45 = .ok (.getfield 9, 3) := by decide +kernel
theorem d_PL_firstToRebuild_48 : decode c_PL_firstToRebuild 48 = .ok (.getfield 57, 3) := by decide +kernel
theorem d_PL_firstToRebuild_51 : decode c_PL_firstToRebuild 51 = .ok (.iload_n 3, 1) := by decide +kernel
theorem d_PL_firstToRebuild_52 : decode c_PL_firstToRebuild 52 = .ok (.iaload, 1) := by decide +kernel
theorem d_PL_firstToRebuild_53 : decode c_PL_firstToRebuild 53 = .ok (.invokevirtual 83, 3) := by decide +kernel
theorem d_PL_firstToRebuild_56 : decode c_PL_firstToRebuild 56 = .ok (.baload, 1) := by decide +kernel
theorem d_PL_firstToRebuild_57 : decode c_PL_firstToRebuild 57 = .ok (.ifCond .ne 5, 3) := by decide +kernel
theorem d_PL_firstToRebuild_60 : decode c_PL_firstToRebuild 60 = .ok (.iload_n 3, 1) := by decide +kernel
theorem d_PL_firstToRebuild_61 : decode c_PL_firstToRebuild 61 = .ok (.ireturn, 1) := by decide +kernel
theorem d_PL_firstToRebuild_62 : decode c_PL_firstToRebuild 62 = .ok (.iinc 2 1, 3) := by decide +kernel
theorem d_PL_firstToRebuild_65 : decode c_PL_firstToRebuild 65 = .ok (.goto (-63), 3) := by decide +kernel
theorem d_PL_firstToRebuild_68 : decode c_PL_firstToRebuild 68 = .ok (.iconst (-1), 1) := by decide +kernel
theorem d_PL_firstToRebuild_69 : decode c_PL_firstToRebuild 69 = .ok (.ireturn, 1) := by decide +kernel
abbrev c_PL_move : ByteArray := prog_3_method_4_code
abbrev y_PL_move : MethodName := ⟨"StripeField$Places", "move", "(II)V"⟩
theorem d_PL_move_0 : decode c_PL_move 0 = .ok (.aload_n 0, 1) := by decide +kernel
theorem d_PL_move_1 : decode c_PL_move 1 = .ok (.getfield 28, 3) := by decide +kernel
theorem d_PL_move_4 : decode c_PL_move 4 = .ok (.iload_n 1, 1) := by decide +kernel
theorem d_PL_move_5 : decode c_PL_move 5 = .ok (.iaload, 1) := by decide +kernel
theorem d_PL_move_6 : decode c_PL_move 6 = .ok (.iconst (-1), 1) := by decide +kernel
theorem d_PL_move_7 : decode c_PL_move 7 = .ok (.if_icmp .eq 15, 3) := by decide +kernel
theorem d_PL_move_10 : decode c_PL_move 10 = .ok (.aload_n 0, 1) := by decide +kernel
theorem d_PL_move_11 : decode c_PL_move 11 = .ok (.getfield 35, 3) := by decide +kernel
theorem d_PL_move_14 : decode c_PL_move 14 = .ok (.aload_n 0, 1) := by decide +kernel
theorem d_PL_move_15 : decode c_PL_move 15 = .ok (.getfield 28, 3) := by decide +kernel
theorem d_PL_move_18 : decode c_PL_move 18 = .ok (.iload_n 1, 1) := by decide +kernel
theorem d_PL_move_19 : decode c_PL_move 19 = .ok (.iaload, 1) := by decide +kernel
theorem d_PL_move_20 : decode c_PL_move 20 = .ok (.iconst (-1), 1) := by decide +kernel
theorem d_PL_move_21 : decode c_PL_move 21 = .ok (.iastore, 1) := by decide +kernel
theorem d_PL_move_22 : decode c_PL_move 22 = .ok (.aload_n 0, 1) := by decide +kernel
theorem d_PL_move_23 : decode c_PL_move 23 = .ok (.getfield 28, 3) := by decide +kernel
theorem d_PL_move_26 : decode c_PL_move 26 = .ok (.iload_n 1, 1) := by decide +kernel
theorem d_PL_move_27 : decode c_PL_move 27 = .ok (.iload_n 2, 1) := by decide +kernel
theorem d_PL_move_28 : decode c_PL_move 28 = .ok (.iastore, 1) := by decide +kernel
theorem d_PL_move_29 : decode c_PL_move 29 = .ok (.aload_n 0, 1) := by decide +kernel
theorem d_PL_move_30 : decode c_PL_move 30 = .ok (.getfield 35, 3) := by decide +kernel
theorem d_PL_move_33 : decode c_PL_move 33 = .ok (.iload_n 2, 1) := by decide +kernel
theorem d_PL_move_34 : decode c_PL_move 34 = .ok (.iload_n 1, 1) := by decide +kernel
theorem d_PL_move_35 : decode c_PL_move 35 = .ok (.iastore, 1) := by decide +kernel
theorem d_PL_move_36 : decode c_PL_move 36 = .ok (.return_, 1) := by decide +kernel
abbrev c_PL_firstToCopyBack : ByteArray := prog_3_method_9_code
abbrev y_PL_firstToCopyBack : MethodName := ⟨"StripeField$Places", "firstToCopyBack", "()I"⟩
theorem d_PL_firstToCopyBack_0 : decode c_PL_firstToCopyBack 0 = .ok (.iconst 0, 1) := by decide +kernel
theorem d_PL_firstToCopyBack_1 : decode c_PL_firstToCopyBack 1 = .ok (.istore_n 1, 1) := by decide +kernel
theorem d_PL_firstToCopyBack_2 : decode c_PL_firstToCopyBack 2 = .ok (.iload_n 1, 1) := by decide +kernel
theorem d_PL_firstToCopyBack_3 : decode c_PL_firstToCopyBack 3 = .ok (.aload_n 0, 1) := by decide +kernel
theorem d_PL_firstToCopyBack_4 : decode c_PL_firstToCopyBack 4 = .ok (.getfield 9, 3) := by decide +kernel
theorem d_PL_firstToCopyBack_7 : decode c_PL_firstToCopyBack 7 = .ok (.getfield 19, 3) := by decide +kernel
theorem d_PL_firstToCopyBack_10 : decode c_PL_firstToCopyBack 10 = .ok (.if_icmp .ge 83, 3) := by decide +kernel
theorem d_PL_firstToCopyBack_13 : decode c_PL_firstToCopyBack 13 = .ok (.iconst 0, 1) := by decide +kernel
theorem d_PL_firstToCopyBack_14 : decode c_PL_firstToCopyBack 14 = .ok (.istore_n 2, 1) := by decide +kernel
theorem d_PL_firstToCopyBack_15 : decode c_PL_firstToCopyBack 15 = .ok (.iload_n 2, 1) := by decide +kernel
theorem d_PL_firstToCopyBack_16 : decode c_PL_firstToCopyBack 16 = .ok (.aload_n 0, 1) := by decide +kernel
theorem d_PL_firstToCopyBack_17 : decode c_PL_firstToCopyBack 17 = .ok (.getfield 9, 3) := by decide +kernel
theorem d_PL_firstToCopyBack_20 : decode c_PL_firstToCopyBack 20 = .ok (.getfield 47, 3) := by decide +kernel
theorem d_PL_firstToCopyBack_23 : decode c_PL_firstToCopyBack 23 = .ok (.if_icmp .ge 64, 3) := by decide +kernel
theorem d_PL_firstToCopyBack_26 : decode c_PL_firstToCopyBack 26 = .ok (.aload_n 0, 1) := by decide +kernel
theorem d_PL_firstToCopyBack_27 : decode c_PL_firstToCopyBack 27 = .ok (.getfield 9, 3) := by decide +kernel
theorem d_PL_firstToCopyBack_30 : decode c_PL_firstToCopyBack 30 = .ok (.iload_n 1, 1) := by decide +kernel
theorem d_PL_firstToCopyBack_31 : decode c_PL_firstToCopyBack 31 = .ok (.iload_n 2, 1) := by decide +kernel
theorem d_PL_firstToCopyBack_32 : decode c_PL_firstToCopyBack 32 = .ok (.invokevirtual 50, 3) := by decide +kernel
theorem d_PL_firstToCopyBack_35 : decode c_PL_firstToCopyBack 35 = .ok (.istore_n 3, 1) := by decide +kernel
theorem d_PL_firstToCopyBack_36 : decode c_PL_firstToCopyBack 36 = .ok (.aload_n 0, 1) := by decide +kernel
theorem d_PL_firstToCopyBack_37 : decode c_PL_firstToCopyBack 37 = .ok (.getfield 9, 3) := by decide +kernel
theorem d_PL_firstToCopyBack_40 : decode c_PL_firstToCopyBack 40 = .ok (.getfield 57, 3) := by decide +kernel
theorem d_PL_firstToCopyBack_43 : decode c_PL_firstToCopyBack 43 = .ok (.iload_n 3, 1) := by decide +kernel
theorem d_PL_firstToCopyBack_44 : decode c_PL_firstToCopyBack 44 = .ok (.iaload, 1) := by decide +kernel
theorem d_PL_firstToCopyBack_45 : decode c_PL_firstToCopyBack 45 = .ok (.istore 4, 2) := by decide +kernel
theorem d_PL_firstToCopyBack_47 : decode c_PL_firstToCopyBack 47 = .ok (.aload_n 0, 1) := by decide +kernel
theorem d_PL_firstToCopyBack_48 : decode c_PL_firstToCopyBack 48 = .ok (.getfield 15, 3) := by decide +kernel
theorem d_PL_firstToCopyBack_51 : decode c_PL_firstToCopyBack 51 = .ok (.getfield 79, 3) := by decide +kernel
theorem d_PL_firstToCopyBack_54 : decode c_PL_firstToCopyBack 54 = .ok (.aload_n 0, 1) := by decide +kernel
theorem d_PL_firstToCopyBack_55 : decode c_PL_firstToCopyBack 55 = .ok (.getfield 9, 3) := by decide +kernel
theorem d_PL_firstToCopyBack_58 : decode c_PL_firstToCopyBack 58 = .ok (.iload 4, 2) := by decide +kernel
theorem d_PL_firstToCopyBack_60 : decode c_PL_firstToCopyBack 60 = .ok (.invokevirtual 83, 3) := by decide +kernel
theorem d_PL_firstToCopyBack_63 : decode c_PL_firstToCopyBack 63 = .ok (.baload, 1) := by decide +kernel
theorem d_PL_firstToCopyBack_64 : decode c_PL_firstToCopyBack 64 = .ok (.ifCond .eq 17, 3) := by decide +kernel
theorem d_PL_firstToCopyBack_67 : decode c_PL_firstToCopyBack 67 = .ok (.aload_n 0, 1) := by decide +kernel
theorem d_PL_firstToCopyBack_68 : decode c_PL_firstToCopyBack 68 = .ok (.getfield 15, 3) := by decide +kernel
theorem d_PL_firstToCopyBack_71 : decode c_PL_firstToCopyBack 71 = .ok (.iload 4, 2) := by decide +kernel
theorem d_PL_firstToCopyBack_73 : decode c_PL_firstToCopyBack 73 = .ok (.invokevirtual 60, 3) := by decide +kernel
theorem d_PL_firstToCopyBack_76 : decode c_PL_firstToCopyBack 76 = .ok (.ifCond .ne 5, 3) := by decide +kernel
theorem d_PL_firstToCopyBack_79 : decode c_PL_firstToCopyBack 79 = .ok (.iload_n 3, 1) := by decide +kernel
theorem d_PL_firstToCopyBack_80 : decode c_PL_firstToCopyBack 80 = .ok (.ireturn, 1) := by decide +kernel
theorem d_PL_firstToCopyBack_81 : decode c_PL_firstToCopyBack 81 = .ok (.iinc 2 1, 3) := by decide +kernel
theorem d_PL_firstToCopyBack_84 : decode c_PL_firstToCopyBack 84 = .ok (.goto (-69), 3) := by decide +kernel
theorem d_PL_firstToCopyBack_87 : decode c_PL_firstToCopyBack 87 = .ok (.iinc 1 1, 3) := by decide +kernel
theorem d_PL_firstToCopyBack_90 : decode c_PL_firstToCopyBack 90 = .ok (.goto (-88), 3) := by decide +kernel
theorem d_PL_firstToCopyBack_93 : decode c_PL_firstToCopyBack 93 = .ok (.iconst (-1), 1) := by decide +kernel
theorem d_PL_firstToCopyBack_94 : decode c_PL_firstToCopyBack 94 = .ok (.ireturn, 1) := by decide +kernel
abbrev c_PL_countLost : ByteArray := prog_3_method_10_code
abbrev y_PL_countLost : MethodName := ⟨"StripeField$Places", "countLost", "()I"⟩
theorem d_PL_countLost_0 : decode c_PL_countLost 0 = .ok (.aload_n 0, 1) := by decide +kernel
theorem d_PL_countLost_1 : decode c_PL_countLost 1 = .ok (.getfield 9, 3) := by decide +kernel
theorem d_PL_countLost_4 : decode c_PL_countLost 4 = .ok (.getfield 19, 3) := by decide +kernel
theorem d_PL_countLost_7 : decode c_PL_countLost 7 = .ok (.aload_n 0, 1) := by decide +kernel
theorem d_PL_countLost_8 : decode c_PL_countLost 8 = .ok (.getfield 9, 3) := by decide +kernel
theorem d_PL_countLost_11 : decode c_PL_countLost 11 = .ok (.getfield 47, 3) := by decide +kernel
theorem d_PL_countLost_14 : decode c_PL_countLost 14 = .ok (.imul, 1) := by decide +kernel
theorem d_PL_countLost_15 : decode c_PL_countLost 15 = .ok (.aload_n 0, 1) := by decide +kernel
theorem d_PL_countLost_16 : decode c_PL_countLost 16 = .ok (.iconst 0, 1) := by decide +kernel
theorem d_PL_countLost_17 : decode c_PL_countLost 17 = .ok (.invokevirtual 89, 3) := by decide +kernel
theorem d_PL_countLost_20 : decode c_PL_countLost 20 = .ok (.isub, 1) := by decide +kernel
theorem d_PL_countLost_21 : decode c_PL_countLost 21 = .ok (.ireturn, 1) := by decide +kernel
abbrev c_PL_countPlaces : ByteArray := prog_3_method_12_code
abbrev y_PL_countPlaces : MethodName := ⟨"StripeField$Places", "countPlaces", "(Z)I"⟩
theorem d_PL_countPlaces_0 : decode c_PL_countPlaces 0 = .ok (.iconst 0, 1) := by decide +kernel
theorem d_PL_countPlaces_1 : decode c_PL_countPlaces 1 = .ok (.istore_n 2, 1) := by decide +kernel
theorem d_PL_countPlaces_2 : decode c_PL_countPlaces 2 = .ok (.iconst 0, 1) := by decide +kernel
theorem d_PL_countPlaces_3 : decode c_PL_countPlaces 3 = .ok (.istore_n 3, 1) := by decide +kernel
theorem d_PL_countPlaces_4 : decode c_PL_countPlaces 4 = .ok (.iload_n 3, 1) := by decide +kernel
theorem d_PL_countPlaces_5 : decode c_PL_countPlaces 5 = .ok (.aload_n 0, 1) := by decide +kernel
theorem d_PL_countPlaces_6 : decode c_PL_countPlaces 6 = .ok (.getfield 9, 3) := by decide +kernel
theorem d_PL_countPlaces_9 : decode c_PL_countPlaces 9 = .ok (.getfield 32, 3) := by decide +kernel
theorem d_PL_countPlaces_12 : decode c_PL_countPlaces 12 = .ok (.if_icmp .ge 37, 3) := by decide +kernel
theorem d_PL_countPlaces_15 : decode c_PL_countPlaces 15 = .ok (.aload_n 0, 1) := by decide +kernel
theorem d_PL_countPlaces_16 : decode c_PL_countPlaces 16 = .ok (.getfield 35, 3) := by decide +kernel
theorem d_PL_countPlaces_19 : decode c_PL_countPlaces 19 = .ok (.iload_n 3, 1) := by decide +kernel
theorem d_PL_countPlaces_20 : decode c_PL_countPlaces 20 = .ok (.iaload, 1) := by decide +kernel
theorem d_PL_countPlaces_21 : decode c_PL_countPlaces 21 = .ok (.iconst (-1), 1) := by decide +kernel
theorem d_PL_countPlaces_22 : decode c_PL_countPlaces 22 = .ok (.if_icmp .eq 21, 3) := by decide +kernel
theorem d_PL_countPlaces_25 : decode c_PL_countPlaces 25 = .ok (.iload_n 1, 1) := by decide +kernel
theorem d_PL_countPlaces_26 : decode c_PL_countPlaces 26 = .ok (.ifCond .eq 14, 3) := by decide +kernel
theorem d_PL_countPlaces_29 : decode c_PL_countPlaces 29 = .ok (.aload_n 0, 1) := by decide +kernel
theorem d_PL_countPlaces_30 : decode c_PL_countPlaces 30 = .ok (.getfield 15, 3) := by decide +kernel
theorem d_PL_countPlaces_33 : decode c_PL_countPlaces 33 = .ok (.iload_n 3, 1) := by decide +kernel
theorem d_PL_countPlaces_34 : decode c_PL_countPlaces 34 = .ok (.invokevirtual 66, 3) := by decide +kernel
theorem d_PL_countPlaces_37 : decode c_PL_countPlaces 37 = .ok (.ifCond .eq 6, 3) := by decide +kernel
theorem d_PL_countPlaces_40 : decode c_PL_countPlaces 40 = .ok (.iinc 2 1, 3) := by decide +kernel
theorem d_PL_countPlaces_43 : decode c_PL_countPlaces 43 = .ok (.iinc 3 1, 3) := by decide +kernel
theorem d_PL_countPlaces_46 : decode c_PL_countPlaces 46 = .ok (.goto (-42), 3) := by decide +kernel
theorem d_PL_countPlaces_49 : decode c_PL_countPlaces 49 = .ok (.iload_n 2, 1) := by decide +kernel
theorem d_PL_countPlaces_50 : decode c_PL_countPlaces 50 = .ok (.ireturn, 1) := by decide +kernel
abbrev c_PL_countSpoilt : ByteArray := prog_3_method_11_code
abbrev y_PL_countSpoilt : MethodName := ⟨"StripeField$Places", "countSpoilt", "()I"⟩
theorem d_PL_countSpoilt_0 : decode c_PL_countSpoilt 0 = .ok (.aload_n 0, 1) := by decide +kernel
theorem d_PL_countSpoilt_1 : decode c_PL_countSpoilt 1 = .ok (.iconst 0, 1) := by decide +kernel
theorem d_PL_countSpoilt_2 : decode c_PL_countSpoilt 2 = .ok (.invokevirtual 89, 3) := by decide +kernel
theorem d_PL_countSpoilt_5 : decode c_PL_countSpoilt 5 = .ok (.aload_n 0, 1) := by decide +kernel
theorem d_PL_countSpoilt_6 : decode c_PL_countSpoilt 6 = .ok (.iconst 1, 1) := by decide +kernel
theorem d_PL_countSpoilt_7 : decode c_PL_countSpoilt 7 = .ok (.invokevirtual 89, 3) := by decide +kernel
theorem d_PL_countSpoilt_10 : decode c_PL_countSpoilt 10 = .ok (.isub, 1) := by decide +kernel
theorem d_PL_countSpoilt_11 : decode c_PL_countSpoilt 11 = .ok (.ireturn, 1) := by decide +kernel
abbrev c_PL_countFreeSpares : ByteArray := prog_3_method_13_code
abbrev y_PL_countFreeSpares : MethodName := ⟨"StripeField$Places", "countFreeSpares", "()I"⟩
theorem d_PL_countFreeSpares_0 : decode c_PL_countFreeSpares 0 = .ok (.iconst 0, 1) := by decide +kernel
theorem d_PL_countFreeSpares_1 : decode c_PL_countFreeSpares 1 = .ok (.istore_n 1, 1) := by decide +kernel
theorem d_PL_countFreeSpares_2 : decode c_PL_countFreeSpares 2 = .ok (.iconst 0, 1) := by decide +kernel
theorem d_PL_countFreeSpares_3 : decode c_PL_countFreeSpares 3 = .ok (.istore_n 2, 1) := by decide +kernel
theorem d_PL_countFreeSpares_4 : decode c_PL_countFreeSpares 4 = .ok (.iload_n 2, 1) := by decide +kernel
theorem d_PL_countFreeSpares_5 : decode c_PL_countFreeSpares 5 = .ok (.aload_n 0, 1) := by decide +kernel
theorem d_PL_countFreeSpares_6 : decode c_PL_countFreeSpares 6 = .ok (.getfield 9, 3) := by decide +kernel
theorem d_PL_countFreeSpares_9 : decode c_PL_countFreeSpares 9 = .ok (.getfield 19, 3) := by decide +kernel
theorem d_PL_countFreeSpares_12 : decode c_PL_countFreeSpares 12 = .ok (.if_icmp .ge 61, 3) := by decide +kernel
theorem d_PL_countFreeSpares_15 : decode c_PL_countFreeSpares 15 = .ok (.aload_n 0, 1) := by decide +kernel
theorem d_PL_countFreeSpares_16 : decode c_PL_countFreeSpares 16 = .ok (.getfield 9, 3) := by decide +kernel
theorem d_PL_countFreeSpares_19 : decode c_PL_countFreeSpares 19 = .ok (.getfield 47, 3) := by decide +kernel
theorem d_PL_countFreeSpares_22 : decode c_PL_countFreeSpares 22 = .ok (.istore_n 3, 1) := by decide +kernel
theorem d_PL_countFreeSpares_23 : decode c_PL_countFreeSpares 23 = .ok (.iload_n 3, 1) := by decide +kernel
theorem d_PL_countFreeSpares_24 : decode c_PL_countFreeSpares 24 = .ok (.aload_n 0, 1) := by decide +kernel
theorem d_PL_countFreeSpares_25 : decode c_PL_countFreeSpares 25 = .ok (.getfield 9, 3) := by decide +kernel
theorem d_PL_countFreeSpares_28 : decode c_PL_countFreeSpares 28 = .ok (.getfield 25, 3) := by decide +kernel
theorem d_PL_countFreeSpares_31 : decode c_PL_countFreeSpares 31 = .ok (.if_icmp .ge 36, 3) := by decide +kernel
theorem d_PL_countFreeSpares_34 : decode c_PL_countFreeSpares 34 = .ok (.aload_n 0, 1) := by decide +kernel
theorem d_PL_countFreeSpares_35 : decode c_PL_countFreeSpares 35 = .ok (.aload_n 0, 1) := by decide +kernel
theorem d_PL_countFreeSpares_36 : decode c_PL_countFreeSpares 36 = .ok (.getfield 9, 3) := by decide +kernel
theorem d_PL_countFreeSpares_39 : decode c_PL_countFreeSpares 39 = .ok (.getfield 57, 3) := by decide +kernel
theorem d_PL_countFreeSpares_42 : decode c_PL_countFreeSpares 42 = .ok (.aload_n 0, 1) := by decide +kernel
theorem d_PL_countFreeSpares_43 : decode c_PL_countFreeSpares 43 = .ok (.getfield 9, 3) := by decide +kernel
theorem d_PL_countFreeSpares_46 : decode c_PL_countFreeSpares 46 = .ok (.iload_n 2, 1) := by decide +kernel
theorem d_PL_countFreeSpares_47 : decode c_PL_countFreeSpares 47 = .ok (.iload_n 3, 1) := by decide +kernel
theorem d_PL_countFreeSpares_48 : decode c_PL_countFreeSpares 48 = .ok (.invokevirtual 50, 3) := by decide +kernel
theorem d_PL_countFreeSpares_51 : decode c_PL_countFreeSpares 51 = .ok (.iaload, 1) := by decide +kernel
theorem d_PL_countFreeSpares_52 : decode c_PL_countFreeSpares 52 = .ok (.invokevirtual 86, 3) := by decide +kernel
theorem d_PL_countFreeSpares_55 : decode c_PL_countFreeSpares 55 = .ok (.ifCond .eq 6, 3) := by decide +kernel
theorem d_PL_countFreeSpares_58 : decode c_PL_countFreeSpares 58 = .ok (.iinc 1 1, 3) := by decide +kernel
theorem d_PL_countFreeSpares_61 : decode c_PL_countFreeSpares 61 = .ok (.iinc 3 1, 3) := by decide +kernel
theorem d_PL_countFreeSpares_64 : decode c_PL_countFreeSpares 64 = .ok (.goto (-41), 3) := by decide +kernel
theorem d_PL_countFreeSpares_67 : decode c_PL_countFreeSpares 67 = .ok (.iinc 2 1, 3) := by decide +kernel
theorem d_PL_countFreeSpares_70 : decode c_PL_countFreeSpares 70 = .ok (.goto (-66), 3) := by decide +kernel
theorem d_PL_countFreeSpares_73 : decode c_PL_countFreeSpares 73 = .ok (.iload_n 1, 1) := by decide +kernel
theorem d_PL_countFreeSpares_74 : decode c_PL_countFreeSpares 74 = .ok (.ireturn, 1) := by decide +kernel
abbrev c_RK_countLive : ByteArray := prog_5_method_13_code
abbrev y_RK_countLive : MethodName := ⟨"StripeField$Rack", "countLive", "()I"⟩
theorem d_RK_countLive_0 : decode c_RK_countLive 0 = .ok (.iconst 0, 1) := by decide +kernel
theorem d_RK_countLive_1 : decode c_RK_countLive 1 = .ok (.istore_n 1, 1) := by decide +kernel
theorem d_RK_countLive_2 : decode c_RK_countLive 2 = .ok (.iconst 0, 1) := by decide +kernel
theorem d_RK_countLive_3 : decode c_RK_countLive 3 = .ok (.istore_n 2, 1) := by decide +kernel
theorem d_RK_countLive_4 : decode c_RK_countLive 4 = .ok (.iload_n 2, 1) := by decide +kernel
theorem d_RK_countLive_5 : decode c_RK_countLive 5 = .ok (.aload_n 0, 1) := by decide +kernel
theorem d_RK_countLive_6 : decode c_RK_countLive 6 = .ok (.getfield 9, 3) := by decide +kernel
theorem d_RK_countLive_9 : decode c_RK_countLive 9 = .ok (.getfield 15, 3) := by decide +kernel
theorem d_RK_countLive_12 : decode c_RK_countLive 12 = .ok (.if_icmp .ge 21, 3) := by decide +kernel
theorem d_RK_countLive_15 : decode c_RK_countLive 15 = .ok (.aload_n 0, 1) := by decide +kernel
theorem d_RK_countLive_16 : decode c_RK_countLive 16 = .ok (.getfield 21, 3) := by decide +kernel
theorem d_RK_countLive_19 : decode c_RK_countLive 19 = .ok (.iload_n 2, 1) := by decide +kernel
theorem d_RK_countLive_20 : decode c_RK_countLive 20 = .ok (.baload, 1) := by decide +kernel
theorem d_RK_countLive_21 : decode c_RK_countLive 21 = .ok (.ifCond .eq 6, 3) := by decide +kernel
theorem d_RK_countLive_24 : decode c_RK_countLive 24 = .ok (.iinc 1 1, 3) := by decide +kernel
theorem d_RK_countLive_27 : decode c_RK_countLive 27 = .ok (.iinc 2 1, 3) := by decide +kernel
theorem d_RK_countLive_30 : decode c_RK_countLive 30 = .ok (.goto (-26), 3) := by decide +kernel
theorem d_RK_countLive_33 : decode c_RK_countLive 33 = .ok (.iload_n 1, 1) := by decide +kernel
theorem d_RK_countLive_34 : decode c_RK_countLive 34 = .ok (.ireturn, 1) := by decide +kernel
