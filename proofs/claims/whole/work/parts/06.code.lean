abbrev c_LW_cell : ByteArray := method_2_code
abbrev y_LW_cell : MethodName := ⟨"StripeFieldLaw", "cell", "([II)I"⟩
theorem d_LW_cell_0 : decode c_LW_cell 0 = .ok (.iload_n 1, 1) := by decide +kernel
theorem d_LW_cell_1 : decode c_LW_cell 1 = .ok (.aload_n 0, 1) := by decide +kernel
theorem d_LW_cell_2 : decode c_LW_cell 2 = .ok (.arraylength, 1) := by decide +kernel
theorem d_LW_cell_3 : decode c_LW_cell 3 = .ok (.if_icmp .ge 9, 3) := by decide +kernel
theorem d_LW_cell_6 : decode c_LW_cell 6 = .ok (.aload_n 0, 1) := by decide +kernel
theorem d_LW_cell_7 : decode c_LW_cell 7 = .ok (.iload_n 1, 1) := by decide +kernel
theorem d_LW_cell_8 : decode c_LW_cell 8 = .ok (.iaload, 1) := by decide +kernel
theorem d_LW_cell_9 : decode c_LW_cell 9 = .ok (.goto 4, 3) := by decide +kernel
theorem d_LW_cell_12 : decode c_LW_cell 12 = .ok (.iconst 0, 1) := by decide +kernel
theorem d_LW_cell_13 : decode c_LW_cell 13 = .ok (.ireturn, 1) := by decide +kernel
abbrev c_LW_feed : ByteArray := method_3_code
abbrev y_LW_feed : MethodName := ⟨"StripeFieldLaw", "feed", "(LStripeField;IJ[J)I"⟩
theorem d_LW_feed_0 : decode c_LW_feed 0 = .ok (.aload 4, 2) := by decide +kernel
theorem d_LW_feed_2 : decode c_LW_feed 2 = .ok (.iconst 0, 1) := by decide +kernel
theorem d_LW_feed_3 : decode c_LW_feed 3 = .ok (.aload_n 0, 1) := by decide +kernel
theorem d_LW_feed_4 : decode c_LW_feed 4 = .ok (.iload_n 1, 1) := by decide +kernel
theorem d_LW_feed_5 : decode c_LW_feed 5 = .ok (.lload_n 2, 1) := by decide +kernel
theorem d_LW_feed_6 : decode c_LW_feed 6 = .ok (.invokevirtual 7, 3) := by decide +kernel
theorem d_LW_feed_9 : decode c_LW_feed 9 = .ok (.i2l, 1) := by decide +kernel
theorem d_LW_feed_10 : decode c_LW_feed 10 = .ok (.lastore, 1) := by decide +kernel
theorem d_LW_feed_11 : decode c_LW_feed 11 = .ok (.goto 11, 3) := by decide +kernel
theorem d_LW_feed_14 : decode c_LW_feed 14 = .ok (.astore 5, 2) := by decide +kernel
theorem d_LW_feed_16 : decode c_LW_feed 16 = .ok (.iconst 1, 1) := by decide +kernel
theorem d_LW_feed_17 : decode c_LW_feed 17 = .ok (.ireturn, 1) := by decide +kernel
theorem d_LW_feed_18 : decode c_LW_feed 18 = .ok (.astore 5, 2) := by decide +kernel
theorem d_LW_feed_20 : decode c_LW_feed 20 = .ok (.iconst 2, 1) := by decide +kernel
theorem d_LW_feed_21 : decode c_LW_feed 21 = .ok (.ireturn, 1) := by decide +kernel
theorem d_LW_feed_22 : decode c_LW_feed 22 = .ok (.iconst 0, 1) := by decide +kernel
theorem d_LW_feed_23 : decode c_LW_feed 23 = .ok (.ireturn, 1) := by decide +kernel
abbrev c_LW_write : ByteArray := method_4_code
abbrev y_LW_write : MethodName := ⟨"StripeFieldLaw", "write", "(LStripeField;I[J)I"⟩
theorem d_LW_write_0 : decode c_LW_write 0 = .ok (.aload_n 2, 1) := by decide +kernel
theorem d_LW_write_1 : decode c_LW_write 1 = .ok (.iconst 0, 1) := by decide +kernel
theorem d_LW_write_2 : decode c_LW_write 2 = .ok (.aload_n 0, 1) := by decide +kernel
theorem d_LW_write_3 : decode c_LW_write 3 = .ok (.iload_n 1, 1) := by decide +kernel
theorem d_LW_write_4 : decode c_LW_write 4 = .ok (.invokevirtual 17, 3) := by decide +kernel
theorem d_LW_write_7 : decode c_LW_write 7 = .ok (.ifCond .eq 7, 3) := by decide +kernel
theorem d_LW_write_10 : decode c_LW_write 10 = .ok (.lconst 1, 1) := by decide +kernel
theorem d_LW_write_11 : decode c_LW_write 11 = .ok (.goto 4, 3) := by decide +kernel
theorem d_LW_write_14 : decode c_LW_write 14 = .ok (.lconst 0, 1) := by decide +kernel
theorem d_LW_write_15 : decode c_LW_write 15 = .ok (.lastore, 1) := by decide +kernel
theorem d_LW_write_16 : decode c_LW_write 16 = .ok (.goto 9, 3) := by decide +kernel
theorem d_LW_write_19 : decode c_LW_write 19 = .ok (.astore_n 3, 1) := by decide +kernel
theorem d_LW_write_20 : decode c_LW_write 20 = .ok (.iconst 1, 1) := by decide +kernel
theorem d_LW_write_21 : decode c_LW_write 21 = .ok (.ireturn, 1) := by decide +kernel
theorem d_LW_write_22 : decode c_LW_write 22 = .ok (.astore_n 3, 1) := by decide +kernel
theorem d_LW_write_23 : decode c_LW_write 23 = .ok (.iconst 2, 1) := by decide +kernel
theorem d_LW_write_24 : decode c_LW_write 24 = .ok (.ireturn, 1) := by decide +kernel
theorem d_LW_write_25 : decode c_LW_write 25 = .ok (.iconst 0, 1) := by decide +kernel
theorem d_LW_write_26 : decode c_LW_write 26 = .ok (.ireturn, 1) := by decide +kernel
abbrev c_LW_read : ByteArray := method_5_code
abbrev y_LW_read : MethodName := ⟨"StripeFieldLaw", "read", "(LStripeField;II[J)I"⟩
theorem d_LW_read_0 : decode c_LW_read 0 = .ok (.aload_n 3, 1) := by decide +kernel
theorem d_LW_read_1 : decode c_LW_read 1 = .ok (.iconst 0, 1) := by decide +kernel
theorem d_LW_read_2 : decode c_LW_read 2 = .ok (.aload_n 0, 1) := by decide +kernel
theorem d_LW_read_3 : decode c_LW_read 3 = .ok (.iload_n 1, 1) := by decide +kernel
theorem d_LW_read_4 : decode c_LW_read 4 = .ok (.iload_n 2, 1) := by decide +kernel
theorem d_LW_read_5 : decode c_LW_read 5 = .ok (.invokevirtual 21, 3) := by decide +kernel
theorem d_LW_read_8 : decode c_LW_read 8 = .ok (.lastore, 1) := by decide +kernel
theorem d_LW_read_9 : decode c_LW_read 9 = .ok (.goto 11, 3) := by decide +kernel
theorem d_LW_read_12 : decode c_LW_read 12 = .ok (.astore 4, 2) := by decide +kernel
theorem d_LW_read_14 : decode c_LW_read 14 = .ok (.iconst 1, 1) := by decide +kernel
theorem d_LW_read_15 : decode c_LW_read 15 = .ok (.ireturn, 1) := by decide +kernel
theorem d_LW_read_16 : decode c_LW_read 16 = .ok (.astore 4, 2) := by decide +kernel
theorem d_LW_read_18 : decode c_LW_read 18 = .ok (.iconst 2, 1) := by decide +kernel
theorem d_LW_read_19 : decode c_LW_read 19 = .ok (.ireturn, 1) := by decide +kernel
theorem d_LW_read_20 : decode c_LW_read 20 = .ok (.iconst 0, 1) := by decide +kernel
theorem d_LW_read_21 : decode c_LW_read 21 = .ok (.ireturn, 1) := by decide +kernel
abbrev c_LW_lose : ByteArray := method_6_code
abbrev y_LW_lose : MethodName := ⟨"StripeFieldLaw", "lose", "(LStripeField;I)I"⟩
theorem d_LW_lose_0 : decode c_LW_lose 0 = .ok (.aload_n 0, 1) := by decide +kernel
theorem d_LW_lose_1 : decode c_LW_lose 1 = .ok (.iload_n 1, 1) := by decide +kernel
theorem d_LW_lose_2 : decode c_LW_lose 2 = .ok (.invokevirtual 25, 3) := by decide +kernel
theorem d_LW_lose_5 : decode c_LW_lose 5 = .ok (.goto 6, 3) := by decide +kernel
theorem d_LW_lose_8 : decode c_LW_lose 8 = .ok (.astore_n 2, 1) := by decide +kernel
theorem d_LW_lose_9 : decode c_LW_lose 9 = .ok (.iconst 1, 1) := by decide +kernel
theorem d_LW_lose_10 : decode c_LW_lose 10 = .ok (.ireturn, 1) := by decide +kernel
theorem d_LW_lose_11 : decode c_LW_lose 11 = .ok (.iconst 0, 1) := by decide +kernel
theorem d_LW_lose_12 : decode c_LW_lose 12 = .ok (.ireturn, 1) := by decide +kernel
abbrev c_LW_off : ByteArray := method_7_code
abbrev y_LW_off : MethodName := ⟨"StripeFieldLaw", "off", "(LStripeField;)I"⟩
theorem d_LW_off_0 : decode c_LW_off 0 = .ok (.aload_n 0, 1) := by decide +kernel
theorem d_LW_off_1 : decode c_LW_off 1 = .ok (.invokevirtual 29, 3) := by decide +kernel
theorem d_LW_off_4 : decode c_LW_off 4 = .ok (.goto 6, 3) := by decide +kernel
theorem d_LW_off_7 : decode c_LW_off 7 = .ok (.astore_n 1, 1) := by decide +kernel
theorem d_LW_off_8 : decode c_LW_off 8 = .ok (.iconst 1, 1) := by decide +kernel
theorem d_LW_off_9 : decode c_LW_off 9 = .ok (.ireturn, 1) := by decide +kernel
theorem d_LW_off_10 : decode c_LW_off 10 = .ok (.iconst 0, 1) := by decide +kernel
theorem d_LW_off_11 : decode c_LW_off 11 = .ok (.ireturn, 1) := by decide +kernel
abbrev c_LW_open : ByteArray := method_8_code
abbrev y_LW_open : MethodName := ⟨"StripeFieldLaw", "open", "(LStripeField;[J)I"⟩
theorem d_LW_open_0 : decode c_LW_open 0 = .ok (.aload_n 1, 1) := by decide +kernel
theorem d_LW_open_1 : decode c_LW_open 1 = .ok (.iconst 0, 1) := by decide +kernel
theorem d_LW_open_2 : decode c_LW_open 2 = .ok (.aload_n 0, 1) := by decide +kernel
theorem d_LW_open_3 : decode c_LW_open 3 = .ok (.invokevirtual 32, 3) := by decide +kernel
theorem d_LW_open_6 : decode c_LW_open 6 = .ok (.ifCond .eq 7, 3) := by decide +kernel
theorem d_LW_open_9 : decode c_LW_open 9 = .ok (.lconst 1, 1) := by decide +kernel
theorem d_LW_open_10 : decode c_LW_open 10 = .ok (.goto 4, 3) := by decide +kernel
theorem d_LW_open_13 : decode c_LW_open 13 = .ok (.lconst 0, 1) := by decide +kernel
theorem d_LW_open_14 : decode c_LW_open 14 = .ok (.lastore, 1) := by decide +kernel
theorem d_LW_open_15 : decode c_LW_open 15 = .ok (.goto 6, 3) := by decide +kernel
theorem d_LW_open_18 : decode c_LW_open 18 = .ok (.astore_n 2, 1) := by decide +kernel
theorem d_LW_open_19 : decode c_LW_open 19 = .ok (.iconst 1, 1) := by decide +kernel
theorem d_LW_open_20 : decode c_LW_open 20 = .ok (.ireturn, 1) := by decide +kernel
theorem d_LW_open_21 : decode c_LW_open 21 = .ok (.iconst 0, 1) := by decide +kernel
theorem d_LW_open_22 : decode c_LW_open 22 = .ok (.ireturn, 1) := by decide +kernel
abbrev c_LW_fail : ByteArray := method_9_code
abbrev y_LW_fail : MethodName := ⟨"StripeFieldLaw", "fail", "(LStripeField;I[J)I"⟩
theorem d_LW_fail_0 : decode c_LW_fail 0 = .ok (.aload_n 2, 1) := by decide +kernel
theorem d_LW_fail_1 : decode c_LW_fail 1 = .ok (.iconst 0, 1) := by decide +kernel
theorem d_LW_fail_2 : decode c_LW_fail 2 = .ok (.aload_n 0, 1) := by decide +kernel
theorem d_LW_fail_3 : decode c_LW_fail 3 = .ok (.iload_n 1, 1) := by decide +kernel
theorem d_LW_fail_4 : decode c_LW_fail 4 = .ok (.invokevirtual 36, 3) := by decide +kernel
theorem d_LW_fail_7 : decode c_LW_fail 7 = .ok (.ifCond .eq 7, 3) := by decide +kernel
theorem d_LW_fail_10 : decode c_LW_fail 10 = .ok (.lconst 1, 1) := by decide +kernel
theorem d_LW_fail_11 : decode c_LW_fail 11 = .ok (.goto 4, 3) := by decide +kernel
theorem d_LW_fail_14 : decode c_LW_fail 14 = .ok (.lconst 0, 1) := by decide +kernel
theorem d_LW_fail_15 : decode c_LW_fail 15 = .ok (.lastore, 1) := by decide +kernel
theorem d_LW_fail_16 : decode c_LW_fail 16 = .ok (.goto 6, 3) := by decide +kernel
theorem d_LW_fail_19 : decode c_LW_fail 19 = .ok (.astore_n 3, 1) := by decide +kernel
theorem d_LW_fail_20 : decode c_LW_fail 20 = .ok (.iconst 1, 1) := by decide +kernel
theorem d_LW_fail_21 : decode c_LW_fail 21 = .ok (.ireturn, 1) := by decide +kernel
theorem d_LW_fail_22 : decode c_LW_fail 22 = .ok (.iconst 0, 1) := by decide +kernel
theorem d_LW_fail_23 : decode c_LW_fail 23 = .ok (.ireturn, 1) := by decide +kernel
abbrev c_LW_replace : ByteArray := method_10_code
abbrev y_LW_replace : MethodName := ⟨"StripeFieldLaw", "replace", "(LStripeField;I[J)I"⟩
theorem d_LW_replace_0 : decode c_LW_replace 0 = .ok (.aload_n 2, 1) := by decide +kernel
theorem d_LW_replace_1 : decode c_LW_replace 1 = .ok (.iconst 0, 1) := by decide +kernel
theorem d_LW_replace_2 : decode c_LW_replace 2 = .ok (.aload_n 0, 1) := by decide +kernel
theorem d_LW_replace_3 : decode c_LW_replace 3 = .ok (.iload_n 1, 1) := by decide +kernel
theorem d_LW_replace_4 : decode c_LW_replace 4 = .ok (.invokevirtual 39, 3) := by decide +kernel
theorem d_LW_replace_7 : decode c_LW_replace 7 = .ok (.ifCond .eq 7, 3) := by decide +kernel
theorem d_LW_replace_10 : decode c_LW_replace 10 = .ok (.lconst 1, 1) := by decide +kernel
theorem d_LW_replace_11 : decode c_LW_replace 11 = .ok (.goto 4, 3) := by decide +kernel
theorem d_LW_replace_14 : decode c_LW_replace 14 = .ok (.lconst 0, 1) := by decide +kernel
theorem d_LW_replace_15 : decode c_LW_replace 15 = .ok (.lastore, 1) := by decide +kernel
theorem d_LW_replace_16 : decode c_LW_replace 16 = .ok (.goto 6, 3) := by decide +kernel
theorem d_LW_replace_19 : decode c_LW_replace 19 = .ok (.astore_n 3, 1) := by decide +kernel
theorem d_LW_replace_20 : decode c_LW_replace 20 = .ok (.iconst 1, 1) := by decide +kernel
theorem d_LW_replace_21 : decode c_LW_replace 21 = .ok (.ireturn, 1) := by decide +kernel
theorem d_LW_replace_22 : decode c_LW_replace 22 = .ok (.iconst 0, 1) := by decide +kernel
theorem d_LW_replace_23 : decode c_LW_replace 23 = .ok (.ireturn, 1) := by decide +kernel
abbrev c_LW_spoil : ByteArray := method_11_code
abbrev y_LW_spoil : MethodName := ⟨"StripeFieldLaw", "spoil", "(LStripeField;IIIIJ[J)I"⟩
theorem d_LW_spoil_0 : decode c_LW_spoil 0 = .ok (.aload 7, 2) := by decide +kernel
theorem d_LW_spoil_2 : decode c_LW_spoil 2 = .ok (.iconst 0, 1) := by decide +kernel
theorem d_LW_spoil_3 : decode c_LW_spoil 3 = .ok (.aload_n 0, 1) := by decide +kernel
theorem d_LW_spoil_4 : decode c_LW_spoil 4 = .ok (.iload_n 1, 1) := by decide +kernel
theorem d_LW_spoil_5 : decode c_LW_spoil 5 = .ok (.iload_n 2, 1) := by decide +kernel
theorem d_LW_spoil_6 : decode c_LW_spoil 6 = .ok (.iload_n 3, 1) := by decide +kernel
theorem d_LW_spoil_7 : decode c_LW_spoil 7 = .ok (.iload 4, 2) := by decide +kernel
theorem d_LW_spoil_9 : decode c_LW_spoil 9 = .ok (.lload 5, 2) := by decide +kernel
theorem d_LW_spoil_11 : decode c_LW_spoil 11 = .ok (.invokevirtual 42, 3) := by decide +kernel
theorem d_LW_spoil_14 : decode c_LW_spoil 14 = .ok (.ifCond .eq 7, 3) := by decide +kernel
theorem d_LW_spoil_17 : decode c_LW_spoil 17 = .ok (.lconst 1, 1) := by decide +kernel
theorem d_LW_spoil_18 : decode c_LW_spoil 18 = .ok (.goto 4, 3) := by decide +kernel
theorem d_LW_spoil_21 : decode c_LW_spoil 21 = .ok (.lconst 0, 1) := by decide +kernel
theorem d_LW_spoil_22 : decode c_LW_spoil 22 = .ok (.lastore, 1) := by decide +kernel
theorem d_LW_spoil_23 : decode c_LW_spoil 23 = .ok (.goto 7, 3) := by decide +kernel
theorem d_LW_spoil_26 : decode c_LW_spoil 26 = .ok (.astore 8, 2) := by decide +kernel
theorem d_LW_spoil_28 : decode c_LW_spoil 28 = .ok (.iconst 1, 1) := by decide +kernel
theorem d_LW_spoil_29 : decode c_LW_spoil 29 = .ok (.ireturn, 1) := by decide +kernel
theorem d_LW_spoil_30 : decode c_LW_spoil 30 = .ok (.iconst 0, 1) := by decide +kernel
theorem d_LW_spoil_31 : decode c_LW_spoil 31 = .ok (.ireturn, 1) := by decide +kernel
abbrev c_LW_rebuild : ByteArray := method_12_code
abbrev y_LW_rebuild : MethodName := ⟨"StripeFieldLaw", "rebuild", "(LStripeField;[J)I"⟩
theorem d_LW_rebuild_0 : decode c_LW_rebuild 0 = .ok (.aload_n 1, 1) := by decide +kernel
theorem d_LW_rebuild_1 : decode c_LW_rebuild 1 = .ok (.iconst 0, 1) := by decide +kernel
theorem d_LW_rebuild_2 : decode c_LW_rebuild 2 = .ok (.aload_n 0, 1) := by decide +kernel
theorem d_LW_rebuild_3 : decode c_LW_rebuild 3 = .ok (.invokevirtual 46, 3) := by decide +kernel
theorem d_LW_rebuild_6 : decode c_LW_rebuild 6 = .ok (.i2l, 1) := by decide +kernel
theorem d_LW_rebuild_7 : decode c_LW_rebuild 7 = .ok (.lastore, 1) := by decide +kernel
theorem d_LW_rebuild_8 : decode c_LW_rebuild 8 = .ok (.goto 6, 3) := by decide +kernel
theorem d_LW_rebuild_11 : decode c_LW_rebuild 11 = .ok (.astore_n 2, 1) := by decide +kernel
theorem d_LW_rebuild_12 : decode c_LW_rebuild 12 = .ok (.iconst 1, 1) := by decide +kernel
theorem d_LW_rebuild_13 : decode c_LW_rebuild 13 = .ok (.ireturn, 1) := by decide +kernel
theorem d_LW_rebuild_14 : decode c_LW_rebuild 14 = .ok (.iconst 0, 1) := by decide +kernel
theorem d_LW_rebuild_15 : decode c_LW_rebuild 15 = .ok (.ireturn, 1) := by decide +kernel
abbrev c_LW_copyBack : ByteArray := method_13_code
abbrev y_LW_copyBack : MethodName := ⟨"StripeFieldLaw", "copyBack", "(LStripeField;[J)I"⟩
theorem d_LW_copyBack_0 : decode c_LW_copyBack 0 = .ok (.aload_n 1, 1) := by decide +kernel
theorem d_LW_copyBack_1 : decode c_LW_copyBack 1 = .ok (.iconst 0, 1) := by decide +kernel
theorem d_LW_copyBack_2 : decode c_LW_copyBack 2 = .ok (.aload_n 0, 1) := by decide +kernel
theorem d_LW_copyBack_3 : decode c_LW_copyBack 3 = .ok (.invokevirtual 50, 3) := by decide +kernel
theorem d_LW_copyBack_6 : decode c_LW_copyBack 6 = .ok (.i2l, 1) := by decide +kernel
theorem d_LW_copyBack_7 : decode c_LW_copyBack 7 = .ok (.lastore, 1) := by decide +kernel
theorem d_LW_copyBack_8 : decode c_LW_copyBack 8 = .ok (.goto 6, 3) := by decide +kernel
theorem d_LW_copyBack_11 : decode c_LW_copyBack 11 = .ok (.astore_n 2, 1) := by decide +kernel
theorem d_LW_copyBack_12 : decode c_LW_copyBack 12 = .ok (.iconst 1, 1) := by decide +kernel
theorem d_LW_copyBack_13 : decode c_LW_copyBack 13 = .ok (.ireturn, 1) := by decide +kernel
theorem d_LW_copyBack_14 : decode c_LW_copyBack 14 = .ok (.iconst 0, 1) := by decide +kernel
theorem d_LW_copyBack_15 : decode c_LW_copyBack 15 = .ok (.ireturn, 1) := by decide +kernel
abbrev c_LW_scrub : ByteArray := method_14_code
abbrev y_LW_scrub : MethodName := ⟨"StripeFieldLaw", "scrub", "(LStripeField;[J)I"⟩
theorem d_LW_scrub_0 : decode c_LW_scrub 0 = .ok (.aload_n 1, 1) := by decide +kernel
theorem d_LW_scrub_1 : decode c_LW_scrub 1 = .ok (.iconst 0, 1) := by decide +kernel
theorem d_LW_scrub_2 : decode c_LW_scrub 2 = .ok (.aload_n 0, 1) := by decide +kernel
theorem d_LW_scrub_3 : decode c_LW_scrub 3 = .ok (.invokevirtual 53, 3) := by decide +kernel
theorem d_LW_scrub_6 : decode c_LW_scrub 6 = .ok (.i2l, 1) := by decide +kernel
theorem d_LW_scrub_7 : decode c_LW_scrub 7 = .ok (.lastore, 1) := by decide +kernel
theorem d_LW_scrub_8 : decode c_LW_scrub 8 = .ok (.goto 6, 3) := by decide +kernel
theorem d_LW_scrub_11 : decode c_LW_scrub 11 = .ok (.astore_n 2, 1) := by decide +kernel
theorem d_LW_scrub_12 : decode c_LW_scrub 12 = .ok (.iconst 1, 1) := by decide +kernel
theorem d_LW_scrub_13 : decode c_LW_scrub 13 = .ok (.ireturn, 1) := by decide +kernel
theorem d_LW_scrub_14 : decode c_LW_scrub 14 = .ok (.iconst 0, 1) := by decide +kernel
theorem d_LW_scrub_15 : decode c_LW_scrub 15 = .ok (.ireturn, 1) := by decide +kernel
abbrev c_LW_look : ByteArray := method_15_code
abbrev y_LW_look : MethodName := ⟨"StripeFieldLaw", "look", "(LStripeField;I[J)I"⟩
theorem d_LW_look_0 : decode c_LW_look 0 = .ok (.aload_n 2, 1) := by decide +kernel
theorem d_LW_look_1 : decode c_LW_look 1 = .ok (.iconst 0, 1) := by decide +kernel
theorem d_LW_look_2 : decode c_LW_look 2 = .ok (.aload_n 0, 1) := by decide +kernel
theorem d_LW_look_3 : decode c_LW_look 3 = .ok (.iload_n 1, 1) := by decide +kernel
theorem d_LW_look_4 : decode c_LW_look 4 = .ok (.invokevirtual 56, 3) := by decide +kernel
theorem d_LW_look_7 : decode c_LW_look 7 = .ok (.i2l, 1) := by decide +kernel
theorem d_LW_look_8 : decode c_LW_look 8 = .ok (.lastore, 1) := by decide +kernel
theorem d_LW_look_9 : decode c_LW_look 9 = .ok (.goto 6, 3) := by decide +kernel
theorem d_LW_look_12 : decode c_LW_look 12 = .ok (.astore_n 3, 1) := by decide +kernel
theorem d_LW_look_13 : decode c_LW_look 13 = .ok (.iconst 1, 1) := by decide +kernel
theorem d_LW_look_14 : decode c_LW_look 14 = .ok (.ireturn, 1) := by decide +kernel
theorem d_LW_look_15 : decode c_LW_look 15 = .ok (.iconst 0, 1) := by decide +kernel
theorem d_LW_look_16 : decode c_LW_look 16 = .ok (.ireturn, 1) := by decide +kernel
abbrev c_LW_place : ByteArray := method_16_code
abbrev y_LW_place : MethodName := ⟨"StripeFieldLaw", "place", "(LStripeField;II[J)I"⟩
theorem d_LW_place_0 : decode c_LW_place 0 = .ok (.aload_n 3, 1) := by decide +kernel
theorem d_LW_place_1 : decode c_LW_place 1 = .ok (.iconst 0, 1) := by decide +kernel
theorem d_LW_place_2 : decode c_LW_place 2 = .ok (.aload_n 0, 1) := by decide +kernel
theorem d_LW_place_3 : decode c_LW_place 3 = .ok (.iload_n 1, 1) := by decide +kernel
theorem d_LW_place_4 : decode c_LW_place 4 = .ok (.iload_n 2, 1) := by decide +kernel
theorem d_LW_place_5 : decode c_LW_place 5 = .ok (.invokevirtual 60, 3) := by decide +kernel
theorem d_LW_place_8 : decode c_LW_place 8 = .ok (.i2l, 1) := by decide +kernel
theorem d_LW_place_9 : decode c_LW_place 9 = .ok (.lastore, 1) := by decide +kernel
theorem d_LW_place_10 : decode c_LW_place 10 = .ok (.goto 7, 3) := by decide +kernel
theorem d_LW_place_13 : decode c_LW_place 13 = .ok (.astore 4, 2) := by decide +kernel
theorem d_LW_place_15 : decode c_LW_place 15 = .ok (.iconst 1, 1) := by decide +kernel
theorem d_LW_place_16 : decode c_LW_place 16 = .ok (.ireturn, 1) := by decide +kernel
theorem d_LW_place_17 : decode c_LW_place 17 = .ok (.iconst 0, 1) := by decide +kernel
theorem d_LW_place_18 : decode c_LW_place 18 = .ok (.ireturn, 1) := by decide +kernel
abbrev c_LW_law : ByteArray := code
abbrev y_LW_law : MethodName := ⟨"StripeFieldLaw", "law", "([I)Z"⟩
theorem d_LW_law_0 : decode c_LW_law 0 = .ok (.new 8, 3) := by decide +kernel
theorem d_LW_law_3 : decode c_LW_law 3 = .ok (.dup, 1) := by decide +kernel
theorem d_LW_law_4 : decode c_LW_law 4 = .ok (.aload_n 0, 1) := by decide +kernel
theorem d_LW_law_5 : decode c_LW_law 5 = .ok (.iconst 0, 1) := by decide +kernel
theorem d_LW_law_6 : decode c_LW_law 6 = .ok (.invokestatic 64, 3) := by decide +kernel
theorem d_LW_law_9 : decode c_LW_law 9 = .ok (.aload_n 0, 1) := by decide +kernel
theorem d_LW_law_10 : decode c_LW_law 10 = .ok (.iconst 1, 1) := by decide +kernel
theorem d_LW_law_11 : decode c_LW_law 11 = .ok (.invokestatic 64, 3) := by decide +kernel
theorem d_LW_law_14 : decode c_LW_law 14 = .ok (.aload_n 0, 1) := by decide +kernel
theorem d_LW_law_15 : decode c_LW_law 15 = .ok (.iconst 2, 1) := by decide +kernel
theorem d_LW_law_16 : decode c_LW_law 16 = .ok (.invokestatic 64, 3) := by decide +kernel
theorem d_LW_law_19 : decode c_LW_law 19 = .ok (.invokespecial 70, 3) := by decide +kernel
theorem d_LW_law_22 : decode c_LW_law 22 = .ok (.astore_n 1, 1) := by decide +kernel
theorem d_LW_law_23 : decode c_LW_law 23 = .ok (.new 73, 3) := by decide +kernel
theorem d_LW_law_26 : decode c_LW_law 26 = .ok (.dup, 1) := by decide +kernel
theorem d_LW_law_27 : decode c_LW_law 27 = .ok (.aload_n 0, 1) := by decide +kernel
theorem d_LW_law_28 : decode c_LW_law 28 = .ok (.iconst 0, 1) := by decide +kernel
theorem d_LW_law_29 : decode c_LW_law 29 = .ok (.invokestatic 64, 3) := by decide +kernel
theorem d_LW_law_32 : decode c_LW_law 32 = .ok (.aload_n 0, 1) := by decide +kernel
theorem d_LW_law_33 : decode c_LW_law 33 = .ok (.iconst 1, 1) := by decide +kernel
theorem d_LW_law_34 : decode c_LW_law 34 = .ok (.invokestatic 64, 3) := by decide +kernel
theorem d_LW_law_37 : decode c_LW_law 37 = .ok (.aload_n 0, 1) := by decide +kernel
theorem d_LW_law_38 : decode c_LW_law 38 = .ok (.iconst 2, 1) := by decide +kernel
theorem d_LW_law_39 : decode c_LW_law 39 = .ok (.invokestatic 64, 3) := by decide +kernel
theorem d_LW_law_42 : decode c_LW_law 42 = .ok (.invokespecial 75, 3) := by decide +kernel
theorem d_LW_law_45 : decode c_LW_law 45 = .ok (.astore_n 2, 1) := by decide +kernel
theorem d_LW_law_46 : decode c_LW_law 46 = .ok (.iconst 1, 1) := by decide +kernel
theorem d_LW_law_47 : decode c_LW_law 47 = .ok (.newarray .long, 2) := by decide +kernel
theorem d_LW_law_49 : decode c_LW_law 49 = .ok (.astore_n 3, 1) := by decide +kernel
theorem d_LW_law_50 : decode c_LW_law 50 = .ok (.iconst 3, 1) := by decide +kernel
theorem d_LW_law_51 : decode c_LW_law 51 = .ok (.istore 4, 2) := by decide +kernel
theorem d_LW_law_53 : decode c_LW_law 53 = .ok (.iload 4, 2) := by decide +kernel
theorem d_LW_law_55 : decode c_LW_law 55 = .ok (.aload_n 0, 1) := by decide +kernel
theorem d_LW_law_56 : decode c_LW_law 56 = .ok (.arraylength, 1) := by decide +kernel
theorem d_LW_law_57 : decode c_LW_law 57 = .ok (.bipush 7, 2) := by decide +kernel
theorem d_LW_law_59 : decode c_LW_law 59 = .ok (.isub, 1) := by decide +kernel
theorem d_LW_law_60 : decode c_LW_law 60 = .ok (.if_icmp .gt 954, 3) := by decide +kernel
theorem d_LW_law_63 : decode c_LW_law 63 = .ok (.aload_n 0, 1) := by decide +kernel
theorem d_LW_law_64 : decode c_LW_law 64 = .ok (.iload 4, 2) := by decide +kernel
theorem d_LW_law_66 : decode c_LW_law 66 = .ok (.iaload, 1) := by decide +kernel
theorem d_LW_law_67 : decode c_LW_law 67 = .ok (.bipush 15, 2) := by decide +kernel
theorem d_LW_law_69 : decode c_LW_law 69 = .ok (.iand, 1) := by decide +kernel
theorem d_LW_law_70 : decode c_LW_law 70 = .ok (.tableswitch 938 0 13 #[70, 170, 233, 300, 336, 360, 411, 474, 537, 682, 726, 770, 814, 870], 70) := by decide +kernel
theorem d_LW_law_140 : decode c_LW_law 140 = .ok (.aload_n 1, 1) := by decide +kernel
theorem d_LW_law_141 : decode c_LW_law 141 = .ok (.aload_n 0, 1) := by decide +kernel
theorem d_LW_law_142 : decode c_LW_law 142 = .ok (.iload 4, 2) := by decide +kernel
theorem d_LW_law_144 : decode c_LW_law 144 = .ok (.iconst 1, 1) := by decide +kernel
theorem d_LW_law_145 : decode c_LW_law 145 = .ok (.iadd, 1) := by decide +kernel
theorem d_LW_law_146 : decode c_LW_law 146 = .ok (.iaload, 1) := by decide +kernel
theorem d_LW_law_147 : decode c_LW_law 147 = .ok (.aload_n 0, 1) := by decide +kernel
theorem d_LW_law_148 : decode c_LW_law 148 = .ok (.iload 4, 2) := by decide +kernel
theorem d_LW_law_150 : decode c_LW_law 150 = .ok (.iconst 2, 1) := by decide +kernel
theorem d_LW_law_151 : decode c_LW_law 151 = .ok (.iadd, 1) := by decide +kernel
theorem d_LW_law_152 : decode c_LW_law 152 = .ok (.iaload, 1) := by decide +kernel
theorem d_LW_law_153 : decode c_LW_law 153 = .ok (.i2l, 1) := by decide +kernel
theorem d_LW_law_154 : decode c_LW_law 154 = .ok (.bipush 32, 2) := by decide +kernel
theorem d_LW_law_156 : decode c_LW_law 156 = .ok (.lshl, 1) := by decide +kernel
theorem d_LW_law_157 : decode c_LW_law 157 = .ok (.aload_n 0, 1) := by decide +kernel
theorem d_LW_law_158 : decode c_LW_law 158 = .ok (.iload 4, 2) := by decide +kernel
theorem d_LW_law_160 : decode c_LW_law 160 = .ok (.iconst 3, 1) := by decide +kernel
theorem d_LW_law_161 : decode c_LW_law 161 = .ok (.iadd, 1) := by decide +kernel
theorem d_LW_law_162 : decode c_LW_law 162 = .ok (.iaload, 1) := by decide +kernel
theorem d_LW_law_163 : decode c_LW_law 163 = .ok (.i2l, 1) := by decide +kernel
theorem d_LW_law_164 : decode c_LW_law 164 = .ok (.ldc2_w 76, 3) := by decide +kernel
theorem d_LW_law_167 : decode c_LW_law 167 = .ok (.land, 1) := by decide +kernel
theorem d_LW_law_168 : decode c_LW_law 168 = .ok (.lor, 1) := by decide +kernel
theorem d_LW_law_169 : decode c_LW_law 169 = .ok (.aload_n 3, 1) := by decide +kernel
theorem d_LW_law_170 : decode c_LW_law 170 = .ok (.invokestatic 78, 3) := by decide +kernel
theorem d_LW_law_173 : decode c_LW_law 173 = .ok (.istore 5, 2) := by decide +kernel
theorem d_LW_law_175 : decode c_LW_law 175 = .ok (.aload_n 2, 1) := by decide +kernel
theorem d_LW_law_176 : decode c_LW_law 176 = .ok (.aload_n 0, 1) := by decide +kernel
theorem d_LW_law_177 : decode c_LW_law 177 = .ok (.iload 4, 2) := by decide +kernel
theorem d_LW_law_179 : decode c_LW_law 179 = .ok (.iconst 1, 1) := by decide +kernel
theorem d_LW_law_180 : decode c_LW_law 180 = .ok (.iadd, 1) := by decide +kernel
theorem d_LW_law_181 : decode c_LW_law 181 = .ok (.iaload, 1) := by decide +kernel
theorem d_LW_law_182 : decode c_LW_law 182 = .ok (.aload_n 0, 1) := by decide +kernel
theorem d_LW_law_183 : decode c_LW_law 183 = .ok (.iload 4, 2) := by decide +kernel
theorem d_LW_law_185 : decode c_LW_law 185 = .ok (.iconst 2, 1) := by decide +kernel
theorem d_LW_law_186 : decode c_LW_law 186 = .ok (.iadd, 1) := by decide +kernel
theorem d_LW_law_187 : decode c_LW_law 187 = .ok (.iaload, 1) := by decide +kernel
theorem d_LW_law_188 : decode c_LW_law 188 = .ok (.i2l, 1) := by decide +kernel
theorem d_LW_law_189 : decode c_LW_law 189 = .ok (.bipush 32, 2) := by decide +kernel
theorem d_LW_law_191 : decode c_LW_law 191 = .ok (.lshl, 1) := by decide +kernel
theorem d_LW_law_192 : decode c_LW_law 192 = .ok (.aload_n 0, 1) := by decide +kernel
theorem d_LW_law_193 : decode c_LW_law 193 = .ok (.iload 4, 2) := by decide +kernel
theorem d_LW_law_195 : decode c_LW_law 195 = .ok (.iconst 3, 1) := by decide +kernel
theorem d_LW_law_196 : decode c_LW_law 196 = .ok (.iadd, 1) := by decide +kernel
theorem d_LW_law_197 : decode c_LW_law 197 = .ok (.iaload, 1) := by decide +kernel
theorem d_LW_law_198 : decode c_LW_law 198 = .ok (.i2l, 1) := by decide +kernel
theorem d_LW_law_199 : decode c_LW_law 199 = .ok (.ldc2_w 76, 3) := by decide +kernel
theorem d_LW_law_202 : decode c_LW_law 202 = .ok (.land, 1) := by decide +kernel
theorem d_LW_law_203 : decode c_LW_law 203 = .ok (.lor, 1) := by decide +kernel
theorem d_LW_law_204 : decode c_LW_law 204 = .ok (.invokevirtual 81, 3) := by decide +kernel
theorem d_LW_law_207 : decode c_LW_law 207 = .ok (.istore 6, 2) := by decide +kernel
theorem d_LW_law_209 : decode c_LW_law 209 = .ok (.aload_n 2, 1) := by decide +kernel
theorem d_LW_law_210 : decode c_LW_law 210 = .ok (.invokevirtual 82, 3) := by decide +kernel
theorem d_LW_law_213 : decode c_LW_law 213 = .ok (.iload 5, 2) := by decide +kernel
theorem d_LW_law_215 : decode c_LW_law 215 = .ok (.if_icmp .eq 5, 3) := by decide +kernel
theorem d_LW_law_218 : decode c_LW_law 218 = .ok (.iconst 0, 1) := by decide +kernel
theorem d_LW_law_219 : decode c_LW_law 219 = .ok (.ireturn, 1) := by decide +kernel
theorem d_LW_law_220 : decode c_LW_law 220 = .ok (.iload 5, 2) := by decide +kernel
theorem d_LW_law_222 : decode c_LW_law 222 = .ok (.ifCond .ne 15, 3) := by decide +kernel
theorem d_LW_law_225 : decode c_LW_law 225 = .ok (.aload_n 3, 1) := by decide +kernel
theorem d_LW_law_226 : decode c_LW_law 226 = .ok (.iconst 0, 1) := by decide +kernel
theorem d_LW_law_227 : decode c_LW_law 227 = .ok (.laload, 1) := by decide +kernel
theorem d_LW_law_228 : decode c_LW_law 228 = .ok (.iload 6, 2) := by decide +kernel
theorem d_LW_law_230 : decode c_LW_law 230 = .ok (.i2l, 1) := by decide +kernel
theorem d_LW_law_231 : decode c_LW_law 231 = .ok (.lcmp, 1) := by decide +kernel
theorem d_LW_law_232 : decode c_LW_law 232 = .ok (.ifCond .eq 5, 3) := by decide +kernel
theorem d_LW_law_235 : decode c_LW_law 235 = .ok (.iconst 0, 1) := by decide +kernel
theorem d_LW_law_236 : decode c_LW_law 236 = .ok (.ireturn, 1) := by decide +kernel
theorem d_LW_law_237 : decode c_LW_law 237 = .ok (.goto 771, 3) := by decide +kernel
theorem d_LW_law_240 : decode c_LW_law 240 = .ok (.aload_n 1, 1) := by decide +kernel
theorem d_LW_law_241 : decode c_LW_law 241 = .ok (.aload_n 0, 1) := by decide +kernel
theorem d_LW_law_242 : decode c_LW_law 242 = .ok (.iload 4, 2) := by decide +kernel
theorem d_LW_law_244 : decode c_LW_law 244 = .ok (.iconst 1, 1) := by decide +kernel
theorem d_LW_law_245 : decode c_LW_law 245 = .ok (.iadd, 1) := by decide +kernel
theorem d_LW_law_246 : decode c_LW_law 246 = .ok (.iaload, 1) := by decide +kernel
theorem d_LW_law_247 : decode c_LW_law 247 = .ok (.aload_n 3, 1) := by decide +kernel
theorem d_LW_law_248 : decode c_LW_law 248 = .ok (.invokestatic 85, 3) := by decide +kernel
theorem d_LW_law_251 : decode c_LW_law 251 = .ok (.istore 5, 2) := by decide +kernel
theorem d_LW_law_253 : decode c_LW_law 253 = .ok (.aload_n 2, 1) := by decide +kernel
theorem d_LW_law_254 : decode c_LW_law 254 = .ok (.aload_n 0, 1) := by decide +kernel
theorem d_LW_law_255 : decode c_LW_law 255 = .ok (.iload 4, 2) := by decide +kernel
theorem d_LW_law_257 : decode c_LW_law 257 = .ok (.iconst 1, 1) := by decide +kernel
theorem d_LW_law_258 : decode c_LW_law 258 = .ok (.iadd, 1) := by decide +kernel
theorem d_LW_law_259 : decode c_LW_law 259 = .ok (.iaload, 1) := by decide +kernel
theorem d_LW_law_260 : decode c_LW_law 260 = .ok (.invokevirtual 88, 3) := by decide +kernel
theorem d_LW_law_263 : decode c_LW_law 263 = .ok (.istore 6, 2) := by decide +kernel
theorem d_LW_law_265 : decode c_LW_law 265 = .ok (.aload_n 2, 1) := by decide +kernel
theorem d_LW_law_266 : decode c_LW_law 266 = .ok (.invokevirtual 82, 3) := by decide +kernel
theorem d_LW_law_269 : decode c_LW_law 269 = .ok (.iload 5, 2) := by decide +kernel
theorem d_LW_law_271 : decode c_LW_law 271 = .ok (.if_icmp .eq 5, 3) := by decide +kernel
theorem d_LW_law_274 : decode c_LW_law 274 = .ok (.iconst 0, 1) := by decide +kernel
theorem d_LW_law_275 : decode c_LW_law 275 = .ok (.ireturn, 1) := by decide +kernel
theorem d_LW_law_276 : decode c_LW_law 276 = .ok (.iload 5, 2) := by decide +kernel
theorem d_LW_law_278 : decode c_LW_law 278 = .ok (.ifCond .ne 22, 3) := by decide +kernel
theorem d_LW_law_281 : decode c_LW_law 281 = .ok (.aload_n 3, 1) := by decide +kernel
theorem d_LW_law_282 : decode c_LW_law 282 = .ok (.iconst 0, 1) := by decide +kernel
theorem d_LW_law_283 : decode c_LW_law 283 = .ok (.laload, 1) := by decide +kernel
theorem d_LW_law_284 : decode c_LW_law 284 = .ok (.iload 6, 2) := by decide +kernel
theorem d_LW_law_286 : decode c_LW_law 286 = .ok (.ifCond .eq 7, 3) := by decide +kernel
theorem d_LW_law_289 : decode c_LW_law 289 = .ok (.lconst 1, 1) := by decide +kernel
theorem d_LW_law_290 : decode c_LW_law 290 = .ok (.goto 4, 3) := by decide +kernel
theorem d_LW_law_293 : decode c_LW_law 293 = .ok (.lconst 0, 1) := by decide +kernel
theorem d_LW_law_294 : decode c_LW_law 294 = .ok (.lcmp, 1) := by decide +kernel
theorem d_LW_law_295 : decode c_LW_law 295 = .ok (.ifCond .eq 5, 3) := by decide +kernel
theorem d_LW_law_298 : decode c_LW_law 298 = .ok (.iconst 0, 1) := by decide +kernel
theorem d_LW_law_299 : decode c_LW_law 299 = .ok (.ireturn, 1) := by decide +kernel
theorem d_LW_law_300 : decode c_LW_law 300 = .ok (.goto 708, 3) := by decide +kernel
theorem d_LW_law_303 : decode c_LW_law 303 = .ok (.aload_n 1, 1) := by decide +kernel
theorem d_LW_law_304 : decode c_LW_law 304 = .ok (.aload_n 0, 1) := by decide +kernel
theorem d_LW_law_305 : decode c_LW_law 305 = .ok (.iload 4, 2) := by decide +kernel
theorem d_LW_law_307 : decode c_LW_law 307 = .ok (.iconst 1, 1) := by decide +kernel
theorem d_LW_law_308 : decode c_LW_law 308 = .ok (.iadd, 1) := by decide +kernel
theorem d_LW_law_309 : decode c_LW_law 309 = .ok (.iaload, 1) := by decide +kernel
theorem d_LW_law_310 : decode c_LW_law 310 = .ok (.aload_n 0, 1) := by decide +kernel
theorem d_LW_law_311 : decode c_LW_law 311 = .ok (.iload 4, 2) := by decide +kernel
theorem d_LW_law_313 : decode c_LW_law 313 = .ok (.iconst 2, 1) := by decide +kernel
theorem d_LW_law_314 : decode c_LW_law 314 = .ok (.iadd, 1) := by decide +kernel
theorem d_LW_law_315 : decode c_LW_law 315 = .ok (.iaload, 1) := by decide +kernel
theorem d_LW_law_316 : decode c_LW_law 316 = .ok (.aload_n 3, 1) := by decide +kernel
theorem d_LW_law_317 : decode c_LW_law 317 = .ok (.invokestatic 89, 3) := by decide +kernel
theorem d_LW_law_320 : decode c_LW_law 320 = .ok (.istore 5, 2) := by decide +kernel
theorem d_LW_law_322 : decode c_LW_law 322 = .ok (.aload_n 2, 1) := by decide +kernel
theorem d_LW_law_323 : decode c_LW_law 323 = .ok (.aload_n 0, 1) := by decide +kernel
theorem d_LW_law_324 : decode c_LW_law 324 = .ok (.iload 4, 2) := by decide +kernel
theorem d_LW_law_326 : decode c_LW_law 326 = .ok (.iconst 1, 1) := by decide +kernel
theorem d_LW_law_327 : decode c_LW_law 327 = .ok (.iadd, 1) := by decide +kernel
theorem d_LW_law_328 : decode c_LW_law 328 = .ok (.iaload, 1) := by decide +kernel
theorem d_LW_law_329 : decode c_LW_law 329 = .ok (.aload_n 0, 1) := by decide +kernel
theorem d_LW_law_330 : decode c_LW_law 330 = .ok (.iload 4, 2) := by decide +kernel
theorem d_LW_law_332 : decode c_LW_law 332 = .ok (.iconst 2, 1) := by decide +kernel
theorem d_LW_law_333 : decode c_LW_law 333 = .ok (.iadd, 1) := by decide +kernel
theorem d_LW_law_334 : decode c_LW_law 334 = .ok (.iaload, 1) := by decide +kernel
theorem d_LW_law_335 : decode c_LW_law 335 = .ok (.invokevirtual 92, 3) := by decide +kernel
theorem d_LW_law_338 : decode c_LW_law 338 = .ok (.lstore 6, 2) := by decide +kernel
theorem d_LW_law_340 : decode c_LW_law 340 = .ok (.aload_n 2, 1) := by decide +kernel
theorem d_LW_law_341 : decode c_LW_law 341 = .ok (.invokevirtual 82, 3) := by decide +kernel
theorem d_LW_law_344 : decode c_LW_law 344 = .ok (.iload 5, 2) := by decide +kernel
theorem d_LW_law_346 : decode c_LW_law 346 = .ok (.if_icmp .eq 5, 3) := by decide +kernel
theorem d_LW_law_349 : decode c_LW_law 349 = .ok (.iconst 0, 1) := by decide +kernel
theorem d_LW_law_350 : decode c_LW_law 350 = .ok (.ireturn, 1) := by decide +kernel
theorem d_LW_law_351 : decode c_LW_law 351 = .ok (.iload 5, 2) := by decide +kernel
theorem d_LW_law_353 : decode c_LW_law 353 = .ok (.ifCond .ne 14, 3) := by decide +kernel
theorem d_LW_law_356 : decode c_LW_law 356 = .ok (.aload_n 3, 1) := by decide +kernel
theorem d_LW_law_357 : decode c_LW_law 357 = .ok (.iconst 0, 1) := by decide +kernel
theorem d_LW_law_358 : decode c_LW_law 358 = .ok (.laload, 1) := by decide +kernel
theorem d_LW_law_359 : decode c_LW_law 359 = .ok (.lload 6, 2) := by decide +kernel
theorem d_LW_law_361 : decode c_LW_law 361 = .ok (.lcmp, 1) := by decide +kernel
theorem d_LW_law_362 : decode c_LW_law 362 = .ok (.ifCond .eq 5, 3) := by decide +kernel
theorem d_LW_law_365 : decode c_LW_law 365 = .ok (.iconst 0, 1) := by decide +kernel
theorem d_LW_law_366 : decode c_LW_law 366 = .ok (.ireturn, 1) := by decide +kernel
theorem d_LW_law_367 : decode c_LW_law 367 = .ok (.goto 641, 3) := by decide +kernel
theorem d_LW_law_370 : decode c_LW_law 370 = .ok (.aload_n 1, 1) := by decide +kernel
theorem d_LW_law_371 : decode c_LW_law 371 = .ok (.aload_n 0, 1) := by decide +kernel
theorem d_LW_law_372 : decode c_LW_law 372 = .ok (.iload 4, 2) := by decide +kernel
theorem d_LW_law_374 : decode c_LW_law 374 = .ok (.iconst 1, 1) := by decide +kernel
theorem d_LW_law_375 : decode c_LW_law 375 = .ok (.iadd, 1) := by decide +kernel
theorem d_LW_law_376 : decode c_LW_law 376 = .ok (.iaload, 1) := by decide +kernel
theorem d_LW_law_377 : decode c_LW_law 377 = .ok (.invokestatic 93, 3) := by decide +kernel
theorem d_LW_law_380 : decode c_LW_law 380 = .ok (.istore 5, 2) := by decide +kernel
theorem d_LW_law_382 : decode c_LW_law 382 = .ok (.aload_n 2, 1) := by decide +kernel
theorem d_LW_law_383 : decode c_LW_law 383 = .ok (.aload_n 0, 1) := by decide +kernel
theorem d_LW_law_384 : decode c_LW_law 384 = .ok (.iload 4, 2) := by decide +kernel
theorem d_LW_law_386 : decode c_LW_law 386 = .ok (.iconst 1, 1) := by decide +kernel
theorem d_LW_law_387 : decode c_LW_law 387 = .ok (.iadd, 1) := by decide +kernel
theorem d_LW_law_388 : decode c_LW_law 388 = .ok (.iaload, 1) := by decide +kernel
theorem d_LW_law_389 : decode c_LW_law 389 = .ok (.invokevirtual 96, 3) := by decide +kernel
theorem d_LW_law_392 : decode c_LW_law 392 = .ok (.aload_n 2, 1) := by decide +kernel
theorem d_LW_law_393 : decode c_LW_law 393 = .ok (.invokevirtual 82, 3) := by decide +kernel
theorem d_LW_law_396 : decode c_LW_law 396 = .ok (.iload 5, 2) := by decide +kernel
theorem d_LW_law_398 : decode c_LW_law 398 = .ok (.if_icmp .eq 5, 3) := by decide +kernel
theorem d_LW_law_401 : decode c_LW_law 401 = .ok (.iconst 0, 1) := by decide +kernel
theorem d_LW_law_402 : decode c_LW_law 402 = .ok (.ireturn, 1) := by decide +kernel
theorem d_LW_law_403 : decode c_LW_law 403 = .ok (.goto 605, 3) := by decide +kernel
theorem d_LW_law_406 : decode c_LW_law 406 = .ok (.aload_n 1, 1) := by decide +kernel
theorem d_LW_law_407 : decode c_LW_law 407 = .ok (.invokestatic 97, 3) := by decide +kernel
theorem d_LW_law_410 : decode c_LW_law 410 = .ok (.istore 5, 2) := by decide +kernel
theorem d_LW_law_412 : decode c_LW_law 412 = .ok (.aload_n 2, 1) := by decide +kernel
theorem d_LW_law_413 : decode c_LW_law 413 = .ok (.invokevirtual 100, 3) := by decide +kernel
theorem d_LW_law_416 : decode c_LW_law 416 = .ok (.aload_n 2, 1) := by decide +kernel
theorem d_LW_law_417 : decode c_LW_law 417 = .ok (.invokevirtual 82, 3) := by decide +kernel
theorem d_LW_law_420 : decode c_LW_law 420 = .ok (.iload 5, 2) := by decide +kernel
theorem d_LW_law_422 : decode c_LW_law 422 = .ok (.if_icmp .eq 5, 3) := by decide +kernel
theorem d_LW_law_425 : decode c_LW_law 425 = .ok (.iconst 0, 1) := by decide +kernel
theorem d_LW_law_426 : decode c_LW_law 426 = .ok (.ireturn, 1) := by decide +kernel
theorem d_LW_law_427 : decode c_LW_law 427 = .ok (.goto 581, 3) := by decide +kernel
theorem d_LW_law_430 : decode c_LW_law 430 = .ok (.aload_n 1, 1) := by decide +kernel
theorem d_LW_law_431 : decode c_LW_law 431 = .ok (.aload_n 3, 1) := by decide +kernel
theorem d_LW_law_432 : decode c_LW_law 432 = .ok (.invokestatic 101, 3) := by decide +kernel
theorem d_LW_law_435 : decode c_LW_law 435 = .ok (.istore 5, 2) := by decide +kernel
theorem d_LW_law_437 : decode c_LW_law 437 = .ok (.aload_n 2, 1) := by decide +kernel
theorem d_LW_law_438 : decode c_LW_law 438 = .ok (.invokevirtual 104, 3) := by decide +kernel
theorem d_LW_law_441 : decode c_LW_law 441 = .ok (.istore 6, 2) := by decide +kernel
theorem d_LW_law_443 : decode c_LW_law 443 = .ok (.aload_n 2, 1) := by decide +kernel
theorem d_LW_law_444 : decode c_LW_law 444 = .ok (.invokevirtual 82, 3) := by decide +kernel
theorem d_LW_law_447 : decode c_LW_law 447 = .ok (.iload 5, 2) := by decide +kernel
theorem d_LW_law_449 : decode c_LW_law 449 = .ok (.if_icmp .eq 5, 3) := by decide +kernel
theorem d_LW_law_452 : decode c_LW_law 452 = .ok (.iconst 0, 1) := by decide +kernel
theorem d_LW_law_453 : decode c_LW_law 453 = .ok (.ireturn, 1) := by decide +kernel
theorem d_LW_law_454 : decode c_LW_law 454 = .ok (.iload 5, 2) := by decide +kernel
theorem d_LW_law_456 : decode c_LW_law 456 = .ok (.ifCond .ne 22, 3) := by decide +kernel
theorem d_LW_law_459 : decode c_LW_law 459 = .ok (.aload_n 3, 1) := by decide +kernel
theorem d_LW_law_460 : decode c_LW_law 460 = .ok (.iconst 0, 1) := by decide +kernel
theorem d_LW_law_461 : decode c_LW_law 461 = .ok (.laload, 1) := by decide +kernel
theorem d_LW_law_462 : decode c_LW_law 462 = .ok (.iload 6, 2) := by decide +kernel
theorem d_LW_law_464 : decode c_LW_law 464 = .ok (.ifCond .eq 7, 3) := by decide +kernel
theorem d_LW_law_467 : decode c_LW_law 467 = .ok (.lconst 1, 1) := by decide +kernel
theorem d_LW_law_468 : decode c_LW_law 468 = .ok (.goto 4, 3) := by decide +kernel
theorem d_LW_law_471 : decode c_LW_law 471 = .ok (.lconst 0, 1) := by decide +kernel
theorem d_LW_law_472 : decode c_LW_law 472 = .ok (.lcmp, 1) := by decide +kernel
theorem d_LW_law_473 : decode c_LW_law 473 = .ok (.ifCond .eq 5, 3) := by decide +kernel
theorem d_LW_law_476 : decode c_LW_law 476 = .ok (.iconst 0, 1) := by decide +kernel
theorem d_LW_law_477 : decode c_LW_law 477 = .ok (.ireturn, 1) := by decide +kernel
theorem d_LW_law_478 : decode c_LW_law 478 = .ok (.goto 530, 3) := by decide +kernel
theorem d_LW_law_481 : decode c_LW_law 481 = .ok (.aload_n 1, 1) := by decide +kernel
theorem d_LW_law_482 : decode c_LW_law 482 = .ok (.aload_n 0, 1) := by decide +kernel
theorem d_LW_law_483 : decode c_LW_law 483 = .ok (.iload 4, 2) := by decide +kernel
theorem d_LW_law_485 : decode c_LW_law 485 = .ok (.iconst 1, 1) := by decide +kernel
theorem d_LW_law_486 : decode c_LW_law 486 = .ok (.iadd, 1) := by decide +kernel
theorem d_LW_law_487 : decode c_LW_law 487 = .ok (.iaload, 1) := by decide +kernel
theorem d_LW_law_488 : decode c_LW_law 488 = .ok (.aload_n 3, 1) := by decide +kernel
theorem d_LW_law_489 : decode c_LW_law 489 = .ok (.invokestatic 105, 3) := by decide +kernel
theorem d_LW_law_492 : decode c_LW_law 492 = .ok (.istore 5, 2) := by decide +kernel
theorem d_LW_law_494 : decode c_LW_law 494 = .ok (.aload_n 2, 1) := by decide +kernel
theorem d_LW_law_495 : decode c_LW_law 495 = .ok (.aload_n 0, 1) := by decide +kernel
theorem d_LW_law_496 : decode c_LW_law 496 = .ok (.iload 4, 2) := by decide +kernel
theorem d_LW_law_498 : decode c_LW_law 498 = .ok (.iconst 1, 1) := by decide +kernel
theorem d_LW_law_499 : decode c_LW_law 499 = .ok (.iadd, 1) := by decide +kernel
theorem d_LW_law_500 : decode c_LW_law 500 = .ok (.iaload, 1) := by decide +kernel
theorem d_LW_law_501 : decode c_LW_law 501 = .ok (.invokevirtual 107, 3) := by decide +kernel
theorem d_LW_law_504 : decode c_LW_law 504 = .ok (.istore 6, 2) := by decide +kernel
theorem d_LW_law_506 : decode c_LW_law 506 = .ok (.aload_n 2, 1) := by decide +kernel
theorem d_LW_law_507 : decode c_LW_law 507 = .ok (.invokevirtual 82, 3) := by decide +kernel
theorem d_LW_law_510 : decode c_LW_law 510 = .ok (.iload 5, 2) := by decide +kernel
theorem d_LW_law_512 : decode c_LW_law 512 = .ok (.if_icmp .eq 5, 3) := by decide +kernel
theorem d_LW_law_515 : decode c_LW_law 515 = .ok (.iconst 0, 1) := by decide +kernel
theorem d_LW_law_516 : decode c_LW_law 516 = .ok (.ireturn, 1) := by decide +kernel
theorem d_LW_law_517 : decode c_LW_law 517 = .ok (.iload 5, 2) := by decide +kernel
theorem d_LW_law_519 : decode c_LW_law 519 = .ok (.ifCond .ne 22, 3) := by decide +kernel
theorem d_LW_law_522 : decode c_LW_law 522 = .ok (.aload_n 3, 1) := by decide +kernel
theorem d_LW_law_523 : decode c_LW_law 523 = .ok (.iconst 0, 1) := by decide +kernel
theorem d_LW_law_524 : decode c_LW_law 524 = .ok (.laload, 1) := by decide +kernel
theorem d_LW_law_525 : decode c_LW_law 525 = .ok (.iload 6, 2) := by decide +kernel
theorem d_LW_law_527 : decode c_LW_law 527 = .ok (.ifCond .eq 7, 3) := by decide +kernel
theorem d_LW_law_530 : decode c_LW_law 530 = .ok (.lconst 1, 1) := by decide +kernel
theorem d_LW_law_531 : decode c_LW_law 531 = .ok (.goto 4, 3) := by decide +kernel
theorem d_LW_law_534 : decode c_LW_law 534 = .ok (.lconst 0, 1) := by decide +kernel
theorem d_LW_law_535 : decode c_LW_law 535 = .ok (.lcmp, 1) := by decide +kernel
theorem d_LW_law_536 : decode c_LW_law 536 = .ok (.ifCond .eq 5, 3) := by decide +kernel
theorem d_LW_law_539 : decode c_LW_law 539 = .ok (.iconst 0, 1) := by decide +kernel
theorem d_LW_law_540 : decode c_LW_law 540 = .ok (.ireturn, 1) := by decide +kernel
theorem d_LW_law_541 : decode c_LW_law 541 = .ok (.goto 467, 3) := by decide +kernel
theorem d_LW_law_544 : decode c_LW_law 544 = .ok (.aload_n 1, 1) := by decide +kernel
theorem d_LW_law_545 : decode c_LW_law 545 = .ok (.aload_n 0, 1) := by decide +kernel
theorem d_LW_law_546 : decode c_LW_law 546 = .ok (.iload 4, 2) := by decide +kernel
theorem d_LW_law_548 : decode c_LW_law 548 = .ok (.iconst 1, 1) := by decide +kernel
theorem d_LW_law_549 : decode c_LW_law 549 = .ok (.iadd, 1) := by decide +kernel
theorem d_LW_law_550 : decode c_LW_law 550 = .ok (.iaload, 1) := by decide +kernel
theorem d_LW_law_551 : decode c_LW_law 551 = .ok (.aload_n 3, 1) := by decide +kernel
theorem d_LW_law_552 : decode c_LW_law 552 = .ok (.invokestatic 108, 3) := by decide +kernel
theorem d_LW_law_555 : decode c_LW_law 555 = .ok (.istore 5, 2) := by decide +kernel
theorem d_LW_law_557 : decode c_LW_law 557 = .ok (.aload_n 2, 1) := by decide +kernel
theorem d_LW_law_558 : decode c_LW_law 558 = .ok (.aload_n 0, 1) := by decide +kernel
theorem d_LW_law_559 : decode c_LW_law 559 = .ok (.iload 4, 2) := by decide +kernel
theorem d_LW_law_561 : decode c_LW_law 561 = .ok (.iconst 1, 1) := by decide +kernel
theorem d_LW_law_562 : decode c_LW_law 562 = .ok (.iadd, 1) := by decide +kernel
theorem d_LW_law_563 : decode c_LW_law 563 = .ok (.iaload, 1) := by decide +kernel
theorem d_LW_law_564 : decode c_LW_law 564 = .ok (.invokevirtual 110, 3) := by decide +kernel
theorem d_LW_law_567 : decode c_LW_law 567 = .ok (.istore 6, 2) := by decide +kernel
theorem d_LW_law_569 : decode c_LW_law 569 = .ok (.aload_n 2, 1) := by decide +kernel
theorem d_LW_law_570 : decode c_LW_law 570 = .ok (.invokevirtual 82, 3) := by decide +kernel
theorem d_LW_law_573 : decode c_LW_law 573 = .ok (.iload 5, 2) := by decide +kernel
theorem d_LW_law_575 : decode c_LW_law 575 = .ok (.if_icmp .eq 5, 3) := by decide +kernel
theorem d_LW_law_578 : decode c_LW_law 578 = .ok (.iconst 0, 1) := by decide +kernel
theorem d_LW_law_579 : decode c_LW_law 579 = .ok (.ireturn, 1) := by decide +kernel
theorem d_LW_law_580 : decode c_LW_law 580 = .ok (.iload 5, 2) := by decide +kernel
theorem d_LW_law_582 : decode c_LW_law 582 = .ok (.ifCond .ne 22, 3) := by decide +kernel
theorem d_LW_law_585 : decode c_LW_law 585 = .ok (.aload_n 3, 1) := by decide +kernel
theorem d_LW_law_586 : decode c_LW_law 586 = .ok (.iconst 0, 1) := by decide +kernel
theorem d_LW_law_587 : decode c_LW_law 587 = .ok (.laload, 1) := by decide +kernel
theorem d_LW_law_588 : decode c_LW_law 588 = .ok (.iload 6, 2) := by decide +kernel
theorem d_LW_law_590 : decode c_LW_law 590 = .ok (.ifCond .eq 7, 3) := by decide +kernel
theorem d_LW_law_593 : decode c_LW_law 593 = .ok (.lconst 1, 1) := by decide +kernel
theorem d_LW_law_594 : decode c_LW_law 594 = .ok (.goto 4, 3) := by decide +kernel
theorem d_LW_law_597 : decode c_LW_law 597 = .ok (.lconst 0, 1) := by decide +kernel
theorem d_LW_law_598 : decode c_LW_law 598 = .ok (.lcmp, 1) := by decide +kernel
theorem d_LW_law_599 : decode c_LW_law 599 = .ok (.ifCond .eq 5, 3) := by decide +kernel
theorem d_LW_law_602 : decode c_LW_law 602 = .ok (.iconst 0, 1) := by decide +kernel
theorem d_LW_law_603 : decode c_LW_law 603 = .ok (.ireturn, 1) := by decide +kernel
theorem d_LW_law_604 : decode c_LW_law 604 = .ok (.goto 404, 3) := by decide +kernel
theorem d_LW_law_607 : decode c_LW_law 607 = .ok (.aload_n 1, 1) := by decide +kernel
theorem d_LW_law_608 : decode c_LW_law 608 = .ok (.aload_n 0, 1) := by decide +kernel
theorem d_LW_law_609 : decode c_LW_law 609 = .ok (.iload 4, 2) := by decide +kernel
theorem d_LW_law_611 : decode c_LW_law 611 = .ok (.iconst 1, 1) := by decide +kernel
theorem d_LW_law_612 : decode c_LW_law 612 = .ok (.iadd, 1) := by decide +kernel
theorem d_LW_law_613 : decode c_LW_law 613 = .ok (.iaload, 1) := by decide +kernel
theorem d_LW_law_614 : decode c_LW_law 614 = .ok (.aload_n 0, 1) := by decide +kernel
theorem d_LW_law_615 : decode c_LW_law 615 = .ok (.iload 4, 2) := by decide +kernel
theorem d_LW_law_617 : decode c_LW_law 617 = .ok (.iconst 2, 1) := by decide +kernel
theorem d_LW_law_618 : decode c_LW_law 618 = .ok (.iadd, 1) := by decide +kernel
theorem d_LW_law_619 : decode c_LW_law 619 = .ok (.iaload, 1) := by decide +kernel
theorem d_LW_law_620 : decode c_LW_law 620 = .ok (.aload_n 0, 1) := by decide +kernel
theorem d_LW_law_621 : decode c_LW_law 621 = .ok (.iload 4, 2) := by decide +kernel
theorem d_LW_law_623 : decode c_LW_law 623 = .ok (.iconst 3, 1) := by decide +kernel
theorem d_LW_law_624 : decode c_LW_law 624 = .ok (.iadd, 1) := by decide +kernel
theorem d_LW_law_625 : decode c_LW_law 625 = .ok (.iaload, 1) := by decide +kernel
theorem d_LW_law_626 : decode c_LW_law 626 = .ok (.aload_n 0, 1) := by decide +kernel
theorem d_LW_law_627 : decode c_LW_law 627 = .ok (.iload 4, 2) := by decide +kernel
theorem d_LW_law_629 : decode c_LW_law 629 = .ok (.iconst 4, 1) := by decide +kernel
theorem d_LW_law_630 : decode c_LW_law 630 = .ok (.iadd, 1) := by decide +kernel
theorem d_LW_law_631 : decode c_LW_law 631 = .ok (.iaload, 1) := by decide +kernel
theorem d_LW_law_632 : decode c_LW_law 632 = .ok (.aload_n 0, 1) := by decide +kernel
theorem d_LW_law_633 : decode c_LW_law 633 = .ok (.iload 4, 2) := by decide +kernel
theorem d_LW_law_635 : decode c_LW_law 635 = .ok (.iconst 5, 1) := by decide +kernel
theorem d_LW_law_636 : decode c_LW_law 636 = .ok (.iadd, 1) := by decide +kernel
theorem d_LW_law_637 : decode c_LW_law 637 = .ok (.iaload, 1) := by decide +kernel
theorem d_LW_law_638 : decode c_LW_law 638 = .ok (.i2l, 1) := by decide +kernel
theorem d_LW_law_639 : decode c_LW_law 639 = .ok (.bipush 32, 2) := by decide +kernel
theorem d_LW_law_641 : decode c_LW_law 641 = .ok (.lshl, 1) := by decide +kernel
theorem d_LW_law_642 : decode c_LW_law 642 = .ok (.aload_n 0, 1) := by decide +kernel
theorem d_LW_law_643 : decode c_LW_law 643 = .ok (.iload 4, 2) := by decide +kernel
theorem d_LW_law_645 : decode c_LW_law 645 = .ok (.bipush 6, 2) := by decide +kernel
theorem d_LW_law_647 : decode c_LW_law 647 = .ok (.iadd, 1) := by decide +kernel
theorem d_LW_law_648 : decode c_LW_law 648 = .ok (.iaload, 1) := by decide +kernel
theorem d_LW_law_649 : decode c_LW_law 649 = .ok (.i2l, 1) := by decide +kernel
theorem d_LW_law_650 : decode c_LW_law 650 = .ok (.ldc2_w 76, 3) := by decide +kernel
theorem d_LW_law_653 : decode c_LW_law 653 = .ok (.land, 1) := by decide +kernel
theorem d_LW_law_654 : decode c_LW_law 654 = .ok (.lor, 1) := by decide +kernel
theorem d_LW_law_655 : decode c_LW_law 655 = .ok (.aload_n 3, 1) := by decide +kernel
theorem d_LW_law_656 : decode c_LW_law 656 = .ok (.invokestatic 111, 3) := by decide +kernel
theorem d_LW_law_659 : decode c_LW_law 659 = .ok (.istore 5, 2) := by decide +kernel
theorem d_LW_law_661 : decode c_LW_law 661 = .ok (.aload_n 2, 1) := by decide +kernel
theorem d_LW_law_662 : decode c_LW_law 662 = .ok (.aload_n 0, 1) := by decide +kernel
theorem d_LW_law_663 : decode c_LW_law 663 = .ok (.iload 4, 2) := by decide +kernel
theorem d_LW_law_665 : decode c_LW_law 665 = .ok (.iconst 1, 1) := by decide +kernel
theorem d_LW_law_666 : decode c_LW_law 666 = .ok (.iadd, 1) := by decide +kernel
theorem d_LW_law_667 : decode c_LW_law 667 = .ok (.iaload, 1) := by decide +kernel
theorem d_LW_law_668 : decode c_LW_law 668 = .ok (.aload_n 0, 1) := by decide +kernel
theorem d_LW_law_669 : decode c_LW_law 669 = .ok (.iload 4, 2) := by decide +kernel
theorem d_LW_law_671 : decode c_LW_law 671 = .ok (.iconst 2, 1) := by decide +kernel
theorem d_LW_law_672 : decode c_LW_law 672 = .ok (.iadd, 1) := by decide +kernel
theorem d_LW_law_673 : decode c_LW_law 673 = .ok (.iaload, 1) := by decide +kernel
theorem d_LW_law_674 : decode c_LW_law 674 = .ok (.aload_n 0, 1) := by decide +kernel
theorem d_LW_law_675 : decode c_LW_law 675 = .ok (.iload 4, 2) := by decide +kernel
theorem d_LW_law_677 : decode c_LW_law 677 = .ok (.iconst 3, 1) := by decide +kernel
theorem d_LW_law_678 : decode c_LW_law 678 = .ok (.iadd, 1) := by decide +kernel
theorem d_LW_law_679 : decode c_LW_law 679 = .ok (.iaload, 1) := by decide +kernel
theorem d_LW_law_680 : decode c_LW_law 680 = .ok (.aload_n 0, 1) := by decide +kernel
theorem d_LW_law_681 : decode c_LW_law 681 = .ok (.iload 4, 2) := by decide +kernel
theorem d_LW_law_683 : decode c_LW_law 683 = .ok (.iconst 4, 1) := by decide +kernel
theorem d_LW_law_684 : decode c_LW_law 684 = .ok (.iadd, 1) := by decide +kernel
theorem d_LW_law_685 : decode c_LW_law 685 = .ok (.iaload, 1) := by decide +kernel
theorem d_LW_law_686 : decode c_LW_law 686 = .ok (.aload_n 0, 1) := by decide +kernel
theorem d_LW_law_687 : decode c_LW_law 687 = .ok (.iload 4, 2) := by decide +kernel
theorem d_LW_law_689 : decode c_LW_law 689 = .ok (.iconst 5, 1) := by decide +kernel
theorem d_LW_law_690 : decode c_LW_law 690 = .ok (.iadd, 1) := by decide +kernel
theorem d_LW_law_691 : decode c_LW_law 691 = .ok (.iaload, 1) := by decide +kernel
theorem d_LW_law_692 : decode c_LW_law 692 = .ok (.i2l, 1) := by decide +kernel
theorem d_LW_law_693 : decode c_LW_law 693 = .ok (.bipush 32, 2) := by decide +kernel
theorem d_LW_law_695 : decode c_LW_law 695 = .ok (.lshl, 1) := by decide +kernel
theorem d_LW_law_696 : decode c_LW_law 696 = .ok (.aload_n 0, 1) := by decide +kernel
theorem d_LW_law_697 : decode c_LW_law 697 = .ok (.iload 4, 2) := by decide +kernel
theorem d_LW_law_699 : decode c_LW_law 699 = .ok (.bipush 6, 2) := by decide +kernel
theorem d_LW_law_701 : decode c_LW_law 701 = .ok (.iadd, 1) := by decide +kernel
theorem d_LW_law_702 : decode c_LW_law 702 = .ok (.iaload, 1) := by decide +kernel
theorem d_LW_law_703 : decode c_LW_law 703 = .ok (.i2l, 1) := by decide +kernel
theorem d_LW_law_704 : decode c_LW_law 704 = .ok (.ldc2_w 76, 3) := by decide +kernel
theorem d_LW_law_707 : decode c_LW_law 707 = .ok (.land, 1) := by decide +kernel
theorem d_LW_law_708 : decode c_LW_law 708 = .ok (.lor, 1) := by decide +kernel
theorem d_LW_law_709 : decode c_LW_law 709 = .ok (.invokevirtual 114, 3) := by decide +kernel
theorem d_LW_law_712 : decode c_LW_law 712 = .ok (.istore 6, 2) := by decide +kernel
theorem d_LW_law_714 : decode c_LW_law 714 = .ok (.aload_n 2, 1) := by decide +kernel
theorem d_LW_law_715 : decode c_LW_law 715 = .ok (.invokevirtual 82, 3) := by decide +kernel
theorem d_LW_law_718 : decode c_LW_law 718 = .ok (.iload 5, 2) := by decide +kernel
theorem d_LW_law_720 : decode c_LW_law 720 = .ok (.if_icmp .eq 5, 3) := by decide +kernel
theorem d_LW_law_723 : decode c_LW_law 723 = .ok (.iconst 0, 1) := by decide +kernel
theorem d_LW_law_724 : decode c_LW_law 724 = .ok (.ireturn, 1) := by decide +kernel
theorem d_LW_law_725 : decode c_LW_law 725 = .ok (.iload 5, 2) := by decide +kernel
theorem d_LW_law_727 : decode c_LW_law 727 = .ok (.ifCond .ne 22, 3) := by decide +kernel
theorem d_LW_law_730 : decode c_LW_law 730 = .ok (.aload_n 3, 1) := by decide +kernel
theorem d_LW_law_731 : decode c_LW_law 731 = .ok (.iconst 0, 1) := by decide +kernel
theorem d_LW_law_732 : decode c_LW_law 732 = .ok (.laload, 1) := by decide +kernel
theorem d_LW_law_733 : decode c_LW_law 733 = .ok (.iload 6, 2) := by decide +kernel
theorem d_LW_law_735 : decode c_LW_law 735 = .ok (.ifCond .eq 7, 3) := by decide +kernel
theorem d_LW_law_738 : decode c_LW_law 738 = .ok (.lconst 1, 1) := by decide +kernel
theorem d_LW_law_739 : decode c_LW_law 739 = .ok (.goto 4, 3) := by decide +kernel
theorem d_LW_law_742 : decode c_LW_law 742 = .ok (.lconst 0, 1) := by decide +kernel
theorem d_LW_law_743 : decode c_LW_law 743 = .ok (.lcmp, 1) := by decide +kernel
theorem d_LW_law_744 : decode c_LW_law 744 = .ok (.ifCond .eq 5, 3) := by decide +kernel
theorem d_LW_law_747 : decode c_LW_law 747 = .ok (.iconst 0, 1) := by decide +kernel
theorem d_LW_law_748 : decode c_LW_law 748 = .ok (.ireturn, 1) := by decide +kernel
theorem d_LW_law_749 : decode c_LW_law 749 = .ok (.goto 259, 3) := by decide +kernel
theorem d_LW_law_752 : decode c_LW_law 752 = .ok (.aload_n 1, 1) := by decide +kernel
theorem d_LW_law_753 : decode c_LW_law 753 = .ok (.aload_n 3, 1) := by decide +kernel
theorem d_LW_law_754 : decode c_LW_law 754 = .ok (.invokestatic 115, 3) := by decide +kernel
theorem d_LW_law_757 : decode c_LW_law 757 = .ok (.istore 5, 2) := by decide +kernel
theorem d_LW_law_759 : decode c_LW_law 759 = .ok (.aload_n 2, 1) := by decide +kernel
theorem d_LW_law_760 : decode c_LW_law 760 = .ok (.invokevirtual 117, 3) := by decide +kernel
theorem d_LW_law_763 : decode c_LW_law 763 = .ok (.istore 6, 2) := by decide +kernel
theorem d_LW_law_765 : decode c_LW_law 765 = .ok (.aload_n 2, 1) := by decide +kernel
theorem d_LW_law_766 : decode c_LW_law 766 = .ok (.invokevirtual 82, 3) := by decide +kernel
theorem d_LW_law_769 : decode c_LW_law 769 = .ok (.iload 5, 2) := by decide +kernel
theorem d_LW_law_771 : decode c_LW_law 771 = .ok (.if_icmp .eq 5, 3) := by decide +kernel
theorem d_LW_law_774 : decode c_LW_law 774 = .ok (.iconst 0, 1) := by decide +kernel
theorem d_LW_law_775 : decode c_LW_law 775 = .ok (.ireturn, 1) := by decide +kernel
theorem d_LW_law_776 : decode c_LW_law 776 = .ok (.iload 5, 2) := by decide +kernel
theorem d_LW_law_778 : decode c_LW_law 778 = .ok (.ifCond .ne 15, 3) := by decide +kernel
theorem d_LW_law_781 : decode c_LW_law 781 = .ok (.aload_n 3, 1) := by decide +kernel
theorem d_LW_law_782 : decode c_LW_law 782 = .ok (.iconst 0, 1) := by decide +kernel
theorem d_LW_law_783 : decode c_LW_law 783 = .ok (.laload, 1) := by decide +kernel
theorem d_LW_law_784 : decode c_LW_law 784 = .ok (.iload 6, 2) := by decide +kernel
theorem d_LW_law_786 : decode c_LW_law 786 = .ok (.i2l, 1) := by decide +kernel
theorem d_LW_law_787 : decode c_LW_law 787 = .ok (.lcmp, 1) := by decide +kernel
theorem d_LW_law_788 : decode c_LW_law 788 = .ok (.ifCond .eq 5, 3) := by decide +kernel
theorem d_LW_law_791 : decode c_LW_law 791 = .ok (.iconst 0, 1) := by decide +kernel
theorem d_LW_law_792 : decode c_LW_law 792 = .ok (.ireturn, 1) := by decide +kernel
theorem d_LW_law_793 : decode c_LW_law 793 = .ok (.goto 215, 3) := by decide +kernel
theorem d_LW_law_796 : decode c_LW_law 796 = .ok (.aload_n 1, 1) := by decide +kernel
theorem d_LW_law_797 : decode c_LW_law 797 = .ok (.aload_n 3, 1) := by decide +kernel
theorem d_LW_law_798 : decode c_LW_law 798 = .ok (.invokestatic 118, 3) := by decide +kernel
theorem d_LW_law_801 : decode c_LW_law 801 = .ok (.istore 5, 2) := by decide +kernel
theorem d_LW_law_803 : decode c_LW_law 803 = .ok (.aload_n 2, 1) := by decide +kernel
theorem d_LW_law_804 : decode c_LW_law 804 = .ok (.invokevirtual 120, 3) := by decide +kernel
theorem d_LW_law_807 : decode c_LW_law 807 = .ok (.istore 6, 2) := by decide +kernel
theorem d_LW_law_809 : decode c_LW_law 809 = .ok (.aload_n 2, 1) := by decide +kernel
theorem d_LW_law_810 : decode c_LW_law 810 = .ok (.invokevirtual 82, 3) := by decide +kernel
theorem d_LW_law_813 : decode c_LW_law 813 = .ok (.iload 5, 2) := by decide +kernel
theorem d_LW_law_815 : decode c_LW_law 815 = .ok (.if_icmp .eq 5, 3) := by decide +kernel
theorem d_LW_law_818 : decode c_LW_law 818 = .ok (.iconst 0, 1) := by decide +kernel
theorem d_LW_law_819 : decode c_LW_law 819 = .ok (.ireturn, 1) := by decide +kernel
theorem d_LW_law_820 : decode c_LW_law 820 = .ok (.iload 5, 2) := by decide +kernel
theorem d_LW_law_822 : decode c_LW_law 822 = .ok (.ifCond .ne 15, 3) := by decide +kernel
theorem d_LW_law_825 : decode c_LW_law 825 = .ok (.aload_n 3, 1) := by decide +kernel
theorem d_LW_law_826 : decode c_LW_law 826 = .ok (.iconst 0, 1) := by decide +kernel
theorem d_LW_law_827 : decode c_LW_law 827 = .ok (.laload, 1) := by decide +kernel
theorem d_LW_law_828 : decode c_LW_law 828 = .ok (.iload 6, 2) := by decide +kernel
theorem d_LW_law_830 : decode c_LW_law 830 = .ok (.i2l, 1) := by decide +kernel
theorem d_LW_law_831 : decode c_LW_law 831 = .ok (.lcmp, 1) := by decide +kernel
theorem d_LW_law_832 : decode c_LW_law 832 = .ok (.ifCond .eq 5, 3) := by decide +kernel
theorem d_LW_law_835 : decode c_LW_law 835 = .ok (.iconst 0, 1) := by decide +kernel
theorem d_LW_law_836 : decode c_LW_law 836 = .ok (.ireturn, 1) := by decide +kernel
theorem d_LW_law_837 : decode c_LW_law 837 = .ok (.goto 171, 3) := by decide +kernel
theorem d_LW_law_840 : decode c_LW_law 840 = .ok (.aload_n 1, 1) := by decide +kernel
theorem d_LW_law_841 : decode c_LW_law 841 = .ok (.aload_n 3, 1) := by decide +kernel
theorem d_LW_law_842 : decode c_LW_law 842 = .ok (.invokestatic 121, 3) := by decide +kernel
theorem d_LW_law_845 : decode c_LW_law 845 = .ok (.istore 5, 2) := by decide +kernel
theorem d_LW_law_847 : decode c_LW_law 847 = .ok (.aload_n 2, 1) := by decide +kernel
theorem d_LW_law_848 : decode c_LW_law 848 = .ok (.invokevirtual 123, 3) := by decide +kernel
theorem d_LW_law_851 : decode c_LW_law 851 = .ok (.istore 6, 2) := by decide +kernel
theorem d_LW_law_853 : decode c_LW_law 853 = .ok (.aload_n 2, 1) := by decide +kernel
theorem d_LW_law_854 : decode c_LW_law 854 = .ok (.invokevirtual 82, 3) := by decide +kernel
theorem d_LW_law_857 : decode c_LW_law 857 = .ok (.iload 5, 2) := by decide +kernel
theorem d_LW_law_859 : decode c_LW_law 859 = .ok (.if_icmp .eq 5, 3) := by decide +kernel
theorem d_LW_law_862 : decode c_LW_law 862 = .ok (.iconst 0, 1) := by decide +kernel
theorem d_LW_law_863 : decode c_LW_law 863 = .ok (.ireturn, 1) := by decide +kernel
theorem d_LW_law_864 : decode c_LW_law 864 = .ok (.iload 5, 2) := by decide +kernel
theorem d_LW_law_866 : decode c_LW_law 866 = .ok (.ifCond .ne 15, 3) := by decide +kernel
theorem d_LW_law_869 : decode c_LW_law 869 = .ok (.aload_n 3, 1) := by decide +kernel
theorem d_LW_law_870 : decode c_LW_law 870 = .ok (.iconst 0, 1) := by decide +kernel
theorem d_LW_law_871 : decode c_LW_law 871 = .ok (.laload, 1) := by decide +kernel
theorem d_LW_law_872 : decode c_LW_law 872 = .ok (.iload 6, 2) := by decide +kernel
theorem d_LW_law_874 : decode c_LW_law 874 = .ok (.i2l, 1) := by decide +kernel
theorem d_LW_law_875 : decode c_LW_law 875 = .ok (.lcmp, 1) := by decide +kernel
theorem d_LW_law_876 : decode c_LW_law 876 = .ok (.ifCond .eq 5, 3) := by decide +kernel
theorem d_LW_law_879 : decode c_LW_law 879 = .ok (.iconst 0, 1) := by decide +kernel
theorem d_LW_law_880 : decode c_LW_law 880 = .ok (.ireturn, 1) := by decide +kernel
theorem d_LW_law_881 : decode c_LW_law 881 = .ok (.goto 127, 3) := by decide +kernel
theorem d_LW_law_884 : decode c_LW_law 884 = .ok (.aload_n 1, 1) := by decide +kernel
theorem d_LW_law_885 : decode c_LW_law 885 = .ok (.aload_n 0, 1) := by decide +kernel
theorem d_LW_law_886 : decode c_LW_law 886 = .ok (.iload 4, 2) := by decide +kernel
theorem d_LW_law_888 : decode c_LW_law 888 = .ok (.iconst 1, 1) := by decide +kernel
theorem d_LW_law_889 : decode c_LW_law 889 = .ok (.iadd, 1) := by decide +kernel
theorem d_LW_law_890 : decode c_LW_law 890 = .ok (.iaload, 1) := by decide +kernel
theorem d_LW_law_891 : decode c_LW_law 891 = .ok (.aload_n 3, 1) := by decide +kernel
theorem d_LW_law_892 : decode c_LW_law 892 = .ok (.invokestatic 124, 3) := by decide +kernel
theorem d_LW_law_895 : decode c_LW_law 895 = .ok (.istore 5, 2) := by decide +kernel
theorem d_LW_law_897 : decode c_LW_law 897 = .ok (.aload_n 2, 1) := by decide +kernel
theorem d_LW_law_898 : decode c_LW_law 898 = .ok (.aload_n 0, 1) := by decide +kernel
theorem d_LW_law_899 : decode c_LW_law 899 = .ok (.iload 4, 2) := by decide +kernel
theorem d_LW_law_901 : decode c_LW_law 901 = .ok (.iconst 1, 1) := by decide +kernel
theorem d_LW_law_902 : decode c_LW_law 902 = .ok (.iadd, 1) := by decide +kernel
theorem d_LW_law_903 : decode c_LW_law 903 = .ok (.iaload, 1) := by decide +kernel
theorem d_LW_law_904 : decode c_LW_law 904 = .ok (.invokevirtual 126, 3) := by decide +kernel
theorem d_LW_law_907 : decode c_LW_law 907 = .ok (.istore 6, 2) := by decide +kernel
theorem d_LW_law_909 : decode c_LW_law 909 = .ok (.aload_n 2, 1) := by decide +kernel
theorem d_LW_law_910 : decode c_LW_law 910 = .ok (.invokevirtual 82, 3) := by decide +kernel
theorem d_LW_law_913 : decode c_LW_law 913 = .ok (.iload 5, 2) := by decide +kernel
theorem d_LW_law_915 : decode c_LW_law 915 = .ok (.if_icmp .eq 5, 3) := by decide +kernel
theorem d_LW_law_918 : decode c_LW_law 918 = .ok (.iconst 0, 1) := by decide +kernel
theorem d_LW_law_919 : decode c_LW_law 919 = .ok (.ireturn, 1) := by decide +kernel
theorem d_LW_law_920 : decode c_LW_law 920 = .ok (.iload 5, 2) := by decide +kernel
theorem d_LW_law_922 : decode c_LW_law 922 = .ok (.ifCond .ne 15, 3) := by decide +kernel
theorem d_LW_law_925 : decode c_LW_law 925 = .ok (.aload_n 3, 1) := by decide +kernel
theorem d_LW_law_926 : decode c_LW_law 926 = .ok (.iconst 0, 1) := by decide +kernel
theorem d_LW_law_927 : decode c_LW_law 927 = .ok (.laload, 1) := by decide +kernel
theorem d_LW_law_928 : decode c_LW_law 928 = .ok (.iload 6, 2) := by decide +kernel
theorem d_LW_law_930 : decode c_LW_law 930 = .ok (.i2l, 1) := by decide +kernel
theorem d_LW_law_931 : decode c_LW_law 931 = .ok (.lcmp, 1) := by decide +kernel
theorem d_LW_law_932 : decode c_LW_law 932 = .ok (.ifCond .eq 5, 3) := by decide +kernel
theorem d_LW_law_935 : decode c_LW_law 935 = .ok (.iconst 0, 1) := by decide +kernel
theorem d_LW_law_936 : decode c_LW_law 936 = .ok (.ireturn, 1) := by decide +kernel
theorem d_LW_law_937 : decode c_LW_law 937 = .ok (.goto 71, 3) := by decide +kernel
theorem d_LW_law_940 : decode c_LW_law 940 = .ok (.aload_n 1, 1) := by decide +kernel
theorem d_LW_law_941 : decode c_LW_law 941 = .ok (.aload_n 0, 1) := by decide +kernel
theorem d_LW_law_942 : decode c_LW_law 942 = .ok (.iload 4, 2) := by decide +kernel
theorem d_LW_law_944 : decode c_LW_law 944 = .ok (.iconst 1, 1) := by decide +kernel
theorem d_LW_law_945 : decode c_LW_law 945 = .ok (.iadd, 1) := by decide +kernel
theorem d_LW_law_946 : decode c_LW_law 946 = .ok (.iaload, 1) := by decide +kernel
theorem d_LW_law_947 : decode c_LW_law 947 = .ok (.aload_n 0, 1) := by decide +kernel
theorem d_LW_law_948 : decode c_LW_law 948 = .ok (.iload 4, 2) := by decide +kernel
theorem d_LW_law_950 : decode c_LW_law 950 = .ok (.iconst 2, 1) := by decide +kernel
theorem d_LW_law_951 : decode c_LW_law 951 = .ok (.iadd, 1) := by decide +kernel
theorem d_LW_law_952 : decode c_LW_law 952 = .ok (.iaload, 1) := by decide +kernel
theorem d_LW_law_953 : decode c_LW_law 953 = .ok (.aload_n 3, 1) := by decide +kernel
theorem d_LW_law_954 : decode c_LW_law 954 = .ok (.invokestatic 127, 3) := by decide +kernel
theorem d_LW_law_957 : decode c_LW_law 957 = .ok (.istore 5, 2) := by decide +kernel
theorem d_LW_law_959 : decode c_LW_law 959 = .ok (.aload_n 2, 1) := by decide +kernel
theorem d_LW_law_960 : decode c_LW_law 960 = .ok (.aload_n 0, 1) := by decide +kernel
theorem d_LW_law_961 : decode c_LW_law 961 = .ok (.iload 4, 2) := by decide +kernel
theorem d_LW_law_963 : decode c_LW_law 963 = .ok (.iconst 1, 1) := by decide +kernel
theorem d_LW_law_964 : decode c_LW_law 964 = .ok (.iadd, 1) := by decide +kernel
theorem d_LW_law_965 : decode c_LW_law 965 = .ok (.iaload, 1) := by decide +kernel
theorem d_LW_law_966 : decode c_LW_law 966 = .ok (.aload_n 0, 1) := by decide +kernel
theorem d_LW_law_967 : decode c_LW_law 967 = .ok (.iload 4, 2) := by decide +kernel
theorem d_LW_law_969 : decode c_LW_law 969 = .ok (.iconst 2, 1) := by decide +kernel
theorem d_LW_law_970 : decode c_LW_law 970 = .ok (.iadd, 1) := by decide +kernel
theorem d_LW_law_971 : decode c_LW_law 971 = .ok (.iaload, 1) := by decide +kernel
theorem d_LW_law_972 : decode c_LW_law 972 = .ok (.invokevirtual 129, 3) := by decide +kernel
theorem d_LW_law_975 : decode c_LW_law 975 = .ok (.istore 6, 2) := by decide +kernel
theorem d_LW_law_977 : decode c_LW_law 977 = .ok (.aload_n 2, 1) := by decide +kernel
theorem d_LW_law_978 : decode c_LW_law 978 = .ok (.invokevirtual 82, 3) := by decide +kernel
theorem d_LW_law_981 : decode c_LW_law 981 = .ok (.iload 5, 2) := by decide +kernel
theorem d_LW_law_983 : decode c_LW_law 983 = .ok (.if_icmp .eq 5, 3) := by decide +kernel
theorem d_LW_law_986 : decode c_LW_law 986 = .ok (.iconst 0, 1) := by decide +kernel
theorem d_LW_law_987 : decode c_LW_law 987 = .ok (.ireturn, 1) := by decide +kernel
theorem d_LW_law_988 : decode c_LW_law 988 = .ok (.iload 5, 2) := by decide +kernel
theorem d_LW_law_990 : decode c_LW_law 990 = .ok (.ifCond .ne 15, 3) := by decide +kernel
theorem d_LW_law_993 : decode c_LW_law 993 = .ok (.aload_n 3, 1) := by decide +kernel
theorem d_LW_law_994 : decode c_LW_law 994 = .ok (.iconst 0, 1) := by decide +kernel
theorem d_LW_law_995 : decode c_LW_law 995 = .ok (.laload, 1) := by decide +kernel
theorem d_LW_law_996 : decode c_LW_law 996 = .ok (.iload 6, 2) := by decide +kernel
theorem d_LW_law_998 : decode c_LW_law 998 = .ok (.i2l, 1) := by decide +kernel
theorem d_LW_law_999 : decode c_LW_law 999 = .ok (.lcmp, 1) := by decide +kernel
theorem d_LW_law_1000 : decode c_LW_law 1000 = .ok (.ifCond .eq 5, 3) := by decide +kernel
theorem d_LW_law_1003 : decode c_LW_law 1003 = .ok (.iconst 0, 1) := by decide +kernel
theorem d_LW_law_1004 : decode c_LW_law 1004 = .ok (.ireturn, 1) := by decide +kernel
theorem d_LW_law_1005 : decode c_LW_law 1005 = .ok (.goto 3, 3) := by decide +kernel
theorem d_LW_law_1008 : decode c_LW_law 1008 = .ok (.iinc 4 7, 3) := by decide +kernel
theorem d_LW_law_1011 : decode c_LW_law 1011 = .ok (.goto (-958), 3) := by decide +kernel
theorem d_LW_law_1014 : decode c_LW_law 1014 = .ok (.iconst 1, 1) := by decide +kernel
theorem d_LW_law_1015 : decode c_LW_law 1015 = .ok (.ireturn, 1) := by decide +kernel
