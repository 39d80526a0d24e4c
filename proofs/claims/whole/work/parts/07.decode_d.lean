abbrev c_Sh_start : ByteArray := prog_4_method_2_code
abbrev y_Sh_start : MethodName := ⟨"ReedSets$Sharing", "start", "(II)V"⟩
theorem d_Sh_start_0 : decode c_Sh_start 0 = .ok (.aload_n 0, 1) := by decide +kernel
theorem d_Sh_start_1 : decode c_Sh_start 1 = .ok (.iload_n 1, 1) := by decide +kernel
theorem d_Sh_start_2 : decode c_Sh_start 2 = .ok (.putfield 36, 3) := by decide +kernel
theorem d_Sh_start_5 : decode c_Sh_start 5 = .ok (.aload_n 0, 1) := by decide +kernel
theorem d_Sh_start_6 : decode c_Sh_start 6 = .ok (.iload_n 2, 1) := by decide +kernel
theorem d_Sh_start_7 : decode c_Sh_start 7 = .ok (.putfield 40, 3) := by decide +kernel
theorem d_Sh_start_10 : decode c_Sh_start 10 = .ok (.aload_n 0, 1) := by decide +kernel
theorem d_Sh_start_11 : decode c_Sh_start 11 = .ok (.iconst 0, 1) := by decide +kernel
theorem d_Sh_start_12 : decode c_Sh_start 12 = .ok (.putfield 43, 3) := by decide +kernel
theorem d_Sh_start_15 : decode c_Sh_start 15 = .ok (.iconst 0, 1) := by decide +kernel
theorem d_Sh_start_16 : decode c_Sh_start 16 = .ok (.istore_n 3, 1) := by decide +kernel
theorem d_Sh_start_17 : decode c_Sh_start 17 = .ok (.iload_n 3, 1) := by decide +kernel
theorem d_Sh_start_18 : decode c_Sh_start 18 = .ok (.sipush 256, 3) := by decide +kernel
theorem d_Sh_start_21 : decode c_Sh_start 21 = .ok (.if_icmp .ge 16, 3) := by decide +kernel
theorem d_Sh_start_24 : decode c_Sh_start 24 = .ok (.aload_n 0, 1) := by decide +kernel
theorem d_Sh_start_25 : decode c_Sh_start 25 = .ok (.getfield 24, 3) := by decide +kernel
theorem d_Sh_start_28 : decode c_Sh_start 28 = .ok (.iload_n 3, 1) := by decide +kernel
theorem d_Sh_start_29 : decode c_Sh_start 29 = .ok (.iconst 0, 1) := by decide +kernel
theorem d_Sh_start_30 : decode c_Sh_start 30 = .ok (.bastore, 1) := by decide +kernel
theorem d_Sh_start_31 : decode c_Sh_start 31 = .ok (.iinc 3 1, 3) := by decide +kernel
theorem d_Sh_start_34 : decode c_Sh_start 34 = .ok (.goto (-17), 3) := by decide +kernel
theorem d_Sh_start_37 : decode c_Sh_start 37 = .ok (.return_, 1) := by decide +kernel
theorem ok_Sh_start : tb_mV y_Sh_start c_Sh_start 4 none 2 := ⟨tb_241, tb_47, tb_239, tb_240, by decide +kernel⟩
abbrev c_Sh_hasPlace : ByteArray := prog_4_method_3_code
abbrev y_Sh_hasPlace : MethodName := ⟨"ReedSets$Sharing", "hasPlace", "(I)Z"⟩
theorem d_Sh_hasPlace_0 : decode c_Sh_hasPlace 0 = .ok (.iload_n 1, 1) := by decide +kernel
theorem d_Sh_hasPlace_1 : decode c_Sh_hasPlace 1 = .ok (.ifCond .lt 15, 3) := by decide +kernel
theorem d_Sh_hasPlace_4 : decode c_Sh_hasPlace 4 = .ok (.iload_n 1, 1) := by decide +kernel
theorem d_Sh_hasPlace_5 : decode c_Sh_hasPlace 5 = .ok (.aload_n 0, 1) := by decide +kernel
theorem d_Sh_hasPlace_6 : decode c_Sh_hasPlace 6 = .ok (.getfield 40, 3) := by decide +kernel
theorem d_Sh_hasPlace_9 : decode c_Sh_hasPlace 9 = .ok (.if_icmp .ge 7, 3) := by decide +kernel
theorem d_Sh_hasPlace_12 : decode c_Sh_hasPlace 12 = .ok (.iconst 1, 1) := by decide +kernel
theorem d_Sh_hasPlace_13 : decode c_Sh_hasPlace 13 = .ok (.goto 4, 3) := by decide +kernel
theorem d_Sh_hasPlace_16 : decode c_Sh_hasPlace 16 = .ok (.iconst 0, 1) := by decide +kernel
theorem d_Sh_hasPlace_17 : decode c_Sh_hasPlace 17 = .ok (.ireturn, 1) := by decide +kernel
theorem ok_Sh_hasPlace : tb_mV y_Sh_hasPlace c_Sh_hasPlace 2 (some .boolean) 1 := ⟨tb_598, tb_47, tb_596, tb_597, by decide +kernel⟩
abbrev c_Sh_tell : ByteArray := prog_4_method_4_code
abbrev y_Sh_tell : MethodName := ⟨"ReedSets$Sharing", "tell", "(III)V"⟩
theorem d_Sh_tell_0 : decode c_Sh_tell 0 = .ok (.iload_n 1, 1) := by decide +kernel
theorem d_Sh_tell_1 : decode c_Sh_tell 1 = .ok (.bipush 16, 2) := by decide +kernel
theorem d_Sh_tell_3 : decode c_Sh_tell 3 = .ok (.imul, 1) := by decide +kernel
theorem d_Sh_tell_4 : decode c_Sh_tell 4 = .ok (.istore 4, 2) := by decide +kernel
theorem d_Sh_tell_6 : decode c_Sh_tell 6 = .ok (.aload_n 0, 1) := by decide +kernel
theorem d_Sh_tell_7 : decode c_Sh_tell 7 = .ok (.getfield 24, 3) := by decide +kernel
theorem d_Sh_tell_10 : decode c_Sh_tell 10 = .ok (.iload_n 1, 1) := by decide +kernel
theorem d_Sh_tell_11 : decode c_Sh_tell 11 = .ok (.baload, 1) := by decide +kernel
theorem d_Sh_tell_12 : decode c_Sh_tell 12 = .ok (.ifCond .ne 35, 3) := by decide +kernel
theorem d_Sh_tell_15 : decode c_Sh_tell 15 = .ok (.aload_n 0, 1) := by decide +kernel
theorem d_Sh_tell_16 : decode c_Sh_tell 16 = .ok (.getfield 9, 3) := by decide +kernel
theorem d_Sh_tell_19 : decode c_Sh_tell 19 = .ok (.iload 4, 2) := by decide +kernel
theorem d_Sh_tell_21 : decode c_Sh_tell 21 = .ok (.iload 4, 2) := by decide +kernel
theorem d_Sh_tell_23 : decode c_Sh_tell 23 = .ok (.bipush 16, 2) := by decide +kernel
theorem d_Sh_tell_25 : decode c_Sh_tell 25 = .ok (.iadd, 1) := by decide +kernel
theorem d_Sh_tell_26 : decode c_Sh_tell 26 = .ok (.iconst 0, 1) := by decide +kernel
theorem d_Sh_tell_27 : decode c_Sh_tell 27 = .ok (.invokestatic 46, 3) := by decide +kernel
theorem d_Sh_tell_30 : decode c_Sh_tell 30 = .ok (.aload_n 0, 1) := by decide +kernel
theorem d_Sh_tell_31 : decode c_Sh_tell 31 = .ok (.getfield 24, 3) := by decide +kernel
theorem d_Sh_tell_34 : decode c_Sh_tell 34 = .ok (.iload_n 1, 1) := by decide +kernel
theorem d_Sh_tell_35 : decode c_Sh_tell 35 = .ok (.iconst 1, 1) := by decide +kernel
theorem d_Sh_tell_36 : decode c_Sh_tell 36 = .ok (.bastore, 1) := by decide +kernel
theorem d_Sh_tell_37 : decode c_Sh_tell 37 = .ok (.aload_n 0, 1) := by decide +kernel
theorem d_Sh_tell_38 : decode c_Sh_tell 38 = .ok (.dup, 1) := by decide +kernel
theorem d_Sh_tell_39 : decode c_Sh_tell 39 = .ok (.getfield 43, 3) := by decide +kernel
theorem d_Sh_tell_42 : decode c_Sh_tell 42 = .ok (.iconst 1, 1) := by decide +kernel
theorem d_Sh_tell_43 : decode c_Sh_tell 43 = .ok (.iadd, 1) := by decide +kernel
theorem d_Sh_tell_44 : decode c_Sh_tell 44 = .ok (.putfield 43, 3) := by decide +kernel
theorem d_Sh_tell_47 : decode c_Sh_tell 47 = .ok (.aload_n 0, 1) := by decide +kernel
theorem d_Sh_tell_48 : decode c_Sh_tell 48 = .ok (.getfield 9, 3) := by decide +kernel
theorem d_Sh_tell_51 : decode c_Sh_tell 51 = .ok (.iload 4, 2) := by decide +kernel
theorem d_Sh_tell_53 : decode c_Sh_tell 53 = .ok (.iload_n 2, 1) := by decide +kernel
theorem d_Sh_tell_54 : decode c_Sh_tell 54 = .ok (.iadd, 1) := by decide +kernel
theorem d_Sh_tell_55 : decode c_Sh_tell 55 = .ok (.iload_n 3, 1) := by decide +kernel
theorem d_Sh_tell_56 : decode c_Sh_tell 56 = .ok (.iastore, 1) := by decide +kernel
theorem d_Sh_tell_57 : decode c_Sh_tell 57 = .ok (.return_, 1) := by decide +kernel
theorem ok_Sh_tell : tb_mV y_Sh_tell c_Sh_tell 5 none 3 := ⟨tb_602, tb_47, tb_600, tb_601, by decide +kernel⟩
abbrev c_Sh_weighBase : ByteArray := prog_4_method_6_code
abbrev y_Sh_weighBase : MethodName := ⟨"ReedSets$Sharing", "weighBase", "()V"⟩
theorem d_Sh_weighBase_0 : decode c_Sh_weighBase 0 = .ok (.iconst 0, 1) := by decide +kernel
theorem d_Sh_weighBase_1 : decode c_Sh_weighBase 1 = .ok (.istore_n 1, 1) := by decide +kernel
theorem d_Sh_weighBase_2 : decode c_Sh_weighBase 2 = .ok (.iload_n 1, 1) := by decide +kernel
theorem d_Sh_weighBase_3 : decode c_Sh_weighBase 3 = .ok (.aload_n 0, 1) := by decide +kernel
theorem d_Sh_weighBase_4 : decode c_Sh_weighBase 4 = .ok (.getfield 36, 3) := by decide +kernel
theorem d_Sh_weighBase_7 : decode c_Sh_weighBase 7 = .ok (.if_icmp .ge 69, 3) := by decide +kernel
theorem d_Sh_weighBase_10 : decode c_Sh_weighBase 10 = .ok (.iconst 1, 1) := by decide +kernel
theorem d_Sh_weighBase_11 : decode c_Sh_weighBase 11 = .ok (.istore_n 2, 1) := by decide +kernel
theorem d_Sh_weighBase_12 : decode c_Sh_weighBase 12 = .ok (.iconst 0, 1) := by decide +kernel
theorem d_Sh_weighBase_13 : decode c_Sh_weighBase 13 = .ok (.istore_n 3, 1) := by decide +kernel
theorem d_Sh_weighBase_14 : decode c_Sh_weighBase 14 = .ok (.iload_n 3, 1) := by decide +kernel
theorem d_Sh_weighBase_15 : decode c_Sh_weighBase 15 = .ok (.aload_n 0, 1) := by decide +kernel
theorem d_Sh_weighBase_16 : decode c_Sh_weighBase 16 = .ok (.getfield 36, 3) := by decide +kernel
theorem d_Sh_weighBase_19 : decode c_Sh_weighBase 19 = .ok (.if_icmp .ge 36, 3) := by decide +kernel
theorem d_Sh_weighBase_22 : decode c_Sh_weighBase 22 = .ok (.iload_n 3, 1) := by decide +kernel
theorem d_Sh_weighBase_23 : decode c_Sh_weighBase 23 = .ok (.iload_n 1, 1) := by decide +kernel
theorem d_Sh_weighBase_24 : decode c_Sh_weighBase 24 = .ok (.if_icmp .eq 25, 3) := by decide +kernel
theorem d_Sh_weighBase_27 : decode c_Sh_weighBase 27 = .ok (.aload_n 0, 1) := by decide +kernel
theorem d_Sh_weighBase_28 : decode c_Sh_weighBase 28 = .ok (.getfield 28, 3) := by decide +kernel
theorem d_Sh_weighBase_31 : decode c_Sh_weighBase 31 = .ok (.iload_n 2, 1) := by decide +kernel
theorem d_Sh_weighBase_32 : decode c_Sh_weighBase 32 = .ok (.aload_n 0, 1) := by decide +kernel
theorem d_Sh_weighBase_33 : decode c_Sh_weighBase 33 = .ok (.getfield 15, 3) := by decide +kernel
theorem d_Sh_weighBase_36 : decode c_Sh_weighBase 36 = .ok (.iload_n 1, 1) := by decide +kernel
theorem d_Sh_weighBase_37 : decode c_Sh_weighBase 37 = .ok (.iaload, 1) := by decide +kernel
theorem d_Sh_weighBase_38 : decode c_Sh_weighBase 38 = .ok (.aload_n 0, 1) := by decide +kernel
theorem d_Sh_weighBase_39 : decode c_Sh_weighBase 39 = .ok (.getfield 15, 3) := by decide +kernel
theorem d_Sh_weighBase_42 : decode c_Sh_weighBase 42 = .ok (.iload_n 3, 1) := by decide +kernel
theorem d_Sh_weighBase_43 : decode c_Sh_weighBase 43 = .ok (.iaload, 1) := by decide +kernel
theorem d_Sh_weighBase_44 : decode c_Sh_weighBase 44 = .ok (.ixor, 1) := by decide +kernel
theorem d_Sh_weighBase_45 : decode c_Sh_weighBase 45 = .ok (.invokevirtual 55, 3) := by decide +kernel
theorem d_Sh_weighBase_48 : decode c_Sh_weighBase 48 = .ok (.istore_n 2, 1) := by decide +kernel
theorem d_Sh_weighBase_49 : decode c_Sh_weighBase 49 = .ok (.iinc 3 1, 3) := by decide +kernel
theorem d_Sh_weighBase_52 : decode c_Sh_weighBase 52 = .ok (.goto (-38), 3) := by decide +kernel
theorem d_Sh_weighBase_55 : decode c_Sh_weighBase 55 = .ok (.aload_n 0, 1) := by decide +kernel
theorem d_Sh_weighBase_56 : decode c_Sh_weighBase 56 = .ok (.getfield 18, 3) := by decide +kernel
theorem d_Sh_weighBase_59 : decode c_Sh_weighBase 59 = .ok (.iload_n 1, 1) := by decide +kernel
theorem d_Sh_weighBase_60 : decode c_Sh_weighBase 60 = .ok (.aload_n 0, 1) := by decide +kernel
theorem d_Sh_weighBase_61 : decode c_Sh_weighBase 61 = .ok (.getfield 28, 3) := by decide +kernel
theorem d_Sh_weighBase_64 : decode c_Sh_weighBase 64 = .ok (.iconst 1, 1) := by decide +kernel
theorem d_Sh_weighBase_65 : decode c_Sh_weighBase 65 = .ok (.iload_n 2, 1) := by decide +kernel
theorem d_Sh_weighBase_66 : decode c_Sh_weighBase 66 = .ok (.invokevirtual 61, 3) := by decide +kernel
theorem d_Sh_weighBase_69 : decode c_Sh_weighBase 69 = .ok (.iastore, 1) := by decide +kernel
theorem d_Sh_weighBase_70 : decode c_Sh_weighBase 70 = .ok (.iinc 1 1, 3) := by decide +kernel
theorem d_Sh_weighBase_73 : decode c_Sh_weighBase 73 = .ok (.goto (-71), 3) := by decide +kernel
theorem d_Sh_weighBase_76 : decode c_Sh_weighBase 76 = .ok (.return_, 1) := by decide +kernel
theorem ok_Sh_weighBase : tb_mV y_Sh_weighBase c_Sh_weighBase 4 none 0 := ⟨tb_619, tb_47, tb_618, tb_18, by decide +kernel⟩
abbrev c_Sh_chooseBase : ByteArray := prog_4_method_5_code
abbrev y_Sh_chooseBase : MethodName := ⟨"ReedSets$Sharing", "chooseBase", "(I)Z"⟩
theorem d_Sh_chooseBase_0 : decode c_Sh_chooseBase 0 = .ok (.iconst 0, 1) := by decide +kernel
theorem d_Sh_chooseBase_1 : decode c_Sh_chooseBase 1 = .ok (.istore_n 2, 1) := by decide +kernel
theorem d_Sh_chooseBase_2 : decode c_Sh_chooseBase 2 = .ok (.iconst 0, 1) := by decide +kernel
theorem d_Sh_chooseBase_3 : decode c_Sh_chooseBase 3 = .ok (.istore_n 3, 1) := by decide +kernel
theorem d_Sh_chooseBase_4 : decode c_Sh_chooseBase 4 = .ok (.iload_n 3, 1) := by decide +kernel
theorem d_Sh_chooseBase_5 : decode c_Sh_chooseBase 5 = .ok (.sipush 256, 3) := by decide +kernel
theorem d_Sh_chooseBase_8 : decode c_Sh_chooseBase 8 = .ok (.if_icmp .ge 41, 3) := by decide +kernel
theorem d_Sh_chooseBase_11 : decode c_Sh_chooseBase 11 = .ok (.iload_n 2, 1) := by decide +kernel
theorem d_Sh_chooseBase_12 : decode c_Sh_chooseBase 12 = .ok (.aload_n 0, 1) := by decide +kernel
theorem d_Sh_chooseBase_13 : decode c_Sh_chooseBase 13 = .ok (.getfield 36, 3) := by decide +kernel
theorem d_Sh_chooseBase_16 : decode c_Sh_chooseBase 16 = .ok (.if_icmp .ge 33, 3) := by decide +kernel
theorem d_Sh_chooseBase_19 : decode c_Sh_chooseBase 19 = .ok (.aload_n 0, 1) := by decide +kernel
theorem d_Sh_chooseBase_20 : decode c_Sh_chooseBase 20 = .ok (.getfield 24, 3) := by decide +kernel
theorem d_Sh_chooseBase_23 : decode c_Sh_chooseBase 23 = .ok (.iload_n 3, 1) := by decide +kernel
theorem d_Sh_chooseBase_24 : decode c_Sh_chooseBase 24 = .ok (.baload, 1) := by decide +kernel
theorem d_Sh_chooseBase_25 : decode c_Sh_chooseBase 25 = .ok (.ifCond .eq 18, 3) := by decide +kernel
theorem d_Sh_chooseBase_28 : decode c_Sh_chooseBase 28 = .ok (.iload_n 3, 1) := by decide +kernel
theorem d_Sh_chooseBase_29 : decode c_Sh_chooseBase 29 = .ok (.iload_n 1, 1) := by decide +kernel
theorem d_Sh_chooseBase_30 : decode c_Sh_chooseBase 30 = .ok (.if_icmp .eq 13, 3) := by decide +kernel
theorem d_Sh_chooseBase_33 : decode c_Sh_chooseBase 33 = .ok (.aload_n 0, 1) := by decide +kernel
theorem d_Sh_chooseBase_34 : decode c_Sh_chooseBase 34 = .ok (.getfield 15, 3) := by decide +kernel
theorem d_Sh_chooseBase_37 : decode c_Sh_chooseBase 37 = .ok (.iload_n 2, 1) := by decide +kernel
theorem d_Sh_chooseBase_38 : decode c_Sh_chooseBase 38 = .ok (.iload_n 3, 1) := by decide +kernel
theorem d_Sh_chooseBase_39 : decode c_Sh_chooseBase 39 = .ok (.iastore, 1) := by decide +kernel
theorem d_Sh_chooseBase_40 : decode c_Sh_chooseBase 40 = .ok (.iinc 2 1, 3) := by decide +kernel
theorem d_Sh_chooseBase_43 : decode c_Sh_chooseBase 43 = .ok (.iinc 3 1, 3) := by decide +kernel
theorem d_Sh_chooseBase_46 : decode c_Sh_chooseBase 46 = .ok (.goto (-42), 3) := by decide +kernel
theorem d_Sh_chooseBase_49 : decode c_Sh_chooseBase 49 = .ok (.iload_n 2, 1) := by decide +kernel
theorem d_Sh_chooseBase_50 : decode c_Sh_chooseBase 50 = .ok (.aload_n 0, 1) := by decide +kernel
theorem d_Sh_chooseBase_51 : decode c_Sh_chooseBase 51 = .ok (.getfield 36, 3) := by decide +kernel
theorem d_Sh_chooseBase_54 : decode c_Sh_chooseBase 54 = .ok (.if_icmp .ge 5, 3) := by decide +kernel
theorem d_Sh_chooseBase_57 : decode c_Sh_chooseBase 57 = .ok (.iconst 0, 1) := by decide +kernel
theorem d_Sh_chooseBase_58 : decode c_Sh_chooseBase 58 = .ok (.ireturn, 1) := by decide +kernel
theorem d_Sh_chooseBase_59 : decode c_Sh_chooseBase 59 = .ok (.aload_n 0, 1) := by decide +kernel
theorem d_Sh_chooseBase_60 : decode c_Sh_chooseBase 60 = .ok (.invokevirtual 52, 3) := by decide +kernel
theorem d_Sh_chooseBase_63 : decode c_Sh_chooseBase 63 = .ok (.iconst 1, 1) := by decide +kernel
theorem d_Sh_chooseBase_64 : decode c_Sh_chooseBase 64 = .ok (.ireturn, 1) := by decide +kernel
theorem ok_Sh_chooseBase : tb_mV y_Sh_chooseBase c_Sh_chooseBase 4 (some .boolean) 1 := ⟨tb_615, tb_47, tb_613, tb_614, by decide +kernel⟩
abbrev c_Sh_aimAt : ByteArray := prog_4_method_7_code
abbrev y_Sh_aimAt : MethodName := ⟨"ReedSets$Sharing", "aimAt", "(I)V"⟩
theorem d_Sh_aimAt_0 : decode c_Sh_aimAt 0 = .ok (.iconst 1, 1) := by decide +kernel
theorem d_Sh_aimAt_1 : decode c_Sh_aimAt 1 = .ok (.istore_n 2, 1) := by decide +kernel
theorem d_Sh_aimAt_2 : decode c_Sh_aimAt 2 = .ok (.iconst 0, 1) := by decide +kernel
theorem d_Sh_aimAt_3 : decode c_Sh_aimAt 3 = .ok (.istore_n 3, 1) := by decide +kernel
theorem d_Sh_aimAt_4 : decode c_Sh_aimAt 4 = .ok (.iload_n 3, 1) := by decide +kernel
theorem d_Sh_aimAt_5 : decode c_Sh_aimAt 5 = .ok (.aload_n 0, 1) := by decide +kernel
theorem d_Sh_aimAt_6 : decode c_Sh_aimAt 6 = .ok (.getfield 36, 3) := by decide +kernel
theorem d_Sh_aimAt_9 : decode c_Sh_aimAt 9 = .ok (.if_icmp .ge 26, 3) := by decide +kernel
theorem d_Sh_aimAt_12 : decode c_Sh_aimAt 12 = .ok (.aload_n 0, 1) := by decide +kernel
theorem d_Sh_aimAt_13 : decode c_Sh_aimAt 13 = .ok (.getfield 28, 3) := by decide +kernel
theorem d_Sh_aimAt_16 : decode c_Sh_aimAt 16 = .ok (.iload_n 2, 1) := by decide +kernel
theorem d_Sh_aimAt_17 : decode c_Sh_aimAt 17 = .ok (.iload_n 1, 1) := by decide +kernel
theorem d_Sh_aimAt_18 : decode c_Sh_aimAt 18 = .ok (.aload_n 0, 1) := by decide +kernel
theorem d_Sh_aimAt_19 : decode c_Sh_aimAt 19 = .ok (.getfield 15, 3) := by decide +kernel
theorem d_Sh_aimAt_22 : decode c_Sh_aimAt 22 = .ok (.iload_n 3, 1) := by decide +kernel
theorem d_Sh_aimAt_23 : decode c_Sh_aimAt 23 = .ok (.iaload, 1) := by decide +kernel
theorem d_Sh_aimAt_24 : decode c_Sh_aimAt 24 = .ok (.ixor, 1) := by decide +kernel
theorem d_Sh_aimAt_25 : decode c_Sh_aimAt 25 = .ok (.invokevirtual 55, 3) := by decide +kernel
theorem d_Sh_aimAt_28 : decode c_Sh_aimAt 28 = .ok (.istore_n 2, 1) := by decide +kernel
theorem d_Sh_aimAt_29 : decode c_Sh_aimAt 29 = .ok (.iinc 3 1, 3) := by decide +kernel
theorem d_Sh_aimAt_32 : decode c_Sh_aimAt 32 = .ok (.goto (-28), 3) := by decide +kernel
theorem d_Sh_aimAt_35 : decode c_Sh_aimAt 35 = .ok (.iconst 0, 1) := by decide +kernel
theorem d_Sh_aimAt_36 : decode c_Sh_aimAt 36 = .ok (.istore_n 3, 1) := by decide +kernel
theorem d_Sh_aimAt_37 : decode c_Sh_aimAt 37 = .ok (.iload_n 3, 1) := by decide +kernel
theorem d_Sh_aimAt_38 : decode c_Sh_aimAt 38 = .ok (.aload_n 0, 1) := by decide +kernel
theorem d_Sh_aimAt_39 : decode c_Sh_aimAt 39 = .ok (.getfield 36, 3) := by decide +kernel
theorem d_Sh_aimAt_42 : decode c_Sh_aimAt 42 = .ok (.if_icmp .ge 64, 3) := by decide +kernel
theorem d_Sh_aimAt_45 : decode c_Sh_aimAt 45 = .ok (.aload_n 0, 1) := by decide +kernel
theorem d_Sh_aimAt_46 : decode c_Sh_aimAt 46 = .ok (.getfield 15, 3) := by decide +kernel
theorem d_Sh_aimAt_49 : decode c_Sh_aimAt 49 = .ok (.iload_n 3, 1) := by decide +kernel
theorem d_Sh_aimAt_50 : decode c_Sh_aimAt 50 = .ok (.iaload, 1) := by decide +kernel
theorem d_Sh_aimAt_51 : decode c_Sh_aimAt 51 = .ok (.iload_n 1, 1) := by decide +kernel
theorem d_Sh_aimAt_52 : decode c_Sh_aimAt 52 = .ok (.if_icmp .ne 13, 3) := by decide +kernel
theorem d_Sh_aimAt_55 : decode c_Sh_aimAt 55 = .ok (.aload_n 0, 1) := by decide +kernel
theorem d_Sh_aimAt_56 : decode c_Sh_aimAt 56 = .ok (.getfield 21, 3) := by decide +kernel
theorem d_Sh_aimAt_59 : decode c_Sh_aimAt 59 = .ok (.iload_n 3, 1) := by decide +kernel
theorem d_Sh_aimAt_60 : decode c_Sh_aimAt 60 = .ok (.iconst 1, 1) := by decide +kernel
theorem d_Sh_aimAt_61 : decode c_Sh_aimAt 61 = .ok (.iastore, 1) := by decide +kernel
theorem d_Sh_aimAt_62 : decode c_Sh_aimAt 62 = .ok (.goto 38, 3) := by decide +kernel
theorem d_Sh_aimAt_65 : decode c_Sh_aimAt 65 = .ok (.aload_n 0, 1) := by decide +kernel
theorem d_Sh_aimAt_66 : decode c_Sh_aimAt 66 = .ok (.getfield 21, 3) := by decide +kernel
theorem d_Sh_aimAt_69 : decode c_Sh_aimAt 69 = .ok (.iload_n 3, 1) := by decide +kernel
theorem d_Sh_aimAt_70 : decode c_Sh_aimAt 70 = .ok (.aload_n 0, 1) := by decide +kernel
theorem d_Sh_aimAt_71 : decode c_Sh_aimAt 71 = .ok (.getfield 28, 3) := by decide +kernel
theorem d_Sh_aimAt_74 : decode c_Sh_aimAt 74 = .ok (.aload_n 0, 1) := by decide +kernel
theorem d_Sh_aimAt_75 : decode c_Sh_aimAt 75 = .ok (.getfield 28, 3) := by decide +kernel
theorem d_Sh_aimAt_78 : decode c_Sh_aimAt 78 = .ok (.iload_n 2, 1) := by decide +kernel
theorem d_Sh_aimAt_79 : decode c_Sh_aimAt 79 = .ok (.aload_n 0, 1) := by decide +kernel
theorem d_Sh_aimAt_80 : decode c_Sh_aimAt 80 = .ok (.getfield 18, 3) := by decide +kernel
theorem d_Sh_aimAt_83 : decode c_Sh_aimAt 83 = .ok (.iload_n 3, 1) := by decide +kernel
theorem d_Sh_aimAt_84 : decode c_Sh_aimAt 84 = .ok (.iaload, 1) := by decide +kernel
theorem d_Sh_aimAt_85 : decode c_Sh_aimAt 85 = .ok (.invokevirtual 55, 3) := by decide +kernel
theorem d_Sh_aimAt_88 : decode c_Sh_aimAt 88 = .ok (.iload_n 1, 1) := by decide +kernel
theorem d_Sh_aimAt_89 : decode c_Sh_aimAt 89 = .ok (.aload_n 0, 1) := by decide +kernel
theorem d_Sh_aimAt_90 : decode c_Sh_aimAt 90 = .ok (.getfield 15, 3) := by decide +kernel
theorem d_Sh_aimAt_93 : decode c_Sh_aimAt 93 = .ok (.iload_n 3, 1) := by decide +kernel
theorem d_Sh_aimAt_94 : decode c_Sh_aimAt 94 = .ok (.iaload, 1) := by decide +kernel
theorem d_Sh_aimAt_95 : decode c_Sh_aimAt 95 = .ok (.ixor, 1) := by decide +kernel
theorem d_Sh_aimAt_96 : decode c_Sh_aimAt 96 = .ok (.invokevirtual 61, 3) := by decide +kernel
theorem d_Sh_aimAt_99 : decode c_Sh_aimAt 99 = .ok (.iastore, 1) := by decide +kernel
theorem d_Sh_aimAt_100 : decode c_Sh_aimAt 100 = .ok (.iinc 3 1, 3) := by decide +kernel
theorem d_Sh_aimAt_103 : decode c_Sh_aimAt 103 = .ok (.goto (-66), 3) := by decide +kernel
theorem d_Sh_aimAt_106 : decode c_Sh_aimAt 106 = .ok (.return_, 1) := by decide +kernel
theorem ok_Sh_aimAt : tb_mV y_Sh_aimAt c_Sh_aimAt 4 none 1 := ⟨tb_625, tb_47, tb_623, tb_624, by decide +kernel⟩
abbrev c_Sh_valueOf : ByteArray := prog_4_method_8_code
abbrev y_Sh_valueOf : MethodName := ⟨"ReedSets$Sharing", "valueOf", "(I)I"⟩
theorem d_Sh_valueOf_0 : decode c_Sh_valueOf 0 = .ok (.iconst 0, 1) := by decide +kernel
theorem d_Sh_valueOf_1 : decode c_Sh_valueOf 1 = .ok (.istore_n 2, 1) := by decide +kernel
theorem d_Sh_valueOf_2 : decode c_Sh_valueOf 2 = .ok (.iconst 0, 1) := by decide +kernel
theorem d_Sh_valueOf_3 : decode c_Sh_valueOf 3 = .ok (.istore_n 3, 1) := by decide +kernel
theorem d_Sh_valueOf_4 : decode c_Sh_valueOf 4 = .ok (.iload_n 3, 1) := by decide +kernel
theorem d_Sh_valueOf_5 : decode c_Sh_valueOf 5 = .ok (.aload_n 0, 1) := by decide +kernel
theorem d_Sh_valueOf_6 : decode c_Sh_valueOf 6 = .ok (.getfield 36, 3) := by decide +kernel
theorem d_Sh_valueOf_9 : decode c_Sh_valueOf 9 = .ok (.if_icmp .ge 41, 3) := by decide +kernel
theorem d_Sh_valueOf_12 : decode c_Sh_valueOf 12 = .ok (.iload_n 2, 1) := by decide +kernel
theorem d_Sh_valueOf_13 : decode c_Sh_valueOf 13 = .ok (.aload_n 0, 1) := by decide +kernel
theorem d_Sh_valueOf_14 : decode c_Sh_valueOf 14 = .ok (.getfield 28, 3) := by decide +kernel
theorem d_Sh_valueOf_17 : decode c_Sh_valueOf 17 = .ok (.aload_n 0, 1) := by decide +kernel
theorem d_Sh_valueOf_18 : decode c_Sh_valueOf 18 = .ok (.getfield 21, 3) := by decide +kernel
theorem d_Sh_valueOf_21 : decode c_Sh_valueOf 21 = .ok (.iload_n 3, 1) := by decide +kernel
theorem d_Sh_valueOf_22 : decode c_Sh_valueOf 22 = .ok (.iaload, 1) := by decide +kernel
theorem d_Sh_valueOf_23 : decode c_Sh_valueOf 23 = .ok (.aload_n 0, 1) := by decide +kernel
theorem d_Sh_valueOf_24 : decode c_Sh_valueOf 24 = .ok (.getfield 9, 3) := by decide +kernel
theorem d_Sh_valueOf_27 : decode c_Sh_valueOf 27 = .ok (.aload_n 0, 1) := by decide +kernel
theorem d_Sh_valueOf_28 : decode c_Sh_valueOf 28 = .ok (.getfield 15, 3) := by decide +kernel
theorem d_Sh_valueOf_31 : decode c_Sh_valueOf 31 = .ok (.iload_n 3, 1) := by decide +kernel
theorem d_Sh_valueOf_32 : decode c_Sh_valueOf 32 = .ok (.iaload, 1) := by decide +kernel
theorem d_Sh_valueOf_33 : decode c_Sh_valueOf 33 = .ok (.bipush 16, 2) := by decide +kernel
theorem d_Sh_valueOf_35 : decode c_Sh_valueOf 35 = .ok (.imul, 1) := by decide +kernel
theorem d_Sh_valueOf_36 : decode c_Sh_valueOf 36 = .ok (.iload_n 1, 1) := by decide +kernel
theorem d_Sh_valueOf_37 : decode c_Sh_valueOf 37 = .ok (.iadd, 1) := by decide +kernel
theorem d_Sh_valueOf_38 : decode c_Sh_valueOf 38 = .ok (.iaload, 1) := by decide +kernel
theorem d_Sh_valueOf_39 : decode c_Sh_valueOf 39 = .ok (.invokevirtual 55, 3) := by decide +kernel
theorem d_Sh_valueOf_42 : decode c_Sh_valueOf 42 = .ok (.ixor, 1) := by decide +kernel
theorem d_Sh_valueOf_43 : decode c_Sh_valueOf 43 = .ok (.istore_n 2, 1) := by decide +kernel
theorem d_Sh_valueOf_44 : decode c_Sh_valueOf 44 = .ok (.iinc 3 1, 3) := by decide +kernel
theorem d_Sh_valueOf_47 : decode c_Sh_valueOf 47 = .ok (.goto (-43), 3) := by decide +kernel
theorem d_Sh_valueOf_50 : decode c_Sh_valueOf 50 = .ok (.iload_n 2, 1) := by decide +kernel
theorem d_Sh_valueOf_51 : decode c_Sh_valueOf 51 = .ok (.ireturn, 1) := by decide +kernel
theorem ok_Sh_valueOf : tb_mV y_Sh_valueOf c_Sh_valueOf 4 (some .int) 1 := ⟨tb_629, tb_47, tb_627, tb_628, by decide +kernel⟩
abbrev c_Sh_fits : ByteArray := prog_4_method_9_code
abbrev y_Sh_fits : MethodName := ⟨"ReedSets$Sharing", "fits", "(I)Z"⟩
theorem d_Sh_fits_0 : decode c_Sh_fits 0 = .ok (.aload_n 0, 1) := by decide +kernel
theorem d_Sh_fits_1 : decode c_Sh_fits 1 = .ok (.iload_n 1, 1) := by decide +kernel
theorem d_Sh_fits_2 : decode c_Sh_fits 2 = .ok (.invokevirtual 64, 3) := by decide +kernel
theorem d_Sh_fits_5 : decode c_Sh_fits 5 = .ok (.iconst 0, 1) := by decide +kernel
theorem d_Sh_fits_6 : decode c_Sh_fits 6 = .ok (.istore_n 2, 1) := by decide +kernel
theorem d_Sh_fits_7 : decode c_Sh_fits 7 = .ok (.iload_n 2, 1) := by decide +kernel
theorem d_Sh_fits_8 : decode c_Sh_fits 8 = .ok (.aload_n 0, 1) := by decide +kernel
theorem d_Sh_fits_9 : decode c_Sh_fits 9 = .ok (.getfield 40, 3) := by decide +kernel
theorem d_Sh_fits_12 : decode c_Sh_fits 12 = .ok (.if_icmp .ge 30, 3) := by decide +kernel
theorem d_Sh_fits_15 : decode c_Sh_fits 15 = .ok (.aload_n 0, 1) := by decide +kernel
theorem d_Sh_fits_16 : decode c_Sh_fits 16 = .ok (.iload_n 2, 1) := by decide +kernel
theorem d_Sh_fits_17 : decode c_Sh_fits 17 = .ok (.invokevirtual 68, 3) := by decide +kernel
theorem d_Sh_fits_20 : decode c_Sh_fits 20 = .ok (.aload_n 0, 1) := by decide +kernel
theorem d_Sh_fits_21 : decode c_Sh_fits 21 = .ok (.getfield 9, 3) := by decide +kernel
theorem d_Sh_fits_24 : decode c_Sh_fits 24 = .ok (.iload_n 1, 1) := by decide +kernel
theorem d_Sh_fits_25 : decode c_Sh_fits 25 = .ok (.bipush 16, 2) := by decide +kernel
theorem d_Sh_fits_27 : decode c_Sh_fits 27 = .ok (.imul, 1) := by decide +kernel
theorem d_Sh_fits_28 : decode c_Sh_fits 28 = .ok (.iload_n 2, 1) := by decide +kernel
theorem d_Sh_fits_29 : decode c_Sh_fits 29 = .ok (.iadd, 1) := by decide +kernel
theorem d_Sh_fits_30 : decode c_Sh_fits 30 = .ok (.iaload, 1) := by decide +kernel
theorem d_Sh_fits_31 : decode c_Sh_fits 31 = .ok (.if_icmp .eq 5, 3) := by decide +kernel
theorem d_Sh_fits_34 : decode c_Sh_fits 34 = .ok (.iconst 0, 1) := by decide +kernel
theorem d_Sh_fits_35 : decode c_Sh_fits 35 = .ok (.ireturn, 1) := by decide +kernel
theorem d_Sh_fits_36 : decode c_Sh_fits 36 = .ok (.iinc 2 1, 3) := by decide +kernel
theorem d_Sh_fits_39 : decode c_Sh_fits 39 = .ok (.goto (-32), 3) := by decide +kernel
theorem d_Sh_fits_42 : decode c_Sh_fits 42 = .ok (.iconst 1, 1) := by decide +kernel
theorem d_Sh_fits_43 : decode c_Sh_fits 43 = .ok (.ireturn, 1) := by decide +kernel
theorem ok_Sh_fits : tb_mV y_Sh_fits c_Sh_fits 3 (some .boolean) 1 := ⟨tb_641, tb_47, tb_640, tb_19, by decide +kernel⟩
abbrev c_Sh_countApart : ByteArray := prog_4_method_10_code
abbrev y_Sh_countApart : MethodName := ⟨"ReedSets$Sharing", "countApart", "()I"⟩
theorem d_Sh_countApart_0 : decode c_Sh_countApart 0 = .ok (.iconst 0, 1) := by decide +kernel
theorem d_Sh_countApart_1 : decode c_Sh_countApart 1 = .ok (.istore_n 1, 1) := by decide +kernel
theorem d_Sh_countApart_2 : decode c_Sh_countApart 2 = .ok (.iconst 0, 1) := by decide +kernel
theorem d_Sh_countApart_3 : decode c_Sh_countApart 3 = .ok (.istore_n 2, 1) := by decide +kernel
theorem d_Sh_countApart_4 : decode c_Sh_countApart 4 = .ok (.iload_n 2, 1) := by decide +kernel
theorem d_Sh_countApart_5 : decode c_Sh_countApart 5 = .ok (.sipush 256, 3) := by decide +kernel
theorem d_Sh_countApart_8 : decode c_Sh_countApart 8 = .ok (.if_icmp .ge 34, 3) := by decide +kernel
theorem d_Sh_countApart_11 : decode c_Sh_countApart 11 = .ok (.aload_n 0, 1) := by decide +kernel
theorem d_Sh_countApart_12 : decode c_Sh_countApart 12 = .ok (.getfield 24, 3) := by decide +kernel
theorem d_Sh_countApart_15 : decode c_Sh_countApart 15 = .ok (.iload_n 2, 1) := by decide +kernel
theorem d_Sh_countApart_16 : decode c_Sh_countApart 16 = .ok (.baload, 1) := by decide +kernel
theorem d_Sh_countApart_17 : decode c_Sh_countApart 17 = .ok (.ifCond .eq 19, 3) := by decide +kernel
theorem d_Sh_countApart_20 : decode c_Sh_countApart 20 = .ok (.aload_n 0, 1) := by decide +kernel
theorem d_Sh_countApart_21 : decode c_Sh_countApart 21 = .ok (.iload_n 2, 1) := by decide +kernel
theorem d_Sh_countApart_22 : decode c_Sh_countApart 22 = .ok (.invokevirtual 72, 3) := by decide +kernel
theorem d_Sh_countApart_25 : decode c_Sh_countApart 25 = .ok (.ifCond .ne 11, 3) := by decide +kernel
theorem d_Sh_countApart_28 : decode c_Sh_countApart 28 = .ok (.iinc 1 1, 3) := by decide +kernel
theorem d_Sh_countApart_31 : decode c_Sh_countApart 31 = .ok (.aload_n 0, 1) := by decide +kernel
theorem d_Sh_countApart_32 : decode c_Sh_countApart 32 = .ok (.iload_n 2, 1) := by decide +kernel
theorem d_Sh_countApart_33 : decode c_Sh_countApart 33 = .ok (.putfield 76, 3) := by decide +kernel
theorem d_Sh_countApart_36 : decode c_Sh_countApart 36 = .ok (.iinc 2 1, 3) := by decide +kernel
theorem d_Sh_countApart_39 : decode c_Sh_countApart 39 = .ok (.goto (-35), 3) := by decide +kernel
theorem d_Sh_countApart_42 : decode c_Sh_countApart 42 = .ok (.iload_n 1, 1) := by decide +kernel
theorem d_Sh_countApart_43 : decode c_Sh_countApart 43 = .ok (.ireturn, 1) := by decide +kernel
theorem ok_Sh_countApart : tb_mV y_Sh_countApart c_Sh_countApart 3 (some .int) 0 := ⟨tb_637, tb_47, tb_635, tb_636, by decide +kernel⟩
abbrev c_Sh_agreeWithout : ByteArray := prog_4_method_12_code
abbrev y_Sh_agreeWithout : MethodName := ⟨"ReedSets$Sharing", "agreeWithout", "(I)Z"⟩
theorem d_Sh_agreeWithout_0 : decode c_Sh_agreeWithout 0 = .ok (.aload_n 0, 1) := by decide +kernel
theorem d_Sh_agreeWithout_1 : decode c_Sh_agreeWithout 1 = .ok (.iload_n 1, 1) := by decide +kernel
theorem d_Sh_agreeWithout_2 : decode c_Sh_agreeWithout 2 = .ok (.invokevirtual 86, 3) := by decide +kernel
theorem d_Sh_agreeWithout_5 : decode c_Sh_agreeWithout 5 = .ok (.ifCond .eq 14, 3) := by decide +kernel
theorem d_Sh_agreeWithout_8 : decode c_Sh_agreeWithout 8 = .ok (.aload_n 0, 1) := by decide +kernel
theorem d_Sh_agreeWithout_9 : decode c_Sh_agreeWithout 9 = .ok (.aload_n 0, 1) := by decide +kernel
theorem d_Sh_agreeWithout_10 : decode c_Sh_agreeWithout 10 = .ok (.getfield 76, 3) := by decide +kernel
theorem d_Sh_agreeWithout_13 : decode c_Sh_agreeWithout 13 = .ok (.invokevirtual 72, 3) := by decide +kernel
theorem d_Sh_agreeWithout_16 : decode c_Sh_agreeWithout 16 = .ok (.ifCond .ne 5, 3) := by decide +kernel
theorem d_Sh_agreeWithout_19 : decode c_Sh_agreeWithout 19 = .ok (.iconst 0, 1) := by decide +kernel
theorem d_Sh_agreeWithout_20 : decode c_Sh_agreeWithout 20 = .ok (.ireturn, 1) := by decide +kernel
theorem d_Sh_agreeWithout_21 : decode c_Sh_agreeWithout 21 = .ok (.iconst 0, 1) := by decide +kernel
theorem d_Sh_agreeWithout_22 : decode c_Sh_agreeWithout 22 = .ok (.istore_n 2, 1) := by decide +kernel
theorem d_Sh_agreeWithout_23 : decode c_Sh_agreeWithout 23 = .ok (.iload_n 2, 1) := by decide +kernel
theorem d_Sh_agreeWithout_24 : decode c_Sh_agreeWithout 24 = .ok (.sipush 256, 3) := by decide +kernel
theorem d_Sh_agreeWithout_27 : decode c_Sh_agreeWithout 27 = .ok (.if_icmp .ge 33, 3) := by decide +kernel
theorem d_Sh_agreeWithout_30 : decode c_Sh_agreeWithout 30 = .ok (.aload_n 0, 1) := by decide +kernel
theorem d_Sh_agreeWithout_31 : decode c_Sh_agreeWithout 31 = .ok (.getfield 24, 3) := by decide +kernel
theorem d_Sh_agreeWithout_34 : decode c_Sh_agreeWithout 34 = .ok (.iload_n 2, 1) := by decide +kernel
theorem d_Sh_agreeWithout_35 : decode c_Sh_agreeWithout 35 = .ok (.baload, 1) := by decide +kernel
theorem d_Sh_agreeWithout_36 : decode c_Sh_agreeWithout 36 = .ok (.ifCond .eq 18, 3) := by decide +kernel
theorem d_Sh_agreeWithout_39 : decode c_Sh_agreeWithout 39 = .ok (.iload_n 2, 1) := by decide +kernel
theorem d_Sh_agreeWithout_40 : decode c_Sh_agreeWithout 40 = .ok (.iload_n 1, 1) := by decide +kernel
theorem d_Sh_agreeWithout_41 : decode c_Sh_agreeWithout 41 = .ok (.if_icmp .eq 13, 3) := by decide +kernel
theorem d_Sh_agreeWithout_44 : decode c_Sh_agreeWithout 44 = .ok (.aload_n 0, 1) := by decide +kernel
theorem d_Sh_agreeWithout_45 : decode c_Sh_agreeWithout 45 = .ok (.iload_n 2, 1) := by decide +kernel
theorem d_Sh_agreeWithout_46 : decode c_Sh_agreeWithout 46 = .ok (.invokevirtual 72, 3) := by decide +kernel
theorem d_Sh_agreeWithout_49 : decode c_Sh_agreeWithout 49 = .ok (.ifCond .ne 5, 3) := by decide +kernel
theorem d_Sh_agreeWithout_52 : decode c_Sh_agreeWithout 52 = .ok (.iconst 0, 1) := by decide +kernel
theorem d_Sh_agreeWithout_53 : decode c_Sh_agreeWithout 53 = .ok (.ireturn, 1) := by decide +kernel
theorem d_Sh_agreeWithout_54 : decode c_Sh_agreeWithout 54 = .ok (.iinc 2 1, 3) := by decide +kernel
theorem d_Sh_agreeWithout_57 : decode c_Sh_agreeWithout 57 = .ok (.goto (-34), 3) := by decide +kernel
theorem d_Sh_agreeWithout_60 : decode c_Sh_agreeWithout 60 = .ok (.iconst 1, 1) := by decide +kernel
theorem d_Sh_agreeWithout_61 : decode c_Sh_agreeWithout 61 = .ok (.ireturn, 1) := by decide +kernel
theorem ok_Sh_agreeWithout : tb_mV y_Sh_agreeWithout c_Sh_agreeWithout 3 (some .boolean) 1 := ⟨tb_656, tb_47, tb_655, tb_20, by decide +kernel⟩
abbrev c_Sh_findOdd : ByteArray := prog_4_method_11_code
abbrev y_Sh_findOdd : MethodName := ⟨"ReedSets$Sharing", "findOdd", "()I"⟩
theorem d_Sh_findOdd_0 : decode c_Sh_findOdd 0 = .ok (.aload_n 0, 1) := by decide +kernel
theorem d_Sh_findOdd_1 : decode c_Sh_findOdd 1 = .ok (.invokevirtual 79, 3) := by decide +kernel
theorem d_Sh_findOdd_4 : decode c_Sh_findOdd 4 = .ok (.istore_n 1, 1) := by decide +kernel
theorem d_Sh_findOdd_5 : decode c_Sh_findOdd 5 = .ok (.iload_n 1, 1) := by decide +kernel
theorem d_Sh_findOdd_6 : decode c_Sh_findOdd 6 = .ok (.ifCond .ne 7, 3) := by decide +kernel
theorem d_Sh_findOdd_9 : decode c_Sh_findOdd 9 = .ok (.sipush 256, 3) := by decide +kernel
theorem d_Sh_findOdd_12 : decode c_Sh_findOdd 12 = .ok (.ireturn, 1) := by decide +kernel
theorem d_Sh_findOdd_13 : decode c_Sh_findOdd 13 = .ok (.iconst 0, 1) := by decide +kernel
theorem d_Sh_findOdd_14 : decode c_Sh_findOdd 14 = .ok (.istore_n 2, 1) := by decide +kernel
theorem d_Sh_findOdd_15 : decode c_Sh_findOdd 15 = .ok (.iconst 0, 1) := by decide +kernel
theorem d_Sh_findOdd_16 : decode c_Sh_findOdd 16 = .ok (.istore_n 3, 1) := by decide +kernel
theorem d_Sh_findOdd_17 : decode c_Sh_findOdd 17 = .ok (.iload_n 3, 1) := by decide +kernel
theorem d_Sh_findOdd_18 : decode c_Sh_findOdd 18 = .ok (.sipush 256, 3) := by decide +kernel
theorem d_Sh_findOdd_21 : decode c_Sh_findOdd 21 = .ok (.if_icmp .ge 39, 3) := by decide +kernel
theorem d_Sh_findOdd_24 : decode c_Sh_findOdd 24 = .ok (.iload_n 2, 1) := by decide +kernel
theorem d_Sh_findOdd_25 : decode c_Sh_findOdd 25 = .ok (.aload_n 0, 1) := by decide +kernel
theorem d_Sh_findOdd_26 : decode c_Sh_findOdd 26 = .ok (.getfield 36, 3) := by decide +kernel
theorem d_Sh_findOdd_29 : decode c_Sh_findOdd 29 = .ok (.if_icmp .ge 31, 3) := by decide +kernel
theorem d_Sh_findOdd_32 : decode c_Sh_findOdd 32 = .ok (.aload_n 0, 1) := by decide +kernel
theorem d_Sh_findOdd_33 : decode c_Sh_findOdd 33 = .ok (.getfield 24, 3) := by decide +kernel
theorem d_Sh_findOdd_36 : decode c_Sh_findOdd 36 = .ok (.iload_n 3, 1) := by decide +kernel
theorem d_Sh_findOdd_37 : decode c_Sh_findOdd 37 = .ok (.baload, 1) := by decide +kernel
theorem d_Sh_findOdd_38 : decode c_Sh_findOdd 38 = .ok (.ifCond .eq 16, 3) := by decide +kernel
theorem d_Sh_findOdd_41 : decode c_Sh_findOdd 41 = .ok (.iinc 2 1, 3) := by decide +kernel
theorem d_Sh_findOdd_44 : decode c_Sh_findOdd 44 = .ok (.aload_n 0, 1) := by decide +kernel
theorem d_Sh_findOdd_45 : decode c_Sh_findOdd 45 = .ok (.iload_n 3, 1) := by decide +kernel
theorem d_Sh_findOdd_46 : decode c_Sh_findOdd 46 = .ok (.invokevirtual 83, 3) := by decide +kernel
theorem d_Sh_findOdd_49 : decode c_Sh_findOdd 49 = .ok (.ifCond .eq 5, 3) := by decide +kernel
theorem d_Sh_findOdd_52 : decode c_Sh_findOdd 52 = .ok (.iload_n 3, 1) := by decide +kernel
theorem d_Sh_findOdd_53 : decode c_Sh_findOdd 53 = .ok (.ireturn, 1) := by decide +kernel
theorem d_Sh_findOdd_54 : decode c_Sh_findOdd 54 = .ok (.iinc 3 1, 3) := by decide +kernel
theorem d_Sh_findOdd_57 : decode c_Sh_findOdd 57 = .ok (.goto (-40), 3) := by decide +kernel
theorem d_Sh_findOdd_60 : decode c_Sh_findOdd 60 = .ok (.iload_n 1, 1) := by decide +kernel
theorem d_Sh_findOdd_61 : decode c_Sh_findOdd 61 = .ok (.iconst 1, 1) := by decide +kernel
theorem d_Sh_findOdd_62 : decode c_Sh_findOdd 62 = .ok (.if_icmp .ne 10, 3) := by decide +kernel
theorem d_Sh_findOdd_65 : decode c_Sh_findOdd 65 = .ok (.aload_n 0, 1) := by decide +kernel
theorem d_Sh_findOdd_66 : decode c_Sh_findOdd 66 = .ok (.getfield 76, 3) := by decide +kernel
theorem d_Sh_findOdd_69 : decode c_Sh_findOdd 69 = .ok (.goto 4, 3) := by decide +kernel
theorem d_Sh_findOdd_72 : decode c_Sh_findOdd 72 = .ok (.iconst (-1), 1) := by decide +kernel
theorem d_Sh_findOdd_73 : decode c_Sh_findOdd 73 = .ok (.ireturn, 1) := by decide +kernel
theorem ok_Sh_findOdd : tb_mV y_Sh_findOdd c_Sh_findOdd 4 (some .int) 0 := ⟨tb_651, tb_47, tb_649, tb_650, by decide +kernel⟩
