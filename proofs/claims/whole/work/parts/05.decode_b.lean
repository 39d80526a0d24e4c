abbrev c_So_readSyndromes : ByteArray := prog_5_method_3_code
abbrev y_So_readSyndromes : MethodName := ⟨"ReedSets$Solver", "readSyndromes", "(LReedSets$Word;)V"⟩
theorem d_So_readSyndromes_0 : decode c_So_readSyndromes 0 = .ok (.iconst 0, 1) := by decide +kernel
theorem d_So_readSyndromes_1 : decode c_So_readSyndromes 1 = .ok (.istore_n 2, 1) := by decide +kernel
theorem d_So_readSyndromes_2 : decode c_So_readSyndromes 2 = .ok (.iload_n 2, 1) := by decide +kernel
theorem d_So_readSyndromes_3 : decode c_So_readSyndromes 3 = .ok (.aload_n 1, 1) := by decide +kernel
theorem d_So_readSyndromes_4 : decode c_So_readSyndromes 4 = .ok (.getfield 46, 3) := by decide +kernel
theorem d_So_readSyndromes_7 : decode c_So_readSyndromes 7 = .ok (.if_icmp .ge 25, 3) := by decide +kernel
theorem d_So_readSyndromes_10 : decode c_So_readSyndromes 10 = .ok (.aload_n 0, 1) := by decide +kernel
theorem d_So_readSyndromes_11 : decode c_So_readSyndromes 11 = .ok (.getfield 9, 3) := by decide +kernel
theorem d_So_readSyndromes_14 : decode c_So_readSyndromes 14 = .ok (.iload_n 2, 1) := by decide +kernel
theorem d_So_readSyndromes_15 : decode c_So_readSyndromes 15 = .ok (.aload_n 1, 1) := by decide +kernel
theorem d_So_readSyndromes_16 : decode c_So_readSyndromes 16 = .ok (.aload_n 1, 1) := by decide +kernel
theorem d_So_readSyndromes_17 : decode c_So_readSyndromes 17 = .ok (.getfield 75, 3) := by decide +kernel
theorem d_So_readSyndromes_20 : decode c_So_readSyndromes 20 = .ok (.iload_n 2, 1) := by decide +kernel
theorem d_So_readSyndromes_21 : decode c_So_readSyndromes 21 = .ok (.iadd, 1) := by decide +kernel
theorem d_So_readSyndromes_22 : decode c_So_readSyndromes 22 = .ok (.invokevirtual 78, 3) := by decide +kernel
theorem d_So_readSyndromes_25 : decode c_So_readSyndromes 25 = .ok (.iastore, 1) := by decide +kernel
theorem d_So_readSyndromes_26 : decode c_So_readSyndromes 26 = .ok (.iinc 2 1, 3) := by decide +kernel
theorem d_So_readSyndromes_29 : decode c_So_readSyndromes 29 = .ok (.goto (-27), 3) := by decide +kernel
theorem d_So_readSyndromes_32 : decode c_So_readSyndromes 32 = .ok (.return_, 1) := by decide +kernel
theorem ok_So_readSyndromes : tb_mV y_So_readSyndromes c_So_readSyndromes 3 none 1 := ⟨tb_398, tb_44, tb_397, tb_1, by decide +kernel⟩
abbrev c_So_locateLost : ByteArray := prog_5_method_4_code
abbrev y_So_locateLost : MethodName := ⟨"ReedSets$Solver", "locateLost", "(LReedSets$Word;)V"⟩
theorem d_So_locateLost_0 : decode c_So_locateLost 0 = .ok (.aload_n 0, 1) := by decide +kernel
theorem d_So_locateLost_1 : decode c_So_locateLost 1 = .ok (.getfield 15, 3) := by decide +kernel
theorem d_So_locateLost_4 : decode c_So_locateLost 4 = .ok (.iconst 0, 1) := by decide +kernel
theorem d_So_locateLost_5 : decode c_So_locateLost 5 = .ok (.invokestatic 82, 3) := by decide +kernel
theorem d_So_locateLost_8 : decode c_So_locateLost 8 = .ok (.aload_n 0, 1) := by decide +kernel
theorem d_So_locateLost_9 : decode c_So_locateLost 9 = .ok (.getfield 15, 3) := by decide +kernel
theorem d_So_locateLost_12 : decode c_So_locateLost 12 = .ok (.iconst 0, 1) := by decide +kernel
theorem d_So_locateLost_13 : decode c_So_locateLost 13 = .ok (.iconst 1, 1) := by decide +kernel
theorem d_So_locateLost_14 : decode c_So_locateLost 14 = .ok (.iastore, 1) := by decide +kernel
theorem d_So_locateLost_15 : decode c_So_locateLost 15 = .ok (.iconst 0, 1) := by decide +kernel
theorem d_So_locateLost_16 : decode c_So_locateLost 16 = .ok (.istore_n 2, 1) := by decide +kernel
theorem d_So_locateLost_17 : decode c_So_locateLost 17 = .ok (.iconst 0, 1) := by decide +kernel
theorem d_So_locateLost_18 : decode c_So_locateLost 18 = .ok (.istore_n 3, 1) := by decide +kernel
theorem d_So_locateLost_19 : decode c_So_locateLost 19 = .ok (.iload_n 3, 1) := by decide +kernel
theorem d_So_locateLost_20 : decode c_So_locateLost 20 = .ok (.aload_n 1, 1) := by decide +kernel
theorem d_So_locateLost_21 : decode c_So_locateLost 21 = .ok (.invokevirtual 88, 3) := by decide +kernel
theorem d_So_locateLost_24 : decode c_So_locateLost 24 = .ok (.if_icmp .ge 89, 3) := by decide +kernel
theorem d_So_locateLost_27 : decode c_So_locateLost 27 = .ok (.iload_n 2, 1) := by decide +kernel
theorem d_So_locateLost_28 : decode c_So_locateLost 28 = .ok (.bipush 40, 2) := by decide +kernel
theorem d_So_locateLost_30 : decode c_So_locateLost 30 = .ok (.if_icmp .ge 83, 3) := by decide +kernel
theorem d_So_locateLost_33 : decode c_So_locateLost 33 = .ok (.aload_n 1, 1) := by decide +kernel
theorem d_So_locateLost_34 : decode c_So_locateLost 34 = .ok (.getfield 92, 3) := by decide +kernel
theorem d_So_locateLost_37 : decode c_So_locateLost 37 = .ok (.iload_n 3, 1) := by decide +kernel
theorem d_So_locateLost_38 : decode c_So_locateLost 38 = .ok (.baload, 1) := by decide +kernel
theorem d_So_locateLost_39 : decode c_So_locateLost 39 = .ok (.ifCond .eq 68, 3) := by decide +kernel
theorem d_So_locateLost_42 : decode c_So_locateLost 42 = .ok (.iinc 2 1, 3) := by decide +kernel
theorem d_So_locateLost_45 : decode c_So_locateLost 45 = .ok (.aload_n 0, 1) := by decide +kernel
theorem d_So_locateLost_46 : decode c_So_locateLost 46 = .ok (.getfield 33, 3) := by decide +kernel
theorem d_So_locateLost_49 : decode c_So_locateLost 49 = .ok (.aload_n 1, 1) := by decide +kernel
theorem d_So_locateLost_50 : decode c_So_locateLost 50 = .ok (.iload_n 3, 1) := by decide +kernel
theorem d_So_locateLost_51 : decode c_So_locateLost 51 = .ok (.invokevirtual 96, 3) := by decide +kernel
theorem d_So_locateLost_54 : decode c_So_locateLost 54 = .ok (.invokevirtual 99, 3) := by decide +kernel
theorem d_So_locateLost_57 : decode c_So_locateLost 57 = .ok (.istore 4, 2) := by decide +kernel
theorem d_So_locateLost_59 : decode c_So_locateLost 59 = .ok (.iload_n 2, 1) := by decide +kernel
theorem d_So_locateLost_60 : decode c_So_locateLost 60 = .ok (.istore 5, 2) := by decide +kernel
theorem d_So_locateLost_62 : decode c_So_locateLost 62 = .ok (.iload 5, 2) := by decide +kernel
theorem d_So_locateLost_64 : decode c_So_locateLost 64 = .ok (.iconst 1, 1) := by decide +kernel
theorem d_So_locateLost_65 : decode c_So_locateLost 65 = .ok (.if_icmp .lt 42, 3) := by decide +kernel
theorem d_So_locateLost_68 : decode c_So_locateLost 68 = .ok (.aload_n 0, 1) := by decide +kernel
theorem d_So_locateLost_69 : decode c_So_locateLost 69 = .ok (.getfield 15, 3) := by decide +kernel
theorem d_So_locateLost_72 : decode c_So_locateLost 72 = .ok (.iload 5, 2) := by decide +kernel
theorem d_So_locateLost_74 : decode c_So_locateLost 74 = .ok (.aload_n 0, 1) := by decide +kernel
theorem d_So_locateLost_75 : decode c_So_locateLost 75 = .ok (.getfield 15, 3) := by decide +kernel
theorem d_So_locateLost_78 : decode c_So_locateLost 78 = .ok (.iload 5, 2) := by decide +kernel
theorem d_So_locateLost_80 : decode c_So_locateLost 80 = .ok (.iaload, 1) := by decide +kernel
theorem d_So_locateLost_81 : decode c_So_locateLost 81 = .ok (.aload_n 0, 1) := by decide +kernel
theorem d_So_locateLost_82 : decode c_So_locateLost 82 = .ok (.getfield 33, 3) := by decide +kernel
theorem d_So_locateLost_85 : decode c_So_locateLost 85 = .ok (.aload_n 0, 1) := by decide +kernel
theorem d_So_locateLost_86 : decode c_So_locateLost 86 = .ok (.getfield 15, 3) := by decide +kernel
theorem d_So_locateLost_89 : decode c_So_locateLost 89 = .ok (.iload 5, 2) := by decide +kernel
theorem d_So_locateLost_91 : decode c_So_locateLost 91 = .ok (.iconst 1, 1) := by decide +kernel
theorem d_So_locateLost_92 : decode c_So_locateLost 92 = .ok (.isub, 1) := by decide +kernel
theorem d_So_locateLost_93 : decode c_So_locateLost 93 = .ok (.iaload, 1) := by decide +kernel
theorem d_So_locateLost_94 : decode c_So_locateLost 94 = .ok (.iload 4, 2) := by decide +kernel
theorem d_So_locateLost_96 : decode c_So_locateLost 96 = .ok (.invokevirtual 104, 3) := by decide +kernel
theorem d_So_locateLost_99 : decode c_So_locateLost 99 = .ok (.ixor, 1) := by decide +kernel
theorem d_So_locateLost_100 : decode c_So_locateLost 100 = .ok (.iastore, 1) := by decide +kernel
theorem d_So_locateLost_101 : decode c_So_locateLost 101 = .ok (.iinc 5 (-1), 3) := by decide +kernel
theorem d_So_locateLost_104 : decode c_So_locateLost 104 = .ok (.goto (-42), 3) := by decide +kernel
theorem d_So_locateLost_107 : decode c_So_locateLost 107 = .ok (.iinc 3 1, 3) := by decide +kernel
theorem d_So_locateLost_110 : decode c_So_locateLost 110 = .ok (.goto (-91), 3) := by decide +kernel
theorem d_So_locateLost_113 : decode c_So_locateLost 113 = .ok (.return_, 1) := by decide +kernel
theorem ok_So_locateLost : tb_mV y_So_locateLost c_So_locateLost 6 none 1 := ⟨tb_403, tb_44, tb_402, tb_2, by decide +kernel⟩
abbrev c_So_discrepancy : ByteArray := prog_5_method_6_code
abbrev y_So_discrepancy : MethodName := ⟨"ReedSets$Solver", "discrepancy", "(II)I"⟩
theorem d_So_discrepancy_0 : decode c_So_discrepancy 0 = .ok (.iconst 0, 1) := by decide +kernel
theorem d_So_discrepancy_1 : decode c_So_discrepancy 1 = .ok (.istore_n 3, 1) := by decide +kernel
theorem d_So_discrepancy_2 : decode c_So_discrepancy 2 = .ok (.iconst 0, 1) := by decide +kernel
theorem d_So_discrepancy_3 : decode c_So_discrepancy 3 = .ok (.istore 4, 2) := by decide +kernel
theorem d_So_discrepancy_5 : decode c_So_discrepancy 5 = .ok (.iload 4, 2) := by decide +kernel
theorem d_So_discrepancy_7 : decode c_So_discrepancy 7 = .ok (.iload_n 2, 1) := by decide +kernel
theorem d_So_discrepancy_8 : decode c_So_discrepancy 8 = .ok (.if_icmp .gt 43, 3) := by decide +kernel
theorem d_So_discrepancy_11 : decode c_So_discrepancy 11 = .ok (.iload 4, 2) := by decide +kernel
theorem d_So_discrepancy_13 : decode c_So_discrepancy 13 = .ok (.iload_n 1, 1) := by decide +kernel
theorem d_So_discrepancy_14 : decode c_So_discrepancy 14 = .ok (.if_icmp .ge 37, 3) := by decide +kernel
theorem d_So_discrepancy_17 : decode c_So_discrepancy 17 = .ok (.iload_n 3, 1) := by decide +kernel
theorem d_So_discrepancy_18 : decode c_So_discrepancy 18 = .ok (.aload_n 0, 1) := by decide +kernel
theorem d_So_discrepancy_19 : decode c_So_discrepancy 19 = .ok (.getfield 33, 3) := by decide +kernel
theorem d_So_discrepancy_22 : decode c_So_discrepancy 22 = .ok (.aload_n 0, 1) := by decide +kernel
theorem d_So_discrepancy_23 : decode c_So_discrepancy 23 = .ok (.getfield 15, 3) := by decide +kernel
theorem d_So_discrepancy_26 : decode c_So_discrepancy 26 = .ok (.iload 4, 2) := by decide +kernel
theorem d_So_discrepancy_28 : decode c_So_discrepancy 28 = .ok (.iaload, 1) := by decide +kernel
theorem d_So_discrepancy_29 : decode c_So_discrepancy 29 = .ok (.aload_n 0, 1) := by decide +kernel
theorem d_So_discrepancy_30 : decode c_So_discrepancy 30 = .ok (.getfield 9, 3) := by decide +kernel
theorem d_So_discrepancy_33 : decode c_So_discrepancy 33 = .ok (.iload_n 1, 1) := by decide +kernel
theorem d_So_discrepancy_34 : decode c_So_discrepancy 34 = .ok (.iconst 1, 1) := by decide +kernel
theorem d_So_discrepancy_35 : decode c_So_discrepancy 35 = .ok (.isub, 1) := by decide +kernel
theorem d_So_discrepancy_36 : decode c_So_discrepancy 36 = .ok (.iload 4, 2) := by decide +kernel
theorem d_So_discrepancy_38 : decode c_So_discrepancy 38 = .ok (.isub, 1) := by decide +kernel
theorem d_So_discrepancy_39 : decode c_So_discrepancy 39 = .ok (.iaload, 1) := by decide +kernel
theorem d_So_discrepancy_40 : decode c_So_discrepancy 40 = .ok (.invokevirtual 104, 3) := by decide +kernel
theorem d_So_discrepancy_43 : decode c_So_discrepancy 43 = .ok (.ixor, 1) := by decide +kernel
theorem d_So_discrepancy_44 : decode c_So_discrepancy 44 = .ok (.istore_n 3, 1) := by decide +kernel
theorem d_So_discrepancy_45 : decode c_So_discrepancy 45 = .ok (.iinc 4 1, 3) := by decide +kernel
theorem d_So_discrepancy_48 : decode c_So_discrepancy 48 = .ok (.goto (-43), 3) := by decide +kernel
theorem d_So_discrepancy_51 : decode c_So_discrepancy 51 = .ok (.iload_n 3, 1) := by decide +kernel
theorem d_So_discrepancy_52 : decode c_So_discrepancy 52 = .ok (.ireturn, 1) := by decide +kernel
theorem ok_So_discrepancy : tb_mV y_So_discrepancy c_So_discrepancy 5 (some .int) 2 := ⟨tb_422, tb_44, tb_421, tb_4, by decide +kernel⟩
abbrev c_So_shiftHelper : ByteArray := prog_5_method_7_code
abbrev y_So_shiftHelper : MethodName := ⟨"ReedSets$Solver", "shiftHelper", "()V"⟩
theorem d_So_shiftHelper_0 : decode c_So_shiftHelper 0 = .ok (.bipush 40, 2) := by decide +kernel
theorem d_So_shiftHelper_2 : decode c_So_shiftHelper 2 = .ok (.istore_n 1, 1) := by decide +kernel
theorem d_So_shiftHelper_3 : decode c_So_shiftHelper 3 = .ok (.iload_n 1, 1) := by decide +kernel
theorem d_So_shiftHelper_4 : decode c_So_shiftHelper 4 = .ok (.iconst 1, 1) := by decide +kernel
theorem d_So_shiftHelper_5 : decode c_So_shiftHelper 5 = .ok (.if_icmp .lt 23, 3) := by decide +kernel
theorem d_So_shiftHelper_8 : decode c_So_shiftHelper 8 = .ok (.aload_n 0, 1) := by decide +kernel
theorem d_So_shiftHelper_9 : decode c_So_shiftHelper 9 = .ok (.getfield 18, 3) := by decide +kernel
theorem d_So_shiftHelper_12 : decode c_So_shiftHelper 12 = .ok (.iload_n 1, 1) := by decide +kernel
theorem d_So_shiftHelper_13 : decode c_So_shiftHelper 13 = .ok (.aload_n 0, 1) := by decide +kernel
theorem d_So_shiftHelper_14 : decode c_So_shiftHelper 14 = .ok (.getfield 18, 3) := by decide +kernel
theorem d_So_shiftHelper_17 : decode c_So_shiftHelper 17 = .ok (.iload_n 1, 1) := by decide +kernel
theorem d_So_shiftHelper_18 : decode c_So_shiftHelper 18 = .ok (.iconst 1, 1) := by decide +kernel
theorem d_So_shiftHelper_19 : decode c_So_shiftHelper 19 = .ok (.isub, 1) := by decide +kernel
theorem d_So_shiftHelper_20 : decode c_So_shiftHelper 20 = .ok (.iaload, 1) := by decide +kernel
theorem d_So_shiftHelper_21 : decode c_So_shiftHelper 21 = .ok (.iastore, 1) := by decide +kernel
theorem d_So_shiftHelper_22 : decode c_So_shiftHelper 22 = .ok (.iinc 1 (-1), 3) := by decide +kernel
theorem d_So_shiftHelper_25 : decode c_So_shiftHelper 25 = .ok (.goto (-22), 3) := by decide +kernel
theorem d_So_shiftHelper_28 : decode c_So_shiftHelper 28 = .ok (.aload_n 0, 1) := by decide +kernel
theorem d_So_shiftHelper_29 : decode c_So_shiftHelper 29 = .ok (.getfield 18, 3) := by decide +kernel
theorem d_So_shiftHelper_32 : decode c_So_shiftHelper 32 = .ok (.iconst 0, 1) := by decide +kernel
theorem d_So_shiftHelper_33 : decode c_So_shiftHelper 33 = .ok (.iconst 0, 1) := by decide +kernel
theorem d_So_shiftHelper_34 : decode c_So_shiftHelper 34 = .ok (.iastore, 1) := by decide +kernel
theorem d_So_shiftHelper_35 : decode c_So_shiftHelper 35 = .ok (.return_, 1) := by decide +kernel
theorem ok_So_shiftHelper : tb_mV y_So_shiftHelper c_So_shiftHelper 2 none 0 := ⟨tb_426, tb_44, tb_425, tb_5, by decide +kernel⟩
abbrev c_So_addHelper : ByteArray := prog_5_method_8_code
abbrev y_So_addHelper : MethodName := ⟨"ReedSets$Solver", "addHelper", "(I)V"⟩
theorem d_So_addHelper_0 : decode c_So_addHelper 0 = .ok (.iconst 0, 1) := by decide +kernel
theorem d_So_addHelper_1 : decode c_So_addHelper 1 = .ok (.istore_n 2, 1) := by decide +kernel
theorem d_So_addHelper_2 : decode c_So_addHelper 2 = .ok (.iload_n 2, 1) := by decide +kernel
theorem d_So_addHelper_3 : decode c_So_addHelper 3 = .ok (.bipush 40, 2) := by decide +kernel
theorem d_So_addHelper_5 : decode c_So_addHelper 5 = .ok (.if_icmp .gt 36, 3) := by decide +kernel
theorem d_So_addHelper_8 : decode c_So_addHelper 8 = .ok (.aload_n 0, 1) := by decide +kernel
theorem d_So_addHelper_9 : decode c_So_addHelper 9 = .ok (.getfield 15, 3) := by decide +kernel
theorem d_So_addHelper_12 : decode c_So_addHelper 12 = .ok (.iload_n 2, 1) := by decide +kernel
theorem d_So_addHelper_13 : decode c_So_addHelper 13 = .ok (.aload_n 0, 1) := by decide +kernel
theorem d_So_addHelper_14 : decode c_So_addHelper 14 = .ok (.getfield 15, 3) := by decide +kernel
theorem d_So_addHelper_17 : decode c_So_addHelper 17 = .ok (.iload_n 2, 1) := by decide +kernel
theorem d_So_addHelper_18 : decode c_So_addHelper 18 = .ok (.iaload, 1) := by decide +kernel
theorem d_So_addHelper_19 : decode c_So_addHelper 19 = .ok (.aload_n 0, 1) := by decide +kernel
theorem d_So_addHelper_20 : decode c_So_addHelper 20 = .ok (.getfield 33, 3) := by decide +kernel
theorem d_So_addHelper_23 : decode c_So_addHelper 23 = .ok (.iload_n 1, 1) := by decide +kernel
theorem d_So_addHelper_24 : decode c_So_addHelper 24 = .ok (.aload_n 0, 1) := by decide +kernel
theorem d_So_addHelper_25 : decode c_So_addHelper 25 = .ok (.getfield 18, 3) := by decide +kernel
theorem d_So_addHelper_28 : decode c_So_addHelper 28 = .ok (.iload_n 2, 1) := by decide +kernel
theorem d_So_addHelper_29 : decode c_So_addHelper 29 = .ok (.iaload, 1) := by decide +kernel
theorem d_So_addHelper_30 : decode c_So_addHelper 30 = .ok (.invokevirtual 104, 3) := by decide +kernel
theorem d_So_addHelper_33 : decode c_So_addHelper 33 = .ok (.ixor, 1) := by decide +kernel
theorem d_So_addHelper_34 : decode c_So_addHelper 34 = .ok (.iastore, 1) := by decide +kernel
theorem d_So_addHelper_35 : decode c_So_addHelper 35 = .ok (.iinc 2 1, 3) := by decide +kernel
theorem d_So_addHelper_38 : decode c_So_addHelper 38 = .ok (.goto (-36), 3) := by decide +kernel
theorem d_So_addHelper_41 : decode c_So_addHelper 41 = .ok (.return_, 1) := by decide +kernel
theorem ok_So_addHelper : tb_mV y_So_addHelper c_So_addHelper 3 none 1 := ⟨tb_430, tb_44, tb_429, tb_6, by decide +kernel⟩
abbrev c_So_keepForLater : ByteArray := prog_5_method_9_code
abbrev y_So_keepForLater : MethodName := ⟨"ReedSets$Solver", "keepForLater", "(I)V"⟩
theorem d_So_keepForLater_0 : decode c_So_keepForLater 0 = .ok (.iconst 0, 1) := by decide +kernel
theorem d_So_keepForLater_1 : decode c_So_keepForLater 1 = .ok (.istore_n 2, 1) := by decide +kernel
theorem d_So_keepForLater_2 : decode c_So_keepForLater 2 = .ok (.iload_n 2, 1) := by decide +kernel
theorem d_So_keepForLater_3 : decode c_So_keepForLater 3 = .ok (.bipush 40, 2) := by decide +kernel
theorem d_So_keepForLater_5 : decode c_So_keepForLater 5 = .ok (.if_icmp .gt 29, 3) := by decide +kernel
theorem d_So_keepForLater_8 : decode c_So_keepForLater 8 = .ok (.aload_n 0, 1) := by decide +kernel
theorem d_So_keepForLater_9 : decode c_So_keepForLater 9 = .ok (.getfield 18, 3) := by decide +kernel
theorem d_So_keepForLater_12 : decode c_So_keepForLater 12 = .ok (.iload_n 2, 1) := by decide +kernel
theorem d_So_keepForLater_13 : decode c_So_keepForLater 13 = .ok (.aload_n 0, 1) := by decide +kernel
theorem d_So_keepForLater_14 : decode c_So_keepForLater 14 = .ok (.getfield 33, 3) := by decide +kernel
theorem d_So_keepForLater_17 : decode c_So_keepForLater 17 = .ok (.aload_n 0, 1) := by decide +kernel
theorem d_So_keepForLater_18 : decode c_So_keepForLater 18 = .ok (.getfield 21, 3) := by decide +kernel
theorem d_So_keepForLater_21 : decode c_So_keepForLater 21 = .ok (.iload_n 2, 1) := by decide +kernel
theorem d_So_keepForLater_22 : decode c_So_keepForLater 22 = .ok (.iaload, 1) := by decide +kernel
theorem d_So_keepForLater_23 : decode c_So_keepForLater 23 = .ok (.iload_n 1, 1) := by decide +kernel
theorem d_So_keepForLater_24 : decode c_So_keepForLater 24 = .ok (.invokevirtual 126, 3) := by decide +kernel
theorem d_So_keepForLater_27 : decode c_So_keepForLater 27 = .ok (.iastore, 1) := by decide +kernel
theorem d_So_keepForLater_28 : decode c_So_keepForLater 28 = .ok (.iinc 2 1, 3) := by decide +kernel
theorem d_So_keepForLater_31 : decode c_So_keepForLater 31 = .ok (.goto (-29), 3) := by decide +kernel
theorem d_So_keepForLater_34 : decode c_So_keepForLater 34 = .ok (.return_, 1) := by decide +kernel
theorem ok_So_keepForLater : tb_mV y_So_keepForLater c_So_keepForLater 3 none 1 := ⟨tb_434, tb_44, tb_433, tb_7, by decide +kernel⟩
abbrev c_So_locateErrors : ByteArray := prog_5_method_5_code
abbrev y_So_locateErrors : MethodName := ⟨"ReedSets$Solver", "locateErrors", "(II)I"⟩
theorem d_So_locateErrors_0 : decode c_So_locateErrors 0 = .ok (.aload_n 0, 1) := by decide +kernel
theorem d_So_locateErrors_1 : decode c_So_locateErrors 1 = .ok (.getfield 15, 3) := by decide +kernel
theorem d_So_locateErrors_4 : decode c_So_locateErrors 4 = .ok (.iconst 0, 1) := by decide +kernel
theorem d_So_locateErrors_5 : decode c_So_locateErrors 5 = .ok (.aload_n 0, 1) := by decide +kernel
theorem d_So_locateErrors_6 : decode c_So_locateErrors 6 = .ok (.getfield 18, 3) := by decide +kernel
theorem d_So_locateErrors_9 : decode c_So_locateErrors 9 = .ok (.iconst 0, 1) := by decide +kernel
theorem d_So_locateErrors_10 : decode c_So_locateErrors 10 = .ok (.aload_n 0, 1) := by decide +kernel
theorem d_So_locateErrors_11 : decode c_So_locateErrors 11 = .ok (.getfield 15, 3) := by decide +kernel
theorem d_So_locateErrors_14 : decode c_So_locateErrors 14 = .ok (.arraylength, 1) := by decide +kernel
theorem d_So_locateErrors_15 : decode c_So_locateErrors 15 = .ok (.invokestatic 107, 3) := by decide +kernel
theorem d_So_locateErrors_18 : decode c_So_locateErrors 18 = .ok (.iload_n 2, 1) := by decide +kernel
theorem d_So_locateErrors_19 : decode c_So_locateErrors 19 = .ok (.istore_n 3, 1) := by decide +kernel
theorem d_So_locateErrors_20 : decode c_So_locateErrors 20 = .ok (.iload_n 2, 1) := by decide +kernel
theorem d_So_locateErrors_21 : decode c_So_locateErrors 21 = .ok (.iconst 1, 1) := by decide +kernel
theorem d_So_locateErrors_22 : decode c_So_locateErrors 22 = .ok (.iadd, 1) := by decide +kernel
theorem d_So_locateErrors_23 : decode c_So_locateErrors 23 = .ok (.istore 4, 2) := by decide +kernel
theorem d_So_locateErrors_25 : decode c_So_locateErrors 25 = .ok (.iload 4, 2) := by decide +kernel
theorem d_So_locateErrors_27 : decode c_So_locateErrors 27 = .ok (.iload_n 1, 1) := by decide +kernel
theorem d_So_locateErrors_28 : decode c_So_locateErrors 28 = .ok (.if_icmp .gt 96, 3) := by decide +kernel
theorem d_So_locateErrors_31 : decode c_So_locateErrors 31 = .ok (.aload_n 0, 1) := by decide +kernel
theorem d_So_locateErrors_32 : decode c_So_locateErrors 32 = .ok (.iload 4, 2) := by decide +kernel
theorem d_So_locateErrors_34 : decode c_So_locateErrors 34 = .ok (.iload_n 3, 1) := by decide +kernel
theorem d_So_locateErrors_35 : decode c_So_locateErrors 35 = .ok (.invokevirtual 113, 3) := by decide +kernel
theorem d_So_locateErrors_38 : decode c_So_locateErrors 38 = .ok (.istore 5, 2) := by decide +kernel
theorem d_So_locateErrors_40 : decode c_So_locateErrors 40 = .ok (.aload_n 0, 1) := by decide +kernel
theorem d_So_locateErrors_41 : decode c_So_locateErrors 41 = .ok (.invokevirtual 116, 3) := by decide +kernel
theorem d_So_locateErrors_44 : decode c_So_locateErrors 44 = .ok (.iload 5, 2) := by decide +kernel
theorem d_So_locateErrors_46 : decode c_So_locateErrors 46 = .ok (.ifCond .ne 6, 3) := by decide +kernel
theorem d_So_locateErrors_49 : decode c_So_locateErrors 49 = .ok (.goto 69, 3) := by decide +kernel
theorem d_So_locateErrors_52 : decode c_So_locateErrors 52 = .ok (.iconst 2, 1) := by decide +kernel
theorem d_So_locateErrors_53 : decode c_So_locateErrors 53 = .ok (.iload_n 3, 1) := by decide +kernel
theorem d_So_locateErrors_54 : decode c_So_locateErrors 54 = .ok (.imul, 1) := by decide +kernel
theorem d_So_locateErrors_55 : decode c_So_locateErrors 55 = .ok (.iload 4, 2) := by decide +kernel
theorem d_So_locateErrors_57 : decode c_So_locateErrors 57 = .ok (.iload_n 2, 1) := by decide +kernel
theorem d_So_locateErrors_58 : decode c_So_locateErrors 58 = .ok (.iadd, 1) := by decide +kernel
theorem d_So_locateErrors_59 : decode c_So_locateErrors 59 = .ok (.iconst 1, 1) := by decide +kernel
theorem d_So_locateErrors_60 : decode c_So_locateErrors 60 = .ok (.isub, 1) := by decide +kernel
theorem d_So_locateErrors_61 : decode c_So_locateErrors 61 = .ok (.if_icmp .gt 7, 3) := by decide +kernel
theorem d_So_locateErrors_64 : decode c_So_locateErrors 64 = .ok (.iconst 1, 1) := by decide +kernel
theorem d_So_locateErrors_65 : decode c_So_locateErrors 65 = .ok (.goto 4, 3) := by decide +kernel
theorem d_So_locateErrors_68 : decode c_So_locateErrors 68 = .ok (.iconst 0, 1) := by decide +kernel
theorem d_So_locateErrors_69 : decode c_So_locateErrors 69 = .ok (.istore 6, 2) := by decide +kernel
theorem d_So_locateErrors_71 : decode c_So_locateErrors 71 = .ok (.iload 6, 2) := by decide +kernel
theorem d_So_locateErrors_73 : decode c_So_locateErrors 73 = .ok (.ifCond .eq 21, 3) := by decide +kernel
theorem d_So_locateErrors_76 : decode c_So_locateErrors 76 = .ok (.aload_n 0, 1) := by decide +kernel
theorem d_So_locateErrors_77 : decode c_So_locateErrors 77 = .ok (.getfield 15, 3) := by decide +kernel
theorem d_So_locateErrors_80 : decode c_So_locateErrors 80 = .ok (.iconst 0, 1) := by decide +kernel
theorem d_So_locateErrors_81 : decode c_So_locateErrors 81 = .ok (.aload_n 0, 1) := by decide +kernel
theorem d_So_locateErrors_82 : decode c_So_locateErrors 82 = .ok (.getfield 21, 3) := by decide +kernel
theorem d_So_locateErrors_85 : decode c_So_locateErrors 85 = .ok (.iconst 0, 1) := by decide +kernel
theorem d_So_locateErrors_86 : decode c_So_locateErrors 86 = .ok (.aload_n 0, 1) := by decide +kernel
theorem d_So_locateErrors_87 : decode c_So_locateErrors 87 = .ok (.getfield 15, 3) := by decide +kernel
theorem d_So_locateErrors_90 : decode c_So_locateErrors 90 = .ok (.arraylength, 1) := by decide +kernel
theorem d_So_locateErrors_91 : decode c_So_locateErrors 91 = .ok (.invokestatic 107, 3) := by decide +kernel
theorem d_So_locateErrors_94 : decode c_So_locateErrors 94 = .ok (.aload_n 0, 1) := by decide +kernel
theorem d_So_locateErrors_95 : decode c_So_locateErrors 95 = .ok (.iload 5, 2) := by decide +kernel
theorem d_So_locateErrors_97 : decode c_So_locateErrors 97 = .ok (.invokevirtual 119, 3) := by decide +kernel
theorem d_So_locateErrors_100 : decode c_So_locateErrors 100 = .ok (.iload 6, 2) := by decide +kernel
theorem d_So_locateErrors_102 : decode c_So_locateErrors 102 = .ok (.ifCond .eq 16, 3) := by decide +kernel
theorem d_So_locateErrors_105 : decode c_So_locateErrors 105 = .ok (.iload 4, 2) := by decide +kernel
theorem d_So_locateErrors_107 : decode c_So_locateErrors 107 = .ok (.iload_n 3, 1) := by decide +kernel
theorem d_So_locateErrors_108 : decode c_So_locateErrors 108 = .ok (.isub, 1) := by decide +kernel
theorem d_So_locateErrors_109 : decode c_So_locateErrors 109 = .ok (.iload_n 2, 1) := by decide +kernel
theorem d_So_locateErrors_110 : decode c_So_locateErrors 110 = .ok (.iadd, 1) := by decide +kernel
theorem d_So_locateErrors_111 : decode c_So_locateErrors 111 = .ok (.istore_n 3, 1) := by decide +kernel
theorem d_So_locateErrors_112 : decode c_So_locateErrors 112 = .ok (.aload_n 0, 1) := by decide +kernel
theorem d_So_locateErrors_113 : decode c_So_locateErrors 113 = .ok (.iload 5, 2) := by decide +kernel
theorem d_So_locateErrors_115 : decode c_So_locateErrors 115 = .ok (.invokevirtual 123, 3) := by decide +kernel
theorem d_So_locateErrors_118 : decode c_So_locateErrors 118 = .ok (.iinc 4 1, 3) := by decide +kernel
theorem d_So_locateErrors_121 : decode c_So_locateErrors 121 = .ok (.goto (-96), 3) := by decide +kernel
theorem d_So_locateErrors_124 : decode c_So_locateErrors 124 = .ok (.iload_n 3, 1) := by decide +kernel
theorem d_So_locateErrors_125 : decode c_So_locateErrors 125 = .ok (.ireturn, 1) := by decide +kernel
theorem ok_So_locateErrors : tb_mV y_So_locateErrors c_So_locateErrors 7 (some .int) 2 := ⟨tb_415, tb_44, tb_414, tb_3, by decide +kernel⟩
abbrev c_So_findPlaces : ByteArray := prog_5_method_10_code
abbrev y_So_findPlaces : MethodName := ⟨"ReedSets$Solver", "findPlaces", "(LReedSets$Word;I)Z"⟩
theorem d_So_findPlaces_0 : decode c_So_findPlaces 0 = .ok (.iconst 0, 1) := by decide +kernel
theorem d_So_findPlaces_1 : decode c_So_findPlaces 1 = .ok (.istore_n 3, 1) := by decide +kernel
theorem d_So_findPlaces_2 : decode c_So_findPlaces 2 = .ok (.iload_n 3, 1) := by decide +kernel
theorem d_So_findPlaces_3 : decode c_So_findPlaces 3 = .ok (.aload_n 1, 1) := by decide +kernel
theorem d_So_findPlaces_4 : decode c_So_findPlaces 4 = .ok (.invokevirtual 88, 3) := by decide +kernel
theorem d_So_findPlaces_7 : decode c_So_findPlaces 7 = .ok (.if_icmp .ge 82, 3) := by decide +kernel
theorem d_So_findPlaces_10 : decode c_So_findPlaces 10 = .ok (.aload_n 0, 1) := by decide +kernel
theorem d_So_findPlaces_11 : decode c_So_findPlaces 11 = .ok (.getfield 33, 3) := by decide +kernel
theorem d_So_findPlaces_14 : decode c_So_findPlaces 14 = .ok (.aload_n 1, 1) := by decide +kernel
theorem d_So_findPlaces_15 : decode c_So_findPlaces 15 = .ok (.iload_n 3, 1) := by decide +kernel
theorem d_So_findPlaces_16 : decode c_So_findPlaces 16 = .ok (.invokevirtual 96, 3) := by decide +kernel
theorem d_So_findPlaces_19 : decode c_So_findPlaces 19 = .ok (.ineg, 1) := by decide +kernel
theorem d_So_findPlaces_20 : decode c_So_findPlaces 20 = .ok (.invokevirtual 99, 3) := by decide +kernel
theorem d_So_findPlaces_23 : decode c_So_findPlaces 23 = .ok (.istore 4, 2) := by decide +kernel
theorem d_So_findPlaces_25 : decode c_So_findPlaces 25 = .ok (.aload_n 0, 1) := by decide +kernel
theorem d_So_findPlaces_26 : decode c_So_findPlaces 26 = .ok (.getfield 33, 3) := by decide +kernel
theorem d_So_findPlaces_29 : decode c_So_findPlaces 29 = .ok (.aload_n 0, 1) := by decide +kernel
theorem d_So_findPlaces_30 : decode c_So_findPlaces 30 = .ok (.getfield 15, 3) := by decide +kernel
theorem d_So_findPlaces_33 : decode c_So_findPlaces 33 = .ok (.iload_n 2, 1) := by decide +kernel
theorem d_So_findPlaces_34 : decode c_So_findPlaces 34 = .ok (.iconst 1, 1) := by decide +kernel
theorem d_So_findPlaces_35 : decode c_So_findPlaces 35 = .ok (.iadd, 1) := by decide +kernel
theorem d_So_findPlaces_36 : decode c_So_findPlaces 36 = .ok (.iload 4, 2) := by decide +kernel
theorem d_So_findPlaces_38 : decode c_So_findPlaces 38 = .ok (.invokevirtual 129, 3) := by decide +kernel
theorem d_So_findPlaces_41 : decode c_So_findPlaces 41 = .ok (.ifCond .ne 42, 3) := by decide +kernel
theorem d_So_findPlaces_44 : decode c_So_findPlaces 44 = .ok (.aload_n 0, 1) := by decide +kernel
theorem d_So_findPlaces_45 : decode c_So_findPlaces 45 = .ok (.getfield 37, 3) := by decide +kernel
theorem d_So_findPlaces_48 : decode c_So_findPlaces 48 = .ok (.iload_n 2, 1) := by decide +kernel
theorem d_So_findPlaces_49 : decode c_So_findPlaces 49 = .ok (.if_icmp .ge 12, 3) := by decide +kernel
theorem d_So_findPlaces_52 : decode c_So_findPlaces 52 = .ok (.aload_n 0, 1) := by decide +kernel
theorem d_So_findPlaces_53 : decode c_So_findPlaces 53 = .ok (.getfield 37, 3) := by decide +kernel
theorem d_So_findPlaces_56 : decode c_So_findPlaces 56 = .ok (.bipush 40, 2) := by decide +kernel
theorem d_So_findPlaces_58 : decode c_So_findPlaces 58 = .ok (.if_icmp .lt 5, 3) := by decide +kernel
theorem d_So_findPlaces_61 : decode c_So_findPlaces 61 = .ok (.iconst 0, 1) := by decide +kernel
theorem d_So_findPlaces_62 : decode c_So_findPlaces 62 = .ok (.ireturn, 1) := by decide +kernel
theorem d_So_findPlaces_63 : decode c_So_findPlaces 63 = .ok (.aload_n 0, 1) := by decide +kernel
theorem d_So_findPlaces_64 : decode c_So_findPlaces 64 = .ok (.getfield 27, 3) := by decide +kernel
theorem d_So_findPlaces_67 : decode c_So_findPlaces 67 = .ok (.aload_n 0, 1) := by decide +kernel
theorem d_So_findPlaces_68 : decode c_So_findPlaces 68 = .ok (.getfield 37, 3) := by decide +kernel
theorem d_So_findPlaces_71 : decode c_So_findPlaces 71 = .ok (.iload_n 3, 1) := by decide +kernel
theorem d_So_findPlaces_72 : decode c_So_findPlaces 72 = .ok (.iastore, 1) := by decide +kernel
theorem d_So_findPlaces_73 : decode c_So_findPlaces 73 = .ok (.aload_n 0, 1) := by decide +kernel
theorem d_So_findPlaces_74 : decode c_So_findPlaces 74 = .ok (.dup, 1) := by decide +kernel
theorem d_So_findPlaces_75 : decode c_So_findPlaces 75 = .ok (.getfield 37, 3) := by decide +kernel
theorem d_So_findPlaces_78 : decode c_So_findPlaces 78 = .ok (.iconst 1, 1) := by decide +kernel
theorem d_So_findPlaces_79 : decode c_So_findPlaces 79 = .ok (.iadd, 1) := by decide +kernel
theorem d_So_findPlaces_80 : decode c_So_findPlaces 80 = .ok (.putfield 37, 3) := by decide +kernel
theorem d_So_findPlaces_83 : decode c_So_findPlaces 83 = .ok (.iinc 3 1, 3) := by decide +kernel
theorem d_So_findPlaces_86 : decode c_So_findPlaces 86 = .ok (.goto (-84), 3) := by decide +kernel
theorem d_So_findPlaces_89 : decode c_So_findPlaces 89 = .ok (.aload_n 0, 1) := by decide +kernel
theorem d_So_findPlaces_90 : decode c_So_findPlaces 90 = .ok (.getfield 37, 3) := by decide +kernel
theorem d_So_findPlaces_93 : decode c_So_findPlaces 93 = .ok (.iload_n 2, 1) := by decide +kernel
theorem d_So_findPlaces_94 : decode c_So_findPlaces 94 = .ok (.if_icmp .ne 7, 3) := by decide +kernel
theorem d_So_findPlaces_97 : decode c_So_findPlaces 97 = .ok (.iconst 1, 1) := by decide +kernel
theorem d_So_findPlaces_98 : decode c_So_findPlaces 98 = .ok (.goto 4, 3) := by decide +kernel
theorem d_So_findPlaces_101 : decode c_So_findPlaces 101 = .ok (.iconst 0, 1) := by decide +kernel
theorem d_So_findPlaces_102 : decode c_So_findPlaces 102 = .ok (.ireturn, 1) := by decide +kernel
theorem ok_So_findPlaces : tb_mV y_So_findPlaces c_So_findPlaces 5 (some .boolean) 2 := ⟨tb_439, tb_44, tb_438, tb_8, by decide +kernel⟩
abbrev c_So_slopeAt : ByteArray := prog_5_method_12_code
abbrev y_So_slopeAt : MethodName := ⟨"ReedSets$Solver", "slopeAt", "(I)I"⟩
theorem d_So_slopeAt_0 : decode c_So_slopeAt 0 = .ok (.aload_n 0, 1) := by decide +kernel
theorem d_So_slopeAt_1 : decode c_So_slopeAt 1 = .ok (.getfield 33, 3) := by decide +kernel
theorem d_So_slopeAt_4 : decode c_So_slopeAt 4 = .ok (.iload_n 1, 1) := by decide +kernel
theorem d_So_slopeAt_5 : decode c_So_slopeAt 5 = .ok (.iload_n 1, 1) := by decide +kernel
theorem d_So_slopeAt_6 : decode c_So_slopeAt 6 = .ok (.invokevirtual 104, 3) := by decide +kernel
theorem d_So_slopeAt_9 : decode c_So_slopeAt 9 = .ok (.istore_n 2, 1) := by decide +kernel
theorem d_So_slopeAt_10 : decode c_So_slopeAt 10 = .ok (.iconst 0, 1) := by decide +kernel
theorem d_So_slopeAt_11 : decode c_So_slopeAt 11 = .ok (.istore_n 3, 1) := by decide +kernel
theorem d_So_slopeAt_12 : decode c_So_slopeAt 12 = .ok (.bipush 39, 2) := by decide +kernel
theorem d_So_slopeAt_14 : decode c_So_slopeAt 14 = .ok (.istore 4, 2) := by decide +kernel
theorem d_So_slopeAt_16 : decode c_So_slopeAt 16 = .ok (.iload 4, 2) := by decide +kernel
theorem d_So_slopeAt_18 : decode c_So_slopeAt 18 = .ok (.iconst 1, 1) := by decide +kernel
theorem d_So_slopeAt_19 : decode c_So_slopeAt 19 = .ok (.if_icmp .lt 27, 3) := by decide +kernel
theorem d_So_slopeAt_22 : decode c_So_slopeAt 22 = .ok (.aload_n 0, 1) := by decide +kernel
theorem d_So_slopeAt_23 : decode c_So_slopeAt 23 = .ok (.getfield 33, 3) := by decide +kernel
theorem d_So_slopeAt_26 : decode c_So_slopeAt 26 = .ok (.iload_n 3, 1) := by decide +kernel
theorem d_So_slopeAt_27 : decode c_So_slopeAt 27 = .ok (.iload_n 2, 1) := by decide +kernel
theorem d_So_slopeAt_28 : decode c_So_slopeAt 28 = .ok (.invokevirtual 104, 3) := by decide +kernel
theorem d_So_slopeAt_31 : decode c_So_slopeAt 31 = .ok (.aload_n 0, 1) := by decide +kernel
theorem d_So_slopeAt_32 : decode c_So_slopeAt 32 = .ok (.getfield 15, 3) := by decide +kernel
theorem d_So_slopeAt_35 : decode c_So_slopeAt 35 = .ok (.iload 4, 2) := by decide +kernel
theorem d_So_slopeAt_37 : decode c_So_slopeAt 37 = .ok (.iaload, 1) := by decide +kernel
theorem d_So_slopeAt_38 : decode c_So_slopeAt 38 = .ok (.ixor, 1) := by decide +kernel
theorem d_So_slopeAt_39 : decode c_So_slopeAt 39 = .ok (.istore_n 3, 1) := by decide +kernel
theorem d_So_slopeAt_40 : decode c_So_slopeAt 40 = .ok (.iinc 4 (-2), 3) := by decide +kernel
theorem d_So_slopeAt_43 : decode c_So_slopeAt 43 = .ok (.goto (-27), 3) := by decide +kernel
theorem d_So_slopeAt_46 : decode c_So_slopeAt 46 = .ok (.iload_n 3, 1) := by decide +kernel
theorem d_So_slopeAt_47 : decode c_So_slopeAt 47 = .ok (.ireturn, 1) := by decide +kernel
theorem ok_So_slopeAt : tb_mV y_So_slopeAt c_So_slopeAt 5 (some .int) 1 := ⟨tb_455, tb_44, tb_454, tb_10, by decide +kernel⟩
abbrev c_So_findFixes : ByteArray := prog_5_method_11_code
abbrev y_So_findFixes : MethodName := ⟨"ReedSets$Solver", "findFixes", "(LReedSets$Word;)V"⟩
theorem d_So_findFixes_0 : decode c_So_findFixes 0 = .ok (.iconst 0, 1) := by decide +kernel
theorem d_So_findFixes_1 : decode c_So_findFixes 1 = .ok (.istore_n 2, 1) := by decide +kernel
theorem d_So_findFixes_2 : decode c_So_findFixes 2 = .ok (.iload_n 2, 1) := by decide +kernel
theorem d_So_findFixes_3 : decode c_So_findFixes 3 = .ok (.aload_n 0, 1) := by decide +kernel
theorem d_So_findFixes_4 : decode c_So_findFixes 4 = .ok (.getfield 37, 3) := by decide +kernel
theorem d_So_findFixes_7 : decode c_So_findFixes 7 = .ok (.if_icmp .ge 26, 3) := by decide +kernel
theorem d_So_findFixes_10 : decode c_So_findFixes 10 = .ok (.aload_n 0, 1) := by decide +kernel
theorem d_So_findFixes_11 : decode c_So_findFixes 11 = .ok (.getfield 24, 3) := by decide +kernel
theorem d_So_findFixes_14 : decode c_So_findFixes 14 = .ok (.iload_n 2, 1) := by decide +kernel
theorem d_So_findFixes_15 : decode c_So_findFixes 15 = .ok (.aload_n 0, 1) := by decide +kernel
theorem d_So_findFixes_16 : decode c_So_findFixes 16 = .ok (.iload_n 2, 1) := by decide +kernel
theorem d_So_findFixes_17 : decode c_So_findFixes 17 = .ok (.iconst 1, 1) := by decide +kernel
theorem d_So_findFixes_18 : decode c_So_findFixes 18 = .ok (.iadd, 1) := by decide +kernel
theorem d_So_findFixes_19 : decode c_So_findFixes 19 = .ok (.aload_n 0, 1) := by decide +kernel
theorem d_So_findFixes_20 : decode c_So_findFixes 20 = .ok (.getfield 37, 3) := by decide +kernel
theorem d_So_findFixes_23 : decode c_So_findFixes 23 = .ok (.invokevirtual 113, 3) := by decide +kernel
theorem d_So_findFixes_26 : decode c_So_findFixes 26 = .ok (.iastore, 1) := by decide +kernel
theorem d_So_findFixes_27 : decode c_So_findFixes 27 = .ok (.iinc 2 1, 3) := by decide +kernel
theorem d_So_findFixes_30 : decode c_So_findFixes 30 = .ok (.goto (-28), 3) := by decide +kernel
theorem d_So_findFixes_33 : decode c_So_findFixes 33 = .ok (.iconst 0, 1) := by decide +kernel
theorem d_So_findFixes_34 : decode c_So_findFixes 34 = .ok (.istore_n 2, 1) := by decide +kernel
theorem d_So_findFixes_35 : decode c_So_findFixes 35 = .ok (.iload_n 2, 1) := by decide +kernel
theorem d_So_findFixes_36 : decode c_So_findFixes 36 = .ok (.aload_n 0, 1) := by decide +kernel
theorem d_So_findFixes_37 : decode c_So_findFixes 37 = .ok (.getfield 37, 3) := by decide +kernel
theorem d_So_findFixes_40 : decode c_So_findFixes 40 = .ok (.if_icmp .ge 93, 3) := by decide +kernel
theorem d_So_findFixes_43 : decode c_So_findFixes 43 = .ok (.aload_n 1, 1) := by decide +kernel
theorem d_So_findFixes_44 : decode c_So_findFixes 44 = .ok (.aload_n 0, 1) := by decide +kernel
theorem d_So_findFixes_45 : decode c_So_findFixes 45 = .ok (.getfield 27, 3) := by decide +kernel
theorem d_So_findFixes_48 : decode c_So_findFixes 48 = .ok (.iload_n 2, 1) := by decide +kernel
theorem d_So_findFixes_49 : decode c_So_findFixes 49 = .ok (.iaload, 1) := by decide +kernel
theorem d_So_findFixes_50 : decode c_So_findFixes 50 = .ok (.invokevirtual 96, 3) := by decide +kernel
theorem d_So_findFixes_53 : decode c_So_findFixes 53 = .ok (.istore_n 3, 1) := by decide +kernel
theorem d_So_findFixes_54 : decode c_So_findFixes 54 = .ok (.aload_n 0, 1) := by decide +kernel
theorem d_So_findFixes_55 : decode c_So_findFixes 55 = .ok (.getfield 33, 3) := by decide +kernel
theorem d_So_findFixes_58 : decode c_So_findFixes 58 = .ok (.iload_n 3, 1) := by decide +kernel
theorem d_So_findFixes_59 : decode c_So_findFixes 59 = .ok (.ineg, 1) := by decide +kernel
theorem d_So_findFixes_60 : decode c_So_findFixes 60 = .ok (.invokevirtual 99, 3) := by decide +kernel
theorem d_So_findFixes_63 : decode c_So_findFixes 63 = .ok (.istore 4, 2) := by decide +kernel
theorem d_So_findFixes_65 : decode c_So_findFixes 65 = .ok (.aload_n 0, 1) := by decide +kernel
theorem d_So_findFixes_66 : decode c_So_findFixes 66 = .ok (.getfield 33, 3) := by decide +kernel
theorem d_So_findFixes_69 : decode c_So_findFixes 69 = .ok (.aload_n 0, 1) := by decide +kernel
theorem d_So_findFixes_70 : decode c_So_findFixes 70 = .ok (.getfield 33, 3) := by decide +kernel
theorem d_So_findFixes_73 : decode c_So_findFixes 73 = .ok (.aload_n 0, 1) := by decide +kernel
theorem d_So_findFixes_74 : decode c_So_findFixes 74 = .ok (.getfield 24, 3) := by decide +kernel
theorem d_So_findFixes_77 : decode c_So_findFixes 77 = .ok (.aload_n 0, 1) := by decide +kernel
theorem d_So_findFixes_78 : decode c_So_findFixes 78 = .ok (.getfield 37, 3) := by decide +kernel
theorem d_So_findFixes_81 : decode c_So_findFixes 81 = .ok (.iload 4, 2) := by decide +kernel
theorem d_So_findFixes_83 : decode c_So_findFixes 83 = .ok (.invokevirtual 129, 3) := by decide +kernel
theorem d_So_findFixes_86 : decode c_So_findFixes 86 = .ok (.aload_n 0, 1) := by decide +kernel
theorem d_So_findFixes_87 : decode c_So_findFixes 87 = .ok (.iload 4, 2) := by decide +kernel
theorem d_So_findFixes_89 : decode c_So_findFixes 89 = .ok (.invokevirtual 133, 3) := by decide +kernel
theorem d_So_findFixes_92 : decode c_So_findFixes 92 = .ok (.invokevirtual 126, 3) := by decide +kernel
theorem d_So_findFixes_95 : decode c_So_findFixes 95 = .ok (.istore 5, 2) := by decide +kernel
theorem d_So_findFixes_97 : decode c_So_findFixes 97 = .ok (.aload_n 0, 1) := by decide +kernel
theorem d_So_findFixes_98 : decode c_So_findFixes 98 = .ok (.getfield 30, 3) := by decide +kernel
theorem d_So_findFixes_101 : decode c_So_findFixes 101 = .ok (.iload_n 2, 1) := by decide +kernel
theorem d_So_findFixes_102 : decode c_So_findFixes 102 = .ok (.aload_n 0, 1) := by decide +kernel
theorem d_So_findFixes_103 : decode c_So_findFixes 103 = .ok (.getfield 33, 3) := by decide +kernel
theorem d_So_findFixes_106 : decode c_So_findFixes 106 = .ok (.iload 5, 2) := by decide +kernel
theorem d_So_findFixes_108 : decode c_So_findFixes 108 = .ok (.aload_n 0, 1) := by decide +kernel
theorem d_So_findFixes_109 : decode c_So_findFixes 109 = .ok (.getfield 33, 3) := by decide +kernel
theorem d_So_findFixes_112 : decode c_So_findFixes 112 = .ok (.iload_n 3, 1) := by decide +kernel
theorem d_So_findFixes_113 : decode c_So_findFixes 113 = .ok (.iconst 1, 1) := by decide +kernel
theorem d_So_findFixes_114 : decode c_So_findFixes 114 = .ok (.aload_n 1, 1) := by decide +kernel
theorem d_So_findFixes_115 : decode c_So_findFixes 115 = .ok (.getfield 75, 3) := by decide +kernel
theorem d_So_findFixes_118 : decode c_So_findFixes 118 = .ok (.isub, 1) := by decide +kernel
theorem d_So_findFixes_119 : decode c_So_findFixes 119 = .ok (.imul, 1) := by decide +kernel
theorem d_So_findFixes_120 : decode c_So_findFixes 120 = .ok (.invokevirtual 99, 3) := by decide +kernel
theorem d_So_findFixes_123 : decode c_So_findFixes 123 = .ok (.invokevirtual 104, 3) := by decide +kernel
theorem d_So_findFixes_126 : decode c_So_findFixes 126 = .ok (.iastore, 1) := by decide +kernel
theorem d_So_findFixes_127 : decode c_So_findFixes 127 = .ok (.iinc 2 1, 3) := by decide +kernel
theorem d_So_findFixes_130 : decode c_So_findFixes 130 = .ok (.goto (-95), 3) := by decide +kernel
theorem d_So_findFixes_133 : decode c_So_findFixes 133 = .ok (.return_, 1) := by decide +kernel
theorem ok_So_findFixes : tb_mV y_So_findFixes c_So_findFixes 6 none 1 := ⟨tb_451, tb_44, tb_450, tb_9, by decide +kernel⟩
abbrev c_So_isRightAfter : ByteArray := prog_5_method_13_code
abbrev y_So_isRightAfter : MethodName := ⟨"ReedSets$Solver", "isRightAfter", "(LReedSets$Word;)Z"⟩
theorem d_So_isRightAfter_0 : decode c_So_isRightAfter 0 = .ok (.iconst 0, 1) := by decide +kernel
theorem d_So_isRightAfter_1 : decode c_So_isRightAfter 1 = .ok (.istore_n 2, 1) := by decide +kernel
theorem d_So_isRightAfter_2 : decode c_So_isRightAfter 2 = .ok (.iload_n 2, 1) := by decide +kernel
theorem d_So_isRightAfter_3 : decode c_So_isRightAfter 3 = .ok (.aload_n 1, 1) := by decide +kernel
theorem d_So_isRightAfter_4 : decode c_So_isRightAfter 4 = .ok (.getfield 46, 3) := by decide +kernel
theorem d_So_isRightAfter_7 : decode c_So_isRightAfter 7 = .ok (.if_icmp .ge 86, 3) := by decide +kernel
theorem d_So_isRightAfter_10 : decode c_So_isRightAfter 10 = .ok (.aload_n 0, 1) := by decide +kernel
theorem d_So_isRightAfter_11 : decode c_So_isRightAfter 11 = .ok (.getfield 9, 3) := by decide +kernel
theorem d_So_isRightAfter_14 : decode c_So_isRightAfter 14 = .ok (.iload_n 2, 1) := by decide +kernel
theorem d_So_isRightAfter_15 : decode c_So_isRightAfter 15 = .ok (.iaload, 1) := by decide +kernel
theorem d_So_isRightAfter_16 : decode c_So_isRightAfter 16 = .ok (.istore_n 3, 1) := by decide +kernel
theorem d_So_isRightAfter_17 : decode c_So_isRightAfter 17 = .ok (.iconst 0, 1) := by decide +kernel
theorem d_So_isRightAfter_18 : decode c_So_isRightAfter 18 = .ok (.istore 4, 2) := by decide +kernel
theorem d_So_isRightAfter_20 : decode c_So_isRightAfter 20 = .ok (.iload 4, 2) := by decide +kernel
theorem d_So_isRightAfter_22 : decode c_So_isRightAfter 22 = .ok (.aload_n 0, 1) := by decide +kernel
theorem d_So_isRightAfter_23 : decode c_So_isRightAfter 23 = .ok (.getfield 37, 3) := by decide +kernel
theorem d_So_isRightAfter_26 : decode c_So_isRightAfter 26 = .ok (.if_icmp .ge 55, 3) := by decide +kernel
theorem d_So_isRightAfter_29 : decode c_So_isRightAfter 29 = .ok (.aload_n 1, 1) := by decide +kernel
theorem d_So_isRightAfter_30 : decode c_So_isRightAfter 30 = .ok (.aload_n 0, 1) := by decide +kernel
theorem d_So_isRightAfter_31 : decode c_So_isRightAfter 31 = .ok (.getfield 27, 3) := by decide +kernel
theorem d_So_isRightAfter_34 : decode c_So_isRightAfter 34 = .ok (.iload 4, 2) := by decide +kernel
theorem d_So_isRightAfter_36 : decode c_So_isRightAfter 36 = .ok (.iaload, 1) := by decide +kernel
theorem d_So_isRightAfter_37 : decode c_So_isRightAfter 37 = .ok (.invokevirtual 96, 3) := by decide +kernel
theorem d_So_isRightAfter_40 : decode c_So_isRightAfter 40 = .ok (.aload_n 1, 1) := by decide +kernel
theorem d_So_isRightAfter_41 : decode c_So_isRightAfter 41 = .ok (.getfield 75, 3) := by decide +kernel
theorem d_So_isRightAfter_44 : decode c_So_isRightAfter 44 = .ok (.iload_n 2, 1) := by decide +kernel
theorem d_So_isRightAfter_45 : decode c_So_isRightAfter 45 = .ok (.iadd, 1) := by decide +kernel
theorem d_So_isRightAfter_46 : decode c_So_isRightAfter 46 = .ok (.imul, 1) := by decide +kernel
theorem d_So_isRightAfter_47 : decode c_So_isRightAfter 47 = .ok (.istore 5, 2) := by decide +kernel
theorem d_So_isRightAfter_49 : decode c_So_isRightAfter 49 = .ok (.iload_n 3, 1) := by decide +kernel
theorem d_So_isRightAfter_50 : decode c_So_isRightAfter 50 = .ok (.aload_n 0, 1) := by decide +kernel
theorem d_So_isRightAfter_51 : decode c_So_isRightAfter 51 = .ok (.getfield 33, 3) := by decide +kernel
theorem d_So_isRightAfter_54 : decode c_So_isRightAfter 54 = .ok (.aload_n 0, 1) := by decide +kernel
theorem d_So_isRightAfter_55 : decode c_So_isRightAfter 55 = .ok (.getfield 30, 3) := by decide +kernel
theorem d_So_isRightAfter_58 : decode c_So_isRightAfter 58 = .ok (.iload 4, 2) := by decide +kernel
theorem d_So_isRightAfter_60 : decode c_So_isRightAfter 60 = .ok (.iaload, 1) := by decide +kernel
theorem d_So_isRightAfter_61 : decode c_So_isRightAfter 61 = .ok (.aload_n 0, 1) := by decide +kernel
theorem d_So_isRightAfter_62 : decode c_So_isRightAfter 62 = .ok (.getfield 33, 3) := by decide +kernel
theorem d_So_isRightAfter_65 : decode c_So_isRightAfter 65 = .ok (.iload 5, 2) := by decide +kernel
theorem d_So_isRightAfter_67 : decode c_So_isRightAfter 67 = .ok (.invokevirtual 99, 3) := by decide +kernel
theorem d_So_isRightAfter_70 : decode c_So_isRightAfter 70 = .ok (.invokevirtual 104, 3) := by decide +kernel
theorem d_So_isRightAfter_73 : decode c_So_isRightAfter 73 = .ok (.ixor, 1) := by decide +kernel
theorem d_So_isRightAfter_74 : decode c_So_isRightAfter 74 = .ok (.istore_n 3, 1) := by decide +kernel
theorem d_So_isRightAfter_75 : decode c_So_isRightAfter 75 = .ok (.iinc 4 1, 3) := by decide +kernel
theorem d_So_isRightAfter_78 : decode c_So_isRightAfter 78 = .ok (.goto (-58), 3) := by decide +kernel
theorem d_So_isRightAfter_81 : decode c_So_isRightAfter 81 = .ok (.iload_n 3, 1) := by decide +kernel
theorem d_So_isRightAfter_82 : decode c_So_isRightAfter 82 = .ok (.ifCond .eq 5, 3) := by decide +kernel
theorem d_So_isRightAfter_85 : decode c_So_isRightAfter 85 = .ok (.iconst 0, 1) := by decide +kernel
theorem d_So_isRightAfter_86 : decode c_So_isRightAfter 86 = .ok (.ireturn, 1) := by decide +kernel
theorem d_So_isRightAfter_87 : decode c_So_isRightAfter 87 = .ok (.iinc 2 1, 3) := by decide +kernel
theorem d_So_isRightAfter_90 : decode c_So_isRightAfter 90 = .ok (.goto (-88), 3) := by decide +kernel
theorem d_So_isRightAfter_93 : decode c_So_isRightAfter 93 = .ok (.iconst 1, 1) := by decide +kernel
theorem d_So_isRightAfter_94 : decode c_So_isRightAfter 94 = .ok (.ireturn, 1) := by decide +kernel
theorem ok_So_isRightAfter : tb_mV y_So_isRightAfter c_So_isRightAfter 6 (some .boolean) 1 := ⟨tb_459, tb_44, tb_458, tb_11, by decide +kernel⟩
abbrev c_So_countErrors : ByteArray := prog_5_method_14_code
abbrev y_So_countErrors : MethodName := ⟨"ReedSets$Solver", "countErrors", "(LReedSets$Word;)I"⟩
theorem d_So_countErrors_0 : decode c_So_countErrors 0 = .ok (.iconst 0, 1) := by decide +kernel
theorem d_So_countErrors_1 : decode c_So_countErrors 1 = .ok (.istore_n 2, 1) := by decide +kernel
theorem d_So_countErrors_2 : decode c_So_countErrors 2 = .ok (.iconst 0, 1) := by decide +kernel
theorem d_So_countErrors_3 : decode c_So_countErrors 3 = .ok (.istore_n 3, 1) := by decide +kernel
theorem d_So_countErrors_4 : decode c_So_countErrors 4 = .ok (.iload_n 3, 1) := by decide +kernel
theorem d_So_countErrors_5 : decode c_So_countErrors 5 = .ok (.aload_n 0, 1) := by decide +kernel
theorem d_So_countErrors_6 : decode c_So_countErrors 6 = .ok (.getfield 37, 3) := by decide +kernel
theorem d_So_countErrors_9 : decode c_So_countErrors 9 = .ok (.if_icmp .ge 35, 3) := by decide +kernel
theorem d_So_countErrors_12 : decode c_So_countErrors 12 = .ok (.aload_n 1, 1) := by decide +kernel
theorem d_So_countErrors_13 : decode c_So_countErrors 13 = .ok (.getfield 92, 3) := by decide +kernel
theorem d_So_countErrors_16 : decode c_So_countErrors 16 = .ok (.aload_n 0, 1) := by decide +kernel
theorem d_So_countErrors_17 : decode c_So_countErrors 17 = .ok (.getfield 27, 3) := by decide +kernel
theorem d_So_countErrors_20 : decode c_So_countErrors 20 = .ok (.iload_n 3, 1) := by decide +kernel
theorem d_So_countErrors_21 : decode c_So_countErrors 21 = .ok (.iaload, 1) := by decide +kernel
theorem d_So_countErrors_22 : decode c_So_countErrors 22 = .ok (.baload, 1) := by decide +kernel
theorem d_So_countErrors_23 : decode c_So_countErrors 23 = .ok (.ifCond .ne 15, 3) := by decide +kernel
theorem d_So_countErrors_26 : decode c_So_countErrors 26 = .ok (.aload_n 0, 1) := by decide +kernel
theorem d_So_countErrors_27 : decode c_So_countErrors 27 = .ok (.getfield 30, 3) := by decide +kernel
theorem d_So_countErrors_30 : decode c_So_countErrors 30 = .ok (.iload_n 3, 1) := by decide +kernel
theorem d_So_countErrors_31 : decode c_So_countErrors 31 = .ok (.iaload, 1) := by decide +kernel
theorem d_So_countErrors_32 : decode c_So_countErrors 32 = .ok (.ifCond .eq 6, 3) := by decide +kernel
theorem d_So_countErrors_35 : decode c_So_countErrors 35 = .ok (.iinc 2 1, 3) := by decide +kernel
theorem d_So_countErrors_38 : decode c_So_countErrors 38 = .ok (.iinc 3 1, 3) := by decide +kernel
theorem d_So_countErrors_41 : decode c_So_countErrors 41 = .ok (.goto (-37), 3) := by decide +kernel
theorem d_So_countErrors_44 : decode c_So_countErrors 44 = .ok (.iload_n 2, 1) := by decide +kernel
theorem d_So_countErrors_45 : decode c_So_countErrors 45 = .ok (.ireturn, 1) := by decide +kernel
theorem ok_So_countErrors : tb_mV y_So_countErrors c_So_countErrors 4 (some .int) 1 := ⟨tb_463, tb_44, tb_462, tb_12, by decide +kernel⟩
abbrev c_So_solve : ByteArray := prog_5_method_2_code
abbrev y_So_solve : MethodName := ⟨"ReedSets$Solver", "solve", "(LReedSets$Word;)I"⟩
theorem d_So_solve_0 : decode c_So_solve 0 = .ok (.aload_n 0, 1) := by decide +kernel
theorem d_So_solve_1 : decode c_So_solve 1 = .ok (.iconst 0, 1) := by decide +kernel
theorem d_So_solve_2 : decode c_So_solve 2 = .ok (.putfield 37, 3) := by decide +kernel
theorem d_So_solve_5 : decode c_So_solve 5 = .ok (.aload_n 1, 1) := by decide +kernel
theorem d_So_solve_6 : decode c_So_solve 6 = .ok (.getfield 41, 3) := by decide +kernel
theorem d_So_solve_9 : decode c_So_solve 9 = .ok (.aload_n 1, 1) := by decide +kernel
theorem d_So_solve_10 : decode c_So_solve 10 = .ok (.getfield 46, 3) := by decide +kernel
theorem d_So_solve_13 : decode c_So_solve 13 = .ok (.if_icmp .le 5, 3) := by decide +kernel
theorem d_So_solve_16 : decode c_So_solve 16 = .ok (.iconst (-1), 1) := by decide +kernel
theorem d_So_solve_17 : decode c_So_solve 17 = .ok (.ireturn, 1) := by decide +kernel
theorem d_So_solve_18 : decode c_So_solve 18 = .ok (.aload_n 0, 1) := by decide +kernel
theorem d_So_solve_19 : decode c_So_solve 19 = .ok (.aload_n 1, 1) := by decide +kernel
theorem d_So_solve_20 : decode c_So_solve 20 = .ok (.invokevirtual 49, 3) := by decide +kernel
theorem d_So_solve_23 : decode c_So_solve 23 = .ok (.aload_n 0, 1) := by decide +kernel
theorem d_So_solve_24 : decode c_So_solve 24 = .ok (.aload_n 1, 1) := by decide +kernel
theorem d_So_solve_25 : decode c_So_solve 25 = .ok (.invokevirtual 53, 3) := by decide +kernel
theorem d_So_solve_28 : decode c_So_solve 28 = .ok (.aload_n 0, 1) := by decide +kernel
theorem d_So_solve_29 : decode c_So_solve 29 = .ok (.aload_n 1, 1) := by decide +kernel
theorem d_So_solve_30 : decode c_So_solve 30 = .ok (.getfield 46, 3) := by decide +kernel
theorem d_So_solve_33 : decode c_So_solve 33 = .ok (.aload_n 1, 1) := by decide +kernel
theorem d_So_solve_34 : decode c_So_solve 34 = .ok (.getfield 41, 3) := by decide +kernel
theorem d_So_solve_37 : decode c_So_solve 37 = .ok (.invokevirtual 56, 3) := by decide +kernel
theorem d_So_solve_40 : decode c_So_solve 40 = .ok (.istore_n 2, 1) := by decide +kernel
theorem d_So_solve_41 : decode c_So_solve 41 = .ok (.iconst 2, 1) := by decide +kernel
theorem d_So_solve_42 : decode c_So_solve 42 = .ok (.iload_n 2, 1) := by decide +kernel
theorem d_So_solve_43 : decode c_So_solve 43 = .ok (.imul, 1) := by decide +kernel
theorem d_So_solve_44 : decode c_So_solve 44 = .ok (.aload_n 1, 1) := by decide +kernel
theorem d_So_solve_45 : decode c_So_solve 45 = .ok (.getfield 41, 3) := by decide +kernel
theorem d_So_solve_48 : decode c_So_solve 48 = .ok (.isub, 1) := by decide +kernel
theorem d_So_solve_49 : decode c_So_solve 49 = .ok (.aload_n 1, 1) := by decide +kernel
theorem d_So_solve_50 : decode c_So_solve 50 = .ok (.getfield 46, 3) := by decide +kernel
theorem d_So_solve_53 : decode c_So_solve 53 = .ok (.if_icmp .gt 12, 3) := by decide +kernel
theorem d_So_solve_56 : decode c_So_solve 56 = .ok (.aload_n 0, 1) := by decide +kernel
theorem d_So_solve_57 : decode c_So_solve 57 = .ok (.aload_n 1, 1) := by decide +kernel
theorem d_So_solve_58 : decode c_So_solve 58 = .ok (.iload_n 2, 1) := by decide +kernel
theorem d_So_solve_59 : decode c_So_solve 59 = .ok (.invokevirtual 60, 3) := by decide +kernel
theorem d_So_solve_62 : decode c_So_solve 62 = .ok (.ifCond .ne 5, 3) := by decide +kernel
theorem d_So_solve_65 : decode c_So_solve 65 = .ok (.iconst (-1), 1) := by decide +kernel
theorem d_So_solve_66 : decode c_So_solve 66 = .ok (.ireturn, 1) := by decide +kernel
theorem d_So_solve_67 : decode c_So_solve 67 = .ok (.aload_n 0, 1) := by decide +kernel
theorem d_So_solve_68 : decode c_So_solve 68 = .ok (.aload_n 1, 1) := by decide +kernel
theorem d_So_solve_69 : decode c_So_solve 69 = .ok (.invokevirtual 64, 3) := by decide +kernel
theorem d_So_solve_72 : decode c_So_solve 72 = .ok (.aload_n 0, 1) := by decide +kernel
theorem d_So_solve_73 : decode c_So_solve 73 = .ok (.aload_n 1, 1) := by decide +kernel
theorem d_So_solve_74 : decode c_So_solve 74 = .ok (.invokevirtual 67, 3) := by decide +kernel
theorem d_So_solve_77 : decode c_So_solve 77 = .ok (.ifCond .eq 11, 3) := by decide +kernel
theorem d_So_solve_80 : decode c_So_solve 80 = .ok (.aload_n 0, 1) := by decide +kernel
theorem d_So_solve_81 : decode c_So_solve 81 = .ok (.aload_n 1, 1) := by decide +kernel
theorem d_So_solve_82 : decode c_So_solve 82 = .ok (.invokevirtual 71, 3) := by decide +kernel
theorem d_So_solve_85 : decode c_So_solve 85 = .ok (.goto 4, 3) := by decide +kernel
theorem d_So_solve_88 : decode c_So_solve 88 = .ok (.iconst (-1), 1) := by decide +kernel
theorem d_So_solve_89 : decode c_So_solve 89 = .ok (.ireturn, 1) := by decide +kernel
theorem ok_So_solve : tb_mV y_So_solve c_So_solve 3 (some .int) 1 := ⟨tb_394, tb_44, tb_392, tb_393, by decide +kernel⟩
abbrev c_So_byteAfter : ByteArray := prog_5_method_16_code
abbrev y_So_byteAfter : MethodName := ⟨"ReedSets$Solver", "byteAfter", "(LReedSets$Word;I)I"⟩
theorem d_So_byteAfter_0 : decode c_So_byteAfter 0 = .ok (.aload_n 0, 1) := by decide +kernel
theorem d_So_byteAfter_1 : decode c_So_byteAfter 1 = .ok (.getfield 27, 3) := by decide +kernel
theorem d_So_byteAfter_4 : decode c_So_byteAfter 4 = .ok (.iload_n 2, 1) := by decide +kernel
theorem d_So_byteAfter_5 : decode c_So_byteAfter 5 = .ok (.iaload, 1) := by decide +kernel
theorem d_So_byteAfter_6 : decode c_So_byteAfter 6 = .ok (.istore_n 3, 1) := by decide +kernel
theorem d_So_byteAfter_7 : decode c_So_byteAfter 7 = .ok (.aload_n 1, 1) := by decide +kernel
theorem d_So_byteAfter_8 : decode c_So_byteAfter 8 = .ok (.getfield 92, 3) := by decide +kernel
theorem d_So_byteAfter_11 : decode c_So_byteAfter 11 = .ok (.iload_n 3, 1) := by decide +kernel
theorem d_So_byteAfter_12 : decode c_So_byteAfter 12 = .ok (.baload, 1) := by decide +kernel
theorem d_So_byteAfter_13 : decode c_So_byteAfter 13 = .ok (.ifCond .eq 7, 3) := by decide +kernel
theorem d_So_byteAfter_16 : decode c_So_byteAfter 16 = .ok (.iconst 0, 1) := by decide +kernel
theorem d_So_byteAfter_17 : decode c_So_byteAfter 17 = .ok (.goto 9, 3) := by decide +kernel
theorem d_So_byteAfter_20 : decode c_So_byteAfter 20 = .ok (.aload_n 1, 1) := by decide +kernel
theorem d_So_byteAfter_21 : decode c_So_byteAfter 21 = .ok (.getfield 136, 3) := by decide +kernel
theorem d_So_byteAfter_24 : decode c_So_byteAfter 24 = .ok (.iload_n 3, 1) := by decide +kernel
theorem d_So_byteAfter_25 : decode c_So_byteAfter 25 = .ok (.iaload, 1) := by decide +kernel
theorem d_So_byteAfter_26 : decode c_So_byteAfter 26 = .ok (.aload_n 0, 1) := by decide +kernel
theorem d_So_byteAfter_27 : decode c_So_byteAfter 27 = .ok (.getfield 30, 3) := by decide +kernel
theorem d_So_byteAfter_30 : decode c_So_byteAfter 30 = .ok (.iload_n 2, 1) := by decide +kernel
theorem d_So_byteAfter_31 : decode c_So_byteAfter 31 = .ok (.iaload, 1) := by decide +kernel
theorem d_So_byteAfter_32 : decode c_So_byteAfter 32 = .ok (.ixor, 1) := by decide +kernel
theorem d_So_byteAfter_33 : decode c_So_byteAfter 33 = .ok (.ireturn, 1) := by decide +kernel
theorem ok_So_byteAfter : tb_mV y_So_byteAfter c_So_byteAfter 4 (some .int) 2 := ⟨tb_471, tb_44, tb_469, tb_470, by decide +kernel⟩
abbrev c_So_settle : ByteArray := prog_5_method_17_code
abbrev y_So_settle : MethodName := ⟨"ReedSets$Solver", "settle", "(LReedSets$Word;)V"⟩
theorem d_So_settle_0 : decode c_So_settle 0 = .ok (.iconst 0, 1) := by decide +kernel
theorem d_So_settle_1 : decode c_So_settle 1 = .ok (.istore_n 2, 1) := by decide +kernel
theorem d_So_settle_2 : decode c_So_settle 2 = .ok (.iload_n 2, 1) := by decide +kernel
theorem d_So_settle_3 : decode c_So_settle 3 = .ok (.aload_n 0, 1) := by decide +kernel
theorem d_So_settle_4 : decode c_So_settle 4 = .ok (.getfield 37, 3) := by decide +kernel
theorem d_So_settle_7 : decode c_So_settle 7 = .ok (.if_icmp .ge 26, 3) := by decide +kernel
theorem d_So_settle_10 : decode c_So_settle 10 = .ok (.aload_n 1, 1) := by decide +kernel
theorem d_So_settle_11 : decode c_So_settle 11 = .ok (.getfield 136, 3) := by decide +kernel
theorem d_So_settle_14 : decode c_So_settle 14 = .ok (.aload_n 0, 1) := by decide +kernel
theorem d_So_settle_15 : decode c_So_settle 15 = .ok (.getfield 27, 3) := by decide +kernel
theorem d_So_settle_18 : decode c_So_settle 18 = .ok (.iload_n 2, 1) := by decide +kernel
theorem d_So_settle_19 : decode c_So_settle 19 = .ok (.iaload, 1) := by decide +kernel
theorem d_So_settle_20 : decode c_So_settle 20 = .ok (.aload_n 0, 1) := by decide +kernel
theorem d_So_settle_21 : decode c_So_settle 21 = .ok (.aload_n 1, 1) := by decide +kernel
theorem d_So_settle_22 : decode c_So_settle 22 = .ok (.iload_n 2, 1) := by decide +kernel
theorem d_So_settle_23 : decode c_So_settle 23 = .ok (.invokevirtual 139, 3) := by decide +kernel
theorem d_So_settle_26 : decode c_So_settle 26 = .ok (.iastore, 1) := by decide +kernel
theorem d_So_settle_27 : decode c_So_settle 27 = .ok (.iinc 2 1, 3) := by decide +kernel
theorem d_So_settle_30 : decode c_So_settle 30 = .ok (.goto (-28), 3) := by decide +kernel
theorem d_So_settle_33 : decode c_So_settle 33 = .ok (.aload_n 1, 1) := by decide +kernel
theorem d_So_settle_34 : decode c_So_settle 34 = .ok (.invokevirtual 143, 3) := by decide +kernel
theorem d_So_settle_37 : decode c_So_settle 37 = .ok (.return_, 1) := by decide +kernel
theorem ok_So_settle : tb_mV y_So_settle c_So_settle 3 none 1 := ⟨tb_479, tb_44, tb_477, tb_478, by decide +kernel⟩
abbrev c_So_alters : ByteArray := prog_5_method_15_code
abbrev y_So_alters : MethodName := ⟨"ReedSets$Solver", "alters", "(I)Z"⟩
theorem d_So_alters_0 : decode c_So_alters 0 = .ok (.iconst 0, 1) := by decide +kernel
theorem d_So_alters_1 : decode c_So_alters 1 = .ok (.istore_n 2, 1) := by decide +kernel
theorem d_So_alters_2 : decode c_So_alters 2 = .ok (.iload_n 2, 1) := by decide +kernel
theorem d_So_alters_3 : decode c_So_alters 3 = .ok (.aload_n 0, 1) := by decide +kernel
theorem d_So_alters_4 : decode c_So_alters 4 = .ok (.getfield 37, 3) := by decide +kernel
theorem d_So_alters_7 : decode c_So_alters 7 = .ok (.if_icmp .ge 30, 3) := by decide +kernel
theorem d_So_alters_10 : decode c_So_alters 10 = .ok (.aload_n 0, 1) := by decide +kernel
theorem d_So_alters_11 : decode c_So_alters 11 = .ok (.getfield 27, 3) := by decide +kernel
theorem d_So_alters_14 : decode c_So_alters 14 = .ok (.iload_n 2, 1) := by decide +kernel
theorem d_So_alters_15 : decode c_So_alters 15 = .ok (.iaload, 1) := by decide +kernel
theorem d_So_alters_16 : decode c_So_alters 16 = .ok (.iload_n 1, 1) := by decide +kernel
theorem d_So_alters_17 : decode c_So_alters 17 = .ok (.if_icmp .ne 14, 3) := by decide +kernel
theorem d_So_alters_20 : decode c_So_alters 20 = .ok (.aload_n 0, 1) := by decide +kernel
theorem d_So_alters_21 : decode c_So_alters 21 = .ok (.getfield 30, 3) := by decide +kernel
theorem d_So_alters_24 : decode c_So_alters 24 = .ok (.iload_n 2, 1) := by decide +kernel
theorem d_So_alters_25 : decode c_So_alters 25 = .ok (.iaload, 1) := by decide +kernel
theorem d_So_alters_26 : decode c_So_alters 26 = .ok (.ifCond .eq 5, 3) := by decide +kernel
theorem d_So_alters_29 : decode c_So_alters 29 = .ok (.iconst 1, 1) := by decide +kernel
theorem d_So_alters_30 : decode c_So_alters 30 = .ok (.ireturn, 1) := by decide +kernel
theorem d_So_alters_31 : decode c_So_alters 31 = .ok (.iinc 2 1, 3) := by decide +kernel
theorem d_So_alters_34 : decode c_So_alters 34 = .ok (.goto (-32), 3) := by decide +kernel
theorem d_So_alters_37 : decode c_So_alters 37 = .ok (.iconst 0, 1) := by decide +kernel
theorem d_So_alters_38 : decode c_So_alters 38 = .ok (.ireturn, 1) := by decide +kernel
theorem ok_So_alters : tb_mV y_So_alters c_So_alters 3 (some .boolean) 1 := ⟨tb_576, tb_44, tb_574, tb_575, by decide +kernel⟩
