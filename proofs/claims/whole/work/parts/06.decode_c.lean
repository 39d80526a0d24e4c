abbrev c_Ch_forgetAll : ByteArray := prog_2_method_2_code
abbrev y_Ch_forgetAll : MethodName := ⟨"ReedSets$Changes", "forgetAll", "()V"⟩
theorem d_Ch_forgetAll_0 : decode c_Ch_forgetAll 0 = .ok (.aload_n 0, 1) := by decide +kernel
theorem d_Ch_forgetAll_1 : decode c_Ch_forgetAll 1 = .ok (.iconst 0, 1) := by decide +kernel
theorem d_Ch_forgetAll_2 : decode c_Ch_forgetAll 2 = .ok (.putfield 18, 3) := by decide +kernel
theorem d_Ch_forgetAll_5 : decode c_Ch_forgetAll 5 = .ok (.return_, 1) := by decide +kernel
theorem ok_Ch_forgetAll : tb_mV y_Ch_forgetAll c_Ch_forgetAll 1 none 0 := ⟨tb_467, tb_45, tb_465, tb_466, by decide +kernel⟩
abbrev c_Ch_note : ByteArray := prog_2_method_3_code
abbrev y_Ch_note : MethodName := ⟨"ReedSets$Changes", "note", "(II)V"⟩
theorem d_Ch_note_0 : decode c_Ch_note 0 = .ok (.iload_n 2, 1) := by decide +kernel
theorem d_Ch_note_1 : decode c_Ch_note 1 = .ok (.ifCond .eq 42, 3) := by decide +kernel
theorem d_Ch_note_4 : decode c_Ch_note 4 = .ok (.aload_n 0, 1) := by decide +kernel
theorem d_Ch_note_5 : decode c_Ch_note 5 = .ok (.getfield 18, 3) := by decide +kernel
theorem d_Ch_note_8 : decode c_Ch_note 8 = .ok (.bipush 40, 2) := by decide +kernel
theorem d_Ch_note_10 : decode c_Ch_note 10 = .ok (.if_icmp .ge 33, 3) := by decide +kernel
theorem d_Ch_note_13 : decode c_Ch_note 13 = .ok (.aload_n 0, 1) := by decide +kernel
theorem d_Ch_note_14 : decode c_Ch_note 14 = .ok (.getfield 9, 3) := by decide +kernel
theorem d_Ch_note_17 : decode c_Ch_note 17 = .ok (.aload_n 0, 1) := by decide +kernel
theorem d_Ch_note_18 : decode c_Ch_note 18 = .ok (.getfield 18, 3) := by decide +kernel
theorem d_Ch_note_21 : decode c_Ch_note 21 = .ok (.iload_n 1, 1) := by decide +kernel
theorem d_Ch_note_22 : decode c_Ch_note 22 = .ok (.iastore, 1) := by decide +kernel
theorem d_Ch_note_23 : decode c_Ch_note 23 = .ok (.aload_n 0, 1) := by decide +kernel
theorem d_Ch_note_24 : decode c_Ch_note 24 = .ok (.getfield 15, 3) := by decide +kernel
theorem d_Ch_note_27 : decode c_Ch_note 27 = .ok (.aload_n 0, 1) := by decide +kernel
theorem d_Ch_note_28 : decode c_Ch_note 28 = .ok (.getfield 18, 3) := by decide +kernel
theorem d_Ch_note_31 : decode c_Ch_note 31 = .ok (.iload_n 2, 1) := by decide +kernel
theorem d_Ch_note_32 : decode c_Ch_note 32 = .ok (.iastore, 1) := by decide +kernel
theorem d_Ch_note_33 : decode c_Ch_note 33 = .ok (.aload_n 0, 1) := by decide +kernel
theorem d_Ch_note_34 : decode c_Ch_note 34 = .ok (.dup, 1) := by decide +kernel
theorem d_Ch_note_35 : decode c_Ch_note 35 = .ok (.getfield 18, 3) := by decide +kernel
theorem d_Ch_note_38 : decode c_Ch_note 38 = .ok (.iconst 1, 1) := by decide +kernel
theorem d_Ch_note_39 : decode c_Ch_note 39 = .ok (.iadd, 1) := by decide +kernel
theorem d_Ch_note_40 : decode c_Ch_note 40 = .ok (.putfield 18, 3) := by decide +kernel
theorem d_Ch_note_43 : decode c_Ch_note 43 = .ok (.return_, 1) := by decide +kernel
theorem ok_Ch_note : tb_mV y_Ch_note c_Ch_note 3 none 2 := ⟨tb_475, tb_45, tb_473, tb_474, by decide +kernel⟩
abbrev c_St_append : ByteArray := prog_6_method_2_code
abbrev y_St_append : MethodName := ⟨"ReedSets$Striped", "append", "(I)V"⟩
theorem d_St_append_0 : decode c_St_append 0 = .ok (.iload_n 1, 1) := by decide +kernel
theorem d_St_append_1 : decode c_St_append 1 = .ok (.iconst (-1), 1) := by decide +kernel
theorem d_St_append_2 : decode c_St_append 2 = .ok (.if_icmp .eq 33, 3) := by decide +kernel
theorem d_St_append_5 : decode c_St_append 5 = .ok (.aload_n 0, 1) := by decide +kernel
theorem d_St_append_6 : decode c_St_append 6 = .ok (.getfield 34, 3) := by decide +kernel
theorem d_St_append_9 : decode c_St_append 9 = .ok (.sipush 800, 3) := by decide +kernel
theorem d_St_append_12 : decode c_St_append 12 = .ok (.if_icmp .ge 23, 3) := by decide +kernel
theorem d_St_append_15 : decode c_St_append 15 = .ok (.aload_n 0, 1) := by decide +kernel
theorem d_St_append_16 : decode c_St_append 16 = .ok (.getfield 9, 3) := by decide +kernel
theorem d_St_append_19 : decode c_St_append 19 = .ok (.aload_n 0, 1) := by decide +kernel
theorem d_St_append_20 : decode c_St_append 20 = .ok (.getfield 34, 3) := by decide +kernel
theorem d_St_append_23 : decode c_St_append 23 = .ok (.iload_n 1, 1) := by decide +kernel
theorem d_St_append_24 : decode c_St_append 24 = .ok (.iastore, 1) := by decide +kernel
theorem d_St_append_25 : decode c_St_append 25 = .ok (.aload_n 0, 1) := by decide +kernel
theorem d_St_append_26 : decode c_St_append 26 = .ok (.dup, 1) := by decide +kernel
theorem d_St_append_27 : decode c_St_append 27 = .ok (.getfield 34, 3) := by decide +kernel
theorem d_St_append_30 : decode c_St_append 30 = .ok (.iconst 1, 1) := by decide +kernel
theorem d_St_append_31 : decode c_St_append 31 = .ok (.iadd, 1) := by decide +kernel
theorem d_St_append_32 : decode c_St_append 32 = .ok (.putfield 34, 3) := by decide +kernel
theorem d_St_append_35 : decode c_St_append 35 = .ok (.return_, 1) := by decide +kernel
theorem ok_St_append : tb_mV y_St_append c_St_append 2 none 1 := ⟨tb_499, tb_46, tb_497, tb_498, by decide +kernel⟩
abbrev c_St_takeUp : ByteArray := prog_6_method_3_code
abbrev y_St_takeUp : MethodName := ⟨"ReedSets$Striped", "takeUp", "()V"⟩
theorem d_St_takeUp_0 : decode c_St_takeUp 0 = .ok (.aload_n 0, 1) := by decide +kernel
theorem d_St_takeUp_1 : decode c_St_takeUp 1 = .ok (.iconst 0, 1) := by decide +kernel
theorem d_St_takeUp_2 : decode c_St_takeUp 2 = .ok (.putfield 38, 3) := by decide +kernel
theorem d_St_takeUp_5 : decode c_St_takeUp 5 = .ok (.aload_n 0, 1) := by decide +kernel
theorem d_St_takeUp_6 : decode c_St_takeUp 6 = .ok (.iconst 0, 1) := by decide +kernel
theorem d_St_takeUp_7 : decode c_St_takeUp 7 = .ok (.putfield 41, 3) := by decide +kernel
theorem d_St_takeUp_10 : decode c_St_takeUp 10 = .ok (.return_, 1) := by decide +kernel
theorem ok_St_takeUp : tb_mV y_St_takeUp c_St_takeUp 1 none 0 := ⟨tb_503, tb_46, tb_501, tb_502, by decide +kernel⟩
abbrev c_St_slotOf : ByteArray := prog_6_method_8_code
abbrev y_St_slotOf : MethodName := ⟨"ReedSets$Striped", "slotOf", "(II)I"⟩
theorem d_St_slotOf_0 : decode c_St_slotOf 0 = .ok (.iload_n 2, 1) := by decide +kernel
theorem d_St_slotOf_1 : decode c_St_slotOf 1 = .ok (.aload_n 0, 1) := by decide +kernel
theorem d_St_slotOf_2 : decode c_St_slotOf 2 = .ok (.getfield 30, 3) := by decide +kernel
theorem d_St_slotOf_5 : decode c_St_slotOf 5 = .ok (.getfield 52, 3) := by decide +kernel
theorem d_St_slotOf_8 : decode c_St_slotOf 8 = .ok (.if_icmp .lt 25, 3) := by decide +kernel
theorem d_St_slotOf_11 : decode c_St_slotOf 11 = .ok (.aload_n 0, 1) := by decide +kernel
theorem d_St_slotOf_12 : decode c_St_slotOf 12 = .ok (.getfield 34, 3) := by decide +kernel
theorem d_St_slotOf_15 : decode c_St_slotOf 15 = .ok (.iload_n 2, 1) := by decide +kernel
theorem d_St_slotOf_16 : decode c_St_slotOf 16 = .ok (.aload_n 0, 1) := by decide +kernel
theorem d_St_slotOf_17 : decode c_St_slotOf 17 = .ok (.getfield 30, 3) := by decide +kernel
theorem d_St_slotOf_20 : decode c_St_slotOf 20 = .ok (.getfield 52, 3) := by decide +kernel
theorem d_St_slotOf_23 : decode c_St_slotOf 23 = .ok (.isub, 1) := by decide +kernel
theorem d_St_slotOf_24 : decode c_St_slotOf 24 = .ok (.aload_n 0, 1) := by decide +kernel
theorem d_St_slotOf_25 : decode c_St_slotOf 25 = .ok (.getfield 38, 3) := by decide +kernel
theorem d_St_slotOf_28 : decode c_St_slotOf 28 = .ok (.imul, 1) := by decide +kernel
theorem d_St_slotOf_29 : decode c_St_slotOf 29 = .ok (.iadd, 1) := by decide +kernel
theorem d_St_slotOf_30 : decode c_St_slotOf 30 = .ok (.iload_n 1, 1) := by decide +kernel
theorem d_St_slotOf_31 : decode c_St_slotOf 31 = .ok (.iadd, 1) := by decide +kernel
theorem d_St_slotOf_32 : decode c_St_slotOf 32 = .ok (.ireturn, 1) := by decide +kernel
theorem d_St_slotOf_33 : decode c_St_slotOf 33 = .ok (.iload_n 2, 1) := by decide +kernel
theorem d_St_slotOf_34 : decode c_St_slotOf 34 = .ok (.aload_n 0, 1) := by decide +kernel
theorem d_St_slotOf_35 : decode c_St_slotOf 35 = .ok (.getfield 38, 3) := by decide +kernel
theorem d_St_slotOf_38 : decode c_St_slotOf 38 = .ok (.imul, 1) := by decide +kernel
theorem d_St_slotOf_39 : decode c_St_slotOf 39 = .ok (.iload_n 1, 1) := by decide +kernel
theorem d_St_slotOf_40 : decode c_St_slotOf 40 = .ok (.iadd, 1) := by decide +kernel
theorem d_St_slotOf_41 : decode c_St_slotOf 41 = .ok (.istore_n 3, 1) := by decide +kernel
theorem d_St_slotOf_42 : decode c_St_slotOf 42 = .ok (.iload_n 3, 1) := by decide +kernel
theorem d_St_slotOf_43 : decode c_St_slotOf 43 = .ok (.aload_n 0, 1) := by decide +kernel
theorem d_St_slotOf_44 : decode c_St_slotOf 44 = .ok (.getfield 34, 3) := by decide +kernel
theorem d_St_slotOf_47 : decode c_St_slotOf 47 = .ok (.if_icmp .ge 7, 3) := by decide +kernel
theorem d_St_slotOf_50 : decode c_St_slotOf 50 = .ok (.iload_n 3, 1) := by decide +kernel
theorem d_St_slotOf_51 : decode c_St_slotOf 51 = .ok (.goto 4, 3) := by decide +kernel
theorem d_St_slotOf_54 : decode c_St_slotOf 54 = .ok (.iconst (-1), 1) := by decide +kernel
theorem d_St_slotOf_55 : decode c_St_slotOf 55 = .ok (.ireturn, 1) := by decide +kernel
theorem ok_St_slotOf : tb_mV y_St_slotOf c_St_slotOf 4 (some .int) 2 := ⟨tb_524, tb_46, tb_523, tb_14, by decide +kernel⟩
abbrev c_St_storeStripe : ByteArray := prog_6_method_9_code
abbrev y_St_storeStripe : MethodName := ⟨"ReedSets$Striped", "storeStripe", "(I)V"⟩
theorem d_St_storeStripe_0 : decode c_St_storeStripe 0 = .ok (.iconst 0, 1) := by decide +kernel
theorem d_St_storeStripe_1 : decode c_St_storeStripe 1 = .ok (.istore_n 2, 1) := by decide +kernel
theorem d_St_storeStripe_2 : decode c_St_storeStripe 2 = .ok (.iload_n 2, 1) := by decide +kernel
theorem d_St_storeStripe_3 : decode c_St_storeStripe 3 = .ok (.aload_n 0, 1) := by decide +kernel
theorem d_St_storeStripe_4 : decode c_St_storeStripe 4 = .ok (.getfield 30, 3) := by decide +kernel
theorem d_St_storeStripe_7 : decode c_St_storeStripe 7 = .ok (.invokevirtual 68, 3) := by decide +kernel
theorem d_St_storeStripe_10 : decode c_St_storeStripe 10 = .ok (.if_icmp .ge 43, 3) := by decide +kernel
theorem d_St_storeStripe_13 : decode c_St_storeStripe 13 = .ok (.aload_n 0, 1) := by decide +kernel
theorem d_St_storeStripe_14 : decode c_St_storeStripe 14 = .ok (.iload_n 1, 1) := by decide +kernel
theorem d_St_storeStripe_15 : decode c_St_storeStripe 15 = .ok (.iload_n 2, 1) := by decide +kernel
theorem d_St_storeStripe_16 : decode c_St_storeStripe 16 = .ok (.invokevirtual 55, 3) := by decide +kernel
theorem d_St_storeStripe_19 : decode c_St_storeStripe 19 = .ok (.istore_n 3, 1) := by decide +kernel
theorem d_St_storeStripe_20 : decode c_St_storeStripe 20 = .ok (.iload_n 3, 1) := by decide +kernel
theorem d_St_storeStripe_21 : decode c_St_storeStripe 21 = .ok (.iconst (-1), 1) := by decide +kernel
theorem d_St_storeStripe_22 : decode c_St_storeStripe 22 = .ok (.if_icmp .eq 25, 3) := by decide +kernel
theorem d_St_storeStripe_25 : decode c_St_storeStripe 25 = .ok (.aload_n 0, 1) := by decide +kernel
theorem d_St_storeStripe_26 : decode c_St_storeStripe 26 = .ok (.getfield 22, 3) := by decide +kernel
theorem d_St_storeStripe_29 : decode c_St_storeStripe 29 = .ok (.iload_n 3, 1) := by decide +kernel
theorem d_St_storeStripe_30 : decode c_St_storeStripe 30 = .ok (.aload_n 0, 1) := by decide +kernel
theorem d_St_storeStripe_31 : decode c_St_storeStripe 31 = .ok (.getfield 30, 3) := by decide +kernel
theorem d_St_storeStripe_34 : decode c_St_storeStripe 34 = .ok (.getfield 59, 3) := by decide +kernel
theorem d_St_storeStripe_37 : decode c_St_storeStripe 37 = .ok (.iload_n 2, 1) := by decide +kernel
theorem d_St_storeStripe_38 : decode c_St_storeStripe 38 = .ok (.iaload, 1) := by decide +kernel
theorem d_St_storeStripe_39 : decode c_St_storeStripe 39 = .ok (.iastore, 1) := by decide +kernel
theorem d_St_storeStripe_40 : decode c_St_storeStripe 40 = .ok (.aload_n 0, 1) := by decide +kernel
theorem d_St_storeStripe_41 : decode c_St_storeStripe 41 = .ok (.getfield 18, 3) := by decide +kernel
theorem d_St_storeStripe_44 : decode c_St_storeStripe 44 = .ok (.iload_n 3, 1) := by decide +kernel
theorem d_St_storeStripe_45 : decode c_St_storeStripe 45 = .ok (.iconst 0, 1) := by decide +kernel
theorem d_St_storeStripe_46 : decode c_St_storeStripe 46 = .ok (.bastore, 1) := by decide +kernel
theorem d_St_storeStripe_47 : decode c_St_storeStripe 47 = .ok (.iinc 2 1, 3) := by decide +kernel
theorem d_St_storeStripe_50 : decode c_St_storeStripe 50 = .ok (.goto (-48), 3) := by decide +kernel
theorem d_St_storeStripe_53 : decode c_St_storeStripe 53 = .ok (.return_, 1) := by decide +kernel
theorem ok_St_storeStripe : tb_mV y_St_storeStripe c_St_storeStripe 4 none 1 := ⟨tb_529, tb_46, tb_528, tb_15, by decide +kernel⟩
abbrev c_St_layStripe : ByteArray := prog_6_method_7_code
abbrev y_St_layStripe : MethodName := ⟨"ReedSets$Striped", "layStripe", "(I)V"⟩
theorem d_St_layStripe_0 : decode c_St_layStripe 0 = .ok (.iconst 0, 1) := by decide +kernel
theorem d_St_layStripe_1 : decode c_St_layStripe 1 = .ok (.istore_n 2, 1) := by decide +kernel
theorem d_St_layStripe_2 : decode c_St_layStripe 2 = .ok (.iload_n 2, 1) := by decide +kernel
theorem d_St_layStripe_3 : decode c_St_layStripe 3 = .ok (.aload_n 0, 1) := by decide +kernel
theorem d_St_layStripe_4 : decode c_St_layStripe 4 = .ok (.getfield 30, 3) := by decide +kernel
theorem d_St_layStripe_7 : decode c_St_layStripe 7 = .ok (.getfield 52, 3) := by decide +kernel
theorem d_St_layStripe_10 : decode c_St_layStripe 10 = .ok (.if_icmp .ge 40, 3) := by decide +kernel
theorem d_St_layStripe_13 : decode c_St_layStripe 13 = .ok (.aload_n 0, 1) := by decide +kernel
theorem d_St_layStripe_14 : decode c_St_layStripe 14 = .ok (.iload_n 1, 1) := by decide +kernel
theorem d_St_layStripe_15 : decode c_St_layStripe 15 = .ok (.iload_n 2, 1) := by decide +kernel
theorem d_St_layStripe_16 : decode c_St_layStripe 16 = .ok (.invokevirtual 55, 3) := by decide +kernel
theorem d_St_layStripe_19 : decode c_St_layStripe 19 = .ok (.istore_n 3, 1) := by decide +kernel
theorem d_St_layStripe_20 : decode c_St_layStripe 20 = .ok (.aload_n 0, 1) := by decide +kernel
theorem d_St_layStripe_21 : decode c_St_layStripe 21 = .ok (.getfield 30, 3) := by decide +kernel
theorem d_St_layStripe_24 : decode c_St_layStripe 24 = .ok (.getfield 59, 3) := by decide +kernel
theorem d_St_layStripe_27 : decode c_St_layStripe 27 = .ok (.iload_n 2, 1) := by decide +kernel
theorem d_St_layStripe_28 : decode c_St_layStripe 28 = .ok (.iload_n 3, 1) := by decide +kernel
theorem d_St_layStripe_29 : decode c_St_layStripe 29 = .ok (.iconst (-1), 1) := by decide +kernel
theorem d_St_layStripe_30 : decode c_St_layStripe 30 = .ok (.if_icmp .ne 7, 3) := by decide +kernel
theorem d_St_layStripe_33 : decode c_St_layStripe 33 = .ok (.iconst 0, 1) := by decide +kernel
theorem d_St_layStripe_34 : decode c_St_layStripe 34 = .ok (.goto 9, 3) := by decide +kernel
theorem d_St_layStripe_37 : decode c_St_layStripe 37 = .ok (.aload_n 0, 1) := by decide +kernel
theorem d_St_layStripe_38 : decode c_St_layStripe 38 = .ok (.getfield 9, 3) := by decide +kernel
theorem d_St_layStripe_41 : decode c_St_layStripe 41 = .ok (.iload_n 3, 1) := by decide +kernel
theorem d_St_layStripe_42 : decode c_St_layStripe 42 = .ok (.iaload, 1) := by decide +kernel
theorem d_St_layStripe_43 : decode c_St_layStripe 43 = .ok (.iastore, 1) := by decide +kernel
theorem d_St_layStripe_44 : decode c_St_layStripe 44 = .ok (.iinc 2 1, 3) := by decide +kernel
theorem d_St_layStripe_47 : decode c_St_layStripe 47 = .ok (.goto (-45), 3) := by decide +kernel
theorem d_St_layStripe_50 : decode c_St_layStripe 50 = .ok (.aload_n 0, 1) := by decide +kernel
theorem d_St_layStripe_51 : decode c_St_layStripe 51 = .ok (.getfield 30, 3) := by decide +kernel
theorem d_St_layStripe_54 : decode c_St_layStripe 54 = .ok (.invokevirtual 62, 3) := by decide +kernel
theorem d_St_layStripe_57 : decode c_St_layStripe 57 = .ok (.aload_n 0, 1) := by decide +kernel
theorem d_St_layStripe_58 : decode c_St_layStripe 58 = .ok (.iload_n 1, 1) := by decide +kernel
theorem d_St_layStripe_59 : decode c_St_layStripe 59 = .ok (.invokevirtual 65, 3) := by decide +kernel
theorem d_St_layStripe_62 : decode c_St_layStripe 62 = .ok (.iconst 0, 1) := by decide +kernel
theorem d_St_layStripe_63 : decode c_St_layStripe 63 = .ok (.istore_n 2, 1) := by decide +kernel
theorem d_St_layStripe_64 : decode c_St_layStripe 64 = .ok (.iload_n 2, 1) := by decide +kernel
theorem d_St_layStripe_65 : decode c_St_layStripe 65 = .ok (.aload_n 0, 1) := by decide +kernel
theorem d_St_layStripe_66 : decode c_St_layStripe 66 = .ok (.getfield 30, 3) := by decide +kernel
theorem d_St_layStripe_69 : decode c_St_layStripe 69 = .ok (.invokevirtual 68, 3) := by decide +kernel
theorem d_St_layStripe_72 : decode c_St_layStripe 72 = .ok (.if_icmp .ge 33, 3) := by decide +kernel
theorem d_St_layStripe_75 : decode c_St_layStripe 75 = .ok (.aload_n 0, 1) := by decide +kernel
theorem d_St_layStripe_76 : decode c_St_layStripe 76 = .ok (.iload_n 1, 1) := by decide +kernel
theorem d_St_layStripe_77 : decode c_St_layStripe 77 = .ok (.iload_n 2, 1) := by decide +kernel
theorem d_St_layStripe_78 : decode c_St_layStripe 78 = .ok (.invokevirtual 55, 3) := by decide +kernel
theorem d_St_layStripe_81 : decode c_St_layStripe 81 = .ok (.istore_n 3, 1) := by decide +kernel
theorem d_St_layStripe_82 : decode c_St_layStripe 82 = .ok (.iload_n 3, 1) := by decide +kernel
theorem d_St_layStripe_83 : decode c_St_layStripe 83 = .ok (.iconst (-1), 1) := by decide +kernel
theorem d_St_layStripe_84 : decode c_St_layStripe 84 = .ok (.if_icmp .eq 15, 3) := by decide +kernel
theorem d_St_layStripe_87 : decode c_St_layStripe 87 = .ok (.aload_n 0, 1) := by decide +kernel
theorem d_St_layStripe_88 : decode c_St_layStripe 88 = .ok (.getfield 15, 3) := by decide +kernel
theorem d_St_layStripe_91 : decode c_St_layStripe 91 = .ok (.iload_n 3, 1) := by decide +kernel
theorem d_St_layStripe_92 : decode c_St_layStripe 92 = .ok (.aload_n 0, 1) := by decide +kernel
theorem d_St_layStripe_93 : decode c_St_layStripe 93 = .ok (.getfield 22, 3) := by decide +kernel
theorem d_St_layStripe_96 : decode c_St_layStripe 96 = .ok (.iload_n 3, 1) := by decide +kernel
theorem d_St_layStripe_97 : decode c_St_layStripe 97 = .ok (.iaload, 1) := by decide +kernel
theorem d_St_layStripe_98 : decode c_St_layStripe 98 = .ok (.iastore, 1) := by decide +kernel
theorem d_St_layStripe_99 : decode c_St_layStripe 99 = .ok (.iinc 2 1, 3) := by decide +kernel
theorem d_St_layStripe_102 : decode c_St_layStripe 102 = .ok (.goto (-38), 3) := by decide +kernel
theorem d_St_layStripe_105 : decode c_St_layStripe 105 = .ok (.return_, 1) := by decide +kernel
theorem ok_St_layStripe : tb_mV y_St_layStripe c_St_layStripe 4 none 1 := ⟨tb_520, tb_46, tb_519, tb_13, by decide +kernel⟩
abbrev c_St_layIn : ByteArray := prog_6_method_6_code
abbrev y_St_layIn : MethodName := ⟨"ReedSets$Striped", "layIn", "(III)I"⟩
theorem d_St_layIn_0 : decode c_St_layIn 0 = .ok (.iload_n 1, 1) := by decide +kernel
theorem d_St_layIn_1 : decode c_St_layIn 1 = .ok (.iconst 1, 1) := by decide +kernel
theorem d_St_layIn_2 : decode c_St_layIn 2 = .ok (.if_icmp .lt 17, 3) := by decide +kernel
theorem d_St_layIn_5 : decode c_St_layIn 5 = .ok (.iload_n 1, 1) := by decide +kernel
theorem d_St_layIn_6 : decode c_St_layIn 6 = .ok (.bipush 16, 2) := by decide +kernel
theorem d_St_layIn_8 : decode c_St_layIn 8 = .ok (.if_icmp .gt 11, 3) := by decide +kernel
theorem d_St_layIn_11 : decode c_St_layIn 11 = .ok (.iload_n 1, 1) := by decide +kernel
theorem d_St_layIn_12 : decode c_St_layIn 12 = .ok (.aload_n 0, 1) := by decide +kernel
theorem d_St_layIn_13 : decode c_St_layIn 13 = .ok (.getfield 34, 3) := by decide +kernel
theorem d_St_layIn_16 : decode c_St_layIn 16 = .ok (.if_icmp .le 5, 3) := by decide +kernel
theorem d_St_layIn_19 : decode c_St_layIn 19 = .ok (.iconst (-1), 1) := by decide +kernel
theorem d_St_layIn_20 : decode c_St_layIn 20 = .ok (.ireturn, 1) := by decide +kernel
theorem d_St_layIn_21 : decode c_St_layIn 21 = .ok (.aload_n 0, 1) := by decide +kernel
theorem d_St_layIn_22 : decode c_St_layIn 22 = .ok (.getfield 34, 3) := by decide +kernel
theorem d_St_layIn_25 : decode c_St_layIn 25 = .ok (.iload_n 1, 1) := by decide +kernel
theorem d_St_layIn_26 : decode c_St_layIn 26 = .ok (.iadd, 1) := by decide +kernel
theorem d_St_layIn_27 : decode c_St_layIn 27 = .ok (.iconst 1, 1) := by decide +kernel
theorem d_St_layIn_28 : decode c_St_layIn 28 = .ok (.isub, 1) := by decide +kernel
theorem d_St_layIn_29 : decode c_St_layIn 29 = .ok (.iload_n 1, 1) := by decide +kernel
theorem d_St_layIn_30 : decode c_St_layIn 30 = .ok (.idiv, 1) := by decide +kernel
theorem d_St_layIn_31 : decode c_St_layIn 31 = .ok (.istore 4, 2) := by decide +kernel
theorem d_St_layIn_33 : decode c_St_layIn 33 = .ok (.iload 4, 2) := by decide +kernel
theorem d_St_layIn_35 : decode c_St_layIn 35 = .ok (.sipush 200, 3) := by decide +kernel
theorem d_St_layIn_38 : decode c_St_layIn 38 = .ok (.if_icmp .gt 13, 3) := by decide +kernel
theorem d_St_layIn_41 : decode c_St_layIn 41 = .ok (.iload 4, 2) := by decide +kernel
theorem d_St_layIn_43 : decode c_St_layIn 43 = .ok (.iload_n 2, 1) := by decide +kernel
theorem d_St_layIn_44 : decode c_St_layIn 44 = .ok (.iadd, 1) := by decide +kernel
theorem d_St_layIn_45 : decode c_St_layIn 45 = .ok (.sipush 255, 3) := by decide +kernel
theorem d_St_layIn_48 : decode c_St_layIn 48 = .ok (.if_icmp .le 5, 3) := by decide +kernel
theorem d_St_layIn_51 : decode c_St_layIn 51 = .ok (.iconst (-1), 1) := by decide +kernel
theorem d_St_layIn_52 : decode c_St_layIn 52 = .ok (.ireturn, 1) := by decide +kernel
theorem d_St_layIn_53 : decode c_St_layIn 53 = .ok (.aload_n 0, 1) := by decide +kernel
theorem d_St_layIn_54 : decode c_St_layIn 54 = .ok (.iload_n 1, 1) := by decide +kernel
theorem d_St_layIn_55 : decode c_St_layIn 55 = .ok (.putfield 38, 3) := by decide +kernel
theorem d_St_layIn_58 : decode c_St_layIn 58 = .ok (.aload_n 0, 1) := by decide +kernel
theorem d_St_layIn_59 : decode c_St_layIn 59 = .ok (.aload_n 0, 1) := by decide +kernel
theorem d_St_layIn_60 : decode c_St_layIn 60 = .ok (.getfield 34, 3) := by decide +kernel
theorem d_St_layIn_63 : decode c_St_layIn 63 = .ok (.iload_n 1, 1) := by decide +kernel
theorem d_St_layIn_64 : decode c_St_layIn 64 = .ok (.iload_n 2, 1) := by decide +kernel
theorem d_St_layIn_65 : decode c_St_layIn 65 = .ok (.imul, 1) := by decide +kernel
theorem d_St_layIn_66 : decode c_St_layIn 66 = .ok (.iadd, 1) := by decide +kernel
theorem d_St_layIn_67 : decode c_St_layIn 67 = .ok (.putfield 41, 3) := by decide +kernel
theorem d_St_layIn_70 : decode c_St_layIn 70 = .ok (.aload_n 0, 1) := by decide +kernel
theorem d_St_layIn_71 : decode c_St_layIn 71 = .ok (.getfield 30, 3) := by decide +kernel
theorem d_St_layIn_74 : decode c_St_layIn 74 = .ok (.iload 4, 2) := by decide +kernel
theorem d_St_layIn_76 : decode c_St_layIn 76 = .ok (.iload_n 2, 1) := by decide +kernel
theorem d_St_layIn_77 : decode c_St_layIn 77 = .ok (.iload_n 3, 1) := by decide +kernel
theorem d_St_layIn_78 : decode c_St_layIn 78 = .ok (.invokevirtual 44, 3) := by decide +kernel
theorem d_St_layIn_81 : decode c_St_layIn 81 = .ok (.iconst 0, 1) := by decide +kernel
theorem d_St_layIn_82 : decode c_St_layIn 82 = .ok (.istore 5, 2) := by decide +kernel
theorem d_St_layIn_84 : decode c_St_layIn 84 = .ok (.iload 5, 2) := by decide +kernel
theorem d_St_layIn_86 : decode c_St_layIn 86 = .ok (.iload_n 1, 1) := by decide +kernel
theorem d_St_layIn_87 : decode c_St_layIn 87 = .ok (.if_icmp .ge 15, 3) := by decide +kernel
theorem d_St_layIn_90 : decode c_St_layIn 90 = .ok (.aload_n 0, 1) := by decide +kernel
theorem d_St_layIn_91 : decode c_St_layIn 91 = .ok (.iload 5, 2) := by decide +kernel
theorem d_St_layIn_93 : decode c_St_layIn 93 = .ok (.invokevirtual 48, 3) := by decide +kernel
theorem d_St_layIn_96 : decode c_St_layIn 96 = .ok (.iinc 5 1, 3) := by decide +kernel
theorem d_St_layIn_99 : decode c_St_layIn 99 = .ok (.goto (-15), 3) := by decide +kernel
theorem d_St_layIn_102 : decode c_St_layIn 102 = .ok (.aload_n 0, 1) := by decide +kernel
theorem d_St_layIn_103 : decode c_St_layIn 103 = .ok (.getfield 41, 3) := by decide +kernel
theorem d_St_layIn_106 : decode c_St_layIn 106 = .ok (.ireturn, 1) := by decide +kernel
theorem ok_St_layIn : tb_mV y_St_layIn c_St_layIn 6 (some .int) 3 := ⟨tb_515, tb_46, tb_513, tb_514, by decide +kernel⟩
abbrev c_St_hasSent : ByteArray := prog_6_method_5_code
abbrev y_St_hasSent : MethodName := ⟨"ReedSets$Striped", "hasSent", "(I)Z"⟩
theorem d_St_hasSent_0 : decode c_St_hasSent 0 = .ok (.iload_n 1, 1) := by decide +kernel
theorem d_St_hasSent_1 : decode c_St_hasSent 1 = .ok (.ifCond .lt 15, 3) := by decide +kernel
theorem d_St_hasSent_4 : decode c_St_hasSent 4 = .ok (.iload_n 1, 1) := by decide +kernel
theorem d_St_hasSent_5 : decode c_St_hasSent 5 = .ok (.aload_n 0, 1) := by decide +kernel
theorem d_St_hasSent_6 : decode c_St_hasSent 6 = .ok (.getfield 41, 3) := by decide +kernel
theorem d_St_hasSent_9 : decode c_St_hasSent 9 = .ok (.if_icmp .ge 7, 3) := by decide +kernel
theorem d_St_hasSent_12 : decode c_St_hasSent 12 = .ok (.iconst 1, 1) := by decide +kernel
theorem d_St_hasSent_13 : decode c_St_hasSent 13 = .ok (.goto 4, 3) := by decide +kernel
theorem d_St_hasSent_16 : decode c_St_hasSent 16 = .ok (.iconst 0, 1) := by decide +kernel
theorem d_St_hasSent_17 : decode c_St_hasSent 17 = .ok (.ireturn, 1) := by decide +kernel
theorem ok_St_hasSent : tb_mV y_St_hasSent c_St_hasSent 2 (some .boolean) 1 := ⟨tb_538, tb_46, tb_536, tb_537, by decide +kernel⟩
abbrev c_St_harm : ByteArray := prog_6_method_11_code
abbrev y_St_harm : MethodName := ⟨"ReedSets$Striped", "harm", "(III)V"⟩
theorem d_St_harm_0 : decode c_St_harm 0 = .ok (.iload_n 1, 1) := by decide +kernel
theorem d_St_harm_1 : decode c_St_harm 1 = .ok (.istore 4, 2) := by decide +kernel
theorem d_St_harm_3 : decode c_St_harm 3 = .ok (.iload 4, 2) := by decide +kernel
theorem d_St_harm_5 : decode c_St_harm 5 = .ok (.iload_n 1, 1) := by decide +kernel
theorem d_St_harm_6 : decode c_St_harm 6 = .ok (.iload_n 2, 1) := by decide +kernel
theorem d_St_harm_7 : decode c_St_harm 7 = .ok (.iadd, 1) := by decide +kernel
theorem d_St_harm_8 : decode c_St_harm 8 = .ok (.if_icmp .ge 41, 3) := by decide +kernel
theorem d_St_harm_11 : decode c_St_harm 11 = .ok (.iload_n 3, 1) := by decide +kernel
theorem d_St_harm_12 : decode c_St_harm 12 = .ok (.iconst (-1), 1) := by decide +kernel
theorem d_St_harm_13 : decode c_St_harm 13 = .ok (.if_icmp .ne 14, 3) := by decide +kernel
theorem d_St_harm_16 : decode c_St_harm 16 = .ok (.aload_n 0, 1) := by decide +kernel
theorem d_St_harm_17 : decode c_St_harm 17 = .ok (.getfield 18, 3) := by decide +kernel
theorem d_St_harm_20 : decode c_St_harm 20 = .ok (.iload 4, 2) := by decide +kernel
theorem d_St_harm_22 : decode c_St_harm 22 = .ok (.iconst 1, 1) := by decide +kernel
theorem d_St_harm_23 : decode c_St_harm 23 = .ok (.bastore, 1) := by decide +kernel
theorem d_St_harm_24 : decode c_St_harm 24 = .ok (.goto 19, 3) := by decide +kernel
theorem d_St_harm_27 : decode c_St_harm 27 = .ok (.aload_n 0, 1) := by decide +kernel
theorem d_St_harm_28 : decode c_St_harm 28 = .ok (.getfield 22, 3) := by decide +kernel
theorem d_St_harm_31 : decode c_St_harm 31 = .ok (.iload 4, 2) := by decide +kernel
theorem d_St_harm_33 : decode c_St_harm 33 = .ok (.aload_n 0, 1) := by decide +kernel
theorem d_St_harm_34 : decode c_St_harm 34 = .ok (.getfield 22, 3) := by decide +kernel
theorem d_St_harm_37 : decode c_St_harm 37 = .ok (.iload 4, 2) := by decide +kernel
theorem d_St_harm_39 : decode c_St_harm 39 = .ok (.iaload, 1) := by decide +kernel
theorem d_St_harm_40 : decode c_St_harm 40 = .ok (.iload_n 3, 1) := by decide +kernel
theorem d_St_harm_41 : decode c_St_harm 41 = .ok (.ixor, 1) := by decide +kernel
theorem d_St_harm_42 : decode c_St_harm 42 = .ok (.iastore, 1) := by decide +kernel
theorem d_St_harm_43 : decode c_St_harm 43 = .ok (.iinc 4 1, 3) := by decide +kernel
theorem d_St_harm_46 : decode c_St_harm 46 = .ok (.goto (-43), 3) := by decide +kernel
theorem d_St_harm_49 : decode c_St_harm 49 = .ok (.return_, 1) := by decide +kernel
theorem ok_St_harm : tb_mV y_St_harm c_St_harm 5 none 3 := ⟨tb_546, tb_46, tb_544, tb_545, by decide +kernel⟩
abbrev c_St_isLaid : ByteArray := prog_6_method_4_code
abbrev y_St_isLaid : MethodName := ⟨"ReedSets$Striped", "isLaid", "()Z"⟩
theorem d_St_isLaid_0 : decode c_St_isLaid 0 = .ok (.aload_n 0, 1) := by decide +kernel
theorem d_St_isLaid_1 : decode c_St_isLaid 1 = .ok (.getfield 38, 3) := by decide +kernel
theorem d_St_isLaid_4 : decode c_St_isLaid 4 = .ok (.ifCond .le 7, 3) := by decide +kernel
theorem d_St_isLaid_7 : decode c_St_isLaid 7 = .ok (.iconst 1, 1) := by decide +kernel
theorem d_St_isLaid_8 : decode c_St_isLaid 8 = .ok (.goto 4, 3) := by decide +kernel
theorem d_St_isLaid_11 : decode c_St_isLaid 11 = .ok (.iconst 0, 1) := by decide +kernel
theorem d_St_isLaid_12 : decode c_St_isLaid 12 = .ok (.ireturn, 1) := by decide +kernel
theorem ok_St_isLaid : tb_mV y_St_isLaid c_St_isLaid 1 (some .boolean) 0 := ⟨tb_554, tb_46, tb_552, tb_553, by decide +kernel⟩
abbrev c_St_loadStripe : ByteArray := prog_6_method_10_code
abbrev y_St_loadStripe : MethodName := ⟨"ReedSets$Striped", "loadStripe", "(I)V"⟩
theorem d_St_loadStripe_0 : decode c_St_loadStripe 0 = .ok (.aload_n 0, 1) := by decide +kernel
theorem d_St_loadStripe_1 : decode c_St_loadStripe 1 = .ok (.getfield 30, 3) := by decide +kernel
theorem d_St_loadStripe_4 : decode c_St_loadStripe 4 = .ok (.invokevirtual 71, 3) := by decide +kernel
theorem d_St_loadStripe_7 : decode c_St_loadStripe 7 = .ok (.iconst 0, 1) := by decide +kernel
theorem d_St_loadStripe_8 : decode c_St_loadStripe 8 = .ok (.istore_n 2, 1) := by decide +kernel
theorem d_St_loadStripe_9 : decode c_St_loadStripe 9 = .ok (.iload_n 2, 1) := by decide +kernel
theorem d_St_loadStripe_10 : decode c_St_loadStripe 10 = .ok (.aload_n 0, 1) := by decide +kernel
theorem d_St_loadStripe_11 : decode c_St_loadStripe 11 = .ok (.getfield 30, 3) := by decide +kernel
theorem d_St_loadStripe_14 : decode c_St_loadStripe 14 = .ok (.invokevirtual 68, 3) := by decide +kernel
theorem d_St_loadStripe_17 : decode c_St_loadStripe 17 = .ok (.if_icmp .ge 54, 3) := by decide +kernel
theorem d_St_loadStripe_20 : decode c_St_loadStripe 20 = .ok (.aload_n 0, 1) := by decide +kernel
theorem d_St_loadStripe_21 : decode c_St_loadStripe 21 = .ok (.iload_n 1, 1) := by decide +kernel
theorem d_St_loadStripe_22 : decode c_St_loadStripe 22 = .ok (.iload_n 2, 1) := by decide +kernel
theorem d_St_loadStripe_23 : decode c_St_loadStripe 23 = .ok (.invokevirtual 55, 3) := by decide +kernel
theorem d_St_loadStripe_26 : decode c_St_loadStripe 26 = .ok (.istore_n 3, 1) := by decide +kernel
theorem d_St_loadStripe_27 : decode c_St_loadStripe 27 = .ok (.iload_n 3, 1) := by decide +kernel
theorem d_St_loadStripe_28 : decode c_St_loadStripe 28 = .ok (.iconst (-1), 1) := by decide +kernel
theorem d_St_loadStripe_29 : decode c_St_loadStripe 29 = .ok (.if_icmp .ne 16, 3) := by decide +kernel
theorem d_St_loadStripe_32 : decode c_St_loadStripe 32 = .ok (.aload_n 0, 1) := by decide +kernel
theorem d_St_loadStripe_33 : decode c_St_loadStripe 33 = .ok (.getfield 30, 3) := by decide +kernel
theorem d_St_loadStripe_36 : decode c_St_loadStripe 36 = .ok (.iload_n 2, 1) := by decide +kernel
theorem d_St_loadStripe_37 : decode c_St_loadStripe 37 = .ok (.iconst 0, 1) := by decide +kernel
theorem d_St_loadStripe_38 : decode c_St_loadStripe 38 = .ok (.iconst 0, 1) := by decide +kernel
theorem d_St_loadStripe_39 : decode c_St_loadStripe 39 = .ok (.invokevirtual 74, 3) := by decide +kernel
theorem d_St_loadStripe_42 : decode c_St_loadStripe 42 = .ok (.goto 23, 3) := by decide +kernel
theorem d_St_loadStripe_45 : decode c_St_loadStripe 45 = .ok (.aload_n 0, 1) := by decide +kernel
theorem d_St_loadStripe_46 : decode c_St_loadStripe 46 = .ok (.getfield 30, 3) := by decide +kernel
theorem d_St_loadStripe_49 : decode c_St_loadStripe 49 = .ok (.iload_n 2, 1) := by decide +kernel
theorem d_St_loadStripe_50 : decode c_St_loadStripe 50 = .ok (.aload_n 0, 1) := by decide +kernel
theorem d_St_loadStripe_51 : decode c_St_loadStripe 51 = .ok (.getfield 22, 3) := by decide +kernel
theorem d_St_loadStripe_54 : decode c_St_loadStripe 54 = .ok (.iload_n 3, 1) := by decide +kernel
theorem d_St_loadStripe_55 : decode c_St_loadStripe 55 = .ok (.iaload, 1) := by decide +kernel
theorem d_St_loadStripe_56 : decode c_St_loadStripe 56 = .ok (.aload_n 0, 1) := by decide +kernel
theorem d_St_loadStripe_57 : decode c_St_loadStripe 57 = .ok (.getfield 18, 3) := by decide +kernel
theorem d_St_loadStripe_60 : decode c_St_loadStripe 60 = .ok (.iload_n 3, 1) := by decide +kernel
theorem d_St_loadStripe_61 : decode c_St_loadStripe 61 = .ok (.baload, 1) := by decide +kernel
theorem d_St_loadStripe_62 : decode c_St_loadStripe 62 = .ok (.invokevirtual 74, 3) := by decide +kernel
theorem d_St_loadStripe_65 : decode c_St_loadStripe 65 = .ok (.iinc 2 1, 3) := by decide +kernel
theorem d_St_loadStripe_68 : decode c_St_loadStripe 68 = .ok (.goto (-59), 3) := by decide +kernel
theorem d_St_loadStripe_71 : decode c_St_loadStripe 71 = .ok (.return_, 1) := by decide +kernel
theorem ok_St_loadStripe : tb_mV y_St_loadStripe c_St_loadStripe 4 none 1 := ⟨tb_566, tb_46, tb_565, tb_17, by decide +kernel⟩
abbrev c_St_mendStripe : ByteArray := prog_6_method_13_code
abbrev y_St_mendStripe : MethodName := ⟨"ReedSets$Striped", "mendStripe", "(ILReedSets$Solver;)I"⟩
theorem d_St_mendStripe_0 : decode c_St_mendStripe 0 = .ok (.aload_n 0, 1) := by decide +kernel
theorem d_St_mendStripe_1 : decode c_St_mendStripe 1 = .ok (.iload_n 1, 1) := by decide +kernel
theorem d_St_mendStripe_2 : decode c_St_mendStripe 2 = .ok (.invokevirtual 82, 3) := by decide +kernel
theorem d_St_mendStripe_5 : decode c_St_mendStripe 5 = .ok (.aload_n 2, 1) := by decide +kernel
theorem d_St_mendStripe_6 : decode c_St_mendStripe 6 = .ok (.aload_n 0, 1) := by decide +kernel
theorem d_St_mendStripe_7 : decode c_St_mendStripe 7 = .ok (.getfield 30, 3) := by decide +kernel
theorem d_St_mendStripe_10 : decode c_St_mendStripe 10 = .ok (.invokevirtual 85, 3) := by decide +kernel
theorem d_St_mendStripe_13 : decode c_St_mendStripe 13 = .ok (.istore_n 3, 1) := by decide +kernel
theorem d_St_mendStripe_14 : decode c_St_mendStripe 14 = .ok (.aload_n 0, 1) := by decide +kernel
theorem d_St_mendStripe_15 : decode c_St_mendStripe 15 = .ok (.getfield 30, 3) := by decide +kernel
theorem d_St_mendStripe_18 : decode c_St_mendStripe 18 = .ok (.getfield 52, 3) := by decide +kernel
theorem d_St_mendStripe_21 : decode c_St_mendStripe 21 = .ok (.iconst 1, 1) := by decide +kernel
theorem d_St_mendStripe_22 : decode c_St_mendStripe 22 = .ok (.isub, 1) := by decide +kernel
theorem d_St_mendStripe_23 : decode c_St_mendStripe 23 = .ok (.istore 4, 2) := by decide +kernel
theorem d_St_mendStripe_25 : decode c_St_mendStripe 25 = .ok (.aload_n 0, 1) := by decide +kernel
theorem d_St_mendStripe_26 : decode c_St_mendStripe 26 = .ok (.iload_n 1, 1) := by decide +kernel
theorem d_St_mendStripe_27 : decode c_St_mendStripe 27 = .ok (.iload 4, 2) := by decide +kernel
theorem d_St_mendStripe_29 : decode c_St_mendStripe 29 = .ok (.invokevirtual 55, 3) := by decide +kernel
theorem d_St_mendStripe_32 : decode c_St_mendStripe 32 = .ok (.iconst (-1), 1) := by decide +kernel
theorem d_St_mendStripe_33 : decode c_St_mendStripe 33 = .ok (.if_icmp .ne 7, 3) := by decide +kernel
theorem d_St_mendStripe_36 : decode c_St_mendStripe 36 = .ok (.iconst 1, 1) := by decide +kernel
theorem d_St_mendStripe_37 : decode c_St_mendStripe 37 = .ok (.goto 4, 3) := by decide +kernel
theorem d_St_mendStripe_40 : decode c_St_mendStripe 40 = .ok (.iconst 0, 1) := by decide +kernel
theorem d_St_mendStripe_41 : decode c_St_mendStripe 41 = .ok (.istore 5, 2) := by decide +kernel
theorem d_St_mendStripe_43 : decode c_St_mendStripe 43 = .ok (.iload_n 3, 1) := by decide +kernel
theorem d_St_mendStripe_44 : decode c_St_mendStripe 44 = .ok (.iconst (-1), 1) := by decide +kernel
theorem d_St_mendStripe_45 : decode c_St_mendStripe 45 = .ok (.if_icmp .eq 17, 3) := by decide +kernel
theorem d_St_mendStripe_48 : decode c_St_mendStripe 48 = .ok (.iload 5, 2) := by decide +kernel
theorem d_St_mendStripe_50 : decode c_St_mendStripe 50 = .ok (.ifCond .eq 14, 3) := by decide +kernel
theorem d_St_mendStripe_53 : decode c_St_mendStripe 53 = .ok (.aload_n 2, 1) := by decide +kernel
theorem d_St_mendStripe_54 : decode c_St_mendStripe 54 = .ok (.iload 4, 2) := by decide +kernel
theorem d_St_mendStripe_56 : decode c_St_mendStripe 56 = .ok (.invokevirtual 91, 3) := by decide +kernel
theorem d_St_mendStripe_59 : decode c_St_mendStripe 59 = .ok (.ifCond .eq 5, 3) := by decide +kernel
theorem d_St_mendStripe_62 : decode c_St_mendStripe 62 = .ok (.iconst (-1), 1) := by decide +kernel
theorem d_St_mendStripe_63 : decode c_St_mendStripe 63 = .ok (.ireturn, 1) := by decide +kernel
theorem d_St_mendStripe_64 : decode c_St_mendStripe 64 = .ok (.aload_n 2, 1) := by decide +kernel
theorem d_St_mendStripe_65 : decode c_St_mendStripe 65 = .ok (.aload_n 0, 1) := by decide +kernel
theorem d_St_mendStripe_66 : decode c_St_mendStripe 66 = .ok (.getfield 30, 3) := by decide +kernel
theorem d_St_mendStripe_69 : decode c_St_mendStripe 69 = .ok (.invokevirtual 95, 3) := by decide +kernel
theorem d_St_mendStripe_72 : decode c_St_mendStripe 72 = .ok (.aload_n 0, 1) := by decide +kernel
theorem d_St_mendStripe_73 : decode c_St_mendStripe 73 = .ok (.iload_n 1, 1) := by decide +kernel
theorem d_St_mendStripe_74 : decode c_St_mendStripe 74 = .ok (.invokevirtual 65, 3) := by decide +kernel
theorem d_St_mendStripe_77 : decode c_St_mendStripe 77 = .ok (.iload_n 3, 1) := by decide +kernel
theorem d_St_mendStripe_78 : decode c_St_mendStripe 78 = .ok (.ireturn, 1) := by decide +kernel
theorem ok_St_mendStripe : tb_mV y_St_mendStripe c_St_mendStripe 6 (some .int) 2 := ⟨tb_562, tb_46, tb_561, tb_16, by decide +kernel⟩
abbrev c_St_mendAll : ByteArray := prog_6_method_12_code
abbrev y_St_mendAll : MethodName := ⟨"ReedSets$Striped", "mendAll", "(LReedSets$Solver;)I"⟩
theorem d_St_mendAll_0 : decode c_St_mendAll 0 = .ok (.iconst 0, 1) := by decide +kernel
theorem d_St_mendAll_1 : decode c_St_mendAll 1 = .ok (.istore_n 2, 1) := by decide +kernel
theorem d_St_mendAll_2 : decode c_St_mendAll 2 = .ok (.iconst 0, 1) := by decide +kernel
theorem d_St_mendAll_3 : decode c_St_mendAll 3 = .ok (.istore_n 3, 1) := by decide +kernel
theorem d_St_mendAll_4 : decode c_St_mendAll 4 = .ok (.iload_n 3, 1) := by decide +kernel
theorem d_St_mendAll_5 : decode c_St_mendAll 5 = .ok (.aload_n 0, 1) := by decide +kernel
theorem d_St_mendAll_6 : decode c_St_mendAll 6 = .ok (.getfield 38, 3) := by decide +kernel
theorem d_St_mendAll_9 : decode c_St_mendAll 9 = .ok (.if_icmp .ge 33, 3) := by decide +kernel
theorem d_St_mendAll_12 : decode c_St_mendAll 12 = .ok (.aload_n 0, 1) := by decide +kernel
theorem d_St_mendAll_13 : decode c_St_mendAll 13 = .ok (.iload_n 3, 1) := by decide +kernel
theorem d_St_mendAll_14 : decode c_St_mendAll 14 = .ok (.aload_n 1, 1) := by decide +kernel
theorem d_St_mendAll_15 : decode c_St_mendAll 15 = .ok (.invokevirtual 78, 3) := by decide +kernel
theorem d_St_mendAll_18 : decode c_St_mendAll 18 = .ok (.istore 4, 2) := by decide +kernel
theorem d_St_mendAll_20 : decode c_St_mendAll 20 = .ok (.iload 4, 2) := by decide +kernel
theorem d_St_mendAll_22 : decode c_St_mendAll 22 = .ok (.iconst (-1), 1) := by decide +kernel
theorem d_St_mendAll_23 : decode c_St_mendAll 23 = .ok (.if_icmp .ne 8, 3) := by decide +kernel
theorem d_St_mendAll_26 : decode c_St_mendAll 26 = .ok (.bipush (-2), 2) := by decide +kernel
theorem d_St_mendAll_28 : decode c_St_mendAll 28 = .ok (.iload_n 3, 1) := by decide +kernel
theorem d_St_mendAll_29 : decode c_St_mendAll 29 = .ok (.isub, 1) := by decide +kernel
theorem d_St_mendAll_30 : decode c_St_mendAll 30 = .ok (.ireturn, 1) := by decide +kernel
theorem d_St_mendAll_31 : decode c_St_mendAll 31 = .ok (.iload_n 2, 1) := by decide +kernel
theorem d_St_mendAll_32 : decode c_St_mendAll 32 = .ok (.iload 4, 2) := by decide +kernel
theorem d_St_mendAll_34 : decode c_St_mendAll 34 = .ok (.iadd, 1) := by decide +kernel
theorem d_St_mendAll_35 : decode c_St_mendAll 35 = .ok (.istore_n 2, 1) := by decide +kernel
theorem d_St_mendAll_36 : decode c_St_mendAll 36 = .ok (.iinc 3 1, 3) := by decide +kernel
theorem d_St_mendAll_39 : decode c_St_mendAll 39 = .ok (.goto (-35), 3) := by decide +kernel
theorem d_St_mendAll_42 : decode c_St_mendAll 42 = .ok (.iload_n 2, 1) := by decide +kernel
theorem d_St_mendAll_43 : decode c_St_mendAll 43 = .ok (.ireturn, 1) := by decide +kernel
theorem ok_St_mendAll : tb_mV y_St_mendAll c_St_mendAll 5 (some .int) 1 := ⟨tb_558, tb_46, tb_556, tb_557, by decide +kernel⟩
abbrev c_St_countWrong : ByteArray := prog_6_method_14_code
abbrev y_St_countWrong : MethodName := ⟨"ReedSets$Striped", "countWrong", "()I"⟩
theorem d_St_countWrong_0 : decode c_St_countWrong 0 = .ok (.iconst 0, 1) := by decide +kernel
theorem d_St_countWrong_1 : decode c_St_countWrong 1 = .ok (.istore_n 1, 1) := by decide +kernel
theorem d_St_countWrong_2 : decode c_St_countWrong 2 = .ok (.iconst 0, 1) := by decide +kernel
theorem d_St_countWrong_3 : decode c_St_countWrong 3 = .ok (.istore_n 2, 1) := by decide +kernel
theorem d_St_countWrong_4 : decode c_St_countWrong 4 = .ok (.iload_n 2, 1) := by decide +kernel
theorem d_St_countWrong_5 : decode c_St_countWrong 5 = .ok (.aload_n 0, 1) := by decide +kernel
theorem d_St_countWrong_6 : decode c_St_countWrong 6 = .ok (.getfield 41, 3) := by decide +kernel
theorem d_St_countWrong_9 : decode c_St_countWrong 9 = .ok (.if_icmp .ge 36, 3) := by decide +kernel
theorem d_St_countWrong_12 : decode c_St_countWrong 12 = .ok (.aload_n 0, 1) := by decide +kernel
theorem d_St_countWrong_13 : decode c_St_countWrong 13 = .ok (.getfield 18, 3) := by decide +kernel
theorem d_St_countWrong_16 : decode c_St_countWrong 16 = .ok (.iload_n 2, 1) := by decide +kernel
theorem d_St_countWrong_17 : decode c_St_countWrong 17 = .ok (.baload, 1) := by decide +kernel
theorem d_St_countWrong_18 : decode c_St_countWrong 18 = .ok (.ifCond .ne 18, 3) := by decide +kernel
theorem d_St_countWrong_21 : decode c_St_countWrong 21 = .ok (.aload_n 0, 1) := by decide +kernel
theorem d_St_countWrong_22 : decode c_St_countWrong 22 = .ok (.getfield 22, 3) := by decide +kernel
theorem d_St_countWrong_25 : decode c_St_countWrong 25 = .ok (.iload_n 2, 1) := by decide +kernel
theorem d_St_countWrong_26 : decode c_St_countWrong 26 = .ok (.iaload, 1) := by decide +kernel
theorem d_St_countWrong_27 : decode c_St_countWrong 27 = .ok (.aload_n 0, 1) := by decide +kernel
theorem d_St_countWrong_28 : decode c_St_countWrong 28 = .ok (.getfield 15, 3) := by decide +kernel
theorem d_St_countWrong_31 : decode c_St_countWrong 31 = .ok (.iload_n 2, 1) := by decide +kernel
theorem d_St_countWrong_32 : decode c_St_countWrong 32 = .ok (.iaload, 1) := by decide +kernel
theorem d_St_countWrong_33 : decode c_St_countWrong 33 = .ok (.if_icmp .eq 6, 3) := by decide +kernel
theorem d_St_countWrong_36 : decode c_St_countWrong 36 = .ok (.iinc 1 1, 3) := by decide +kernel
theorem d_St_countWrong_39 : decode c_St_countWrong 39 = .ok (.iinc 2 1, 3) := by decide +kernel
theorem d_St_countWrong_42 : decode c_St_countWrong 42 = .ok (.goto (-38), 3) := by decide +kernel
theorem d_St_countWrong_45 : decode c_St_countWrong 45 = .ok (.iload_n 1, 1) := by decide +kernel
theorem d_St_countWrong_46 : decode c_St_countWrong 46 = .ok (.ireturn, 1) := by decide +kernel
theorem ok_St_countWrong : tb_mV y_St_countWrong c_St_countWrong 3 (some .int) 0 := ⟨tb_585, tb_46, tb_583, tb_584, by decide +kernel⟩
