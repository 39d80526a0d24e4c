abbrev c_Mo_isByte : ByteArray := prog_9_method_2_code
abbrev y_Mo_isByte : MethodName := ⟨"ReedSetsModel", "isByte", "(I)Z"⟩
theorem d_Mo_isByte_0 : decode c_Mo_isByte 0 = .ok (.iload_n 0, 1) := by decide +kernel
theorem d_Mo_isByte_1 : decode c_Mo_isByte 1 = .ok (.ifCond .lt 14, 3) := by decide +kernel
theorem d_Mo_isByte_4 : decode c_Mo_isByte 4 = .ok (.iload_n 0, 1) := by decide +kernel
theorem d_Mo_isByte_5 : decode c_Mo_isByte 5 = .ok (.sipush 256, 3) := by decide +kernel
theorem d_Mo_isByte_8 : decode c_Mo_isByte 8 = .ok (.if_icmp .ge 7, 3) := by decide +kernel
theorem d_Mo_isByte_11 : decode c_Mo_isByte 11 = .ok (.iconst 1, 1) := by decide +kernel
theorem d_Mo_isByte_12 : decode c_Mo_isByte 12 = .ok (.goto 4, 3) := by decide +kernel
theorem d_Mo_isByte_15 : decode c_Mo_isByte 15 = .ok (.iconst 0, 1) := by decide +kernel
theorem d_Mo_isByte_16 : decode c_Mo_isByte 16 = .ok (.ireturn, 1) := by decide +kernel
theorem ok_Mo_isByte : tb_mS y_Mo_isByte c_Mo_isByte 1 (some .boolean) 1 := ⟨tb_785, tb_48, tb_784, by decide +kernel⟩
abbrev c_Mo_by : ByteArray := prog_9_method_3_code
abbrev y_Mo_by : MethodName := ⟨"ReedSetsModel", "by", "(II)I"⟩
theorem d_Mo_by_0 : decode c_Mo_by 0 = .ok (.iconst 0, 1) := by decide +kernel
theorem d_Mo_by_1 : decode c_Mo_by 1 = .ok (.istore_n 2, 1) := by decide +kernel
theorem d_Mo_by_2 : decode c_Mo_by 2 = .ok (.iload_n 0, 1) := by decide +kernel
theorem d_Mo_by_3 : decode c_Mo_by 3 = .ok (.istore_n 3, 1) := by decide +kernel
theorem d_Mo_by_4 : decode c_Mo_by 4 = .ok (.iconst 0, 1) := by decide +kernel
theorem d_Mo_by_5 : decode c_Mo_by 5 = .ok (.istore 4, 2) := by decide +kernel
theorem d_Mo_by_7 : decode c_Mo_by 7 = .ok (.iload 4, 2) := by decide +kernel
theorem d_Mo_by_9 : decode c_Mo_by 9 = .ok (.bipush 8, 2) := by decide +kernel
theorem d_Mo_by_11 : decode c_Mo_by 11 = .ok (.if_icmp .ge 48, 3) := by decide +kernel
theorem d_Mo_by_14 : decode c_Mo_by 14 = .ok (.iload_n 1, 1) := by decide +kernel
theorem d_Mo_by_15 : decode c_Mo_by 15 = .ok (.iload 4, 2) := by decide +kernel
theorem d_Mo_by_17 : decode c_Mo_by 17 = .ok (.ishr, 1) := by decide +kernel
theorem d_Mo_by_18 : decode c_Mo_by 18 = .ok (.iconst 1, 1) := by decide +kernel
theorem d_Mo_by_19 : decode c_Mo_by 19 = .ok (.iand, 1) := by decide +kernel
theorem d_Mo_by_20 : decode c_Mo_by 20 = .ok (.iconst 1, 1) := by decide +kernel
theorem d_Mo_by_21 : decode c_Mo_by 21 = .ok (.if_icmp .ne 9, 3) := by decide +kernel
theorem d_Mo_by_24 : decode c_Mo_by 24 = .ok (.iload_n 2, 1) := by decide +kernel
theorem d_Mo_by_25 : decode c_Mo_by 25 = .ok (.iload_n 3, 1) := by decide +kernel
theorem d_Mo_by_26 : decode c_Mo_by 26 = .ok (.ixor, 1) := by decide +kernel
theorem d_Mo_by_27 : decode c_Mo_by 27 = .ok (.goto 4, 3) := by decide +kernel
theorem d_Mo_by_30 : decode c_Mo_by 30 = .ok (.iload_n 2, 1) := by decide +kernel
theorem d_Mo_by_31 : decode c_Mo_by 31 = .ok (.istore_n 2, 1) := by decide +kernel
theorem d_Mo_by_32 : decode c_Mo_by 32 = .ok (.iload_n 3, 1) := by decide +kernel
theorem d_Mo_by_33 : decode c_Mo_by 33 = .ok (.iconst 1, 1) := by decide +kernel
theorem d_Mo_by_34 : decode c_Mo_by 34 = .ok (.ishl, 1) := by decide +kernel
theorem d_Mo_by_35 : decode c_Mo_by 35 = .ok (.istore_n 3, 1) := by decide +kernel
theorem d_Mo_by_36 : decode c_Mo_by 36 = .ok (.iload_n 3, 1) := by decide +kernel
theorem d_Mo_by_37 : decode c_Mo_by 37 = .ok (.sipush 255, 3) := by decide +kernel
theorem d_Mo_by_40 : decode c_Mo_by 40 = .ok (.if_icmp .le 11, 3) := by decide +kernel
theorem d_Mo_by_43 : decode c_Mo_by 43 = .ok (.iload_n 3, 1) := by decide +kernel
theorem d_Mo_by_44 : decode c_Mo_by 44 = .ok (.sipush 285, 3) := by decide +kernel
theorem d_Mo_by_47 : decode c_Mo_by 47 = .ok (.ixor, 1) := by decide +kernel
theorem d_Mo_by_48 : decode c_Mo_by 48 = .ok (.goto 4, 3) := by decide +kernel
theorem d_Mo_by_51 : decode c_Mo_by 51 = .ok (.iload_n 3, 1) := by decide +kernel
theorem d_Mo_by_52 : decode c_Mo_by 52 = .ok (.istore_n 3, 1) := by decide +kernel
theorem d_Mo_by_53 : decode c_Mo_by 53 = .ok (.iinc 4 1, 3) := by decide +kernel
theorem d_Mo_by_56 : decode c_Mo_by 56 = .ok (.goto (-49), 3) := by decide +kernel
theorem d_Mo_by_59 : decode c_Mo_by 59 = .ok (.iload_n 2, 1) := by decide +kernel
theorem d_Mo_by_60 : decode c_Mo_by 60 = .ok (.ireturn, 1) := by decide +kernel
theorem ok_Mo_by : tb_mS y_Mo_by c_Mo_by 5 (some .int) 2 := ⟨tb_788, tb_48, tb_787, by decide +kernel⟩
abbrev c_Mo_raised : ByteArray := prog_9_method_4_code
abbrev y_Mo_raised : MethodName := ⟨"ReedSetsModel", "raised", "(II)I"⟩
theorem d_Mo_raised_0 : decode c_Mo_raised 0 = .ok (.iconst 1, 1) := by decide +kernel
theorem d_Mo_raised_1 : decode c_Mo_raised 1 = .ok (.istore_n 2, 1) := by decide +kernel
theorem d_Mo_raised_2 : decode c_Mo_raised 2 = .ok (.iload_n 0, 1) := by decide +kernel
theorem d_Mo_raised_3 : decode c_Mo_raised 3 = .ok (.istore_n 3, 1) := by decide +kernel
theorem d_Mo_raised_4 : decode c_Mo_raised 4 = .ok (.iload_n 1, 1) := by decide +kernel
theorem d_Mo_raised_5 : decode c_Mo_raised 5 = .ok (.istore 4, 2) := by decide +kernel
theorem d_Mo_raised_7 : decode c_Mo_raised 7 = .ok (.iload 4, 2) := by decide +kernel
theorem d_Mo_raised_9 : decode c_Mo_raised 9 = .ok (.ifCond .le 36, 3) := by decide +kernel
theorem d_Mo_raised_12 : decode c_Mo_raised 12 = .ok (.iload 4, 2) := by decide +kernel
theorem d_Mo_raised_14 : decode c_Mo_raised 14 = .ok (.iconst 1, 1) := by decide +kernel
theorem d_Mo_raised_15 : decode c_Mo_raised 15 = .ok (.iand, 1) := by decide +kernel
theorem d_Mo_raised_16 : decode c_Mo_raised 16 = .ok (.iconst 1, 1) := by decide +kernel
theorem d_Mo_raised_17 : decode c_Mo_raised 17 = .ok (.if_icmp .ne 11, 3) := by decide +kernel
theorem d_Mo_raised_20 : decode c_Mo_raised 20 = .ok (.iload_n 2, 1) := by decide +kernel
theorem d_Mo_raised_21 : decode c_Mo_raised 21 = .ok (.iload_n 3, 1) := by decide +kernel
theorem d_Mo_raised_22 : decode c_Mo_raised 22 = .ok (.invokestatic 84, 3) := by decide +kernel
theorem d_Mo_raised_25 : decode c_Mo_raised 25 = .ok (.goto 4, 3) := by decide +kernel
theorem d_Mo_raised_28 : decode c_Mo_raised 28 = .ok (.iload_n 2, 1) := by decide +kernel
theorem d_Mo_raised_29 : decode c_Mo_raised 29 = .ok (.istore_n 2, 1) := by decide +kernel
theorem d_Mo_raised_30 : decode c_Mo_raised 30 = .ok (.iload_n 3, 1) := by decide +kernel
theorem d_Mo_raised_31 : decode c_Mo_raised 31 = .ok (.iload_n 3, 1) := by decide +kernel
theorem d_Mo_raised_32 : decode c_Mo_raised 32 = .ok (.invokestatic 84, 3) := by decide +kernel
theorem d_Mo_raised_35 : decode c_Mo_raised 35 = .ok (.istore_n 3, 1) := by decide +kernel
theorem d_Mo_raised_36 : decode c_Mo_raised 36 = .ok (.iload 4, 2) := by decide +kernel
theorem d_Mo_raised_38 : decode c_Mo_raised 38 = .ok (.iconst 1, 1) := by decide +kernel
theorem d_Mo_raised_39 : decode c_Mo_raised 39 = .ok (.ishr, 1) := by decide +kernel
theorem d_Mo_raised_40 : decode c_Mo_raised 40 = .ok (.istore 4, 2) := by decide +kernel
theorem d_Mo_raised_42 : decode c_Mo_raised 42 = .ok (.goto (-35), 3) := by decide +kernel
theorem d_Mo_raised_45 : decode c_Mo_raised 45 = .ok (.iload_n 2, 1) := by decide +kernel
theorem d_Mo_raised_46 : decode c_Mo_raised 46 = .ok (.ireturn, 1) := by decide +kernel
theorem ok_Mo_raised : tb_mS y_Mo_raised c_Mo_raised 5 (some .int) 2 := ⟨tb_798, tb_48, tb_797, by decide +kernel⟩
abbrev c_Mo_inverse : ByteArray := prog_9_method_5_code
abbrev y_Mo_inverse : MethodName := ⟨"ReedSetsModel", "inverse", "(I)I"⟩
theorem d_Mo_inverse_0 : decode c_Mo_inverse 0 = .ok (.iload_n 0, 1) := by decide +kernel
theorem d_Mo_inverse_1 : decode c_Mo_inverse 1 = .ok (.sipush 254, 3) := by decide +kernel
theorem d_Mo_inverse_4 : decode c_Mo_inverse 4 = .ok (.invokestatic 88, 3) := by decide +kernel
theorem d_Mo_inverse_7 : decode c_Mo_inverse 7 = .ok (.ireturn, 1) := by decide +kernel
theorem ok_Mo_inverse : tb_mS y_Mo_inverse c_Mo_inverse 1 (some .int) 1 := ⟨tb_795, tb_48, tb_794, by decide +kernel⟩
abbrev c_Mo_times : ByteArray := prog_9_method_6_code
abbrev y_Mo_times : MethodName := ⟨"ReedSetsModel", "times", "(II)I"⟩
theorem d_Mo_times_0 : decode c_Mo_times 0 = .ok (.iload_n 1, 1) := by decide +kernel
theorem d_Mo_times_1 : decode c_Mo_times 1 = .ok (.invokestatic 91, 3) := by decide +kernel
theorem d_Mo_times_4 : decode c_Mo_times 4 = .ok (.ifCond .eq 18, 3) := by decide +kernel
theorem d_Mo_times_7 : decode c_Mo_times 7 = .ok (.iload_n 2, 1) := by decide +kernel
theorem d_Mo_times_8 : decode c_Mo_times 8 = .ok (.invokestatic 91, 3) := by decide +kernel
theorem d_Mo_times_11 : decode c_Mo_times 11 = .ok (.ifCond .eq 11, 3) := by decide +kernel
theorem d_Mo_times_14 : decode c_Mo_times 14 = .ok (.iload_n 1, 1) := by decide +kernel
theorem d_Mo_times_15 : decode c_Mo_times 15 = .ok (.iload_n 2, 1) := by decide +kernel
theorem d_Mo_times_16 : decode c_Mo_times 16 = .ok (.invokestatic 84, 3) := by decide +kernel
theorem d_Mo_times_19 : decode c_Mo_times 19 = .ok (.goto 4, 3) := by decide +kernel
theorem d_Mo_times_22 : decode c_Mo_times 22 = .ok (.iconst (-1), 1) := by decide +kernel
theorem d_Mo_times_23 : decode c_Mo_times 23 = .ok (.ireturn, 1) := by decide +kernel
theorem ok_Mo_times : tb_mV y_Mo_times c_Mo_times 3 (some .int) 2 := ⟨tb_782, tb_48, tb_780, tb_781, by decide +kernel⟩
abbrev c_Mo_over : ByteArray := prog_9_method_7_code
abbrev y_Mo_over : MethodName := ⟨"ReedSetsModel", "over", "(II)I"⟩
theorem d_Mo_over_0 : decode c_Mo_over 0 = .ok (.iload_n 1, 1) := by decide +kernel
theorem d_Mo_over_1 : decode c_Mo_over 1 = .ok (.invokestatic 91, 3) := by decide +kernel
theorem d_Mo_over_4 : decode c_Mo_over 4 = .ok (.ifCond .eq 25, 3) := by decide +kernel
theorem d_Mo_over_7 : decode c_Mo_over 7 = .ok (.iload_n 2, 1) := by decide +kernel
theorem d_Mo_over_8 : decode c_Mo_over 8 = .ok (.invokestatic 91, 3) := by decide +kernel
theorem d_Mo_over_11 : decode c_Mo_over 11 = .ok (.ifCond .eq 18, 3) := by decide +kernel
theorem d_Mo_over_14 : decode c_Mo_over 14 = .ok (.iload_n 2, 1) := by decide +kernel
theorem d_Mo_over_15 : decode c_Mo_over 15 = .ok (.ifCond .eq 14, 3) := by decide +kernel
theorem d_Mo_over_18 : decode c_Mo_over 18 = .ok (.iload_n 1, 1) := by decide +kernel
theorem d_Mo_over_19 : decode c_Mo_over 19 = .ok (.iload_n 2, 1) := by decide +kernel
theorem d_Mo_over_20 : decode c_Mo_over 20 = .ok (.invokestatic 95, 3) := by decide +kernel
theorem d_Mo_over_23 : decode c_Mo_over 23 = .ok (.invokestatic 84, 3) := by decide +kernel
theorem d_Mo_over_26 : decode c_Mo_over 26 = .ok (.goto 4, 3) := by decide +kernel
theorem d_Mo_over_29 : decode c_Mo_over 29 = .ok (.iconst (-1), 1) := by decide +kernel
theorem d_Mo_over_30 : decode c_Mo_over 30 = .ok (.ireturn, 1) := by decide +kernel
theorem ok_Mo_over : tb_mV y_Mo_over c_Mo_over 3 (some .int) 2 := ⟨tb_792, tb_48, tb_790, tb_791, by decide +kernel⟩
abbrev c_Mo_power : ByteArray := prog_9_method_8_code
abbrev y_Mo_power : MethodName := ⟨"ReedSetsModel", "power", "(II)I"⟩
theorem d_Mo_power_0 : decode c_Mo_power 0 = .ok (.iload_n 1, 1) := by decide +kernel
theorem d_Mo_power_1 : decode c_Mo_power 1 = .ok (.invokestatic 91, 3) := by decide +kernel
theorem d_Mo_power_4 : decode c_Mo_power 4 = .ok (.ifCond .eq 11, 3) := by decide +kernel
theorem d_Mo_power_7 : decode c_Mo_power 7 = .ok (.iload_n 1, 1) := by decide +kernel
theorem d_Mo_power_8 : decode c_Mo_power 8 = .ok (.ifCond .ne 9, 3) := by decide +kernel
theorem d_Mo_power_11 : decode c_Mo_power 11 = .ok (.iload_n 2, 1) := by decide +kernel
theorem d_Mo_power_12 : decode c_Mo_power 12 = .ok (.ifCond .ge 5, 3) := by decide +kernel
theorem d_Mo_power_15 : decode c_Mo_power 15 = .ok (.iconst (-1), 1) := by decide +kernel
theorem d_Mo_power_16 : decode c_Mo_power 16 = .ok (.ireturn, 1) := by decide +kernel
theorem d_Mo_power_17 : decode c_Mo_power 17 = .ok (.iload_n 1, 1) := by decide +kernel
theorem d_Mo_power_18 : decode c_Mo_power 18 = .ok (.ifCond .ne 13, 3) := by decide +kernel
theorem d_Mo_power_21 : decode c_Mo_power 21 = .ok (.iload_n 2, 1) := by decide +kernel
theorem d_Mo_power_22 : decode c_Mo_power 22 = .ok (.ifCond .ne 7, 3) := by decide +kernel
theorem d_Mo_power_25 : decode c_Mo_power 25 = .ok (.iconst 1, 1) := by decide +kernel
theorem d_Mo_power_26 : decode c_Mo_power 26 = .ok (.goto 4, 3) := by decide +kernel
theorem d_Mo_power_29 : decode c_Mo_power 29 = .ok (.iconst 0, 1) := by decide +kernel
theorem d_Mo_power_30 : decode c_Mo_power 30 = .ok (.ireturn, 1) := by decide +kernel
theorem d_Mo_power_31 : decode c_Mo_power 31 = .ok (.iload_n 2, 1) := by decide +kernel
theorem d_Mo_power_32 : decode c_Mo_power 32 = .ok (.sipush 255, 3) := by decide +kernel
theorem d_Mo_power_35 : decode c_Mo_power 35 = .ok (.irem, 1) := by decide +kernel
theorem d_Mo_power_36 : decode c_Mo_power 36 = .ok (.istore_n 3, 1) := by decide +kernel
theorem d_Mo_power_37 : decode c_Mo_power 37 = .ok (.iload_n 1, 1) := by decide +kernel
theorem d_Mo_power_38 : decode c_Mo_power 38 = .ok (.iload_n 3, 1) := by decide +kernel
theorem d_Mo_power_39 : decode c_Mo_power 39 = .ok (.ifCond .ge 11, 3) := by decide +kernel
theorem d_Mo_power_42 : decode c_Mo_power 42 = .ok (.iload_n 3, 1) := by decide +kernel
theorem d_Mo_power_43 : decode c_Mo_power 43 = .ok (.sipush 255, 3) := by decide +kernel
theorem d_Mo_power_46 : decode c_Mo_power 46 = .ok (.iadd, 1) := by decide +kernel
theorem d_Mo_power_47 : decode c_Mo_power 47 = .ok (.goto 4, 3) := by decide +kernel
theorem d_Mo_power_50 : decode c_Mo_power 50 = .ok (.iload_n 3, 1) := by decide +kernel
theorem d_Mo_power_51 : decode c_Mo_power 51 = .ok (.invokestatic 88, 3) := by decide +kernel
theorem d_Mo_power_54 : decode c_Mo_power 54 = .ok (.ireturn, 1) := by decide +kernel
theorem ok_Mo_power : tb_mV y_Mo_power c_Mo_power 4 (some .int) 2 := ⟨tb_802, tb_48, tb_800, tb_801, by decide +kernel⟩
abbrev c_Mo_log : ByteArray := prog_9_method_9_code
abbrev y_Mo_log : MethodName := ⟨"ReedSetsModel", "log", "(I)I"⟩
theorem d_Mo_log_0 : decode c_Mo_log 0 = .ok (.iload_n 1, 1) := by decide +kernel
theorem d_Mo_log_1 : decode c_Mo_log 1 = .ok (.invokestatic 91, 3) := by decide +kernel
theorem d_Mo_log_4 : decode c_Mo_log 4 = .ok (.ifCond .eq 7, 3) := by decide +kernel
theorem d_Mo_log_7 : decode c_Mo_log 7 = .ok (.iload_n 1, 1) := by decide +kernel
theorem d_Mo_log_8 : decode c_Mo_log 8 = .ok (.ifCond .ne 5, 3) := by decide +kernel
theorem d_Mo_log_11 : decode c_Mo_log 11 = .ok (.iconst (-1), 1) := by decide +kernel
theorem d_Mo_log_12 : decode c_Mo_log 12 = .ok (.ireturn, 1) := by decide +kernel
theorem d_Mo_log_13 : decode c_Mo_log 13 = .ok (.iconst 0, 1) := by decide +kernel
theorem d_Mo_log_14 : decode c_Mo_log 14 = .ok (.istore_n 2, 1) := by decide +kernel
theorem d_Mo_log_15 : decode c_Mo_log 15 = .ok (.iconst 1, 1) := by decide +kernel
theorem d_Mo_log_16 : decode c_Mo_log 16 = .ok (.istore_n 3, 1) := by decide +kernel
theorem d_Mo_log_17 : decode c_Mo_log 17 = .ok (.iload_n 3, 1) := by decide +kernel
theorem d_Mo_log_18 : decode c_Mo_log 18 = .ok (.iload_n 1, 1) := by decide +kernel
theorem d_Mo_log_19 : decode c_Mo_log 19 = .ok (.if_icmp .eq 15, 3) := by decide +kernel
theorem d_Mo_log_22 : decode c_Mo_log 22 = .ok (.iload_n 3, 1) := by decide +kernel
theorem d_Mo_log_23 : decode c_Mo_log 23 = .ok (.iconst 2, 1) := by decide +kernel
theorem d_Mo_log_24 : decode c_Mo_log 24 = .ok (.invokestatic 84, 3) := by decide +kernel
theorem d_Mo_log_27 : decode c_Mo_log 27 = .ok (.istore_n 3, 1) := by decide +kernel
theorem d_Mo_log_28 : decode c_Mo_log 28 = .ok (.iinc 2 1, 3) := by decide +kernel
theorem d_Mo_log_31 : decode c_Mo_log 31 = .ok (.goto (-14), 3) := by decide +kernel
theorem d_Mo_log_34 : decode c_Mo_log 34 = .ok (.iload_n 2, 1) := by decide +kernel
theorem d_Mo_log_35 : decode c_Mo_log 35 = .ok (.ireturn, 1) := by decide +kernel
theorem ok_Mo_log : tb_mV y_Mo_log c_Mo_log 4 (some .int) 1 := ⟨tb_806, tb_48, tb_804, tb_805, by decide +kernel⟩
abbrev c_Mo_root : ByteArray := prog_9_method_10_code
abbrev y_Mo_root : MethodName := ⟨"ReedSetsModel", "root", "(I)I"⟩
theorem d_Mo_root_0 : decode c_Mo_root 0 = .ok (.iconst 2, 1) := by decide +kernel
theorem d_Mo_root_1 : decode c_Mo_root 1 = .ok (.iload_n 0, 1) := by decide +kernel
theorem d_Mo_root_2 : decode c_Mo_root 2 = .ok (.sipush 255, 3) := by decide +kernel
theorem d_Mo_root_5 : decode c_Mo_root 5 = .ok (.irem, 1) := by decide +kernel
theorem d_Mo_root_6 : decode c_Mo_root 6 = .ok (.invokestatic 88, 3) := by decide +kernel
theorem d_Mo_root_9 : decode c_Mo_root 9 = .ok (.ireturn, 1) := by decide +kernel
theorem ok_Mo_root : tb_mS y_Mo_root c_Mo_root 1 (some .int) 1 := ⟨tb_821, tb_48, tb_820, by decide +kernel⟩
abbrev c_Mo_code : ByteArray := prog_9_method_11_code
abbrev y_Mo_code : MethodName := ⟨"ReedSetsModel", "code", "(III)I"⟩
theorem d_Mo_code_0 : decode c_Mo_code 0 = .ok (.iload_n 1, 1) := by decide +kernel
theorem d_Mo_code_1 : decode c_Mo_code 1 = .ok (.iconst 1, 1) := by decide +kernel
theorem d_Mo_code_2 : decode c_Mo_code 2 = .ok (.if_icmp .lt 40, 3) := by decide +kernel
theorem d_Mo_code_5 : decode c_Mo_code 5 = .ok (.iload_n 1, 1) := by decide +kernel
theorem d_Mo_code_6 : decode c_Mo_code 6 = .ok (.sipush 200, 3) := by decide +kernel
theorem d_Mo_code_9 : decode c_Mo_code 9 = .ok (.if_icmp .gt 33, 3) := by decide +kernel
theorem d_Mo_code_12 : decode c_Mo_code 12 = .ok (.iload_n 2, 1) := by decide +kernel
theorem d_Mo_code_13 : decode c_Mo_code 13 = .ok (.ifCond .lt 29, 3) := by decide +kernel
theorem d_Mo_code_16 : decode c_Mo_code 16 = .ok (.iload_n 2, 1) := by decide +kernel
theorem d_Mo_code_17 : decode c_Mo_code 17 = .ok (.bipush 40, 2) := by decide +kernel
theorem d_Mo_code_19 : decode c_Mo_code 19 = .ok (.if_icmp .gt 23, 3) := by decide +kernel
theorem d_Mo_code_22 : decode c_Mo_code 22 = .ok (.iload_n 1, 1) := by decide +kernel
theorem d_Mo_code_23 : decode c_Mo_code 23 = .ok (.iload_n 2, 1) := by decide +kernel
theorem d_Mo_code_24 : decode c_Mo_code 24 = .ok (.iadd, 1) := by decide +kernel
theorem d_Mo_code_25 : decode c_Mo_code 25 = .ok (.sipush 255, 3) := by decide +kernel
theorem d_Mo_code_28 : decode c_Mo_code 28 = .ok (.if_icmp .gt 14, 3) := by decide +kernel
theorem d_Mo_code_31 : decode c_Mo_code 31 = .ok (.iload_n 3, 1) := by decide +kernel
theorem d_Mo_code_32 : decode c_Mo_code 32 = .ok (.ifCond .lt 10, 3) := by decide +kernel
theorem d_Mo_code_35 : decode c_Mo_code 35 = .ok (.iload_n 3, 1) := by decide +kernel
theorem d_Mo_code_36 : decode c_Mo_code 36 = .ok (.sipush 254, 3) := by decide +kernel
theorem d_Mo_code_39 : decode c_Mo_code 39 = .ok (.if_icmp .le 5, 3) := by decide +kernel
theorem d_Mo_code_42 : decode c_Mo_code 42 = .ok (.iconst (-1), 1) := by decide +kernel
theorem d_Mo_code_43 : decode c_Mo_code 43 = .ok (.ireturn, 1) := by decide +kernel
theorem d_Mo_code_44 : decode c_Mo_code 44 = .ok (.aload_n 0, 1) := by decide +kernel
theorem d_Mo_code_45 : decode c_Mo_code 45 = .ok (.iload_n 1, 1) := by decide +kernel
theorem d_Mo_code_46 : decode c_Mo_code 46 = .ok (.putfield 7, 3) := by decide +kernel
theorem d_Mo_code_49 : decode c_Mo_code 49 = .ok (.aload_n 0, 1) := by decide +kernel
theorem d_Mo_code_50 : decode c_Mo_code 50 = .ok (.iload_n 2, 1) := by decide +kernel
theorem d_Mo_code_51 : decode c_Mo_code 51 = .ok (.putfield 99, 3) := by decide +kernel
theorem d_Mo_code_54 : decode c_Mo_code 54 = .ok (.aload_n 0, 1) := by decide +kernel
theorem d_Mo_code_55 : decode c_Mo_code 55 = .ok (.iload_n 3, 1) := by decide +kernel
theorem d_Mo_code_56 : decode c_Mo_code 56 = .ok (.putfield 102, 3) := by decide +kernel
theorem d_Mo_code_59 : decode c_Mo_code 59 = .ok (.iconst 0, 1) := by decide +kernel
theorem d_Mo_code_60 : decode c_Mo_code 60 = .ok (.istore 4, 2) := by decide +kernel
theorem d_Mo_code_62 : decode c_Mo_code 62 = .ok (.iload 4, 2) := by decide +kernel
theorem d_Mo_code_64 : decode c_Mo_code 64 = .ok (.sipush 255, 3) := by decide +kernel
theorem d_Mo_code_67 : decode c_Mo_code 67 = .ok (.if_icmp .ge 25, 3) := by decide +kernel
theorem d_Mo_code_70 : decode c_Mo_code 70 = .ok (.aload_n 0, 1) := by decide +kernel
theorem d_Mo_code_71 : decode c_Mo_code 71 = .ok (.getfield 13, 3) := by decide +kernel
theorem d_Mo_code_74 : decode c_Mo_code 74 = .ok (.iload 4, 2) := by decide +kernel
theorem d_Mo_code_76 : decode c_Mo_code 76 = .ok (.iconst 0, 1) := by decide +kernel
theorem d_Mo_code_77 : decode c_Mo_code 77 = .ok (.iastore, 1) := by decide +kernel
theorem d_Mo_code_78 : decode c_Mo_code 78 = .ok (.aload_n 0, 1) := by decide +kernel
theorem d_Mo_code_79 : decode c_Mo_code 79 = .ok (.getfield 17, 3) := by decide +kernel
theorem d_Mo_code_82 : decode c_Mo_code 82 = .ok (.iload 4, 2) := by decide +kernel
theorem d_Mo_code_84 : decode c_Mo_code 84 = .ok (.iconst 0, 1) := by decide +kernel
theorem d_Mo_code_85 : decode c_Mo_code 85 = .ok (.bastore, 1) := by decide +kernel
theorem d_Mo_code_86 : decode c_Mo_code 86 = .ok (.iinc 4 1, 3) := by decide +kernel
theorem d_Mo_code_89 : decode c_Mo_code 89 = .ok (.goto (-27), 3) := by decide +kernel
theorem d_Mo_code_92 : decode c_Mo_code 92 = .ok (.aload_n 0, 1) := by decide +kernel
theorem d_Mo_code_93 : decode c_Mo_code 93 = .ok (.getfield 7, 3) := by decide +kernel
theorem d_Mo_code_96 : decode c_Mo_code 96 = .ok (.aload_n 0, 1) := by decide +kernel
theorem d_Mo_code_97 : decode c_Mo_code 97 = .ok (.getfield 99, 3) := by decide +kernel
theorem d_Mo_code_100 : decode c_Mo_code 100 = .ok (.iadd, 1) := by decide +kernel
theorem d_Mo_code_101 : decode c_Mo_code 101 = .ok (.ireturn, 1) := by decide +kernel
theorem ok_Mo_code : tb_mV y_Mo_code c_Mo_code 5 (some .int) 3 := ⟨tb_810, tb_48, tb_808, tb_809, by decide +kernel⟩
abbrev c_Mo_makeGenerator : ByteArray := prog_9_method_12_code
abbrev y_Mo_makeGenerator : MethodName := ⟨"ReedSetsModel", "makeGenerator", "(II)V"⟩
theorem d_Mo_makeGenerator_0 : decode c_Mo_makeGenerator 0 = .ok (.iconst 0, 1) := by decide +kernel
theorem d_Mo_makeGenerator_1 : decode c_Mo_makeGenerator 1 = .ok (.istore_n 3, 1) := by decide +kernel
theorem d_Mo_makeGenerator_2 : decode c_Mo_makeGenerator 2 = .ok (.iload_n 3, 1) := by decide +kernel
theorem d_Mo_makeGenerator_3 : decode c_Mo_makeGenerator 3 = .ok (.bipush 40, 2) := by decide +kernel
theorem d_Mo_makeGenerator_5 : decode c_Mo_makeGenerator 5 = .ok (.if_icmp .gt 16, 3) := by decide +kernel
theorem d_Mo_makeGenerator_8 : decode c_Mo_makeGenerator 8 = .ok (.aload_n 0, 1) := by decide +kernel
theorem d_Mo_makeGenerator_9 : decode c_Mo_makeGenerator 9 = .ok (.getfield 21, 3) := by decide +kernel
theorem d_Mo_makeGenerator_12 : decode c_Mo_makeGenerator 12 = .ok (.iload_n 3, 1) := by decide +kernel
theorem d_Mo_makeGenerator_13 : decode c_Mo_makeGenerator 13 = .ok (.iconst 0, 1) := by decide +kernel
theorem d_Mo_makeGenerator_14 : decode c_Mo_makeGenerator 14 = .ok (.iastore, 1) := by decide +kernel
theorem d_Mo_makeGenerator_15 : decode c_Mo_makeGenerator 15 = .ok (.iinc 3 1, 3) := by decide +kernel
theorem d_Mo_makeGenerator_18 : decode c_Mo_makeGenerator 18 = .ok (.goto (-16), 3) := by decide +kernel
theorem d_Mo_makeGenerator_21 : decode c_Mo_makeGenerator 21 = .ok (.aload_n 0, 1) := by decide +kernel
theorem d_Mo_makeGenerator_22 : decode c_Mo_makeGenerator 22 = .ok (.getfield 21, 3) := by decide +kernel
theorem d_Mo_makeGenerator_25 : decode c_Mo_makeGenerator 25 = .ok (.iconst 0, 1) := by decide +kernel
theorem d_Mo_makeGenerator_26 : decode c_Mo_makeGenerator 26 = .ok (.iconst 1, 1) := by decide +kernel
theorem d_Mo_makeGenerator_27 : decode c_Mo_makeGenerator 27 = .ok (.iastore, 1) := by decide +kernel
theorem d_Mo_makeGenerator_28 : decode c_Mo_makeGenerator 28 = .ok (.iconst 0, 1) := by decide +kernel
theorem d_Mo_makeGenerator_29 : decode c_Mo_makeGenerator 29 = .ok (.istore_n 3, 1) := by decide +kernel
theorem d_Mo_makeGenerator_30 : decode c_Mo_makeGenerator 30 = .ok (.iload_n 3, 1) := by decide +kernel
theorem d_Mo_makeGenerator_31 : decode c_Mo_makeGenerator 31 = .ok (.iload_n 1, 1) := by decide +kernel
theorem d_Mo_makeGenerator_32 : decode c_Mo_makeGenerator 32 = .ok (.if_icmp .ge 71, 3) := by decide +kernel
theorem d_Mo_makeGenerator_35 : decode c_Mo_makeGenerator 35 = .ok (.iload_n 2, 1) := by decide +kernel
theorem d_Mo_makeGenerator_36 : decode c_Mo_makeGenerator 36 = .ok (.iload_n 3, 1) := by decide +kernel
theorem d_Mo_makeGenerator_37 : decode c_Mo_makeGenerator 37 = .ok (.iadd, 1) := by decide +kernel
theorem d_Mo_makeGenerator_38 : decode c_Mo_makeGenerator 38 = .ok (.invokestatic 105, 3) := by decide +kernel
theorem d_Mo_makeGenerator_41 : decode c_Mo_makeGenerator 41 = .ok (.istore 4, 2) := by decide +kernel
theorem d_Mo_makeGenerator_43 : decode c_Mo_makeGenerator 43 = .ok (.iload_n 3, 1) := by decide +kernel
theorem d_Mo_makeGenerator_44 : decode c_Mo_makeGenerator 44 = .ok (.iconst 1, 1) := by decide +kernel
theorem d_Mo_makeGenerator_45 : decode c_Mo_makeGenerator 45 = .ok (.iadd, 1) := by decide +kernel
theorem d_Mo_makeGenerator_46 : decode c_Mo_makeGenerator 46 = .ok (.istore 5, 2) := by decide +kernel
theorem d_Mo_makeGenerator_48 : decode c_Mo_makeGenerator 48 = .ok (.iload 5, 2) := by decide +kernel
theorem d_Mo_makeGenerator_50 : decode c_Mo_makeGenerator 50 = .ok (.ifCond .lt 47, 3) := by decide +kernel
theorem d_Mo_makeGenerator_53 : decode c_Mo_makeGenerator 53 = .ok (.aload_n 0, 1) := by decide +kernel
theorem d_Mo_makeGenerator_54 : decode c_Mo_makeGenerator 54 = .ok (.getfield 21, 3) := by decide +kernel
theorem d_Mo_makeGenerator_57 : decode c_Mo_makeGenerator 57 = .ok (.iload 5, 2) := by decide +kernel
theorem d_Mo_makeGenerator_59 : decode c_Mo_makeGenerator 59 = .ok (.iload 5, 2) := by decide +kernel
theorem d_Mo_makeGenerator_61 : decode c_Mo_makeGenerator 61 = .ok (.ifCond .le 15, 3) := by decide +kernel
theorem d_Mo_makeGenerator_64 : decode c_Mo_makeGenerator 64 = .ok (.aload_n 0, 1) := by decide +kernel
theorem d_Mo_makeGenerator_65 : decode c_Mo_makeGenerator 65 = .ok (.getfield 21, 3) := by decide +kernel
theorem d_Mo_makeGenerator_68 : decode c_Mo_makeGenerator 68 = .ok (.iload 5, 2) := by decide +kernel
theorem d_Mo_makeGenerator_70 : decode c_Mo_makeGenerator 70 = .ok (.iconst 1, 1) := by decide +kernel
theorem d_Mo_makeGenerator_71 : decode c_Mo_makeGenerator 71 = .ok (.isub, 1) := by decide +kernel
theorem d_Mo_makeGenerator_72 : decode c_Mo_makeGenerator 72 = .ok (.iaload, 1) := by decide +kernel
theorem d_Mo_makeGenerator_73 : decode c_Mo_makeGenerator 73 = .ok (.goto 4, 3) := by decide +kernel
theorem d_Mo_makeGenerator_76 : decode c_Mo_makeGenerator 76 = .ok (.iconst 0, 1) := by decide +kernel
theorem d_Mo_makeGenerator_77 : decode c_Mo_makeGenerator 77 = .ok (.aload_n 0, 1) := by decide +kernel
theorem d_Mo_makeGenerator_78 : decode c_Mo_makeGenerator 78 = .ok (.getfield 21, 3) := by decide +kernel
theorem d_Mo_makeGenerator_81 : decode c_Mo_makeGenerator 81 = .ok (.iload 5, 2) := by decide +kernel
theorem d_Mo_makeGenerator_83 : decode c_Mo_makeGenerator 83 = .ok (.iaload, 1) := by decide +kernel
theorem d_Mo_makeGenerator_84 : decode c_Mo_makeGenerator 84 = .ok (.iload 4, 2) := by decide +kernel
theorem d_Mo_makeGenerator_86 : decode c_Mo_makeGenerator 86 = .ok (.invokestatic 84, 3) := by decide +kernel
theorem d_Mo_makeGenerator_89 : decode c_Mo_makeGenerator 89 = .ok (.ixor, 1) := by decide +kernel
theorem d_Mo_makeGenerator_90 : decode c_Mo_makeGenerator 90 = .ok (.iastore, 1) := by decide +kernel
theorem d_Mo_makeGenerator_91 : decode c_Mo_makeGenerator 91 = .ok (.iinc 5 (-1), 3) := by decide +kernel
theorem d_Mo_makeGenerator_94 : decode c_Mo_makeGenerator 94 = .ok (.goto (-46), 3) := by decide +kernel
theorem d_Mo_makeGenerator_97 : decode c_Mo_makeGenerator 97 = .ok (.iinc 3 1, 3) := by decide +kernel
theorem d_Mo_makeGenerator_100 : decode c_Mo_makeGenerator 100 = .ok (.goto (-70), 3) := by decide +kernel
theorem d_Mo_makeGenerator_103 : decode c_Mo_makeGenerator 103 = .ok (.return_, 1) := by decide +kernel
theorem ok_Mo_makeGenerator : tb_mV y_Mo_makeGenerator c_Mo_makeGenerator 6 none 2 := ⟨tb_818, tb_48, tb_817, tb_21, by decide +kernel⟩
abbrev c_Mo_generator : ByteArray := prog_9_method_13_code
abbrev y_Mo_generator : MethodName := ⟨"ReedSetsModel", "generator", "(I)I"⟩
theorem d_Mo_generator_0 : decode c_Mo_generator 0 = .ok (.iload_n 1, 1) := by decide +kernel
theorem d_Mo_generator_1 : decode c_Mo_generator 1 = .ok (.ifCond .lt 11, 3) := by decide +kernel
theorem d_Mo_generator_4 : decode c_Mo_generator 4 = .ok (.iload_n 1, 1) := by decide +kernel
theorem d_Mo_generator_5 : decode c_Mo_generator 5 = .ok (.aload_n 0, 1) := by decide +kernel
theorem d_Mo_generator_6 : decode c_Mo_generator 6 = .ok (.getfield 99, 3) := by decide +kernel
theorem d_Mo_generator_9 : decode c_Mo_generator 9 = .ok (.if_icmp .le 5, 3) := by decide +kernel
theorem d_Mo_generator_12 : decode c_Mo_generator 12 = .ok (.iconst (-1), 1) := by decide +kernel
theorem d_Mo_generator_13 : decode c_Mo_generator 13 = .ok (.ireturn, 1) := by decide +kernel
theorem d_Mo_generator_14 : decode c_Mo_generator 14 = .ok (.aload_n 0, 1) := by decide +kernel
theorem d_Mo_generator_15 : decode c_Mo_generator 15 = .ok (.aload_n 0, 1) := by decide +kernel
theorem d_Mo_generator_16 : decode c_Mo_generator 16 = .ok (.getfield 99, 3) := by decide +kernel
theorem d_Mo_generator_19 : decode c_Mo_generator 19 = .ok (.aload_n 0, 1) := by decide +kernel
theorem d_Mo_generator_20 : decode c_Mo_generator 20 = .ok (.getfield 102, 3) := by decide +kernel
theorem d_Mo_generator_23 : decode c_Mo_generator 23 = .ok (.invokevirtual 108, 3) := by decide +kernel
theorem d_Mo_generator_26 : decode c_Mo_generator 26 = .ok (.aload_n 0, 1) := by decide +kernel
theorem d_Mo_generator_27 : decode c_Mo_generator 27 = .ok (.getfield 21, 3) := by decide +kernel
theorem d_Mo_generator_30 : decode c_Mo_generator 30 = .ok (.iload_n 1, 1) := by decide +kernel
theorem d_Mo_generator_31 : decode c_Mo_generator 31 = .ok (.iaload, 1) := by decide +kernel
theorem d_Mo_generator_32 : decode c_Mo_generator 32 = .ok (.ireturn, 1) := by decide +kernel
theorem ok_Mo_generator : tb_mV y_Mo_generator c_Mo_generator 2 (some .int) 1 := ⟨tb_814, tb_48, tb_812, tb_813, by decide +kernel⟩
abbrev c_Mo_isPlace : ByteArray := prog_9_method_14_code
abbrev y_Mo_isPlace : MethodName := ⟨"ReedSetsModel", "isPlace", "(I)Z"⟩
theorem d_Mo_isPlace_0 : decode c_Mo_isPlace 0 = .ok (.iload_n 1, 1) := by decide +kernel
theorem d_Mo_isPlace_1 : decode c_Mo_isPlace 1 = .ok (.ifCond .lt 20, 3) := by decide +kernel
theorem d_Mo_isPlace_4 : decode c_Mo_isPlace 4 = .ok (.iload_n 1, 1) := by decide +kernel
theorem d_Mo_isPlace_5 : decode c_Mo_isPlace 5 = .ok (.aload_n 0, 1) := by decide +kernel
theorem d_Mo_isPlace_6 : decode c_Mo_isPlace 6 = .ok (.getfield 7, 3) := by decide +kernel
theorem d_Mo_isPlace_9 : decode c_Mo_isPlace 9 = .ok (.aload_n 0, 1) := by decide +kernel
theorem d_Mo_isPlace_10 : decode c_Mo_isPlace 10 = .ok (.getfield 99, 3) := by decide +kernel
theorem d_Mo_isPlace_13 : decode c_Mo_isPlace 13 = .ok (.iadd, 1) := by decide +kernel
theorem d_Mo_isPlace_14 : decode c_Mo_isPlace 14 = .ok (.if_icmp .ge 7, 3) := by decide +kernel
theorem d_Mo_isPlace_17 : decode c_Mo_isPlace 17 = .ok (.iconst 1, 1) := by decide +kernel
theorem d_Mo_isPlace_18 : decode c_Mo_isPlace 18 = .ok (.goto 4, 3) := by decide +kernel
theorem d_Mo_isPlace_21 : decode c_Mo_isPlace 21 = .ok (.iconst 0, 1) := by decide +kernel
theorem d_Mo_isPlace_22 : decode c_Mo_isPlace 22 = .ok (.ireturn, 1) := by decide +kernel
theorem ok_Mo_isPlace : tb_mV y_Mo_isPlace c_Mo_isPlace 2 (some .boolean) 1 := ⟨tb_829, tb_48, tb_828, tb_22, by decide +kernel⟩
abbrev c_Mo_put : ByteArray := prog_9_method_15_code
abbrev y_Mo_put : MethodName := ⟨"ReedSetsModel", "put", "(II)I"⟩
theorem d_Mo_put_0 : decode c_Mo_put 0 = .ok (.aload_n 0, 1) := by decide +kernel
theorem d_Mo_put_1 : decode c_Mo_put 1 = .ok (.iload_n 1, 1) := by decide +kernel
theorem d_Mo_put_2 : decode c_Mo_put 2 = .ok (.invokevirtual 112, 3) := by decide +kernel
theorem d_Mo_put_5 : decode c_Mo_put 5 = .ok (.ifCond .eq 10, 3) := by decide +kernel
theorem d_Mo_put_8 : decode c_Mo_put 8 = .ok (.iload_n 2, 1) := by decide +kernel
theorem d_Mo_put_9 : decode c_Mo_put 9 = .ok (.invokestatic 91, 3) := by decide +kernel
theorem d_Mo_put_12 : decode c_Mo_put 12 = .ok (.ifCond .ne 5, 3) := by decide +kernel
theorem d_Mo_put_15 : decode c_Mo_put 15 = .ok (.iconst (-1), 1) := by decide +kernel
theorem d_Mo_put_16 : decode c_Mo_put 16 = .ok (.ireturn, 1) := by decide +kernel
theorem d_Mo_put_17 : decode c_Mo_put 17 = .ok (.aload_n 0, 1) := by decide +kernel
theorem d_Mo_put_18 : decode c_Mo_put 18 = .ok (.getfield 13, 3) := by decide +kernel
theorem d_Mo_put_21 : decode c_Mo_put 21 = .ok (.iload_n 1, 1) := by decide +kernel
theorem d_Mo_put_22 : decode c_Mo_put 22 = .ok (.iaload, 1) := by decide +kernel
theorem d_Mo_put_23 : decode c_Mo_put 23 = .ok (.istore_n 3, 1) := by decide +kernel
theorem d_Mo_put_24 : decode c_Mo_put 24 = .ok (.aload_n 0, 1) := by decide +kernel
theorem d_Mo_put_25 : decode c_Mo_put 25 = .ok (.getfield 13, 3) := by decide +kernel
theorem d_Mo_put_28 : decode c_Mo_put 28 = .ok (.iload_n 1, 1) := by decide +kernel
theorem d_Mo_put_29 : decode c_Mo_put 29 = .ok (.iload_n 2, 1) := by decide +kernel
theorem d_Mo_put_30 : decode c_Mo_put 30 = .ok (.iastore, 1) := by decide +kernel
theorem d_Mo_put_31 : decode c_Mo_put 31 = .ok (.iload_n 3, 1) := by decide +kernel
theorem d_Mo_put_32 : decode c_Mo_put 32 = .ok (.ireturn, 1) := by decide +kernel
theorem ok_Mo_put : tb_mV y_Mo_put c_Mo_put 4 (some .int) 2 := ⟨tb_825, tb_48, tb_823, tb_824, by decide +kernel⟩
abbrev c_Mo_encodeWork : ByteArray := prog_9_method_16_code
abbrev y_Mo_encodeWork : MethodName := ⟨"ReedSetsModel", "encodeWork", "(III)V"⟩
theorem d_Mo_encodeWork_0 : decode c_Mo_encodeWork 0 = .ok (.aload_n 0, 1) := by decide +kernel
theorem d_Mo_encodeWork_1 : decode c_Mo_encodeWork 1 = .ok (.iload_n 2, 1) := by decide +kernel
theorem d_Mo_encodeWork_2 : decode c_Mo_encodeWork 2 = .ok (.iload_n 3, 1) := by decide +kernel
theorem d_Mo_encodeWork_3 : decode c_Mo_encodeWork 3 = .ok (.invokevirtual 108, 3) := by decide +kernel
theorem d_Mo_encodeWork_6 : decode c_Mo_encodeWork 6 = .ok (.iconst 0, 1) := by decide +kernel
theorem d_Mo_encodeWork_7 : decode c_Mo_encodeWork 7 = .ok (.istore 4, 2) := by decide +kernel
theorem d_Mo_encodeWork_9 : decode c_Mo_encodeWork 9 = .ok (.iload 4, 2) := by decide +kernel
theorem d_Mo_encodeWork_11 : decode c_Mo_encodeWork 11 = .ok (.iload_n 2, 1) := by decide +kernel
theorem d_Mo_encodeWork_12 : decode c_Mo_encodeWork 12 = .ok (.if_icmp .ge 17, 3) := by decide +kernel
theorem d_Mo_encodeWork_15 : decode c_Mo_encodeWork 15 = .ok (.aload_n 0, 1) := by decide +kernel
theorem d_Mo_encodeWork_16 : decode c_Mo_encodeWork 16 = .ok (.getfield 39, 3) := by decide +kernel
theorem d_Mo_encodeWork_19 : decode c_Mo_encodeWork 19 = .ok (.iload 4, 2) := by decide +kernel
theorem d_Mo_encodeWork_21 : decode c_Mo_encodeWork 21 = .ok (.iconst 0, 1) := by decide +kernel
theorem d_Mo_encodeWork_22 : decode c_Mo_encodeWork 22 = .ok (.iastore, 1) := by decide +kernel
theorem d_Mo_encodeWork_23 : decode c_Mo_encodeWork 23 = .ok (.iinc 4 1, 3) := by decide +kernel
theorem d_Mo_encodeWork_26 : decode c_Mo_encodeWork 26 = .ok (.goto (-17), 3) := by decide +kernel
theorem d_Mo_encodeWork_29 : decode c_Mo_encodeWork 29 = .ok (.iconst 0, 1) := by decide +kernel
theorem d_Mo_encodeWork_30 : decode c_Mo_encodeWork 30 = .ok (.istore 4, 2) := by decide +kernel
theorem d_Mo_encodeWork_32 : decode c_Mo_encodeWork 32 = .ok (.iload 4, 2) := by decide +kernel
theorem d_Mo_encodeWork_34 : decode c_Mo_encodeWork 34 = .ok (.iload_n 1, 1) := by decide +kernel
theorem d_Mo_encodeWork_35 : decode c_Mo_encodeWork 35 = .ok (.if_icmp .ge 97, 3) := by decide +kernel
theorem d_Mo_encodeWork_38 : decode c_Mo_encodeWork 38 = .ok (.aload_n 0, 1) := by decide +kernel
theorem d_Mo_encodeWork_39 : decode c_Mo_encodeWork 39 = .ok (.getfield 30, 3) := by decide +kernel
theorem d_Mo_encodeWork_42 : decode c_Mo_encodeWork 42 = .ok (.iload 4, 2) := by decide +kernel
theorem d_Mo_encodeWork_44 : decode c_Mo_encodeWork 44 = .ok (.iaload, 1) := by decide +kernel
theorem d_Mo_encodeWork_45 : decode c_Mo_encodeWork 45 = .ok (.iload_n 2, 1) := by decide +kernel
theorem d_Mo_encodeWork_46 : decode c_Mo_encodeWork 46 = .ok (.ifCond .le 12, 3) := by decide +kernel
theorem d_Mo_encodeWork_49 : decode c_Mo_encodeWork 49 = .ok (.aload_n 0, 1) := by decide +kernel
theorem d_Mo_encodeWork_50 : decode c_Mo_encodeWork 50 = .ok (.getfield 39, 3) := by decide +kernel
theorem d_Mo_encodeWork_53 : decode c_Mo_encodeWork 53 = .ok (.iconst 0, 1) := by decide +kernel
theorem d_Mo_encodeWork_54 : decode c_Mo_encodeWork 54 = .ok (.iaload, 1) := by decide +kernel
theorem d_Mo_encodeWork_55 : decode c_Mo_encodeWork 55 = .ok (.goto 4, 3) := by decide +kernel
theorem d_Mo_encodeWork_58 : decode c_Mo_encodeWork 58 = .ok (.iconst 0, 1) := by decide +kernel
theorem d_Mo_encodeWork_59 : decode c_Mo_encodeWork 59 = .ok (.ixor, 1) := by decide +kernel
theorem d_Mo_encodeWork_60 : decode c_Mo_encodeWork 60 = .ok (.istore 5, 2) := by decide +kernel
theorem d_Mo_encodeWork_62 : decode c_Mo_encodeWork 62 = .ok (.iconst 0, 1) := by decide +kernel
theorem d_Mo_encodeWork_63 : decode c_Mo_encodeWork 63 = .ok (.istore 6, 2) := by decide +kernel
theorem d_Mo_encodeWork_65 : decode c_Mo_encodeWork 65 = .ok (.iload 6, 2) := by decide +kernel
theorem d_Mo_encodeWork_67 : decode c_Mo_encodeWork 67 = .ok (.iload_n 2, 1) := by decide +kernel
theorem d_Mo_encodeWork_68 : decode c_Mo_encodeWork 68 = .ok (.if_icmp .ge 58, 3) := by decide +kernel
theorem d_Mo_encodeWork_71 : decode c_Mo_encodeWork 71 = .ok (.iload 6, 2) := by decide +kernel
theorem d_Mo_encodeWork_73 : decode c_Mo_encodeWork 73 = .ok (.iconst 1, 1) := by decide +kernel
theorem d_Mo_encodeWork_74 : decode c_Mo_encodeWork 74 = .ok (.iadd, 1) := by decide +kernel
theorem d_Mo_encodeWork_75 : decode c_Mo_encodeWork 75 = .ok (.iload_n 2, 1) := by decide +kernel
theorem d_Mo_encodeWork_76 : decode c_Mo_encodeWork 76 = .ok (.if_icmp .ge 15, 3) := by decide +kernel
theorem d_Mo_encodeWork_79 : decode c_Mo_encodeWork 79 = .ok (.aload_n 0, 1) := by decide +kernel
theorem d_Mo_encodeWork_80 : decode c_Mo_encodeWork 80 = .ok (.getfield 39, 3) := by decide +kernel
theorem d_Mo_encodeWork_83 : decode c_Mo_encodeWork 83 = .ok (.iload 6, 2) := by decide +kernel
theorem d_Mo_encodeWork_85 : decode c_Mo_encodeWork 85 = .ok (.iconst 1, 1) := by decide +kernel
theorem d_Mo_encodeWork_86 : decode c_Mo_encodeWork 86 = .ok (.iadd, 1) := by decide +kernel
theorem d_Mo_encodeWork_87 : decode c_Mo_encodeWork 87 = .ok (.iaload, 1) := by decide +kernel
theorem d_Mo_encodeWork_88 : decode c_Mo_encodeWork 88 = .ok (.goto 4, 3) := by decide +kernel
theorem d_Mo_encodeWork_91 : decode c_Mo_encodeWork 91 = .ok (.iconst 0, 1) := by decide +kernel
theorem d_Mo_encodeWork_92 : decode c_Mo_encodeWork 92 = .ok (.istore 7, 2) := by decide +kernel
theorem d_Mo_encodeWork_94 : decode c_Mo_encodeWork 94 = .ok (.aload_n 0, 1) := by decide +kernel
theorem d_Mo_encodeWork_95 : decode c_Mo_encodeWork 95 = .ok (.getfield 39, 3) := by decide +kernel
theorem d_Mo_encodeWork_98 : decode c_Mo_encodeWork 98 = .ok (.iload 6, 2) := by decide +kernel
theorem d_Mo_encodeWork_100 : decode c_Mo_encodeWork 100 = .ok (.iload 7, 2) := by decide +kernel
theorem d_Mo_encodeWork_102 : decode c_Mo_encodeWork 102 = .ok (.iload 5, 2) := by decide +kernel
theorem d_Mo_encodeWork_104 : decode c_Mo_encodeWork 104 = .ok (.aload_n 0, 1) := by decide +kernel
theorem d_Mo_encodeWork_105 : decode c_Mo_encodeWork 105 = .ok (.getfield 21, 3) := by decide +kernel
theorem d_Mo_encodeWork_108 : decode c_Mo_encodeWork 108 = .ok (.iload_n 2, 1) := by decide +kernel
theorem d_Mo_encodeWork_109 : decode c_Mo_encodeWork 109 = .ok (.iconst 1, 1) := by decide +kernel
theorem d_Mo_encodeWork_110 : decode c_Mo_encodeWork 110 = .ok (.isub, 1) := by decide +kernel
theorem d_Mo_encodeWork_111 : decode c_Mo_encodeWork 111 = .ok (.iload 6, 2) := by decide +kernel
theorem d_Mo_encodeWork_113 : decode c_Mo_encodeWork 113 = .ok (.isub, 1) := by decide +kernel
theorem d_Mo_encodeWork_114 : decode c_Mo_encodeWork 114 = .ok (.iaload, 1) := by decide +kernel
theorem d_Mo_encodeWork_115 : decode c_Mo_encodeWork 115 = .ok (.invokestatic 84, 3) := by decide +kernel
theorem d_Mo_encodeWork_118 : decode c_Mo_encodeWork 118 = .ok (.ixor, 1) := by decide +kernel
theorem d_Mo_encodeWork_119 : decode c_Mo_encodeWork 119 = .ok (.iastore, 1) := by decide +kernel
theorem d_Mo_encodeWork_120 : decode c_Mo_encodeWork 120 = .ok (.iinc 6 1, 3) := by decide +kernel
theorem d_Mo_encodeWork_123 : decode c_Mo_encodeWork 123 = .ok (.goto (-58), 3) := by decide +kernel
theorem d_Mo_encodeWork_126 : decode c_Mo_encodeWork 126 = .ok (.iinc 4 1, 3) := by decide +kernel
theorem d_Mo_encodeWork_129 : decode c_Mo_encodeWork 129 = .ok (.goto (-97), 3) := by decide +kernel
theorem d_Mo_encodeWork_132 : decode c_Mo_encodeWork 132 = .ok (.iconst 0, 1) := by decide +kernel
theorem d_Mo_encodeWork_133 : decode c_Mo_encodeWork 133 = .ok (.istore 4, 2) := by decide +kernel
theorem d_Mo_encodeWork_135 : decode c_Mo_encodeWork 135 = .ok (.iload 4, 2) := by decide +kernel
theorem d_Mo_encodeWork_137 : decode c_Mo_encodeWork 137 = .ok (.iload_n 2, 1) := by decide +kernel
theorem d_Mo_encodeWork_138 : decode c_Mo_encodeWork 138 = .ok (.if_icmp .ge 25, 3) := by decide +kernel
theorem d_Mo_encodeWork_141 : decode c_Mo_encodeWork 141 = .ok (.aload_n 0, 1) := by decide +kernel
theorem d_Mo_encodeWork_142 : decode c_Mo_encodeWork 142 = .ok (.getfield 30, 3) := by decide +kernel
theorem d_Mo_encodeWork_145 : decode c_Mo_encodeWork 145 = .ok (.iload_n 1, 1) := by decide +kernel
theorem d_Mo_encodeWork_146 : decode c_Mo_encodeWork 146 = .ok (.iload 4, 2) := by decide +kernel
theorem d_Mo_encodeWork_148 : decode c_Mo_encodeWork 148 = .ok (.iadd, 1) := by decide +kernel
theorem d_Mo_encodeWork_149 : decode c_Mo_encodeWork 149 = .ok (.aload_n 0, 1) := by decide +kernel
theorem d_Mo_encodeWork_150 : decode c_Mo_encodeWork 150 = .ok (.getfield 39, 3) := by decide +kernel
theorem d_Mo_encodeWork_153 : decode c_Mo_encodeWork 153 = .ok (.iload 4, 2) := by decide +kernel
theorem d_Mo_encodeWork_155 : decode c_Mo_encodeWork 155 = .ok (.iaload, 1) := by decide +kernel
theorem d_Mo_encodeWork_156 : decode c_Mo_encodeWork 156 = .ok (.iastore, 1) := by decide +kernel
theorem d_Mo_encodeWork_157 : decode c_Mo_encodeWork 157 = .ok (.iinc 4 1, 3) := by decide +kernel
theorem d_Mo_encodeWork_160 : decode c_Mo_encodeWork 160 = .ok (.goto (-25), 3) := by decide +kernel
theorem d_Mo_encodeWork_163 : decode c_Mo_encodeWork 163 = .ok (.return_, 1) := by decide +kernel
theorem ok_Mo_encodeWork : tb_mV y_Mo_encodeWork c_Mo_encodeWork 8 none 3 := ⟨tb_837, tb_48, tb_836, tb_23, by decide +kernel⟩
abbrev c_Mo_encode : ByteArray := prog_9_method_17_code
abbrev y_Mo_encode : MethodName := ⟨"ReedSetsModel", "encode", "()I"⟩
theorem d_Mo_encode_0 : decode c_Mo_encode 0 = .ok (.iconst 0, 1) := by decide +kernel
theorem d_Mo_encode_1 : decode c_Mo_encode 1 = .ok (.istore_n 1, 1) := by decide +kernel
theorem d_Mo_encode_2 : decode c_Mo_encode 2 = .ok (.iload_n 1, 1) := by decide +kernel
theorem d_Mo_encode_3 : decode c_Mo_encode 3 = .ok (.aload_n 0, 1) := by decide +kernel
theorem d_Mo_encode_4 : decode c_Mo_encode 4 = .ok (.getfield 7, 3) := by decide +kernel
theorem d_Mo_encode_7 : decode c_Mo_encode 7 = .ok (.if_icmp .ge 20, 3) := by decide +kernel
theorem d_Mo_encode_10 : decode c_Mo_encode 10 = .ok (.aload_n 0, 1) := by decide +kernel
theorem d_Mo_encode_11 : decode c_Mo_encode 11 = .ok (.getfield 17, 3) := by decide +kernel
theorem d_Mo_encode_14 : decode c_Mo_encode 14 = .ok (.iload_n 1, 1) := by decide +kernel
theorem d_Mo_encode_15 : decode c_Mo_encode 15 = .ok (.baload, 1) := by decide +kernel
theorem d_Mo_encode_16 : decode c_Mo_encode 16 = .ok (.ifCond .eq 5, 3) := by decide +kernel
theorem d_Mo_encode_19 : decode c_Mo_encode 19 = .ok (.iconst (-1), 1) := by decide +kernel
theorem d_Mo_encode_20 : decode c_Mo_encode 20 = .ok (.ireturn, 1) := by decide +kernel
theorem d_Mo_encode_21 : decode c_Mo_encode 21 = .ok (.iinc 1 1, 3) := by decide +kernel
theorem d_Mo_encode_24 : decode c_Mo_encode 24 = .ok (.goto (-22), 3) := by decide +kernel
theorem d_Mo_encode_27 : decode c_Mo_encode 27 = .ok (.iconst 0, 1) := by decide +kernel
theorem d_Mo_encode_28 : decode c_Mo_encode 28 = .ok (.istore_n 1, 1) := by decide +kernel
theorem d_Mo_encode_29 : decode c_Mo_encode 29 = .ok (.iload_n 1, 1) := by decide +kernel
theorem d_Mo_encode_30 : decode c_Mo_encode 30 = .ok (.aload_n 0, 1) := by decide +kernel
theorem d_Mo_encode_31 : decode c_Mo_encode 31 = .ok (.getfield 7, 3) := by decide +kernel
theorem d_Mo_encode_34 : decode c_Mo_encode 34 = .ok (.if_icmp .ge 21, 3) := by decide +kernel
theorem d_Mo_encode_37 : decode c_Mo_encode 37 = .ok (.aload_n 0, 1) := by decide +kernel
theorem d_Mo_encode_38 : decode c_Mo_encode 38 = .ok (.getfield 30, 3) := by decide +kernel
theorem d_Mo_encode_41 : decode c_Mo_encode 41 = .ok (.iload_n 1, 1) := by decide +kernel
theorem d_Mo_encode_42 : decode c_Mo_encode 42 = .ok (.aload_n 0, 1) := by decide +kernel
theorem d_Mo_encode_43 : decode c_Mo_encode 43 = .ok (.getfield 13, 3) := by decide +kernel
theorem d_Mo_encode_46 : decode c_Mo_encode 46 = .ok (.iload_n 1, 1) := by decide +kernel
theorem d_Mo_encode_47 : decode c_Mo_encode 47 = .ok (.iaload, 1) := by decide +kernel
theorem d_Mo_encode_48 : decode c_Mo_encode 48 = .ok (.iastore, 1) := by decide +kernel
theorem d_Mo_encode_49 : decode c_Mo_encode 49 = .ok (.iinc 1 1, 3) := by decide +kernel
theorem d_Mo_encode_52 : decode c_Mo_encode 52 = .ok (.goto (-23), 3) := by decide +kernel
theorem d_Mo_encode_55 : decode c_Mo_encode 55 = .ok (.aload_n 0, 1) := by decide +kernel
theorem d_Mo_encode_56 : decode c_Mo_encode 56 = .ok (.aload_n 0, 1) := by decide +kernel
theorem d_Mo_encode_57 : decode c_Mo_encode 57 = .ok (.getfield 7, 3) := by decide +kernel
theorem d_Mo_encode_60 : decode c_Mo_encode 60 = .ok (.aload_n 0, 1) := by decide +kernel
theorem d_Mo_encode_61 : decode c_Mo_encode 61 = .ok (.getfield 99, 3) := by decide +kernel
theorem d_Mo_encode_64 : decode c_Mo_encode 64 = .ok (.aload_n 0, 1) := by decide +kernel
theorem d_Mo_encode_65 : decode c_Mo_encode 65 = .ok (.getfield 102, 3) := by decide +kernel
theorem d_Mo_encode_68 : decode c_Mo_encode 68 = .ok (.invokevirtual 115, 3) := by decide +kernel
theorem d_Mo_encode_71 : decode c_Mo_encode 71 = .ok (.iconst 0, 1) := by decide +kernel
theorem d_Mo_encode_72 : decode c_Mo_encode 72 = .ok (.istore_n 1, 1) := by decide +kernel
theorem d_Mo_encode_73 : decode c_Mo_encode 73 = .ok (.iload_n 1, 1) := by decide +kernel
theorem d_Mo_encode_74 : decode c_Mo_encode 74 = .ok (.aload_n 0, 1) := by decide +kernel
theorem d_Mo_encode_75 : decode c_Mo_encode 75 = .ok (.getfield 7, 3) := by decide +kernel
theorem d_Mo_encode_78 : decode c_Mo_encode 78 = .ok (.aload_n 0, 1) := by decide +kernel
theorem d_Mo_encode_79 : decode c_Mo_encode 79 = .ok (.getfield 99, 3) := by decide +kernel
theorem d_Mo_encode_82 : decode c_Mo_encode 82 = .ok (.iadd, 1) := by decide +kernel
theorem d_Mo_encode_83 : decode c_Mo_encode 83 = .ok (.if_icmp .ge 28, 3) := by decide +kernel
theorem d_Mo_encode_86 : decode c_Mo_encode 86 = .ok (.aload_n 0, 1) := by decide +kernel
theorem d_Mo_encode_87 : decode c_Mo_encode 87 = .ok (.getfield 13, 3) := by decide +kernel
theorem d_Mo_encode_90 : decode c_Mo_encode 90 = .ok (.iload_n 1, 1) := by decide +kernel
theorem d_Mo_encode_91 : decode c_Mo_encode 91 = .ok (.aload_n 0, 1) := by decide +kernel
theorem d_Mo_encode_92 : decode c_Mo_encode 92 = .ok (.getfield 30, 3) := by decide +kernel
theorem d_Mo_encode_95 : decode c_Mo_encode 95 = .ok (.iload_n 1, 1) := by decide +kernel
theorem d_Mo_encode_96 : decode c_Mo_encode 96 = .ok (.iaload, 1) := by decide +kernel
theorem d_Mo_encode_97 : decode c_Mo_encode 97 = .ok (.iastore, 1) := by decide +kernel
theorem d_Mo_encode_98 : decode c_Mo_encode 98 = .ok (.aload_n 0, 1) := by decide +kernel
theorem d_Mo_encode_99 : decode c_Mo_encode 99 = .ok (.getfield 17, 3) := by decide +kernel
theorem d_Mo_encode_102 : decode c_Mo_encode 102 = .ok (.iload_n 1, 1) := by decide +kernel
theorem d_Mo_encode_103 : decode c_Mo_encode 103 = .ok (.iconst 0, 1) := by decide +kernel
theorem d_Mo_encode_104 : decode c_Mo_encode 104 = .ok (.bastore, 1) := by decide +kernel
theorem d_Mo_encode_105 : decode c_Mo_encode 105 = .ok (.iinc 1 1, 3) := by decide +kernel
theorem d_Mo_encode_108 : decode c_Mo_encode 108 = .ok (.goto (-35), 3) := by decide +kernel
theorem d_Mo_encode_111 : decode c_Mo_encode 111 = .ok (.iconst 1, 1) := by decide +kernel
theorem d_Mo_encode_112 : decode c_Mo_encode 112 = .ok (.ireturn, 1) := by decide +kernel
theorem ok_Mo_encode : tb_mV y_Mo_encode c_Mo_encode 2 (some .int) 0 := ⟨tb_833, tb_48, tb_831, tb_832, by decide +kernel⟩
abbrev c_Mo_at : ByteArray := prog_9_method_18_code
abbrev y_Mo_at : MethodName := ⟨"ReedSetsModel", "at", "(I)I"⟩
theorem d_Mo_at_0 : decode c_Mo_at 0 = .ok (.aload_n 0, 1) := by decide +kernel
theorem d_Mo_at_1 : decode c_Mo_at 1 = .ok (.iload_n 1, 1) := by decide +kernel
theorem d_Mo_at_2 : decode c_Mo_at 2 = .ok (.invokevirtual 112, 3) := by decide +kernel
theorem d_Mo_at_5 : decode c_Mo_at 5 = .ok (.ifCond .eq 12, 3) := by decide +kernel
theorem d_Mo_at_8 : decode c_Mo_at 8 = .ok (.aload_n 0, 1) := by decide +kernel
theorem d_Mo_at_9 : decode c_Mo_at 9 = .ok (.getfield 13, 3) := by decide +kernel
theorem d_Mo_at_12 : decode c_Mo_at 12 = .ok (.iload_n 1, 1) := by decide +kernel
theorem d_Mo_at_13 : decode c_Mo_at 13 = .ok (.iaload, 1) := by decide +kernel
theorem d_Mo_at_14 : decode c_Mo_at 14 = .ok (.goto 4, 3) := by decide +kernel
theorem d_Mo_at_17 : decode c_Mo_at 17 = .ok (.iconst (-1), 1) := by decide +kernel
theorem d_Mo_at_18 : decode c_Mo_at 18 = .ok (.ireturn, 1) := by decide +kernel
theorem ok_Mo_at : tb_mV y_Mo_at c_Mo_at 2 (some .int) 1 := ⟨tb_841, tb_48, tb_839, tb_840, by decide +kernel⟩
abbrev c_Mo_lose : ByteArray := prog_9_method_19_code
abbrev y_Mo_lose : MethodName := ⟨"ReedSetsModel", "lose", "(I)I"⟩
theorem d_Mo_lose_0 : decode c_Mo_lose 0 = .ok (.aload_n 0, 1) := by decide +kernel
theorem d_Mo_lose_1 : decode c_Mo_lose 1 = .ok (.iload_n 1, 1) := by decide +kernel
theorem d_Mo_lose_2 : decode c_Mo_lose 2 = .ok (.invokevirtual 112, 3) := by decide +kernel
theorem d_Mo_lose_5 : decode c_Mo_lose 5 = .ok (.ifCond .eq 12, 3) := by decide +kernel
theorem d_Mo_lose_8 : decode c_Mo_lose 8 = .ok (.aload_n 0, 1) := by decide +kernel
theorem d_Mo_lose_9 : decode c_Mo_lose 9 = .ok (.getfield 17, 3) := by decide +kernel
theorem d_Mo_lose_12 : decode c_Mo_lose 12 = .ok (.iload_n 1, 1) := by decide +kernel
theorem d_Mo_lose_13 : decode c_Mo_lose 13 = .ok (.baload, 1) := by decide +kernel
theorem d_Mo_lose_14 : decode c_Mo_lose 14 = .ok (.ifCond .eq 5, 3) := by decide +kernel
theorem d_Mo_lose_17 : decode c_Mo_lose 17 = .ok (.iconst (-1), 1) := by decide +kernel
theorem d_Mo_lose_18 : decode c_Mo_lose 18 = .ok (.ireturn, 1) := by decide +kernel
theorem d_Mo_lose_19 : decode c_Mo_lose 19 = .ok (.aload_n 0, 1) := by decide +kernel
theorem d_Mo_lose_20 : decode c_Mo_lose 20 = .ok (.getfield 17, 3) := by decide +kernel
theorem d_Mo_lose_23 : decode c_Mo_lose 23 = .ok (.iload_n 1, 1) := by decide +kernel
theorem d_Mo_lose_24 : decode c_Mo_lose 24 = .ok (.iconst 1, 1) := by decide +kernel
theorem d_Mo_lose_25 : decode c_Mo_lose 25 = .ok (.bastore, 1) := by decide +kernel
theorem d_Mo_lose_26 : decode c_Mo_lose 26 = .ok (.iconst 0, 1) := by decide +kernel
theorem d_Mo_lose_27 : decode c_Mo_lose 27 = .ok (.istore_n 2, 1) := by decide +kernel
theorem d_Mo_lose_28 : decode c_Mo_lose 28 = .ok (.iconst 0, 1) := by decide +kernel
theorem d_Mo_lose_29 : decode c_Mo_lose 29 = .ok (.istore_n 3, 1) := by decide +kernel
theorem d_Mo_lose_30 : decode c_Mo_lose 30 = .ok (.iload_n 3, 1) := by decide +kernel
theorem d_Mo_lose_31 : decode c_Mo_lose 31 = .ok (.aload_n 0, 1) := by decide +kernel
theorem d_Mo_lose_32 : decode c_Mo_lose 32 = .ok (.getfield 7, 3) := by decide +kernel
theorem d_Mo_lose_35 : decode c_Mo_lose 35 = .ok (.aload_n 0, 1) := by decide +kernel
theorem d_Mo_lose_36 : decode c_Mo_lose 36 = .ok (.getfield 99, 3) := by decide +kernel
theorem d_Mo_lose_39 : decode c_Mo_lose 39 = .ok (.iadd, 1) := by decide +kernel
theorem d_Mo_lose_40 : decode c_Mo_lose 40 = .ok (.if_icmp .ge 26, 3) := by decide +kernel
theorem d_Mo_lose_43 : decode c_Mo_lose 43 = .ok (.iload_n 2, 1) := by decide +kernel
theorem d_Mo_lose_44 : decode c_Mo_lose 44 = .ok (.aload_n 0, 1) := by decide +kernel
theorem d_Mo_lose_45 : decode c_Mo_lose 45 = .ok (.getfield 17, 3) := by decide +kernel
theorem d_Mo_lose_48 : decode c_Mo_lose 48 = .ok (.iload_n 3, 1) := by decide +kernel
theorem d_Mo_lose_49 : decode c_Mo_lose 49 = .ok (.baload, 1) := by decide +kernel
theorem d_Mo_lose_50 : decode c_Mo_lose 50 = .ok (.ifCond .eq 7, 3) := by decide +kernel
theorem d_Mo_lose_53 : decode c_Mo_lose 53 = .ok (.iconst 1, 1) := by decide +kernel
theorem d_Mo_lose_54 : decode c_Mo_lose 54 = .ok (.goto 4, 3) := by decide +kernel
theorem d_Mo_lose_57 : decode c_Mo_lose 57 = .ok (.iconst 0, 1) := by decide +kernel
theorem d_Mo_lose_58 : decode c_Mo_lose 58 = .ok (.iadd, 1) := by decide +kernel
theorem d_Mo_lose_59 : decode c_Mo_lose 59 = .ok (.istore_n 2, 1) := by decide +kernel
theorem d_Mo_lose_60 : decode c_Mo_lose 60 = .ok (.iinc 3 1, 3) := by decide +kernel
theorem d_Mo_lose_63 : decode c_Mo_lose 63 = .ok (.goto (-33), 3) := by decide +kernel
theorem d_Mo_lose_66 : decode c_Mo_lose 66 = .ok (.iload_n 2, 1) := by decide +kernel
theorem d_Mo_lose_67 : decode c_Mo_lose 67 = .ok (.ireturn, 1) := by decide +kernel
theorem ok_Mo_lose : tb_mV y_Mo_lose c_Mo_lose 4 (some .int) 1 := ⟨tb_845, tb_48, tb_843, tb_844, by decide +kernel⟩
abbrev c_Mo_valueAt : ByteArray := prog_9_method_20_code
abbrev y_Mo_valueAt : MethodName := ⟨"ReedSetsModel", "valueAt", "(I)I"⟩
theorem d_Mo_valueAt_0 : decode c_Mo_valueAt 0 = .ok (.iconst 0, 1) := by decide +kernel
theorem d_Mo_valueAt_1 : decode c_Mo_valueAt 1 = .ok (.istore_n 2, 1) := by decide +kernel
theorem d_Mo_valueAt_2 : decode c_Mo_valueAt 2 = .ok (.iconst 0, 1) := by decide +kernel
theorem d_Mo_valueAt_3 : decode c_Mo_valueAt 3 = .ok (.istore_n 3, 1) := by decide +kernel
theorem d_Mo_valueAt_4 : decode c_Mo_valueAt 4 = .ok (.iload_n 3, 1) := by decide +kernel
theorem d_Mo_valueAt_5 : decode c_Mo_valueAt 5 = .ok (.aload_n 0, 1) := by decide +kernel
theorem d_Mo_valueAt_6 : decode c_Mo_valueAt 6 = .ok (.getfield 119, 3) := by decide +kernel
theorem d_Mo_valueAt_9 : decode c_Mo_valueAt 9 = .ok (.if_icmp .ge 35, 3) := by decide +kernel
theorem d_Mo_valueAt_12 : decode c_Mo_valueAt 12 = .ok (.iload_n 2, 1) := by decide +kernel
theorem d_Mo_valueAt_13 : decode c_Mo_valueAt 13 = .ok (.iload_n 1, 1) := by decide +kernel
theorem d_Mo_valueAt_14 : decode c_Mo_valueAt 14 = .ok (.invokestatic 84, 3) := by decide +kernel
theorem d_Mo_valueAt_17 : decode c_Mo_valueAt 17 = .ok (.aload_n 0, 1) := by decide +kernel
theorem d_Mo_valueAt_18 : decode c_Mo_valueAt 18 = .ok (.getfield 33, 3) := by decide +kernel
theorem d_Mo_valueAt_21 : decode c_Mo_valueAt 21 = .ok (.iload_n 3, 1) := by decide +kernel
theorem d_Mo_valueAt_22 : decode c_Mo_valueAt 22 = .ok (.baload, 1) := by decide +kernel
theorem d_Mo_valueAt_23 : decode c_Mo_valueAt 23 = .ok (.ifCond .eq 7, 3) := by decide +kernel
theorem d_Mo_valueAt_26 : decode c_Mo_valueAt 26 = .ok (.iconst 0, 1) := by decide +kernel
theorem d_Mo_valueAt_27 : decode c_Mo_valueAt 27 = .ok (.goto 9, 3) := by decide +kernel
theorem d_Mo_valueAt_30 : decode c_Mo_valueAt 30 = .ok (.aload_n 0, 1) := by decide +kernel
theorem d_Mo_valueAt_31 : decode c_Mo_valueAt 31 = .ok (.getfield 30, 3) := by decide +kernel
theorem d_Mo_valueAt_34 : decode c_Mo_valueAt 34 = .ok (.iload_n 3, 1) := by decide +kernel
theorem d_Mo_valueAt_35 : decode c_Mo_valueAt 35 = .ok (.iaload, 1) := by decide +kernel
theorem d_Mo_valueAt_36 : decode c_Mo_valueAt 36 = .ok (.ixor, 1) := by decide +kernel
theorem d_Mo_valueAt_37 : decode c_Mo_valueAt 37 = .ok (.istore_n 2, 1) := by decide +kernel
theorem d_Mo_valueAt_38 : decode c_Mo_valueAt 38 = .ok (.iinc 3 1, 3) := by decide +kernel
theorem d_Mo_valueAt_41 : decode c_Mo_valueAt 41 = .ok (.goto (-37), 3) := by decide +kernel
theorem d_Mo_valueAt_44 : decode c_Mo_valueAt 44 = .ok (.iload_n 2, 1) := by decide +kernel
theorem d_Mo_valueAt_45 : decode c_Mo_valueAt 45 = .ok (.ireturn, 1) := by decide +kernel
theorem ok_Mo_valueAt : tb_mV y_Mo_valueAt c_Mo_valueAt 4 (some .int) 1 := ⟨tb_857, tb_48, tb_856, tb_25, by decide +kernel⟩
abbrev c_Mo_bringWord : ByteArray := prog_9_method_21_code
abbrev y_Mo_bringWord : MethodName := ⟨"ReedSetsModel", "bringWord", "()V"⟩
theorem d_Mo_bringWord_0 : decode c_Mo_bringWord 0 = .ok (.aload_n 0, 1) := by decide +kernel
theorem d_Mo_bringWord_1 : decode c_Mo_bringWord 1 = .ok (.aload_n 0, 1) := by decide +kernel
theorem d_Mo_bringWord_2 : decode c_Mo_bringWord 2 = .ok (.getfield 7, 3) := by decide +kernel
theorem d_Mo_bringWord_5 : decode c_Mo_bringWord 5 = .ok (.aload_n 0, 1) := by decide +kernel
theorem d_Mo_bringWord_6 : decode c_Mo_bringWord 6 = .ok (.getfield 99, 3) := by decide +kernel
theorem d_Mo_bringWord_9 : decode c_Mo_bringWord 9 = .ok (.iadd, 1) := by decide +kernel
theorem d_Mo_bringWord_10 : decode c_Mo_bringWord 10 = .ok (.putfield 119, 3) := by decide +kernel
theorem d_Mo_bringWord_13 : decode c_Mo_bringWord 13 = .ok (.aload_n 0, 1) := by decide +kernel
theorem d_Mo_bringWord_14 : decode c_Mo_bringWord 14 = .ok (.aload_n 0, 1) := by decide +kernel
theorem d_Mo_bringWord_15 : decode c_Mo_bringWord 15 = .ok (.getfield 99, 3) := by decide +kernel
theorem d_Mo_bringWord_18 : decode c_Mo_bringWord 18 = .ok (.putfield 122, 3) := by decide +kernel
theorem d_Mo_bringWord_21 : decode c_Mo_bringWord 21 = .ok (.aload_n 0, 1) := by decide +kernel
theorem d_Mo_bringWord_22 : decode c_Mo_bringWord 22 = .ok (.aload_n 0, 1) := by decide +kernel
theorem d_Mo_bringWord_23 : decode c_Mo_bringWord 23 = .ok (.getfield 102, 3) := by decide +kernel
theorem d_Mo_bringWord_26 : decode c_Mo_bringWord 26 = .ok (.putfield 125, 3) := by decide +kernel
theorem d_Mo_bringWord_29 : decode c_Mo_bringWord 29 = .ok (.iconst 0, 1) := by decide +kernel
theorem d_Mo_bringWord_30 : decode c_Mo_bringWord 30 = .ok (.istore_n 1, 1) := by decide +kernel
theorem d_Mo_bringWord_31 : decode c_Mo_bringWord 31 = .ok (.iload_n 1, 1) := by decide +kernel
theorem d_Mo_bringWord_32 : decode c_Mo_bringWord 32 = .ok (.aload_n 0, 1) := by decide +kernel
theorem d_Mo_bringWord_33 : decode c_Mo_bringWord 33 = .ok (.getfield 119, 3) := by decide +kernel
theorem d_Mo_bringWord_36 : decode c_Mo_bringWord 36 = .ok (.if_icmp .ge 33, 3) := by decide +kernel
theorem d_Mo_bringWord_39 : decode c_Mo_bringWord 39 = .ok (.aload_n 0, 1) := by decide +kernel
theorem d_Mo_bringWord_40 : decode c_Mo_bringWord 40 = .ok (.getfield 30, 3) := by decide +kernel
theorem d_Mo_bringWord_43 : decode c_Mo_bringWord 43 = .ok (.iload_n 1, 1) := by decide +kernel
theorem d_Mo_bringWord_44 : decode c_Mo_bringWord 44 = .ok (.aload_n 0, 1) := by decide +kernel
theorem d_Mo_bringWord_45 : decode c_Mo_bringWord 45 = .ok (.getfield 13, 3) := by decide +kernel
theorem d_Mo_bringWord_48 : decode c_Mo_bringWord 48 = .ok (.iload_n 1, 1) := by decide +kernel
theorem d_Mo_bringWord_49 : decode c_Mo_bringWord 49 = .ok (.iaload, 1) := by decide +kernel
theorem d_Mo_bringWord_50 : decode c_Mo_bringWord 50 = .ok (.iastore, 1) := by decide +kernel
theorem d_Mo_bringWord_51 : decode c_Mo_bringWord 51 = .ok (.aload_n 0, 1) := by decide +kernel
theorem d_Mo_bringWord_52 : decode c_Mo_bringWord 52 = .ok (.getfield 33, 3) := by decide +kernel
theorem d_Mo_bringWord_55 : decode c_Mo_bringWord 55 = .ok (.iload_n 1, 1) := by decide +kernel
theorem d_Mo_bringWord_56 : decode c_Mo_bringWord 56 = .ok (.aload_n 0, 1) := by decide +kernel
theorem d_Mo_bringWord_57 : decode c_Mo_bringWord 57 = .ok (.getfield 17, 3) := by decide +kernel
theorem d_Mo_bringWord_60 : decode c_Mo_bringWord 60 = .ok (.iload_n 1, 1) := by decide +kernel
theorem d_Mo_bringWord_61 : decode c_Mo_bringWord 61 = .ok (.baload, 1) := by decide +kernel
theorem d_Mo_bringWord_62 : decode c_Mo_bringWord 62 = .ok (.bastore, 1) := by decide +kernel
theorem d_Mo_bringWord_63 : decode c_Mo_bringWord 63 = .ok (.iinc 1 1, 3) := by decide +kernel
theorem d_Mo_bringWord_66 : decode c_Mo_bringWord 66 = .ok (.goto (-35), 3) := by decide +kernel
theorem d_Mo_bringWord_69 : decode c_Mo_bringWord 69 = .ok (.return_, 1) := by decide +kernel
theorem ok_Mo_bringWord : tb_mV y_Mo_bringWord c_Mo_bringWord 2 none 0 := ⟨tb_853, tb_48, tb_852, tb_24, by decide +kernel⟩
abbrev c_Mo_syndrome : ByteArray := prog_9_method_22_code
abbrev y_Mo_syndrome : MethodName := ⟨"ReedSetsModel", "syndrome", "(I)I"⟩
theorem d_Mo_syndrome_0 : decode c_Mo_syndrome 0 = .ok (.iload_n 1, 1) := by decide +kernel
theorem d_Mo_syndrome_1 : decode c_Mo_syndrome 1 = .ok (.ifCond .lt 11, 3) := by decide +kernel
theorem d_Mo_syndrome_4 : decode c_Mo_syndrome 4 = .ok (.iload_n 1, 1) := by decide +kernel
theorem d_Mo_syndrome_5 : decode c_Mo_syndrome 5 = .ok (.aload_n 0, 1) := by decide +kernel
theorem d_Mo_syndrome_6 : decode c_Mo_syndrome 6 = .ok (.getfield 99, 3) := by decide +kernel
theorem d_Mo_syndrome_9 : decode c_Mo_syndrome 9 = .ok (.if_icmp .lt 5, 3) := by decide +kernel
theorem d_Mo_syndrome_12 : decode c_Mo_syndrome 12 = .ok (.iconst (-1), 1) := by decide +kernel
theorem d_Mo_syndrome_13 : decode c_Mo_syndrome 13 = .ok (.ireturn, 1) := by decide +kernel
theorem d_Mo_syndrome_14 : decode c_Mo_syndrome 14 = .ok (.aload_n 0, 1) := by decide +kernel
theorem d_Mo_syndrome_15 : decode c_Mo_syndrome 15 = .ok (.invokevirtual 128, 3) := by decide +kernel
theorem d_Mo_syndrome_18 : decode c_Mo_syndrome 18 = .ok (.aload_n 0, 1) := by decide +kernel
theorem d_Mo_syndrome_19 : decode c_Mo_syndrome 19 = .ok (.aload_n 0, 1) := by decide +kernel
theorem d_Mo_syndrome_20 : decode c_Mo_syndrome 20 = .ok (.getfield 102, 3) := by decide +kernel
theorem d_Mo_syndrome_23 : decode c_Mo_syndrome 23 = .ok (.iload_n 1, 1) := by decide +kernel
theorem d_Mo_syndrome_24 : decode c_Mo_syndrome 24 = .ok (.iadd, 1) := by decide +kernel
theorem d_Mo_syndrome_25 : decode c_Mo_syndrome 25 = .ok (.invokestatic 105, 3) := by decide +kernel
theorem d_Mo_syndrome_28 : decode c_Mo_syndrome 28 = .ok (.invokevirtual 131, 3) := by decide +kernel
theorem d_Mo_syndrome_31 : decode c_Mo_syndrome 31 = .ok (.ireturn, 1) := by decide +kernel
theorem ok_Mo_syndrome : tb_mV y_Mo_syndrome c_Mo_syndrome 2 (some .int) 1 := ⟨tb_849, tb_48, tb_847, tb_848, by decide +kernel⟩
abbrev c_Mo_solve : ByteArray := prog_9_method_23_code
abbrev y_Mo_solve : MethodName := ⟨"ReedSetsModel", "solve", "(II)Z"⟩
theorem d_Mo_solve_0 : decode c_Mo_solve 0 = .ok (.iconst 0, 1) := by decide +kernel
theorem d_Mo_solve_1 : decode c_Mo_solve 1 = .ok (.istore_n 3, 1) := by decide +kernel
theorem d_Mo_solve_2 : decode c_Mo_solve 2 = .ok (.iconst 0, 1) := by decide +kernel
theorem d_Mo_solve_3 : decode c_Mo_solve 3 = .ok (.istore 4, 2) := by decide +kernel
theorem d_Mo_solve_5 : decode c_Mo_solve 5 = .ok (.iload 4, 2) := by decide +kernel
theorem d_Mo_solve_7 : decode c_Mo_solve 7 = .ok (.iload_n 2, 1) := by decide +kernel
theorem d_Mo_solve_8 : decode c_Mo_solve 8 = .ok (.if_icmp .ge 281, 3) := by decide +kernel
theorem d_Mo_solve_11 : decode c_Mo_solve 11 = .ok (.iload_n 3, 1) := by decide +kernel
theorem d_Mo_solve_12 : decode c_Mo_solve 12 = .ok (.istore 5, 2) := by decide +kernel
theorem d_Mo_solve_14 : decode c_Mo_solve 14 = .ok (.iload 5, 2) := by decide +kernel
theorem d_Mo_solve_16 : decode c_Mo_solve 16 = .ok (.iload_n 1, 1) := by decide +kernel
theorem d_Mo_solve_17 : decode c_Mo_solve 17 = .ok (.if_icmp .ge 25, 3) := by decide +kernel
theorem d_Mo_solve_20 : decode c_Mo_solve 20 = .ok (.aload_n 0, 1) := by decide +kernel
theorem d_Mo_solve_21 : decode c_Mo_solve 21 = .ok (.getfield 45, 3) := by decide +kernel
theorem d_Mo_solve_24 : decode c_Mo_solve 24 = .ok (.bipush 41, 2) := by decide +kernel
theorem d_Mo_solve_26 : decode c_Mo_solve 26 = .ok (.iload 5, 2) := by decide +kernel
theorem d_Mo_solve_28 : decode c_Mo_solve 28 = .ok (.imul, 1) := by decide +kernel
theorem d_Mo_solve_29 : decode c_Mo_solve 29 = .ok (.iload 4, 2) := by decide +kernel
theorem d_Mo_solve_31 : decode c_Mo_solve 31 = .ok (.iadd, 1) := by decide +kernel
theorem d_Mo_solve_32 : decode c_Mo_solve 32 = .ok (.iaload, 1) := by decide +kernel
theorem d_Mo_solve_33 : decode c_Mo_solve 33 = .ok (.ifCond .ne 9, 3) := by decide +kernel
theorem d_Mo_solve_36 : decode c_Mo_solve 36 = .ok (.iinc 5 1, 3) := by decide +kernel
theorem d_Mo_solve_39 : decode c_Mo_solve 39 = .ok (.goto (-25), 3) := by decide +kernel
theorem d_Mo_solve_42 : decode c_Mo_solve 42 = .ok (.iload 5, 2) := by decide +kernel
theorem d_Mo_solve_44 : decode c_Mo_solve 44 = .ok (.iload_n 1, 1) := by decide +kernel
theorem d_Mo_solve_45 : decode c_Mo_solve 45 = .ok (.if_icmp .ne 5, 3) := by decide +kernel
theorem d_Mo_solve_48 : decode c_Mo_solve 48 = .ok (.iconst 0, 1) := by decide +kernel
theorem d_Mo_solve_49 : decode c_Mo_solve 49 = .ok (.ireturn, 1) := by decide +kernel
theorem d_Mo_solve_50 : decode c_Mo_solve 50 = .ok (.iconst 0, 1) := by decide +kernel
theorem d_Mo_solve_51 : decode c_Mo_solve 51 = .ok (.istore 6, 2) := by decide +kernel
theorem d_Mo_solve_53 : decode c_Mo_solve 53 = .ok (.iload 6, 2) := by decide +kernel
theorem d_Mo_solve_55 : decode c_Mo_solve 55 = .ok (.iload_n 2, 1) := by decide +kernel
theorem d_Mo_solve_56 : decode c_Mo_solve 56 = .ok (.if_icmp .gt 63, 3) := by decide +kernel
theorem d_Mo_solve_59 : decode c_Mo_solve 59 = .ok (.aload_n 0, 1) := by decide +kernel
theorem d_Mo_solve_60 : decode c_Mo_solve 60 = .ok (.getfield 45, 3) := by decide +kernel
theorem d_Mo_solve_63 : decode c_Mo_solve 63 = .ok (.bipush 41, 2) := by decide +kernel
theorem d_Mo_solve_65 : decode c_Mo_solve 65 = .ok (.iload 5, 2) := by decide +kernel
theorem d_Mo_solve_67 : decode c_Mo_solve 67 = .ok (.imul, 1) := by decide +kernel
theorem d_Mo_solve_68 : decode c_Mo_solve 68 = .ok (.iload 6, 2) := by decide +kernel
theorem d_Mo_solve_70 : decode c_Mo_solve 70 = .ok (.iadd, 1) := by decide +kernel
theorem d_Mo_solve_71 : decode c_Mo_solve 71 = .ok (.iaload, 1) := by decide +kernel
theorem d_Mo_solve_72 : decode c_Mo_solve 72 = .ok (.istore 7, 2) := by decide +kernel
theorem d_Mo_solve_74 : decode c_Mo_solve 74 = .ok (.aload_n 0, 1) := by decide +kernel
theorem d_Mo_solve_75 : decode c_Mo_solve 75 = .ok (.getfield 45, 3) := by decide +kernel
theorem d_Mo_solve_78 : decode c_Mo_solve 78 = .ok (.bipush 41, 2) := by decide +kernel
theorem d_Mo_solve_80 : decode c_Mo_solve 80 = .ok (.iload 5, 2) := by decide +kernel
theorem d_Mo_solve_82 : decode c_Mo_solve 82 = .ok (.imul, 1) := by decide +kernel
theorem d_Mo_solve_83 : decode c_Mo_solve 83 = .ok (.iload 6, 2) := by decide +kernel
theorem d_Mo_solve_85 : decode c_Mo_solve 85 = .ok (.iadd, 1) := by decide +kernel
theorem d_Mo_solve_86 : decode c_Mo_solve 86 = .ok (.aload_n 0, 1) := by decide +kernel
theorem d_Mo_solve_87 : decode c_Mo_solve 87 = .ok (.getfield 45, 3) := by decide +kernel
theorem d_Mo_solve_90 : decode c_Mo_solve 90 = .ok (.bipush 41, 2) := by decide +kernel
theorem d_Mo_solve_92 : decode c_Mo_solve 92 = .ok (.iload_n 3, 1) := by decide +kernel
theorem d_Mo_solve_93 : decode c_Mo_solve 93 = .ok (.imul, 1) := by decide +kernel
theorem d_Mo_solve_94 : decode c_Mo_solve 94 = .ok (.iload 6, 2) := by decide +kernel
theorem d_Mo_solve_96 : decode c_Mo_solve 96 = .ok (.iadd, 1) := by decide +kernel
theorem d_Mo_solve_97 : decode c_Mo_solve 97 = .ok (.iaload, 1) := by decide +kernel
theorem d_Mo_solve_98 : decode c_Mo_solve 98 = .ok (.iastore, 1) := by decide +kernel
theorem d_Mo_solve_99 : decode c_Mo_solve 99 = .ok (.aload_n 0, 1) := by decide +kernel
theorem d_Mo_solve_100 : decode c_Mo_solve 100 = .ok (.getfield 45, 3) := by decide +kernel
theorem d_Mo_solve_103 : decode c_Mo_solve 103 = .ok (.bipush 41, 2) := by decide +kernel
theorem d_Mo_solve_105 : decode c_Mo_solve 105 = .ok (.iload_n 3, 1) := by decide +kernel
theorem d_Mo_solve_106 : decode c_Mo_solve 106 = .ok (.imul, 1) := by decide +kernel
theorem d_Mo_solve_107 : decode c_Mo_solve 107 = .ok (.iload 6, 2) := by decide +kernel
theorem d_Mo_solve_109 : decode c_Mo_solve 109 = .ok (.iadd, 1) := by decide +kernel
theorem d_Mo_solve_110 : decode c_Mo_solve 110 = .ok (.iload 7, 2) := by decide +kernel
theorem d_Mo_solve_112 : decode c_Mo_solve 112 = .ok (.iastore, 1) := by decide +kernel
theorem d_Mo_solve_113 : decode c_Mo_solve 113 = .ok (.iinc 6 1, 3) := by decide +kernel
theorem d_Mo_solve_116 : decode c_Mo_solve 116 = .ok (.goto (-63), 3) := by decide +kernel
theorem d_Mo_solve_119 : decode c_Mo_solve 119 = .ok (.aload_n 0, 1) := by decide +kernel
theorem d_Mo_solve_120 : decode c_Mo_solve 120 = .ok (.getfield 45, 3) := by decide +kernel
theorem d_Mo_solve_123 : decode c_Mo_solve 123 = .ok (.bipush 41, 2) := by decide +kernel
theorem d_Mo_solve_125 : decode c_Mo_solve 125 = .ok (.iload_n 3, 1) := by decide +kernel
theorem d_Mo_solve_126 : decode c_Mo_solve 126 = .ok (.imul, 1) := by decide +kernel
theorem d_Mo_solve_127 : decode c_Mo_solve 127 = .ok (.iload 4, 2) := by decide +kernel
theorem d_Mo_solve_129 : decode c_Mo_solve 129 = .ok (.iadd, 1) := by decide +kernel
theorem d_Mo_solve_130 : decode c_Mo_solve 130 = .ok (.iaload, 1) := by decide +kernel
theorem d_Mo_solve_131 : decode c_Mo_solve 131 = .ok (.invokestatic 95, 3) := by decide +kernel
theorem d_Mo_solve_134 : decode c_Mo_solve 134 = .ok (.istore 6, 2) := by decide +kernel
theorem d_Mo_solve_136 : decode c_Mo_solve 136 = .ok (.iconst 0, 1) := by decide +kernel
theorem d_Mo_solve_137 : decode c_Mo_solve 137 = .ok (.istore 7, 2) := by decide +kernel
theorem d_Mo_solve_139 : decode c_Mo_solve 139 = .ok (.iload 7, 2) := by decide +kernel
theorem d_Mo_solve_141 : decode c_Mo_solve 141 = .ok (.iload_n 2, 1) := by decide +kernel
theorem d_Mo_solve_142 : decode c_Mo_solve 142 = .ok (.if_icmp .gt 38, 3) := by decide +kernel
theorem d_Mo_solve_145 : decode c_Mo_solve 145 = .ok (.aload_n 0, 1) := by decide +kernel
theorem d_Mo_solve_146 : decode c_Mo_solve 146 = .ok (.getfield 45, 3) := by decide +kernel
theorem d_Mo_solve_149 : decode c_Mo_solve 149 = .ok (.bipush 41, 2) := by decide +kernel
theorem d_Mo_solve_151 : decode c_Mo_solve 151 = .ok (.iload_n 3, 1) := by decide +kernel
theorem d_Mo_solve_152 : decode c_Mo_solve 152 = .ok (.imul, 1) := by decide +kernel
theorem d_Mo_solve_153 : decode c_Mo_solve 153 = .ok (.iload 7, 2) := by decide +kernel
theorem d_Mo_solve_155 : decode c_Mo_solve 155 = .ok (.iadd, 1) := by decide +kernel
theorem d_Mo_solve_156 : decode c_Mo_solve 156 = .ok (.aload_n 0, 1) := by decide +kernel
theorem d_Mo_solve_157 : decode c_Mo_solve 157 = .ok (.getfield 45, 3) := by decide +kernel
theorem d_Mo_solve_160 : decode c_Mo_solve 160 = .ok (.bipush 41, 2) := by decide +kernel
theorem d_Mo_solve_162 : decode c_Mo_solve 162 = .ok (.iload_n 3, 1) := by decide +kernel
theorem d_Mo_solve_163 : decode c_Mo_solve 163 = .ok (.imul, 1) := by decide +kernel
theorem d_Mo_solve_164 : decode c_Mo_solve 164 = .ok (.iload 7, 2) := by decide +kernel
theorem d_Mo_solve_166 : decode c_Mo_solve 166 = .ok (.iadd, 1) := by decide +kernel
theorem d_Mo_solve_167 : decode c_Mo_solve 167 = .ok (.iaload, 1) := by decide +kernel
theorem d_Mo_solve_168 : decode c_Mo_solve 168 = .ok (.iload 6, 2) := by decide +kernel
theorem d_Mo_solve_170 : decode c_Mo_solve 170 = .ok (.invokestatic 84, 3) := by decide +kernel
theorem d_Mo_solve_173 : decode c_Mo_solve 173 = .ok (.iastore, 1) := by decide +kernel
theorem d_Mo_solve_174 : decode c_Mo_solve 174 = .ok (.iinc 7 1, 3) := by decide +kernel
theorem d_Mo_solve_177 : decode c_Mo_solve 177 = .ok (.goto (-38), 3) := by decide +kernel
theorem d_Mo_solve_180 : decode c_Mo_solve 180 = .ok (.iconst 0, 1) := by decide +kernel
theorem d_Mo_solve_181 : decode c_Mo_solve 181 = .ok (.istore 7, 2) := by decide +kernel
theorem d_Mo_solve_183 : decode c_Mo_solve 183 = .ok (.iload 7, 2) := by decide +kernel
theorem d_Mo_solve_185 : decode c_Mo_solve 185 = .ok (.iload_n 1, 1) := by decide +kernel
theorem d_Mo_solve_186 : decode c_Mo_solve 186 = .ok (.if_icmp .ge 94, 3) := by decide +kernel
theorem d_Mo_solve_189 : decode c_Mo_solve 189 = .ok (.aload_n 0, 1) := by decide +kernel
theorem d_Mo_solve_190 : decode c_Mo_solve 190 = .ok (.getfield 45, 3) := by decide +kernel
theorem d_Mo_solve_193 : decode c_Mo_solve 193 = .ok (.bipush 41, 2) := by decide +kernel
theorem d_Mo_solve_195 : decode c_Mo_solve 195 = .ok (.iload 7, 2) := by decide +kernel
theorem d_Mo_solve_197 : decode c_Mo_solve 197 = .ok (.imul, 1) := by decide +kernel
theorem d_Mo_solve_198 : decode c_Mo_solve 198 = .ok (.iload 4, 2) := by decide +kernel
theorem d_Mo_solve_200 : decode c_Mo_solve 200 = .ok (.iadd, 1) := by decide +kernel
theorem d_Mo_solve_201 : decode c_Mo_solve 201 = .ok (.iaload, 1) := by decide +kernel
theorem d_Mo_solve_202 : decode c_Mo_solve 202 = .ok (.istore 8, 2) := by decide +kernel
theorem d_Mo_solve_204 : decode c_Mo_solve 204 = .ok (.iconst 0, 1) := by decide +kernel
theorem d_Mo_solve_205 : decode c_Mo_solve 205 = .ok (.istore 9, 2) := by decide +kernel
theorem d_Mo_solve_207 : decode c_Mo_solve 207 = .ok (.iload 9, 2) := by decide +kernel
theorem d_Mo_solve_209 : decode c_Mo_solve 209 = .ok (.iload_n 2, 1) := by decide +kernel
theorem d_Mo_solve_210 : decode c_Mo_solve 210 = .ok (.if_icmp .gt 64, 3) := by decide +kernel
theorem d_Mo_solve_213 : decode c_Mo_solve 213 = .ok (.iload 7, 2) := by decide +kernel
theorem d_Mo_solve_215 : decode c_Mo_solve 215 = .ok (.iload_n 3, 1) := by decide +kernel
theorem d_Mo_solve_216 : decode c_Mo_solve 216 = .ok (.if_icmp .eq 58, 3) := by decide +kernel
theorem d_Mo_solve_219 : decode c_Mo_solve 219 = .ok (.iload 8, 2) := by decide +kernel
theorem d_Mo_solve_221 : decode c_Mo_solve 221 = .ok (.ifCond .eq 53, 3) := by decide +kernel
theorem d_Mo_solve_224 : decode c_Mo_solve 224 = .ok (.aload_n 0, 1) := by decide +kernel
theorem d_Mo_solve_225 : decode c_Mo_solve 225 = .ok (.getfield 45, 3) := by decide +kernel
theorem d_Mo_solve_228 : decode c_Mo_solve 228 = .ok (.bipush 41, 2) := by decide +kernel
theorem d_Mo_solve_230 : decode c_Mo_solve 230 = .ok (.iload 7, 2) := by decide +kernel
theorem d_Mo_solve_232 : decode c_Mo_solve 232 = .ok (.imul, 1) := by decide +kernel
theorem d_Mo_solve_233 : decode c_Mo_solve 233 = .ok (.iload 9, 2) := by decide +kernel
theorem d_Mo_solve_235 : decode c_Mo_solve 235 = .ok (.iadd, 1) := by decide +kernel
theorem d_Mo_solve_236 : decode c_Mo_solve 236 = .ok (.aload_n 0, 1) := by decide +kernel
theorem d_Mo_solve_237 : decode c_Mo_solve 237 = .ok (.getfield 45, 3) := by decide +kernel
theorem d_Mo_solve_240 : decode c_Mo_solve 240 = .ok (.bipush 41, 2) := by decide +kernel
theorem d_Mo_solve_242 : decode c_Mo_solve 242 = .ok (.iload 7, 2) := by decide +kernel
theorem d_Mo_solve_244 : decode c_Mo_solve 244 = .ok (.imul, 1) := by decide +kernel
theorem d_Mo_solve_245 : decode c_Mo_solve 245 = .ok (.iload 9, 2) := by decide +kernel
theorem d_Mo_solve_247 : decode c_Mo_solve 247 = .ok (.iadd, 1) := by decide +kernel
theorem d_Mo_solve_248 : decode c_Mo_solve 248 = .ok (.iaload, 1) := by decide +kernel
theorem d_Mo_solve_249 : decode c_Mo_solve 249 = .ok (.iload 8, 2) := by decide +kernel
theorem d_Mo_solve_251 : decode c_Mo_solve 251 = .ok (.aload_n 0, 1) := by decide +kernel
theorem d_Mo_solve_252 : decode c_Mo_solve 252 = .ok (.getfield 45, 3) := by decide +kernel
theorem d_Mo_solve_255 : decode c_Mo_solve 255 = .ok (.bipush 41, 2) := by decide +kernel
theorem d_Mo_solve_257 : decode c_Mo_solve 257 = .ok (.iload_n 3, 1) := by decide +kernel
theorem d_Mo_solve_258 : decode c_Mo_solve 258 = .ok (.imul, 1) := by decide +kernel
theorem d_Mo_solve_259 : decode c_Mo_solve 259 = .ok (.iload 9, 2) := by decide +kernel
theorem d_Mo_solve_261 : decode c_Mo_solve 261 = .ok (.iadd, 1) := by decide +kernel
theorem d_Mo_solve_262 : decode c_Mo_solve 262 = .ok (.iaload, 1) := by decide +kernel
theorem d_Mo_solve_263 : decode c_Mo_solve 263 = .ok (.invokestatic 84, 3) := by decide +kernel
theorem d_Mo_solve_266 : decode c_Mo_solve 266 = .ok (.ixor, 1) := by decide +kernel
theorem d_Mo_solve_267 : decode c_Mo_solve 267 = .ok (.iastore, 1) := by decide +kernel
theorem d_Mo_solve_268 : decode c_Mo_solve 268 = .ok (.iinc 9 1, 3) := by decide +kernel
theorem d_Mo_solve_271 : decode c_Mo_solve 271 = .ok (.goto (-64), 3) := by decide +kernel
theorem d_Mo_solve_274 : decode c_Mo_solve 274 = .ok (.iinc 7 1, 3) := by decide +kernel
theorem d_Mo_solve_277 : decode c_Mo_solve 277 = .ok (.goto (-94), 3) := by decide +kernel
theorem d_Mo_solve_280 : decode c_Mo_solve 280 = .ok (.iinc 3 1, 3) := by decide +kernel
theorem d_Mo_solve_283 : decode c_Mo_solve 283 = .ok (.iinc 4 1, 3) := by decide +kernel
theorem d_Mo_solve_286 : decode c_Mo_solve 286 = .ok (.goto (-281), 3) := by decide +kernel
theorem d_Mo_solve_289 : decode c_Mo_solve 289 = .ok (.iload_n 2, 1) := by decide +kernel
theorem d_Mo_solve_290 : decode c_Mo_solve 290 = .ok (.istore 4, 2) := by decide +kernel
theorem d_Mo_solve_292 : decode c_Mo_solve 292 = .ok (.iload 4, 2) := by decide +kernel
theorem d_Mo_solve_294 : decode c_Mo_solve 294 = .ok (.iload_n 1, 1) := by decide +kernel
theorem d_Mo_solve_295 : decode c_Mo_solve 295 = .ok (.if_icmp .ge 26, 3) := by decide +kernel
theorem d_Mo_solve_298 : decode c_Mo_solve 298 = .ok (.aload_n 0, 1) := by decide +kernel
theorem d_Mo_solve_299 : decode c_Mo_solve 299 = .ok (.getfield 45, 3) := by decide +kernel
theorem d_Mo_solve_302 : decode c_Mo_solve 302 = .ok (.bipush 41, 2) := by decide +kernel
theorem d_Mo_solve_304 : decode c_Mo_solve 304 = .ok (.iload 4, 2) := by decide +kernel
theorem d_Mo_solve_306 : decode c_Mo_solve 306 = .ok (.imul, 1) := by decide +kernel
theorem d_Mo_solve_307 : decode c_Mo_solve 307 = .ok (.iload_n 2, 1) := by decide +kernel
theorem d_Mo_solve_308 : decode c_Mo_solve 308 = .ok (.iadd, 1) := by decide +kernel
theorem d_Mo_solve_309 : decode c_Mo_solve 309 = .ok (.iaload, 1) := by decide +kernel
theorem d_Mo_solve_310 : decode c_Mo_solve 310 = .ok (.ifCond .eq 5, 3) := by decide +kernel
theorem d_Mo_solve_313 : decode c_Mo_solve 313 = .ok (.iconst 0, 1) := by decide +kernel
theorem d_Mo_solve_314 : decode c_Mo_solve 314 = .ok (.ireturn, 1) := by decide +kernel
theorem d_Mo_solve_315 : decode c_Mo_solve 315 = .ok (.iinc 4 1, 3) := by decide +kernel
theorem d_Mo_solve_318 : decode c_Mo_solve 318 = .ok (.goto (-26), 3) := by decide +kernel
theorem d_Mo_solve_321 : decode c_Mo_solve 321 = .ok (.iconst 0, 1) := by decide +kernel
theorem d_Mo_solve_322 : decode c_Mo_solve 322 = .ok (.istore 4, 2) := by decide +kernel
theorem d_Mo_solve_324 : decode c_Mo_solve 324 = .ok (.iload 4, 2) := by decide +kernel
theorem d_Mo_solve_326 : decode c_Mo_solve 326 = .ok (.iload_n 2, 1) := by decide +kernel
theorem d_Mo_solve_327 : decode c_Mo_solve 327 = .ok (.if_icmp .ge 28, 3) := by decide +kernel
theorem d_Mo_solve_330 : decode c_Mo_solve 330 = .ok (.aload_n 0, 1) := by decide +kernel
theorem d_Mo_solve_331 : decode c_Mo_solve 331 = .ok (.getfield 48, 3) := by decide +kernel
theorem d_Mo_solve_334 : decode c_Mo_solve 334 = .ok (.iload 4, 2) := by decide +kernel
theorem d_Mo_solve_336 : decode c_Mo_solve 336 = .ok (.aload_n 0, 1) := by decide +kernel
theorem d_Mo_solve_337 : decode c_Mo_solve 337 = .ok (.getfield 45, 3) := by decide +kernel
theorem d_Mo_solve_340 : decode c_Mo_solve 340 = .ok (.bipush 41, 2) := by decide +kernel
theorem d_Mo_solve_342 : decode c_Mo_solve 342 = .ok (.iload 4, 2) := by decide +kernel
theorem d_Mo_solve_344 : decode c_Mo_solve 344 = .ok (.imul, 1) := by decide +kernel
theorem d_Mo_solve_345 : decode c_Mo_solve 345 = .ok (.iload_n 2, 1) := by decide +kernel
theorem d_Mo_solve_346 : decode c_Mo_solve 346 = .ok (.iadd, 1) := by decide +kernel
theorem d_Mo_solve_347 : decode c_Mo_solve 347 = .ok (.iaload, 1) := by decide +kernel
theorem d_Mo_solve_348 : decode c_Mo_solve 348 = .ok (.iastore, 1) := by decide +kernel
theorem d_Mo_solve_349 : decode c_Mo_solve 349 = .ok (.iinc 4 1, 3) := by decide +kernel
theorem d_Mo_solve_352 : decode c_Mo_solve 352 = .ok (.goto (-28), 3) := by decide +kernel
theorem d_Mo_solve_355 : decode c_Mo_solve 355 = .ok (.iconst 1, 1) := by decide +kernel
theorem d_Mo_solve_356 : decode c_Mo_solve 356 = .ok (.ireturn, 1) := by decide +kernel
theorem ok_Mo_solve : tb_mV y_Mo_solve c_Mo_solve 10 (some .boolean) 2 := ⟨tb_877, tb_48, tb_876, tb_29, by decide +kernel⟩
abbrev c_Mo_locator : ByteArray := prog_9_method_24_code
abbrev y_Mo_locator : MethodName := ⟨"ReedSetsModel", "locator", "(I)I"⟩
theorem d_Mo_locator_0 : decode c_Mo_locator 0 = .ok (.aload_n 0, 1) := by decide +kernel
theorem d_Mo_locator_1 : decode c_Mo_locator 1 = .ok (.getfield 119, 3) := by decide +kernel
theorem d_Mo_locator_4 : decode c_Mo_locator 4 = .ok (.iconst 1, 1) := by decide +kernel
theorem d_Mo_locator_5 : decode c_Mo_locator 5 = .ok (.isub, 1) := by decide +kernel
theorem d_Mo_locator_6 : decode c_Mo_locator 6 = .ok (.iload_n 1, 1) := by decide +kernel
theorem d_Mo_locator_7 : decode c_Mo_locator 7 = .ok (.isub, 1) := by decide +kernel
theorem d_Mo_locator_8 : decode c_Mo_locator 8 = .ok (.invokestatic 105, 3) := by decide +kernel
theorem d_Mo_locator_11 : decode c_Mo_locator 11 = .ok (.ireturn, 1) := by decide +kernel
theorem ok_Mo_locator : tb_mV y_Mo_locator c_Mo_locator 2 (some .int) 1 := ⟨tb_869, tb_48, tb_868, tb_27, by decide +kernel⟩
abbrev c_Mo_findSpots : ByteArray := prog_9_method_26_code
abbrev y_Mo_findSpots : MethodName := ⟨"ReedSetsModel", "findSpots", "(II)Z"⟩
theorem d_Mo_findSpots_0 : decode c_Mo_findSpots 0 = .ok (.iconst 0, 1) := by decide +kernel
theorem d_Mo_findSpots_1 : decode c_Mo_findSpots 1 = .ok (.istore_n 3, 1) := by decide +kernel
theorem d_Mo_findSpots_2 : decode c_Mo_findSpots 2 = .ok (.iload_n 3, 1) := by decide +kernel
theorem d_Mo_findSpots_3 : decode c_Mo_findSpots 3 = .ok (.iload_n 2, 1) := by decide +kernel
theorem d_Mo_findSpots_4 : decode c_Mo_findSpots 4 = .ok (.iload_n 1, 1) := by decide +kernel
theorem d_Mo_findSpots_5 : decode c_Mo_findSpots 5 = .ok (.isub, 1) := by decide +kernel
theorem d_Mo_findSpots_6 : decode c_Mo_findSpots 6 = .ok (.if_icmp .ge 64, 3) := by decide +kernel
theorem d_Mo_findSpots_9 : decode c_Mo_findSpots 9 = .ok (.iconst 0, 1) := by decide +kernel
theorem d_Mo_findSpots_10 : decode c_Mo_findSpots 10 = .ok (.istore 4, 2) := by decide +kernel
theorem d_Mo_findSpots_12 : decode c_Mo_findSpots 12 = .ok (.iload 4, 2) := by decide +kernel
theorem d_Mo_findSpots_14 : decode c_Mo_findSpots 14 = .ok (.iload_n 1, 1) := by decide +kernel
theorem d_Mo_findSpots_15 : decode c_Mo_findSpots 15 = .ok (.if_icmp .ge 30, 3) := by decide +kernel
theorem d_Mo_findSpots_18 : decode c_Mo_findSpots 18 = .ok (.aload_n 0, 1) := by decide +kernel
theorem d_Mo_findSpots_19 : decode c_Mo_findSpots 19 = .ok (.getfield 45, 3) := by decide +kernel
theorem d_Mo_findSpots_22 : decode c_Mo_findSpots 22 = .ok (.bipush 41, 2) := by decide +kernel
theorem d_Mo_findSpots_24 : decode c_Mo_findSpots 24 = .ok (.iload_n 3, 1) := by decide +kernel
theorem d_Mo_findSpots_25 : decode c_Mo_findSpots 25 = .ok (.imul, 1) := by decide +kernel
theorem d_Mo_findSpots_26 : decode c_Mo_findSpots 26 = .ok (.iload 4, 2) := by decide +kernel
theorem d_Mo_findSpots_28 : decode c_Mo_findSpots 28 = .ok (.iadd, 1) := by decide +kernel
theorem d_Mo_findSpots_29 : decode c_Mo_findSpots 29 = .ok (.aload_n 0, 1) := by decide +kernel
theorem d_Mo_findSpots_30 : decode c_Mo_findSpots 30 = .ok (.getfield 39, 3) := by decide +kernel
theorem d_Mo_findSpots_33 : decode c_Mo_findSpots 33 = .ok (.iload_n 3, 1) := by decide +kernel
theorem d_Mo_findSpots_34 : decode c_Mo_findSpots 34 = .ok (.iload 4, 2) := by decide +kernel
theorem d_Mo_findSpots_36 : decode c_Mo_findSpots 36 = .ok (.iadd, 1) := by decide +kernel
theorem d_Mo_findSpots_37 : decode c_Mo_findSpots 37 = .ok (.iaload, 1) := by decide +kernel
theorem d_Mo_findSpots_38 : decode c_Mo_findSpots 38 = .ok (.iastore, 1) := by decide +kernel
theorem d_Mo_findSpots_39 : decode c_Mo_findSpots 39 = .ok (.iinc 4 1, 3) := by decide +kernel
theorem d_Mo_findSpots_42 : decode c_Mo_findSpots 42 = .ok (.goto (-30), 3) := by decide +kernel
theorem d_Mo_findSpots_45 : decode c_Mo_findSpots 45 = .ok (.aload_n 0, 1) := by decide +kernel
theorem d_Mo_findSpots_46 : decode c_Mo_findSpots 46 = .ok (.getfield 45, 3) := by decide +kernel
theorem d_Mo_findSpots_49 : decode c_Mo_findSpots 49 = .ok (.bipush 41, 2) := by decide +kernel
theorem d_Mo_findSpots_51 : decode c_Mo_findSpots 51 = .ok (.iload_n 3, 1) := by decide +kernel
theorem d_Mo_findSpots_52 : decode c_Mo_findSpots 52 = .ok (.imul, 1) := by decide +kernel
theorem d_Mo_findSpots_53 : decode c_Mo_findSpots 53 = .ok (.iload_n 1, 1) := by decide +kernel
theorem d_Mo_findSpots_54 : decode c_Mo_findSpots 54 = .ok (.iadd, 1) := by decide +kernel
theorem d_Mo_findSpots_55 : decode c_Mo_findSpots 55 = .ok (.aload_n 0, 1) := by decide +kernel
theorem d_Mo_findSpots_56 : decode c_Mo_findSpots 56 = .ok (.getfield 39, 3) := by decide +kernel
theorem d_Mo_findSpots_59 : decode c_Mo_findSpots 59 = .ok (.iload_n 3, 1) := by decide +kernel
theorem d_Mo_findSpots_60 : decode c_Mo_findSpots 60 = .ok (.iload_n 1, 1) := by decide +kernel
theorem d_Mo_findSpots_61 : decode c_Mo_findSpots 61 = .ok (.iadd, 1) := by decide +kernel
theorem d_Mo_findSpots_62 : decode c_Mo_findSpots 62 = .ok (.iaload, 1) := by decide +kernel
theorem d_Mo_findSpots_63 : decode c_Mo_findSpots 63 = .ok (.iastore, 1) := by decide +kernel
theorem d_Mo_findSpots_64 : decode c_Mo_findSpots 64 = .ok (.iinc 3 1, 3) := by decide +kernel
theorem d_Mo_findSpots_67 : decode c_Mo_findSpots 67 = .ok (.goto (-65), 3) := by decide +kernel
theorem d_Mo_findSpots_70 : decode c_Mo_findSpots 70 = .ok (.aload_n 0, 1) := by decide +kernel
theorem d_Mo_findSpots_71 : decode c_Mo_findSpots 71 = .ok (.iload_n 2, 1) := by decide +kernel
theorem d_Mo_findSpots_72 : decode c_Mo_findSpots 72 = .ok (.iload_n 1, 1) := by decide +kernel
theorem d_Mo_findSpots_73 : decode c_Mo_findSpots 73 = .ok (.isub, 1) := by decide +kernel
theorem d_Mo_findSpots_74 : decode c_Mo_findSpots 74 = .ok (.iload_n 1, 1) := by decide +kernel
theorem d_Mo_findSpots_75 : decode c_Mo_findSpots 75 = .ok (.invokevirtual 144, 3) := by decide +kernel
theorem d_Mo_findSpots_78 : decode c_Mo_findSpots 78 = .ok (.ifCond .ne 5, 3) := by decide +kernel
theorem d_Mo_findSpots_81 : decode c_Mo_findSpots 81 = .ok (.iconst 0, 1) := by decide +kernel
theorem d_Mo_findSpots_82 : decode c_Mo_findSpots 82 = .ok (.ireturn, 1) := by decide +kernel
theorem d_Mo_findSpots_83 : decode c_Mo_findSpots 83 = .ok (.aload_n 0, 1) := by decide +kernel
theorem d_Mo_findSpots_84 : decode c_Mo_findSpots 84 = .ok (.iconst 0, 1) := by decide +kernel
theorem d_Mo_findSpots_85 : decode c_Mo_findSpots 85 = .ok (.putfield 147, 3) := by decide +kernel
theorem d_Mo_findSpots_88 : decode c_Mo_findSpots 88 = .ok (.iconst 0, 1) := by decide +kernel
theorem d_Mo_findSpots_89 : decode c_Mo_findSpots 89 = .ok (.istore_n 3, 1) := by decide +kernel
theorem d_Mo_findSpots_90 : decode c_Mo_findSpots 90 = .ok (.iconst 0, 1) := by decide +kernel
theorem d_Mo_findSpots_91 : decode c_Mo_findSpots 91 = .ok (.istore 4, 2) := by decide +kernel
theorem d_Mo_findSpots_93 : decode c_Mo_findSpots 93 = .ok (.iload 4, 2) := by decide +kernel
theorem d_Mo_findSpots_95 : decode c_Mo_findSpots 95 = .ok (.aload_n 0, 1) := by decide +kernel
theorem d_Mo_findSpots_96 : decode c_Mo_findSpots 96 = .ok (.getfield 119, 3) := by decide +kernel
theorem d_Mo_findSpots_99 : decode c_Mo_findSpots 99 = .ok (.if_icmp .ge 142, 3) := by decide +kernel
theorem d_Mo_findSpots_102 : decode c_Mo_findSpots 102 = .ok (.aload_n 0, 1) := by decide +kernel
theorem d_Mo_findSpots_103 : decode c_Mo_findSpots 103 = .ok (.getfield 33, 3) := by decide +kernel
theorem d_Mo_findSpots_106 : decode c_Mo_findSpots 106 = .ok (.iload 4, 2) := by decide +kernel
theorem d_Mo_findSpots_108 : decode c_Mo_findSpots 108 = .ok (.baload, 1) := by decide +kernel
theorem d_Mo_findSpots_109 : decode c_Mo_findSpots 109 = .ok (.istore 5, 2) := by decide +kernel
theorem d_Mo_findSpots_111 : decode c_Mo_findSpots 111 = .ok (.iload 5, 2) := by decide +kernel
theorem d_Mo_findSpots_113 : decode c_Mo_findSpots 113 = .ok (.ifCond .ne 85, 3) := by decide +kernel
theorem d_Mo_findSpots_116 : decode c_Mo_findSpots 116 = .ok (.iload_n 1, 1) := by decide +kernel
theorem d_Mo_findSpots_117 : decode c_Mo_findSpots 117 = .ok (.ifCond .le 81, 3) := by decide +kernel
theorem d_Mo_findSpots_120 : decode c_Mo_findSpots 120 = .ok (.aload_n 0, 1) := by decide +kernel
theorem d_Mo_findSpots_121 : decode c_Mo_findSpots 121 = .ok (.iload 4, 2) := by decide +kernel
theorem d_Mo_findSpots_123 : decode c_Mo_findSpots 123 = .ok (.invokevirtual 134, 3) := by decide +kernel
theorem d_Mo_findSpots_126 : decode c_Mo_findSpots 126 = .ok (.istore 6, 2) := by decide +kernel
theorem d_Mo_findSpots_128 : decode c_Mo_findSpots 128 = .ok (.iload 6, 2) := by decide +kernel
theorem d_Mo_findSpots_130 : decode c_Mo_findSpots 130 = .ok (.iload_n 1, 1) := by decide +kernel
theorem d_Mo_findSpots_131 : decode c_Mo_findSpots 131 = .ok (.invokestatic 88, 3) := by decide +kernel
theorem d_Mo_findSpots_134 : decode c_Mo_findSpots 134 = .ok (.istore 7, 2) := by decide +kernel
theorem d_Mo_findSpots_136 : decode c_Mo_findSpots 136 = .ok (.iconst 0, 1) := by decide +kernel
theorem d_Mo_findSpots_137 : decode c_Mo_findSpots 137 = .ok (.istore 8, 2) := by decide +kernel
theorem d_Mo_findSpots_139 : decode c_Mo_findSpots 139 = .ok (.iload 8, 2) := by decide +kernel
theorem d_Mo_findSpots_141 : decode c_Mo_findSpots 141 = .ok (.iload_n 1, 1) := by decide +kernel
theorem d_Mo_findSpots_142 : decode c_Mo_findSpots 142 = .ok (.if_icmp .ge 31, 3) := by decide +kernel
theorem d_Mo_findSpots_145 : decode c_Mo_findSpots 145 = .ok (.iload 7, 2) := by decide +kernel
theorem d_Mo_findSpots_147 : decode c_Mo_findSpots 147 = .ok (.aload_n 0, 1) := by decide +kernel
theorem d_Mo_findSpots_148 : decode c_Mo_findSpots 148 = .ok (.getfield 48, 3) := by decide +kernel
theorem d_Mo_findSpots_151 : decode c_Mo_findSpots 151 = .ok (.iload 8, 2) := by decide +kernel
theorem d_Mo_findSpots_153 : decode c_Mo_findSpots 153 = .ok (.iaload, 1) := by decide +kernel
theorem d_Mo_findSpots_154 : decode c_Mo_findSpots 154 = .ok (.iload 6, 2) := by decide +kernel
theorem d_Mo_findSpots_156 : decode c_Mo_findSpots 156 = .ok (.iload 8, 2) := by decide +kernel
theorem d_Mo_findSpots_158 : decode c_Mo_findSpots 158 = .ok (.invokestatic 88, 3) := by decide +kernel
theorem d_Mo_findSpots_161 : decode c_Mo_findSpots 161 = .ok (.invokestatic 84, 3) := by decide +kernel
theorem d_Mo_findSpots_164 : decode c_Mo_findSpots 164 = .ok (.ixor, 1) := by decide +kernel
theorem d_Mo_findSpots_165 : decode c_Mo_findSpots 165 = .ok (.istore 7, 2) := by decide +kernel
theorem d_Mo_findSpots_167 : decode c_Mo_findSpots 167 = .ok (.iinc 8 1, 3) := by decide +kernel
theorem d_Mo_findSpots_170 : decode c_Mo_findSpots 170 = .ok (.goto (-31), 3) := by decide +kernel
theorem d_Mo_findSpots_173 : decode c_Mo_findSpots 173 = .ok (.iload 7, 2) := by decide +kernel
theorem d_Mo_findSpots_175 : decode c_Mo_findSpots 175 = .ok (.ifCond .ne 7, 3) := by decide +kernel
theorem d_Mo_findSpots_178 : decode c_Mo_findSpots 178 = .ok (.iconst 1, 1) := by decide +kernel
theorem d_Mo_findSpots_179 : decode c_Mo_findSpots 179 = .ok (.goto 4, 3) := by decide +kernel
theorem d_Mo_findSpots_182 : decode c_Mo_findSpots 182 = .ok (.iconst 0, 1) := by decide +kernel
theorem d_Mo_findSpots_183 : decode c_Mo_findSpots 183 = .ok (.istore 5, 2) := by decide +kernel
theorem d_Mo_findSpots_185 : decode c_Mo_findSpots 185 = .ok (.iload_n 3, 1) := by decide +kernel
theorem d_Mo_findSpots_186 : decode c_Mo_findSpots 186 = .ok (.iload 5, 2) := by decide +kernel
theorem d_Mo_findSpots_188 : decode c_Mo_findSpots 188 = .ok (.ifCond .eq 7, 3) := by decide +kernel
theorem d_Mo_findSpots_191 : decode c_Mo_findSpots 191 = .ok (.iconst 1, 1) := by decide +kernel
theorem d_Mo_findSpots_192 : decode c_Mo_findSpots 192 = .ok (.goto 4, 3) := by decide +kernel
theorem d_Mo_findSpots_195 : decode c_Mo_findSpots 195 = .ok (.iconst 0, 1) := by decide +kernel
theorem d_Mo_findSpots_196 : decode c_Mo_findSpots 196 = .ok (.iadd, 1) := by decide +kernel
theorem d_Mo_findSpots_197 : decode c_Mo_findSpots 197 = .ok (.istore_n 3, 1) := by decide +kernel
theorem d_Mo_findSpots_198 : decode c_Mo_findSpots 198 = .ok (.iload 5, 2) := by decide +kernel
theorem d_Mo_findSpots_200 : decode c_Mo_findSpots 200 = .ok (.ifCond .eq 35, 3) := by decide +kernel
theorem d_Mo_findSpots_203 : decode c_Mo_findSpots 203 = .ok (.aload_n 0, 1) := by decide +kernel
theorem d_Mo_findSpots_204 : decode c_Mo_findSpots 204 = .ok (.getfield 147, 3) := by decide +kernel
theorem d_Mo_findSpots_207 : decode c_Mo_findSpots 207 = .ok (.bipush 40, 2) := by decide +kernel
theorem d_Mo_findSpots_209 : decode c_Mo_findSpots 209 = .ok (.if_icmp .ne 5, 3) := by decide +kernel
theorem d_Mo_findSpots_212 : decode c_Mo_findSpots 212 = .ok (.iconst 0, 1) := by decide +kernel
theorem d_Mo_findSpots_213 : decode c_Mo_findSpots 213 = .ok (.ireturn, 1) := by decide +kernel
theorem d_Mo_findSpots_214 : decode c_Mo_findSpots 214 = .ok (.aload_n 0, 1) := by decide +kernel
theorem d_Mo_findSpots_215 : decode c_Mo_findSpots 215 = .ok (.getfield 42, 3) := by decide +kernel
theorem d_Mo_findSpots_218 : decode c_Mo_findSpots 218 = .ok (.aload_n 0, 1) := by decide +kernel
theorem d_Mo_findSpots_219 : decode c_Mo_findSpots 219 = .ok (.getfield 147, 3) := by decide +kernel
theorem d_Mo_findSpots_222 : decode c_Mo_findSpots 222 = .ok (.iload 4, 2) := by decide +kernel
theorem d_Mo_findSpots_224 : decode c_Mo_findSpots 224 = .ok (.iastore, 1) := by decide +kernel
theorem d_Mo_findSpots_225 : decode c_Mo_findSpots 225 = .ok (.aload_n 0, 1) := by decide +kernel
theorem d_Mo_findSpots_226 : decode c_Mo_findSpots 226 = .ok (.dup, 1) := by decide +kernel
theorem d_Mo_findSpots_227 : decode c_Mo_findSpots 227 = .ok (.getfield 147, 3) := by decide +kernel
theorem d_Mo_findSpots_230 : decode c_Mo_findSpots 230 = .ok (.iconst 1, 1) := by decide +kernel
theorem d_Mo_findSpots_231 : decode c_Mo_findSpots 231 = .ok (.iadd, 1) := by decide +kernel
theorem d_Mo_findSpots_232 : decode c_Mo_findSpots 232 = .ok (.putfield 147, 3) := by decide +kernel
theorem d_Mo_findSpots_235 : decode c_Mo_findSpots 235 = .ok (.iinc 4 1, 3) := by decide +kernel
theorem d_Mo_findSpots_238 : decode c_Mo_findSpots 238 = .ok (.goto (-145), 3) := by decide +kernel
theorem d_Mo_findSpots_241 : decode c_Mo_findSpots 241 = .ok (.iload_n 3, 1) := by decide +kernel
theorem d_Mo_findSpots_242 : decode c_Mo_findSpots 242 = .ok (.iload_n 1, 1) := by decide +kernel
theorem d_Mo_findSpots_243 : decode c_Mo_findSpots 243 = .ok (.if_icmp .ne 7, 3) := by decide +kernel
theorem d_Mo_findSpots_246 : decode c_Mo_findSpots 246 = .ok (.iconst 1, 1) := by decide +kernel
theorem d_Mo_findSpots_247 : decode c_Mo_findSpots 247 = .ok (.goto 4, 3) := by decide +kernel
theorem d_Mo_findSpots_250 : decode c_Mo_findSpots 250 = .ok (.iconst 0, 1) := by decide +kernel
theorem d_Mo_findSpots_251 : decode c_Mo_findSpots 251 = .ok (.ireturn, 1) := by decide +kernel
theorem ok_Mo_findSpots : tb_mV y_Mo_findSpots c_Mo_findSpots 9 (some .boolean) 2 := ⟨tb_873, tb_48, tb_872, tb_28, by decide +kernel⟩
abbrev c_Mo_fill : ByteArray := prog_9_method_27_code
abbrev y_Mo_fill : MethodName := ⟨"ReedSetsModel", "fill", "(I)Z"⟩
theorem d_Mo_fill_0 : decode c_Mo_fill 0 = .ok (.iconst 0, 1) := by decide +kernel
theorem d_Mo_fill_1 : decode c_Mo_fill 1 = .ok (.istore_n 2, 1) := by decide +kernel
theorem d_Mo_fill_2 : decode c_Mo_fill 2 = .ok (.iload_n 2, 1) := by decide +kernel
theorem d_Mo_fill_3 : decode c_Mo_fill 3 = .ok (.aload_n 0, 1) := by decide +kernel
theorem d_Mo_fill_4 : decode c_Mo_fill 4 = .ok (.getfield 122, 3) := by decide +kernel
theorem d_Mo_fill_7 : decode c_Mo_fill 7 = .ok (.if_icmp .ge 69, 3) := by decide +kernel
theorem d_Mo_fill_10 : decode c_Mo_fill 10 = .ok (.iconst 0, 1) := by decide +kernel
theorem d_Mo_fill_11 : decode c_Mo_fill 11 = .ok (.istore_n 3, 1) := by decide +kernel
theorem d_Mo_fill_12 : decode c_Mo_fill 12 = .ok (.iload_n 3, 1) := by decide +kernel
theorem d_Mo_fill_13 : decode c_Mo_fill 13 = .ok (.iload_n 1, 1) := by decide +kernel
theorem d_Mo_fill_14 : decode c_Mo_fill 14 = .ok (.if_icmp .ge 39, 3) := by decide +kernel
theorem d_Mo_fill_17 : decode c_Mo_fill 17 = .ok (.aload_n 0, 1) := by decide +kernel
theorem d_Mo_fill_18 : decode c_Mo_fill 18 = .ok (.getfield 45, 3) := by decide +kernel
theorem d_Mo_fill_21 : decode c_Mo_fill 21 = .ok (.bipush 41, 2) := by decide +kernel
theorem d_Mo_fill_23 : decode c_Mo_fill 23 = .ok (.iload_n 2, 1) := by decide +kernel
theorem d_Mo_fill_24 : decode c_Mo_fill 24 = .ok (.imul, 1) := by decide +kernel
theorem d_Mo_fill_25 : decode c_Mo_fill 25 = .ok (.iload_n 3, 1) := by decide +kernel
theorem d_Mo_fill_26 : decode c_Mo_fill 26 = .ok (.iadd, 1) := by decide +kernel
theorem d_Mo_fill_27 : decode c_Mo_fill 27 = .ok (.aload_n 0, 1) := by decide +kernel
theorem d_Mo_fill_28 : decode c_Mo_fill 28 = .ok (.aload_n 0, 1) := by decide +kernel
theorem d_Mo_fill_29 : decode c_Mo_fill 29 = .ok (.getfield 42, 3) := by decide +kernel
theorem d_Mo_fill_32 : decode c_Mo_fill 32 = .ok (.iload_n 3, 1) := by decide +kernel
theorem d_Mo_fill_33 : decode c_Mo_fill 33 = .ok (.iaload, 1) := by decide +kernel
theorem d_Mo_fill_34 : decode c_Mo_fill 34 = .ok (.invokevirtual 134, 3) := by decide +kernel
theorem d_Mo_fill_37 : decode c_Mo_fill 37 = .ok (.aload_n 0, 1) := by decide +kernel
theorem d_Mo_fill_38 : decode c_Mo_fill 38 = .ok (.getfield 125, 3) := by decide +kernel
theorem d_Mo_fill_41 : decode c_Mo_fill 41 = .ok (.iload_n 2, 1) := by decide +kernel
theorem d_Mo_fill_42 : decode c_Mo_fill 42 = .ok (.iadd, 1) := by decide +kernel
theorem d_Mo_fill_43 : decode c_Mo_fill 43 = .ok (.invokestatic 88, 3) := by decide +kernel
theorem d_Mo_fill_46 : decode c_Mo_fill 46 = .ok (.iastore, 1) := by decide +kernel
theorem d_Mo_fill_47 : decode c_Mo_fill 47 = .ok (.iinc 3 1, 3) := by decide +kernel
theorem d_Mo_fill_50 : decode c_Mo_fill 50 = .ok (.goto (-38), 3) := by decide +kernel
theorem d_Mo_fill_53 : decode c_Mo_fill 53 = .ok (.aload_n 0, 1) := by decide +kernel
theorem d_Mo_fill_54 : decode c_Mo_fill 54 = .ok (.getfield 45, 3) := by decide +kernel
theorem d_Mo_fill_57 : decode c_Mo_fill 57 = .ok (.bipush 41, 2) := by decide +kernel
theorem d_Mo_fill_59 : decode c_Mo_fill 59 = .ok (.iload_n 2, 1) := by decide +kernel
theorem d_Mo_fill_60 : decode c_Mo_fill 60 = .ok (.imul, 1) := by decide +kernel
theorem d_Mo_fill_61 : decode c_Mo_fill 61 = .ok (.iload_n 1, 1) := by decide +kernel
theorem d_Mo_fill_62 : decode c_Mo_fill 62 = .ok (.iadd, 1) := by decide +kernel
theorem d_Mo_fill_63 : decode c_Mo_fill 63 = .ok (.aload_n 0, 1) := by decide +kernel
theorem d_Mo_fill_64 : decode c_Mo_fill 64 = .ok (.getfield 36, 3) := by decide +kernel
theorem d_Mo_fill_67 : decode c_Mo_fill 67 = .ok (.iload_n 2, 1) := by decide +kernel
theorem d_Mo_fill_68 : decode c_Mo_fill 68 = .ok (.iaload, 1) := by decide +kernel
theorem d_Mo_fill_69 : decode c_Mo_fill 69 = .ok (.iastore, 1) := by decide +kernel
theorem d_Mo_fill_70 : decode c_Mo_fill 70 = .ok (.iinc 2 1, 3) := by decide +kernel
theorem d_Mo_fill_73 : decode c_Mo_fill 73 = .ok (.goto (-71), 3) := by decide +kernel
theorem d_Mo_fill_76 : decode c_Mo_fill 76 = .ok (.aload_n 0, 1) := by decide +kernel
theorem d_Mo_fill_77 : decode c_Mo_fill 77 = .ok (.aload_n 0, 1) := by decide +kernel
theorem d_Mo_fill_78 : decode c_Mo_fill 78 = .ok (.getfield 122, 3) := by decide +kernel
theorem d_Mo_fill_81 : decode c_Mo_fill 81 = .ok (.iload_n 1, 1) := by decide +kernel
theorem d_Mo_fill_82 : decode c_Mo_fill 82 = .ok (.invokevirtual 144, 3) := by decide +kernel
theorem d_Mo_fill_85 : decode c_Mo_fill 85 = .ok (.ifCond .ne 5, 3) := by decide +kernel
theorem d_Mo_fill_88 : decode c_Mo_fill 88 = .ok (.iconst 0, 1) := by decide +kernel
theorem d_Mo_fill_89 : decode c_Mo_fill 89 = .ok (.ireturn, 1) := by decide +kernel
theorem d_Mo_fill_90 : decode c_Mo_fill 90 = .ok (.iconst 0, 1) := by decide +kernel
theorem d_Mo_fill_91 : decode c_Mo_fill 91 = .ok (.istore_n 2, 1) := by decide +kernel
theorem d_Mo_fill_92 : decode c_Mo_fill 92 = .ok (.iload_n 2, 1) := by decide +kernel
theorem d_Mo_fill_93 : decode c_Mo_fill 93 = .ok (.iload_n 1, 1) := by decide +kernel
theorem d_Mo_fill_94 : decode c_Mo_fill 94 = .ok (.if_icmp .ge 34, 3) := by decide +kernel
theorem d_Mo_fill_97 : decode c_Mo_fill 97 = .ok (.aload_n 0, 1) := by decide +kernel
theorem d_Mo_fill_98 : decode c_Mo_fill 98 = .ok (.getfield 33, 3) := by decide +kernel
theorem d_Mo_fill_101 : decode c_Mo_fill 101 = .ok (.aload_n 0, 1) := by decide +kernel
theorem d_Mo_fill_102 : decode c_Mo_fill 102 = .ok (.getfield 42, 3) := by decide +kernel
theorem d_Mo_fill_105 : decode c_Mo_fill 105 = .ok (.iload_n 2, 1) := by decide +kernel
theorem d_Mo_fill_106 : decode c_Mo_fill 106 = .ok (.iaload, 1) := by decide +kernel
theorem d_Mo_fill_107 : decode c_Mo_fill 107 = .ok (.baload, 1) := by decide +kernel
theorem d_Mo_fill_108 : decode c_Mo_fill 108 = .ok (.ifCond .ne 14, 3) := by decide +kernel
theorem d_Mo_fill_111 : decode c_Mo_fill 111 = .ok (.aload_n 0, 1) := by decide +kernel
theorem d_Mo_fill_112 : decode c_Mo_fill 112 = .ok (.getfield 48, 3) := by decide +kernel
theorem d_Mo_fill_115 : decode c_Mo_fill 115 = .ok (.iload_n 2, 1) := by decide +kernel
theorem d_Mo_fill_116 : decode c_Mo_fill 116 = .ok (.iaload, 1) := by decide +kernel
theorem d_Mo_fill_117 : decode c_Mo_fill 117 = .ok (.ifCond .ne 5, 3) := by decide +kernel
theorem d_Mo_fill_120 : decode c_Mo_fill 120 = .ok (.iconst 0, 1) := by decide +kernel
theorem d_Mo_fill_121 : decode c_Mo_fill 121 = .ok (.ireturn, 1) := by decide +kernel
theorem d_Mo_fill_122 : decode c_Mo_fill 122 = .ok (.iinc 2 1, 3) := by decide +kernel
theorem d_Mo_fill_125 : decode c_Mo_fill 125 = .ok (.goto (-33), 3) := by decide +kernel
theorem d_Mo_fill_128 : decode c_Mo_fill 128 = .ok (.iconst 0, 1) := by decide +kernel
theorem d_Mo_fill_129 : decode c_Mo_fill 129 = .ok (.istore_n 2, 1) := by decide +kernel
theorem d_Mo_fill_130 : decode c_Mo_fill 130 = .ok (.iload_n 2, 1) := by decide +kernel
theorem d_Mo_fill_131 : decode c_Mo_fill 131 = .ok (.iload_n 1, 1) := by decide +kernel
theorem d_Mo_fill_132 : decode c_Mo_fill 132 = .ok (.if_icmp .ge 53, 3) := by decide +kernel
theorem d_Mo_fill_135 : decode c_Mo_fill 135 = .ok (.aload_n 0, 1) := by decide +kernel
theorem d_Mo_fill_136 : decode c_Mo_fill 136 = .ok (.getfield 42, 3) := by decide +kernel
theorem d_Mo_fill_139 : decode c_Mo_fill 139 = .ok (.iload_n 2, 1) := by decide +kernel
theorem d_Mo_fill_140 : decode c_Mo_fill 140 = .ok (.iaload, 1) := by decide +kernel
theorem d_Mo_fill_141 : decode c_Mo_fill 141 = .ok (.istore_n 3, 1) := by decide +kernel
theorem d_Mo_fill_142 : decode c_Mo_fill 142 = .ok (.aload_n 0, 1) := by decide +kernel
theorem d_Mo_fill_143 : decode c_Mo_fill 143 = .ok (.getfield 30, 3) := by decide +kernel
theorem d_Mo_fill_146 : decode c_Mo_fill 146 = .ok (.iload_n 3, 1) := by decide +kernel
theorem d_Mo_fill_147 : decode c_Mo_fill 147 = .ok (.aload_n 0, 1) := by decide +kernel
theorem d_Mo_fill_148 : decode c_Mo_fill 148 = .ok (.getfield 33, 3) := by decide +kernel
theorem d_Mo_fill_151 : decode c_Mo_fill 151 = .ok (.iload_n 3, 1) := by decide +kernel
theorem d_Mo_fill_152 : decode c_Mo_fill 152 = .ok (.baload, 1) := by decide +kernel
theorem d_Mo_fill_153 : decode c_Mo_fill 153 = .ok (.ifCond .eq 12, 3) := by decide +kernel
theorem d_Mo_fill_156 : decode c_Mo_fill 156 = .ok (.aload_n 0, 1) := by decide +kernel
theorem d_Mo_fill_157 : decode c_Mo_fill 157 = .ok (.getfield 48, 3) := by decide +kernel
theorem d_Mo_fill_160 : decode c_Mo_fill 160 = .ok (.iload_n 2, 1) := by decide +kernel
theorem d_Mo_fill_161 : decode c_Mo_fill 161 = .ok (.iaload, 1) := by decide +kernel
theorem d_Mo_fill_162 : decode c_Mo_fill 162 = .ok (.goto 16, 3) := by decide +kernel
theorem d_Mo_fill_165 : decode c_Mo_fill 165 = .ok (.aload_n 0, 1) := by decide +kernel
theorem d_Mo_fill_166 : decode c_Mo_fill 166 = .ok (.getfield 30, 3) := by decide +kernel
theorem d_Mo_fill_169 : decode c_Mo_fill 169 = .ok (.iload_n 3, 1) := by decide +kernel
theorem d_Mo_fill_170 : decode c_Mo_fill 170 = .ok (.iaload, 1) := by decide +kernel
theorem d_Mo_fill_171 : decode c_Mo_fill 171 = .ok (.aload_n 0, 1) := by decide +kernel
theorem d_Mo_fill_172 : decode c_Mo_fill 172 = .ok (.getfield 48, 3) := by decide +kernel
theorem d_Mo_fill_175 : decode c_Mo_fill 175 = .ok (.iload_n 2, 1) := by decide +kernel
theorem d_Mo_fill_176 : decode c_Mo_fill 176 = .ok (.iaload, 1) := by decide +kernel
theorem d_Mo_fill_177 : decode c_Mo_fill 177 = .ok (.ixor, 1) := by decide +kernel
theorem d_Mo_fill_178 : decode c_Mo_fill 178 = .ok (.iastore, 1) := by decide +kernel
theorem d_Mo_fill_179 : decode c_Mo_fill 179 = .ok (.iinc 2 1, 3) := by decide +kernel
theorem d_Mo_fill_182 : decode c_Mo_fill 182 = .ok (.goto (-52), 3) := by decide +kernel
theorem d_Mo_fill_185 : decode c_Mo_fill 185 = .ok (.iconst 1, 1) := by decide +kernel
theorem d_Mo_fill_186 : decode c_Mo_fill 186 = .ok (.ireturn, 1) := by decide +kernel
theorem ok_Mo_fill : tb_mV y_Mo_fill c_Mo_fill 4 (some .boolean) 1 := ⟨tb_881, tb_48, tb_880, tb_30, by decide +kernel⟩
abbrev c_Mo_repairWork : ByteArray := prog_9_method_25_code
abbrev y_Mo_repairWork : MethodName := ⟨"ReedSetsModel", "repairWork", "()I"⟩
theorem d_Mo_repairWork_0 : decode c_Mo_repairWork 0 = .ok (.iconst 0, 1) := by decide +kernel
theorem d_Mo_repairWork_1 : decode c_Mo_repairWork 1 = .ok (.istore_n 1, 1) := by decide +kernel
theorem d_Mo_repairWork_2 : decode c_Mo_repairWork 2 = .ok (.iconst 0, 1) := by decide +kernel
theorem d_Mo_repairWork_3 : decode c_Mo_repairWork 3 = .ok (.istore_n 2, 1) := by decide +kernel
theorem d_Mo_repairWork_4 : decode c_Mo_repairWork 4 = .ok (.iload_n 2, 1) := by decide +kernel
theorem d_Mo_repairWork_5 : decode c_Mo_repairWork 5 = .ok (.aload_n 0, 1) := by decide +kernel
theorem d_Mo_repairWork_6 : decode c_Mo_repairWork 6 = .ok (.getfield 119, 3) := by decide +kernel
theorem d_Mo_repairWork_9 : decode c_Mo_repairWork 9 = .ok (.if_icmp .ge 26, 3) := by decide +kernel
theorem d_Mo_repairWork_12 : decode c_Mo_repairWork 12 = .ok (.iload_n 1, 1) := by decide +kernel
theorem d_Mo_repairWork_13 : decode c_Mo_repairWork 13 = .ok (.aload_n 0, 1) := by decide +kernel
theorem d_Mo_repairWork_14 : decode c_Mo_repairWork 14 = .ok (.getfield 33, 3) := by decide +kernel
theorem d_Mo_repairWork_17 : decode c_Mo_repairWork 17 = .ok (.iload_n 2, 1) := by decide +kernel
theorem d_Mo_repairWork_18 : decode c_Mo_repairWork 18 = .ok (.baload, 1) := by decide +kernel
theorem d_Mo_repairWork_19 : decode c_Mo_repairWork 19 = .ok (.ifCond .eq 7, 3) := by decide +kernel
theorem d_Mo_repairWork_22 : decode c_Mo_repairWork 22 = .ok (.iconst 1, 1) := by decide +kernel
theorem d_Mo_repairWork_23 : decode c_Mo_repairWork 23 = .ok (.goto 4, 3) := by decide +kernel
theorem d_Mo_repairWork_26 : decode c_Mo_repairWork 26 = .ok (.iconst 0, 1) := by decide +kernel
theorem d_Mo_repairWork_27 : decode c_Mo_repairWork 27 = .ok (.iadd, 1) := by decide +kernel
theorem d_Mo_repairWork_28 : decode c_Mo_repairWork 28 = .ok (.istore_n 1, 1) := by decide +kernel
theorem d_Mo_repairWork_29 : decode c_Mo_repairWork 29 = .ok (.iinc 2 1, 3) := by decide +kernel
theorem d_Mo_repairWork_32 : decode c_Mo_repairWork 32 = .ok (.goto (-28), 3) := by decide +kernel
theorem d_Mo_repairWork_35 : decode c_Mo_repairWork 35 = .ok (.iload_n 1, 1) := by decide +kernel
theorem d_Mo_repairWork_36 : decode c_Mo_repairWork 36 = .ok (.aload_n 0, 1) := by decide +kernel
theorem d_Mo_repairWork_37 : decode c_Mo_repairWork 37 = .ok (.getfield 122, 3) := by decide +kernel
theorem d_Mo_repairWork_40 : decode c_Mo_repairWork 40 = .ok (.if_icmp .le 5, 3) := by decide +kernel
theorem d_Mo_repairWork_43 : decode c_Mo_repairWork 43 = .ok (.iconst (-1), 1) := by decide +kernel
theorem d_Mo_repairWork_44 : decode c_Mo_repairWork 44 = .ok (.ireturn, 1) := by decide +kernel
theorem d_Mo_repairWork_45 : decode c_Mo_repairWork 45 = .ok (.iconst 0, 1) := by decide +kernel
theorem d_Mo_repairWork_46 : decode c_Mo_repairWork 46 = .ok (.istore_n 2, 1) := by decide +kernel
theorem d_Mo_repairWork_47 : decode c_Mo_repairWork 47 = .ok (.iload_n 2, 1) := by decide +kernel
theorem d_Mo_repairWork_48 : decode c_Mo_repairWork 48 = .ok (.aload_n 0, 1) := by decide +kernel
theorem d_Mo_repairWork_49 : decode c_Mo_repairWork 49 = .ok (.getfield 122, 3) := by decide +kernel
theorem d_Mo_repairWork_52 : decode c_Mo_repairWork 52 = .ok (.if_icmp .ge 40, 3) := by decide +kernel
theorem d_Mo_repairWork_55 : decode c_Mo_repairWork 55 = .ok (.aload_n 0, 1) := by decide +kernel
theorem d_Mo_repairWork_56 : decode c_Mo_repairWork 56 = .ok (.getfield 36, 3) := by decide +kernel
theorem d_Mo_repairWork_59 : decode c_Mo_repairWork 59 = .ok (.iload_n 2, 1) := by decide +kernel
theorem d_Mo_repairWork_60 : decode c_Mo_repairWork 60 = .ok (.aload_n 0, 1) := by decide +kernel
theorem d_Mo_repairWork_61 : decode c_Mo_repairWork 61 = .ok (.aload_n 0, 1) := by decide +kernel
theorem d_Mo_repairWork_62 : decode c_Mo_repairWork 62 = .ok (.getfield 125, 3) := by decide +kernel
theorem d_Mo_repairWork_65 : decode c_Mo_repairWork 65 = .ok (.iload_n 2, 1) := by decide +kernel
theorem d_Mo_repairWork_66 : decode c_Mo_repairWork 66 = .ok (.iadd, 1) := by decide +kernel
theorem d_Mo_repairWork_67 : decode c_Mo_repairWork 67 = .ok (.invokestatic 105, 3) := by decide +kernel
theorem d_Mo_repairWork_70 : decode c_Mo_repairWork 70 = .ok (.invokevirtual 131, 3) := by decide +kernel
theorem d_Mo_repairWork_73 : decode c_Mo_repairWork 73 = .ok (.iastore, 1) := by decide +kernel
theorem d_Mo_repairWork_74 : decode c_Mo_repairWork 74 = .ok (.aload_n 0, 1) := by decide +kernel
theorem d_Mo_repairWork_75 : decode c_Mo_repairWork 75 = .ok (.getfield 39, 3) := by decide +kernel
theorem d_Mo_repairWork_78 : decode c_Mo_repairWork 78 = .ok (.iload_n 2, 1) := by decide +kernel
theorem d_Mo_repairWork_79 : decode c_Mo_repairWork 79 = .ok (.aload_n 0, 1) := by decide +kernel
theorem d_Mo_repairWork_80 : decode c_Mo_repairWork 80 = .ok (.getfield 36, 3) := by decide +kernel
theorem d_Mo_repairWork_83 : decode c_Mo_repairWork 83 = .ok (.iload_n 2, 1) := by decide +kernel
theorem d_Mo_repairWork_84 : decode c_Mo_repairWork 84 = .ok (.iaload, 1) := by decide +kernel
theorem d_Mo_repairWork_85 : decode c_Mo_repairWork 85 = .ok (.iastore, 1) := by decide +kernel
theorem d_Mo_repairWork_86 : decode c_Mo_repairWork 86 = .ok (.iinc 2 1, 3) := by decide +kernel
theorem d_Mo_repairWork_89 : decode c_Mo_repairWork 89 = .ok (.goto (-42), 3) := by decide +kernel
theorem d_Mo_repairWork_92 : decode c_Mo_repairWork 92 = .ok (.aload_n 0, 1) := by decide +kernel
theorem d_Mo_repairWork_93 : decode c_Mo_repairWork 93 = .ok (.getfield 122, 3) := by decide +kernel
theorem d_Mo_repairWork_96 : decode c_Mo_repairWork 96 = .ok (.istore_n 2, 1) := by decide +kernel
theorem d_Mo_repairWork_97 : decode c_Mo_repairWork 97 = .ok (.iconst 0, 1) := by decide +kernel
theorem d_Mo_repairWork_98 : decode c_Mo_repairWork 98 = .ok (.istore_n 3, 1) := by decide +kernel
theorem d_Mo_repairWork_99 : decode c_Mo_repairWork 99 = .ok (.iload_n 3, 1) := by decide +kernel
theorem d_Mo_repairWork_100 : decode c_Mo_repairWork 100 = .ok (.aload_n 0, 1) := by decide +kernel
theorem d_Mo_repairWork_101 : decode c_Mo_repairWork 101 = .ok (.getfield 119, 3) := by decide +kernel
theorem d_Mo_repairWork_104 : decode c_Mo_repairWork 104 = .ok (.if_icmp .ge 72, 3) := by decide +kernel
theorem d_Mo_repairWork_107 : decode c_Mo_repairWork 107 = .ok (.aload_n 0, 1) := by decide +kernel
theorem d_Mo_repairWork_108 : decode c_Mo_repairWork 108 = .ok (.getfield 33, 3) := by decide +kernel
theorem d_Mo_repairWork_111 : decode c_Mo_repairWork 111 = .ok (.iload_n 3, 1) := by decide +kernel
theorem d_Mo_repairWork_112 : decode c_Mo_repairWork 112 = .ok (.baload, 1) := by decide +kernel
theorem d_Mo_repairWork_113 : decode c_Mo_repairWork 113 = .ok (.ifCond .eq 57, 3) := by decide +kernel
theorem d_Mo_repairWork_116 : decode c_Mo_repairWork 116 = .ok (.aload_n 0, 1) := by decide +kernel
theorem d_Mo_repairWork_117 : decode c_Mo_repairWork 117 = .ok (.iload_n 3, 1) := by decide +kernel
theorem d_Mo_repairWork_118 : decode c_Mo_repairWork 118 = .ok (.invokevirtual 134, 3) := by decide +kernel
theorem d_Mo_repairWork_121 : decode c_Mo_repairWork 121 = .ok (.istore 4, 2) := by decide +kernel
theorem d_Mo_repairWork_123 : decode c_Mo_repairWork 123 = .ok (.iinc 2 (-1), 3) := by decide +kernel
theorem d_Mo_repairWork_126 : decode c_Mo_repairWork 126 = .ok (.iconst 0, 1) := by decide +kernel
theorem d_Mo_repairWork_127 : decode c_Mo_repairWork 127 = .ok (.istore 5, 2) := by decide +kernel
theorem d_Mo_repairWork_129 : decode c_Mo_repairWork 129 = .ok (.iload 5, 2) := by decide +kernel
theorem d_Mo_repairWork_131 : decode c_Mo_repairWork 131 = .ok (.iload_n 2, 1) := by decide +kernel
theorem d_Mo_repairWork_132 : decode c_Mo_repairWork 132 = .ok (.if_icmp .ge 38, 3) := by decide +kernel
theorem d_Mo_repairWork_135 : decode c_Mo_repairWork 135 = .ok (.aload_n 0, 1) := by decide +kernel
theorem d_Mo_repairWork_136 : decode c_Mo_repairWork 136 = .ok (.getfield 39, 3) := by decide +kernel
theorem d_Mo_repairWork_139 : decode c_Mo_repairWork 139 = .ok (.iload 5, 2) := by decide +kernel
theorem d_Mo_repairWork_141 : decode c_Mo_repairWork 141 = .ok (.aload_n 0, 1) := by decide +kernel
theorem d_Mo_repairWork_142 : decode c_Mo_repairWork 142 = .ok (.getfield 39, 3) := by decide +kernel
theorem d_Mo_repairWork_145 : decode c_Mo_repairWork 145 = .ok (.iload 5, 2) := by decide +kernel
theorem d_Mo_repairWork_147 : decode c_Mo_repairWork 147 = .ok (.iconst 1, 1) := by decide +kernel
theorem d_Mo_repairWork_148 : decode c_Mo_repairWork 148 = .ok (.iadd, 1) := by decide +kernel
theorem d_Mo_repairWork_149 : decode c_Mo_repairWork 149 = .ok (.iaload, 1) := by decide +kernel
theorem d_Mo_repairWork_150 : decode c_Mo_repairWork 150 = .ok (.iload 4, 2) := by decide +kernel
theorem d_Mo_repairWork_152 : decode c_Mo_repairWork 152 = .ok (.aload_n 0, 1) := by decide +kernel
theorem d_Mo_repairWork_153 : decode c_Mo_repairWork 153 = .ok (.getfield 39, 3) := by decide +kernel
theorem d_Mo_repairWork_156 : decode c_Mo_repairWork 156 = .ok (.iload 5, 2) := by decide +kernel
theorem d_Mo_repairWork_158 : decode c_Mo_repairWork 158 = .ok (.iaload, 1) := by decide +kernel
theorem d_Mo_repairWork_159 : decode c_Mo_repairWork 159 = .ok (.invokestatic 84, 3) := by decide +kernel
theorem d_Mo_repairWork_162 : decode c_Mo_repairWork 162 = .ok (.ixor, 1) := by decide +kernel
theorem d_Mo_repairWork_163 : decode c_Mo_repairWork 163 = .ok (.iastore, 1) := by decide +kernel
theorem d_Mo_repairWork_164 : decode c_Mo_repairWork 164 = .ok (.iinc 5 1, 3) := by decide +kernel
theorem d_Mo_repairWork_167 : decode c_Mo_repairWork 167 = .ok (.goto (-38), 3) := by decide +kernel
theorem d_Mo_repairWork_170 : decode c_Mo_repairWork 170 = .ok (.iinc 3 1, 3) := by decide +kernel
theorem d_Mo_repairWork_173 : decode c_Mo_repairWork 173 = .ok (.goto (-74), 3) := by decide +kernel
theorem d_Mo_repairWork_176 : decode c_Mo_repairWork 176 = .ok (.iconst 0, 1) := by decide +kernel
theorem d_Mo_repairWork_177 : decode c_Mo_repairWork 177 = .ok (.istore_n 3, 1) := by decide +kernel
theorem d_Mo_repairWork_178 : decode c_Mo_repairWork 178 = .ok (.iconst 2, 1) := by decide +kernel
theorem d_Mo_repairWork_179 : decode c_Mo_repairWork 179 = .ok (.iload_n 3, 1) := by decide +kernel
theorem d_Mo_repairWork_180 : decode c_Mo_repairWork 180 = .ok (.imul, 1) := by decide +kernel
theorem d_Mo_repairWork_181 : decode c_Mo_repairWork 181 = .ok (.iload_n 1, 1) := by decide +kernel
theorem d_Mo_repairWork_182 : decode c_Mo_repairWork 182 = .ok (.iadd, 1) := by decide +kernel
theorem d_Mo_repairWork_183 : decode c_Mo_repairWork 183 = .ok (.aload_n 0, 1) := by decide +kernel
theorem d_Mo_repairWork_184 : decode c_Mo_repairWork 184 = .ok (.getfield 122, 3) := by decide +kernel
theorem d_Mo_repairWork_187 : decode c_Mo_repairWork 187 = .ok (.if_icmp .gt 30, 3) := by decide +kernel
theorem d_Mo_repairWork_190 : decode c_Mo_repairWork 190 = .ok (.aload_n 0, 1) := by decide +kernel
theorem d_Mo_repairWork_191 : decode c_Mo_repairWork 191 = .ok (.iload_n 3, 1) := by decide +kernel
theorem d_Mo_repairWork_192 : decode c_Mo_repairWork 192 = .ok (.iload_n 2, 1) := by decide +kernel
theorem d_Mo_repairWork_193 : decode c_Mo_repairWork 193 = .ok (.invokevirtual 137, 3) := by decide +kernel
theorem d_Mo_repairWork_196 : decode c_Mo_repairWork 196 = .ok (.ifCond .eq 15, 3) := by decide +kernel
theorem d_Mo_repairWork_199 : decode c_Mo_repairWork 199 = .ok (.aload_n 0, 1) := by decide +kernel
theorem d_Mo_repairWork_200 : decode c_Mo_repairWork 200 = .ok (.iload_n 1, 1) := by decide +kernel
theorem d_Mo_repairWork_201 : decode c_Mo_repairWork 201 = .ok (.iload_n 3, 1) := by decide +kernel
theorem d_Mo_repairWork_202 : decode c_Mo_repairWork 202 = .ok (.iadd, 1) := by decide +kernel
theorem d_Mo_repairWork_203 : decode c_Mo_repairWork 203 = .ok (.invokevirtual 141, 3) := by decide +kernel
theorem d_Mo_repairWork_206 : decode c_Mo_repairWork 206 = .ok (.ifCond .eq 5, 3) := by decide +kernel
theorem d_Mo_repairWork_209 : decode c_Mo_repairWork 209 = .ok (.iload_n 3, 1) := by decide +kernel
theorem d_Mo_repairWork_210 : decode c_Mo_repairWork 210 = .ok (.ireturn, 1) := by decide +kernel
theorem d_Mo_repairWork_211 : decode c_Mo_repairWork 211 = .ok (.iinc 3 1, 3) := by decide +kernel
theorem d_Mo_repairWork_214 : decode c_Mo_repairWork 214 = .ok (.goto (-36), 3) := by decide +kernel
theorem d_Mo_repairWork_217 : decode c_Mo_repairWork 217 = .ok (.iconst (-1), 1) := by decide +kernel
theorem d_Mo_repairWork_218 : decode c_Mo_repairWork 218 = .ok (.ireturn, 1) := by decide +kernel
theorem ok_Mo_repairWork : tb_mV y_Mo_repairWork c_Mo_repairWork 6 (some .int) 0 := ⟨tb_865, tb_48, tb_864, tb_26, by decide +kernel⟩
abbrev c_Mo_repair : ByteArray := prog_9_method_28_code
abbrev y_Mo_repair : MethodName := ⟨"ReedSetsModel", "repair", "()I"⟩
theorem d_Mo_repair_0 : decode c_Mo_repair 0 = .ok (.aload_n 0, 1) := by decide +kernel
theorem d_Mo_repair_1 : decode c_Mo_repair 1 = .ok (.invokevirtual 128, 3) := by decide +kernel
theorem d_Mo_repair_4 : decode c_Mo_repair 4 = .ok (.aload_n 0, 1) := by decide +kernel
theorem d_Mo_repair_5 : decode c_Mo_repair 5 = .ok (.invokevirtual 150, 3) := by decide +kernel
theorem d_Mo_repair_8 : decode c_Mo_repair 8 = .ok (.istore_n 1, 1) := by decide +kernel
theorem d_Mo_repair_9 : decode c_Mo_repair 9 = .ok (.iload_n 1, 1) := by decide +kernel
theorem d_Mo_repair_10 : decode c_Mo_repair 10 = .ok (.ifCond .ge 5, 3) := by decide +kernel
theorem d_Mo_repair_13 : decode c_Mo_repair 13 = .ok (.iconst (-1), 1) := by decide +kernel
theorem d_Mo_repair_14 : decode c_Mo_repair 14 = .ok (.ireturn, 1) := by decide +kernel
theorem d_Mo_repair_15 : decode c_Mo_repair 15 = .ok (.aload_n 0, 1) := by decide +kernel
theorem d_Mo_repair_16 : decode c_Mo_repair 16 = .ok (.iconst 0, 1) := by decide +kernel
theorem d_Mo_repair_17 : decode c_Mo_repair 17 = .ok (.putfield 154, 3) := by decide +kernel
theorem d_Mo_repair_20 : decode c_Mo_repair 20 = .ok (.iconst 0, 1) := by decide +kernel
theorem d_Mo_repair_21 : decode c_Mo_repair 21 = .ok (.istore_n 2, 1) := by decide +kernel
theorem d_Mo_repair_22 : decode c_Mo_repair 22 = .ok (.iload_n 2, 1) := by decide +kernel
theorem d_Mo_repair_23 : decode c_Mo_repair 23 = .ok (.aload_n 0, 1) := by decide +kernel
theorem d_Mo_repair_24 : decode c_Mo_repair 24 = .ok (.getfield 7, 3) := by decide +kernel
theorem d_Mo_repair_27 : decode c_Mo_repair 27 = .ok (.aload_n 0, 1) := by decide +kernel
theorem d_Mo_repair_28 : decode c_Mo_repair 28 = .ok (.getfield 99, 3) := by decide +kernel
theorem d_Mo_repair_31 : decode c_Mo_repair 31 = .ok (.iadd, 1) := by decide +kernel
theorem d_Mo_repair_32 : decode c_Mo_repair 32 = .ok (.if_icmp .ge 85, 3) := by decide +kernel
theorem d_Mo_repair_35 : decode c_Mo_repair 35 = .ok (.aload_n 0, 1) := by decide +kernel
theorem d_Mo_repair_36 : decode c_Mo_repair 36 = .ok (.getfield 30, 3) := by decide +kernel
theorem d_Mo_repair_39 : decode c_Mo_repair 39 = .ok (.iload_n 2, 1) := by decide +kernel
theorem d_Mo_repair_40 : decode c_Mo_repair 40 = .ok (.iaload, 1) := by decide +kernel
theorem d_Mo_repair_41 : decode c_Mo_repair 41 = .ok (.aload_n 0, 1) := by decide +kernel
theorem d_Mo_repair_42 : decode c_Mo_repair 42 = .ok (.getfield 13, 3) := by decide +kernel
theorem d_Mo_repair_45 : decode c_Mo_repair 45 = .ok (.iload_n 2, 1) := by decide +kernel
theorem d_Mo_repair_46 : decode c_Mo_repair 46 = .ok (.iaload, 1) := by decide +kernel
theorem d_Mo_repair_47 : decode c_Mo_repair 47 = .ok (.if_icmp .eq 45, 3) := by decide +kernel
theorem d_Mo_repair_50 : decode c_Mo_repair 50 = .ok (.aload_n 0, 1) := by decide +kernel
theorem d_Mo_repair_51 : decode c_Mo_repair 51 = .ok (.getfield 24, 3) := by decide +kernel
theorem d_Mo_repair_54 : decode c_Mo_repair 54 = .ok (.aload_n 0, 1) := by decide +kernel
theorem d_Mo_repair_55 : decode c_Mo_repair 55 = .ok (.getfield 154, 3) := by decide +kernel
theorem d_Mo_repair_58 : decode c_Mo_repair 58 = .ok (.iload_n 2, 1) := by decide +kernel
theorem d_Mo_repair_59 : decode c_Mo_repair 59 = .ok (.iastore, 1) := by decide +kernel
theorem d_Mo_repair_60 : decode c_Mo_repair 60 = .ok (.aload_n 0, 1) := by decide +kernel
theorem d_Mo_repair_61 : decode c_Mo_repair 61 = .ok (.getfield 27, 3) := by decide +kernel
theorem d_Mo_repair_64 : decode c_Mo_repair 64 = .ok (.aload_n 0, 1) := by decide +kernel
theorem d_Mo_repair_65 : decode c_Mo_repair 65 = .ok (.getfield 154, 3) := by decide +kernel
theorem d_Mo_repair_68 : decode c_Mo_repair 68 = .ok (.aload_n 0, 1) := by decide +kernel
theorem d_Mo_repair_69 : decode c_Mo_repair 69 = .ok (.getfield 30, 3) := by decide +kernel
theorem d_Mo_repair_72 : decode c_Mo_repair 72 = .ok (.iload_n 2, 1) := by decide +kernel
theorem d_Mo_repair_73 : decode c_Mo_repair 73 = .ok (.iaload, 1) := by decide +kernel
theorem d_Mo_repair_74 : decode c_Mo_repair 74 = .ok (.aload_n 0, 1) := by decide +kernel
theorem d_Mo_repair_75 : decode c_Mo_repair 75 = .ok (.getfield 13, 3) := by decide +kernel
theorem d_Mo_repair_78 : decode c_Mo_repair 78 = .ok (.iload_n 2, 1) := by decide +kernel
theorem d_Mo_repair_79 : decode c_Mo_repair 79 = .ok (.iaload, 1) := by decide +kernel
theorem d_Mo_repair_80 : decode c_Mo_repair 80 = .ok (.ixor, 1) := by decide +kernel
theorem d_Mo_repair_81 : decode c_Mo_repair 81 = .ok (.iastore, 1) := by decide +kernel
theorem d_Mo_repair_82 : decode c_Mo_repair 82 = .ok (.aload_n 0, 1) := by decide +kernel
theorem d_Mo_repair_83 : decode c_Mo_repair 83 = .ok (.dup, 1) := by decide +kernel
theorem d_Mo_repair_84 : decode c_Mo_repair 84 = .ok (.getfield 154, 3) := by decide +kernel
theorem d_Mo_repair_87 : decode c_Mo_repair 87 = .ok (.iconst 1, 1) := by decide +kernel
theorem d_Mo_repair_88 : decode c_Mo_repair 88 = .ok (.iadd, 1) := by decide +kernel
theorem d_Mo_repair_89 : decode c_Mo_repair 89 = .ok (.putfield 154, 3) := by decide +kernel
theorem d_Mo_repair_92 : decode c_Mo_repair 92 = .ok (.aload_n 0, 1) := by decide +kernel
theorem d_Mo_repair_93 : decode c_Mo_repair 93 = .ok (.getfield 13, 3) := by decide +kernel
theorem d_Mo_repair_96 : decode c_Mo_repair 96 = .ok (.iload_n 2, 1) := by decide +kernel
theorem d_Mo_repair_97 : decode c_Mo_repair 97 = .ok (.aload_n 0, 1) := by decide +kernel
theorem d_Mo_repair_98 : decode c_Mo_repair 98 = .ok (.getfield 30, 3) := by decide +kernel
theorem d_Mo_repair_101 : decode c_Mo_repair 101 = .ok (.iload_n 2, 1) := by decide +kernel
theorem d_Mo_repair_102 : decode c_Mo_repair 102 = .ok (.iaload, 1) := by decide +kernel
theorem d_Mo_repair_103 : decode c_Mo_repair 103 = .ok (.iastore, 1) := by decide +kernel
theorem d_Mo_repair_104 : decode c_Mo_repair 104 = .ok (.aload_n 0, 1) := by decide +kernel
theorem d_Mo_repair_105 : decode c_Mo_repair 105 = .ok (.getfield 17, 3) := by decide +kernel
theorem d_Mo_repair_108 : decode c_Mo_repair 108 = .ok (.iload_n 2, 1) := by decide +kernel
theorem d_Mo_repair_109 : decode c_Mo_repair 109 = .ok (.iconst 0, 1) := by decide +kernel
theorem d_Mo_repair_110 : decode c_Mo_repair 110 = .ok (.bastore, 1) := by decide +kernel
theorem d_Mo_repair_111 : decode c_Mo_repair 111 = .ok (.iinc 2 1, 3) := by decide +kernel
theorem d_Mo_repair_114 : decode c_Mo_repair 114 = .ok (.goto (-92), 3) := by decide +kernel
theorem d_Mo_repair_117 : decode c_Mo_repair 117 = .ok (.iload_n 1, 1) := by decide +kernel
theorem d_Mo_repair_118 : decode c_Mo_repair 118 = .ok (.ireturn, 1) := by decide +kernel
theorem ok_Mo_repair : tb_mV y_Mo_repair c_Mo_repair 3 (some .int) 0 := ⟨tb_861, tb_48, tb_859, tb_860, by decide +kernel⟩
abbrev c_Mo_changed : ByteArray := prog_9_method_29_code
abbrev y_Mo_changed : MethodName := ⟨"ReedSetsModel", "changed", "(II)I"⟩
theorem d_Mo_changed_0 : decode c_Mo_changed 0 = .ok (.iload_n 1, 1) := by decide +kernel
theorem d_Mo_changed_1 : decode c_Mo_changed 1 = .ok (.ifCond .lt 20, 3) := by decide +kernel
theorem d_Mo_changed_4 : decode c_Mo_changed 4 = .ok (.iload_n 1, 1) := by decide +kernel
theorem d_Mo_changed_5 : decode c_Mo_changed 5 = .ok (.aload_n 0, 1) := by decide +kernel
theorem d_Mo_changed_6 : decode c_Mo_changed 6 = .ok (.getfield 154, 3) := by decide +kernel
theorem d_Mo_changed_9 : decode c_Mo_changed 9 = .ok (.if_icmp .ge 12, 3) := by decide +kernel
theorem d_Mo_changed_12 : decode c_Mo_changed 12 = .ok (.iload_n 2, 1) := by decide +kernel
theorem d_Mo_changed_13 : decode c_Mo_changed 13 = .ok (.ifCond .lt 8, 3) := by decide +kernel
theorem d_Mo_changed_16 : decode c_Mo_changed 16 = .ok (.iload_n 2, 1) := by decide +kernel
theorem d_Mo_changed_17 : decode c_Mo_changed 17 = .ok (.iconst 1, 1) := by decide +kernel
theorem d_Mo_changed_18 : decode c_Mo_changed 18 = .ok (.if_icmp .le 7, 3) := by decide +kernel
theorem d_Mo_changed_21 : decode c_Mo_changed 21 = .ok (.iconst (-1), 1) := by decide +kernel
theorem d_Mo_changed_22 : decode c_Mo_changed 22 = .ok (.goto 22, 3) := by decide +kernel
theorem d_Mo_changed_25 : decode c_Mo_changed 25 = .ok (.iload_n 2, 1) := by decide +kernel
theorem d_Mo_changed_26 : decode c_Mo_changed 26 = .ok (.ifCond .ne 12, 3) := by decide +kernel
theorem d_Mo_changed_29 : decode c_Mo_changed 29 = .ok (.aload_n 0, 1) := by decide +kernel
theorem d_Mo_changed_30 : decode c_Mo_changed 30 = .ok (.getfield 24, 3) := by decide +kernel
theorem d_Mo_changed_33 : decode c_Mo_changed 33 = .ok (.iload_n 1, 1) := by decide +kernel
theorem d_Mo_changed_34 : decode c_Mo_changed 34 = .ok (.iaload, 1) := by decide +kernel
theorem d_Mo_changed_35 : decode c_Mo_changed 35 = .ok (.goto 9, 3) := by decide +kernel
theorem d_Mo_changed_38 : decode c_Mo_changed 38 = .ok (.aload_n 0, 1) := by decide +kernel
theorem d_Mo_changed_39 : decode c_Mo_changed 39 = .ok (.getfield 27, 3) := by decide +kernel
theorem d_Mo_changed_42 : decode c_Mo_changed 42 = .ok (.iload_n 1, 1) := by decide +kernel
theorem d_Mo_changed_43 : decode c_Mo_changed 43 = .ok (.iaload, 1) := by decide +kernel
theorem d_Mo_changed_44 : decode c_Mo_changed 44 = .ok (.ireturn, 1) := by decide +kernel
theorem ok_Mo_changed : tb_mV y_Mo_changed c_Mo_changed 3 (some .int) 2 := ⟨tb_885, tb_48, tb_883, tb_884, by decide +kernel⟩
abbrev c_Mo_isGiven : ByteArray := prog_9_method_30_code
abbrev y_Mo_isGiven : MethodName := ⟨"ReedSetsModel", "isGiven", "(I)Z"⟩
theorem d_Mo_isGiven_0 : decode c_Mo_isGiven 0 = .ok (.iload_n 0, 1) := by decide +kernel
theorem d_Mo_isGiven_1 : decode c_Mo_isGiven 1 = .ok (.iconst (-1), 1) := by decide +kernel
theorem d_Mo_isGiven_2 : decode c_Mo_isGiven 2 = .ok (.if_icmp .lt 14, 3) := by decide +kernel
theorem d_Mo_isGiven_5 : decode c_Mo_isGiven 5 = .ok (.iload_n 0, 1) := by decide +kernel
theorem d_Mo_isGiven_6 : decode c_Mo_isGiven 6 = .ok (.sipush 256, 3) := by decide +kernel
theorem d_Mo_isGiven_9 : decode c_Mo_isGiven 9 = .ok (.if_icmp .ge 7, 3) := by decide +kernel
theorem d_Mo_isGiven_12 : decode c_Mo_isGiven 12 = .ok (.iconst 1, 1) := by decide +kernel
theorem d_Mo_isGiven_13 : decode c_Mo_isGiven 13 = .ok (.goto 4, 3) := by decide +kernel
theorem d_Mo_isGiven_16 : decode c_Mo_isGiven 16 = .ok (.iconst 0, 1) := by decide +kernel
theorem d_Mo_isGiven_17 : decode c_Mo_isGiven 17 = .ok (.ireturn, 1) := by decide +kernel
theorem ok_Mo_isGiven : tb_mS y_Mo_isGiven c_Mo_isGiven 1 (some .boolean) 1 := ⟨tb_892, tb_48, tb_891, by decide +kernel⟩
abbrev c_Mo_block : ByteArray := prog_9_method_31_code
abbrev y_Mo_block : MethodName := ⟨"ReedSetsModel", "block", "(IIII)I"⟩
theorem d_Mo_block_0 : decode c_Mo_block 0 = .ok (.iload_n 1, 1) := by decide +kernel
theorem d_Mo_block_1 : decode c_Mo_block 1 = .ok (.ifCond .ge 7, 3) := by decide +kernel
theorem d_Mo_block_4 : decode c_Mo_block 4 = .ok (.iconst 0, 1) := by decide +kernel
theorem d_Mo_block_5 : decode c_Mo_block 5 = .ok (.goto 4, 3) := by decide +kernel
theorem d_Mo_block_8 : decode c_Mo_block 8 = .ok (.iconst 1, 1) := by decide +kernel
theorem d_Mo_block_9 : decode c_Mo_block 9 = .ok (.iload_n 2, 1) := by decide +kernel
theorem d_Mo_block_10 : decode c_Mo_block 10 = .ok (.ifCond .ge 7, 3) := by decide +kernel
theorem d_Mo_block_13 : decode c_Mo_block 13 = .ok (.iconst 0, 1) := by decide +kernel
theorem d_Mo_block_14 : decode c_Mo_block 14 = .ok (.goto 4, 3) := by decide +kernel
theorem d_Mo_block_17 : decode c_Mo_block 17 = .ok (.iconst 1, 1) := by decide +kernel
theorem d_Mo_block_18 : decode c_Mo_block 18 = .ok (.iadd, 1) := by decide +kernel
theorem d_Mo_block_19 : decode c_Mo_block 19 = .ok (.iload_n 3, 1) := by decide +kernel
theorem d_Mo_block_20 : decode c_Mo_block 20 = .ok (.ifCond .ge 7, 3) := by decide +kernel
theorem d_Mo_block_23 : decode c_Mo_block 23 = .ok (.iconst 0, 1) := by decide +kernel
theorem d_Mo_block_24 : decode c_Mo_block 24 = .ok (.goto 4, 3) := by decide +kernel
theorem d_Mo_block_27 : decode c_Mo_block 27 = .ok (.iconst 1, 1) := by decide +kernel
theorem d_Mo_block_28 : decode c_Mo_block 28 = .ok (.iadd, 1) := by decide +kernel
theorem d_Mo_block_29 : decode c_Mo_block 29 = .ok (.iload 4, 2) := by decide +kernel
theorem d_Mo_block_31 : decode c_Mo_block 31 = .ok (.ifCond .ge 7, 3) := by decide +kernel
theorem d_Mo_block_34 : decode c_Mo_block 34 = .ok (.iconst 0, 1) := by decide +kernel
theorem d_Mo_block_35 : decode c_Mo_block 35 = .ok (.goto 4, 3) := by decide +kernel
theorem d_Mo_block_38 : decode c_Mo_block 38 = .ok (.iconst 1, 1) := by decide +kernel
theorem d_Mo_block_39 : decode c_Mo_block 39 = .ok (.iadd, 1) := by decide +kernel
theorem d_Mo_block_40 : decode c_Mo_block 40 = .ok (.istore 5, 2) := by decide +kernel
theorem d_Mo_block_42 : decode c_Mo_block 42 = .ok (.iload_n 1, 1) := by decide +kernel
theorem d_Mo_block_43 : decode c_Mo_block 43 = .ok (.invokestatic 157, 3) := by decide +kernel
theorem d_Mo_block_46 : decode c_Mo_block 46 = .ok (.ifCond .eq 38, 3) := by decide +kernel
theorem d_Mo_block_49 : decode c_Mo_block 49 = .ok (.iload_n 2, 1) := by decide +kernel
theorem d_Mo_block_50 : decode c_Mo_block 50 = .ok (.invokestatic 157, 3) := by decide +kernel
theorem d_Mo_block_53 : decode c_Mo_block 53 = .ok (.ifCond .eq 31, 3) := by decide +kernel
theorem d_Mo_block_56 : decode c_Mo_block 56 = .ok (.iload_n 3, 1) := by decide +kernel
theorem d_Mo_block_57 : decode c_Mo_block 57 = .ok (.invokestatic 157, 3) := by decide +kernel
theorem d_Mo_block_60 : decode c_Mo_block 60 = .ok (.ifCond .eq 24, 3) := by decide +kernel
theorem d_Mo_block_63 : decode c_Mo_block 63 = .ok (.iload 4, 2) := by decide +kernel
theorem d_Mo_block_65 : decode c_Mo_block 65 = .ok (.invokestatic 157, 3) := by decide +kernel
theorem d_Mo_block_68 : decode c_Mo_block 68 = .ok (.ifCond .eq 16, 3) := by decide +kernel
theorem d_Mo_block_71 : decode c_Mo_block 71 = .ok (.aload_n 0, 1) := by decide +kernel
theorem d_Mo_block_72 : decode c_Mo_block 72 = .ok (.getfield 160, 3) := by decide +kernel
theorem d_Mo_block_75 : decode c_Mo_block 75 = .ok (.iload 5, 2) := by decide +kernel
theorem d_Mo_block_77 : decode c_Mo_block 77 = .ok (.iadd, 1) := by decide +kernel
theorem d_Mo_block_78 : decode c_Mo_block 78 = .ok (.sipush 800, 3) := by decide +kernel
theorem d_Mo_block_81 : decode c_Mo_block 81 = .ok (.if_icmp .le 5, 3) := by decide +kernel
theorem d_Mo_block_84 : decode c_Mo_block 84 = .ok (.iconst (-1), 1) := by decide +kernel
theorem d_Mo_block_85 : decode c_Mo_block 85 = .ok (.ireturn, 1) := by decide +kernel
theorem d_Mo_block_86 : decode c_Mo_block 86 = .ok (.iconst 0, 1) := by decide +kernel
theorem d_Mo_block_87 : decode c_Mo_block 87 = .ok (.istore 6, 2) := by decide +kernel
theorem d_Mo_block_89 : decode c_Mo_block 89 = .ok (.iload 6, 2) := by decide +kernel
theorem d_Mo_block_91 : decode c_Mo_block 91 = .ok (.iconst 4, 1) := by decide +kernel
theorem d_Mo_block_92 : decode c_Mo_block 92 = .ok (.if_icmp .ge 68, 3) := by decide +kernel
theorem d_Mo_block_95 : decode c_Mo_block 95 = .ok (.iload 6, 2) := by decide +kernel
theorem d_Mo_block_97 : decode c_Mo_block 97 = .ok (.ifCond .ne 7, 3) := by decide +kernel
theorem d_Mo_block_100 : decode c_Mo_block 100 = .ok (.iload_n 1, 1) := by decide +kernel
theorem d_Mo_block_101 : decode c_Mo_block 101 = .ok (.goto 25, 3) := by decide +kernel
theorem d_Mo_block_104 : decode c_Mo_block 104 = .ok (.iload 6, 2) := by decide +kernel
theorem d_Mo_block_106 : decode c_Mo_block 106 = .ok (.iconst 1, 1) := by decide +kernel
theorem d_Mo_block_107 : decode c_Mo_block 107 = .ok (.if_icmp .ne 7, 3) := by decide +kernel
theorem d_Mo_block_110 : decode c_Mo_block 110 = .ok (.iload_n 2, 1) := by decide +kernel
theorem d_Mo_block_111 : decode c_Mo_block 111 = .ok (.goto 15, 3) := by decide +kernel
theorem d_Mo_block_114 : decode c_Mo_block 114 = .ok (.iload 6, 2) := by decide +kernel
theorem d_Mo_block_116 : decode c_Mo_block 116 = .ok (.iconst 2, 1) := by decide +kernel
theorem d_Mo_block_117 : decode c_Mo_block 117 = .ok (.if_icmp .ne 7, 3) := by decide +kernel
theorem d_Mo_block_120 : decode c_Mo_block 120 = .ok (.iload_n 3, 1) := by decide +kernel
theorem d_Mo_block_121 : decode c_Mo_block 121 = .ok (.goto 5, 3) := by decide +kernel
theorem d_Mo_block_124 : decode c_Mo_block 124 = .ok (.iload 4, 2) := by decide +kernel
theorem d_Mo_block_126 : decode c_Mo_block 126 = .ok (.istore 7, 2) := by decide +kernel
theorem d_Mo_block_128 : decode c_Mo_block 128 = .ok (.iload 7, 2) := by decide +kernel
theorem d_Mo_block_130 : decode c_Mo_block 130 = .ok (.ifCond .lt 24, 3) := by decide +kernel
theorem d_Mo_block_133 : decode c_Mo_block 133 = .ok (.aload_n 0, 1) := by decide +kernel
theorem d_Mo_block_134 : decode c_Mo_block 134 = .ok (.getfield 51, 3) := by decide +kernel
theorem d_Mo_block_137 : decode c_Mo_block 137 = .ok (.aload_n 0, 1) := by decide +kernel
theorem d_Mo_block_138 : decode c_Mo_block 138 = .ok (.getfield 160, 3) := by decide +kernel
theorem d_Mo_block_141 : decode c_Mo_block 141 = .ok (.iload 7, 2) := by decide +kernel
theorem d_Mo_block_143 : decode c_Mo_block 143 = .ok (.iastore, 1) := by decide +kernel
theorem d_Mo_block_144 : decode c_Mo_block 144 = .ok (.aload_n 0, 1) := by decide +kernel
theorem d_Mo_block_145 : decode c_Mo_block 145 = .ok (.dup, 1) := by decide +kernel
theorem d_Mo_block_146 : decode c_Mo_block 146 = .ok (.getfield 160, 3) := by decide +kernel
theorem d_Mo_block_149 : decode c_Mo_block 149 = .ok (.iconst 1, 1) := by decide +kernel
theorem d_Mo_block_150 : decode c_Mo_block 150 = .ok (.iadd, 1) := by decide +kernel
theorem d_Mo_block_151 : decode c_Mo_block 151 = .ok (.putfield 160, 3) := by decide +kernel
theorem d_Mo_block_154 : decode c_Mo_block 154 = .ok (.iinc 6 1, 3) := by decide +kernel
theorem d_Mo_block_157 : decode c_Mo_block 157 = .ok (.goto (-68), 3) := by decide +kernel
theorem d_Mo_block_160 : decode c_Mo_block 160 = .ok (.aload_n 0, 1) := by decide +kernel
theorem d_Mo_block_161 : decode c_Mo_block 161 = .ok (.iconst 0, 1) := by decide +kernel
theorem d_Mo_block_162 : decode c_Mo_block 162 = .ok (.putfield 163, 3) := by decide +kernel
theorem d_Mo_block_165 : decode c_Mo_block 165 = .ok (.aload_n 0, 1) := by decide +kernel
theorem d_Mo_block_166 : decode c_Mo_block 166 = .ok (.getfield 160, 3) := by decide +kernel
theorem d_Mo_block_169 : decode c_Mo_block 169 = .ok (.ireturn, 1) := by decide +kernel
theorem ok_Mo_block : tb_mV y_Mo_block c_Mo_block 8 (some .int) 4 := ⟨tb_889, tb_48, tb_887, tb_888, by decide +kernel⟩
abbrev c_Mo_wipe : ByteArray := prog_9_method_32_code
abbrev y_Mo_wipe : MethodName := ⟨"ReedSetsModel", "wipe", "()I"⟩
theorem d_Mo_wipe_0 : decode c_Mo_wipe 0 = .ok (.aload_n 0, 1) := by decide +kernel
theorem d_Mo_wipe_1 : decode c_Mo_wipe 1 = .ok (.getfield 160, 3) := by decide +kernel
theorem d_Mo_wipe_4 : decode c_Mo_wipe 4 = .ok (.istore_n 1, 1) := by decide +kernel
theorem d_Mo_wipe_5 : decode c_Mo_wipe 5 = .ok (.aload_n 0, 1) := by decide +kernel
theorem d_Mo_wipe_6 : decode c_Mo_wipe 6 = .ok (.iconst 0, 1) := by decide +kernel
theorem d_Mo_wipe_7 : decode c_Mo_wipe 7 = .ok (.putfield 160, 3) := by decide +kernel
theorem d_Mo_wipe_10 : decode c_Mo_wipe 10 = .ok (.aload_n 0, 1) := by decide +kernel
theorem d_Mo_wipe_11 : decode c_Mo_wipe 11 = .ok (.iconst 0, 1) := by decide +kernel
theorem d_Mo_wipe_12 : decode c_Mo_wipe 12 = .ok (.putfield 163, 3) := by decide +kernel
theorem d_Mo_wipe_15 : decode c_Mo_wipe 15 = .ok (.iload_n 1, 1) := by decide +kernel
theorem d_Mo_wipe_16 : decode c_Mo_wipe 16 = .ok (.ireturn, 1) := by decide +kernel
theorem ok_Mo_wipe : tb_mV y_Mo_wipe c_Mo_wipe 2 (some .int) 0 := ⟨tb_896, tb_48, tb_894, tb_895, by decide +kernel⟩
abbrev c_Mo_sentSize : ByteArray := prog_9_method_33_code
abbrev y_Mo_sentSize : MethodName := ⟨"ReedSetsModel", "sentSize", "()I"⟩
theorem d_Mo_sentSize_0 : decode c_Mo_sentSize 0 = .ok (.aload_n 0, 1) := by decide +kernel
theorem d_Mo_sentSize_1 : decode c_Mo_sentSize 1 = .ok (.getfield 160, 3) := by decide +kernel
theorem d_Mo_sentSize_4 : decode c_Mo_sentSize 4 = .ok (.aload_n 0, 1) := by decide +kernel
theorem d_Mo_sentSize_5 : decode c_Mo_sentSize 5 = .ok (.getfield 167, 3) := by decide +kernel
theorem d_Mo_sentSize_8 : decode c_Mo_sentSize 8 = .ok (.aload_n 0, 1) := by decide +kernel
theorem d_Mo_sentSize_9 : decode c_Mo_sentSize 9 = .ok (.getfield 170, 3) := by decide +kernel
theorem d_Mo_sentSize_12 : decode c_Mo_sentSize 12 = .ok (.imul, 1) := by decide +kernel
theorem d_Mo_sentSize_13 : decode c_Mo_sentSize 13 = .ok (.iadd, 1) := by decide +kernel
theorem d_Mo_sentSize_14 : decode c_Mo_sentSize 14 = .ok (.ireturn, 1) := by decide +kernel
theorem ok_Mo_sentSize : tb_mV y_Mo_sentSize c_Mo_sentSize 1 (some .int) 0 := ⟨tb_904, tb_48, tb_903, tb_31, by decide +kernel⟩
abbrev c_Mo_lay : ByteArray := prog_9_method_34_code
abbrev y_Mo_lay : MethodName := ⟨"ReedSetsModel", "lay", "(I)I"⟩
theorem d_Mo_lay_0 : decode c_Mo_lay 0 = .ok (.iload_n 1, 1) := by decide +kernel
theorem d_Mo_lay_1 : decode c_Mo_lay 1 = .ok (.iconst 1, 1) := by decide +kernel
theorem d_Mo_lay_2 : decode c_Mo_lay 2 = .ok (.if_icmp .lt 54, 3) := by decide +kernel
theorem d_Mo_lay_5 : decode c_Mo_lay 5 = .ok (.iload_n 1, 1) := by decide +kernel
theorem d_Mo_lay_6 : decode c_Mo_lay 6 = .ok (.bipush 16, 2) := by decide +kernel
theorem d_Mo_lay_8 : decode c_Mo_lay 8 = .ok (.if_icmp .gt 48, 3) := by decide +kernel
theorem d_Mo_lay_11 : decode c_Mo_lay 11 = .ok (.iload_n 1, 1) := by decide +kernel
theorem d_Mo_lay_12 : decode c_Mo_lay 12 = .ok (.aload_n 0, 1) := by decide +kernel
theorem d_Mo_lay_13 : decode c_Mo_lay 13 = .ok (.getfield 160, 3) := by decide +kernel
theorem d_Mo_lay_16 : decode c_Mo_lay 16 = .ok (.if_icmp .gt 40, 3) := by decide +kernel
theorem d_Mo_lay_19 : decode c_Mo_lay 19 = .ok (.aload_n 0, 1) := by decide +kernel
theorem d_Mo_lay_20 : decode c_Mo_lay 20 = .ok (.getfield 160, 3) := by decide +kernel
theorem d_Mo_lay_23 : decode c_Mo_lay 23 = .ok (.iload_n 1, 1) := by decide +kernel
theorem d_Mo_lay_24 : decode c_Mo_lay 24 = .ok (.iadd, 1) := by decide +kernel
theorem d_Mo_lay_25 : decode c_Mo_lay 25 = .ok (.iconst 1, 1) := by decide +kernel
theorem d_Mo_lay_26 : decode c_Mo_lay 26 = .ok (.isub, 1) := by decide +kernel
theorem d_Mo_lay_27 : decode c_Mo_lay 27 = .ok (.iload_n 1, 1) := by decide +kernel
theorem d_Mo_lay_28 : decode c_Mo_lay 28 = .ok (.idiv, 1) := by decide +kernel
theorem d_Mo_lay_29 : decode c_Mo_lay 29 = .ok (.sipush 200, 3) := by decide +kernel
theorem d_Mo_lay_32 : decode c_Mo_lay 32 = .ok (.if_icmp .gt 24, 3) := by decide +kernel
theorem d_Mo_lay_35 : decode c_Mo_lay 35 = .ok (.aload_n 0, 1) := by decide +kernel
theorem d_Mo_lay_36 : decode c_Mo_lay 36 = .ok (.getfield 160, 3) := by decide +kernel
theorem d_Mo_lay_39 : decode c_Mo_lay 39 = .ok (.iload_n 1, 1) := by decide +kernel
theorem d_Mo_lay_40 : decode c_Mo_lay 40 = .ok (.iadd, 1) := by decide +kernel
theorem d_Mo_lay_41 : decode c_Mo_lay 41 = .ok (.iconst 1, 1) := by decide +kernel
theorem d_Mo_lay_42 : decode c_Mo_lay 42 = .ok (.isub, 1) := by decide +kernel
theorem d_Mo_lay_43 : decode c_Mo_lay 43 = .ok (.iload_n 1, 1) := by decide +kernel
theorem d_Mo_lay_44 : decode c_Mo_lay 44 = .ok (.idiv, 1) := by decide +kernel
theorem d_Mo_lay_45 : decode c_Mo_lay 45 = .ok (.aload_n 0, 1) := by decide +kernel
theorem d_Mo_lay_46 : decode c_Mo_lay 46 = .ok (.getfield 99, 3) := by decide +kernel
theorem d_Mo_lay_49 : decode c_Mo_lay 49 = .ok (.iadd, 1) := by decide +kernel
theorem d_Mo_lay_50 : decode c_Mo_lay 50 = .ok (.sipush 255, 3) := by decide +kernel
theorem d_Mo_lay_53 : decode c_Mo_lay 53 = .ok (.if_icmp .le 5, 3) := by decide +kernel
theorem d_Mo_lay_56 : decode c_Mo_lay 56 = .ok (.iconst (-1), 1) := by decide +kernel
theorem d_Mo_lay_57 : decode c_Mo_lay 57 = .ok (.ireturn, 1) := by decide +kernel
theorem d_Mo_lay_58 : decode c_Mo_lay 58 = .ok (.aload_n 0, 1) := by decide +kernel
theorem d_Mo_lay_59 : decode c_Mo_lay 59 = .ok (.iload_n 1, 1) := by decide +kernel
theorem d_Mo_lay_60 : decode c_Mo_lay 60 = .ok (.putfield 167, 3) := by decide +kernel
theorem d_Mo_lay_63 : decode c_Mo_lay 63 = .ok (.aload_n 0, 1) := by decide +kernel
theorem d_Mo_lay_64 : decode c_Mo_lay 64 = .ok (.aload_n 0, 1) := by decide +kernel
theorem d_Mo_lay_65 : decode c_Mo_lay 65 = .ok (.getfield 160, 3) := by decide +kernel
theorem d_Mo_lay_68 : decode c_Mo_lay 68 = .ok (.iload_n 1, 1) := by decide +kernel
theorem d_Mo_lay_69 : decode c_Mo_lay 69 = .ok (.iadd, 1) := by decide +kernel
theorem d_Mo_lay_70 : decode c_Mo_lay 70 = .ok (.iconst 1, 1) := by decide +kernel
theorem d_Mo_lay_71 : decode c_Mo_lay 71 = .ok (.isub, 1) := by decide +kernel
theorem d_Mo_lay_72 : decode c_Mo_lay 72 = .ok (.iload_n 1, 1) := by decide +kernel
theorem d_Mo_lay_73 : decode c_Mo_lay 73 = .ok (.idiv, 1) := by decide +kernel
theorem d_Mo_lay_74 : decode c_Mo_lay 74 = .ok (.putfield 173, 3) := by decide +kernel
theorem d_Mo_lay_77 : decode c_Mo_lay 77 = .ok (.aload_n 0, 1) := by decide +kernel
theorem d_Mo_lay_78 : decode c_Mo_lay 78 = .ok (.aload_n 0, 1) := by decide +kernel
theorem d_Mo_lay_79 : decode c_Mo_lay 79 = .ok (.getfield 99, 3) := by decide +kernel
theorem d_Mo_lay_82 : decode c_Mo_lay 82 = .ok (.putfield 170, 3) := by decide +kernel
theorem d_Mo_lay_85 : decode c_Mo_lay 85 = .ok (.aload_n 0, 1) := by decide +kernel
theorem d_Mo_lay_86 : decode c_Mo_lay 86 = .ok (.aload_n 0, 1) := by decide +kernel
theorem d_Mo_lay_87 : decode c_Mo_lay 87 = .ok (.getfield 102, 3) := by decide +kernel
theorem d_Mo_lay_90 : decode c_Mo_lay 90 = .ok (.putfield 176, 3) := by decide +kernel
theorem d_Mo_lay_93 : decode c_Mo_lay 93 = .ok (.aload_n 0, 1) := by decide +kernel
theorem d_Mo_lay_94 : decode c_Mo_lay 94 = .ok (.iconst 1, 1) := by decide +kernel
theorem d_Mo_lay_95 : decode c_Mo_lay 95 = .ok (.putfield 163, 3) := by decide +kernel
theorem d_Mo_lay_98 : decode c_Mo_lay 98 = .ok (.iconst 0, 1) := by decide +kernel
theorem d_Mo_lay_99 : decode c_Mo_lay 99 = .ok (.istore_n 2, 1) := by decide +kernel
theorem d_Mo_lay_100 : decode c_Mo_lay 100 = .ok (.iload_n 2, 1) := by decide +kernel
theorem d_Mo_lay_101 : decode c_Mo_lay 101 = .ok (.iload_n 1, 1) := by decide +kernel
theorem d_Mo_lay_102 : decode c_Mo_lay 102 = .ok (.if_icmp .ge 139, 3) := by decide +kernel
theorem d_Mo_lay_105 : decode c_Mo_lay 105 = .ok (.iconst 0, 1) := by decide +kernel
theorem d_Mo_lay_106 : decode c_Mo_lay 106 = .ok (.istore_n 3, 1) := by decide +kernel
theorem d_Mo_lay_107 : decode c_Mo_lay 107 = .ok (.iload_n 3, 1) := by decide +kernel
theorem d_Mo_lay_108 : decode c_Mo_lay 108 = .ok (.aload_n 0, 1) := by decide +kernel
theorem d_Mo_lay_109 : decode c_Mo_lay 109 = .ok (.getfield 173, 3) := by decide +kernel
theorem d_Mo_lay_112 : decode c_Mo_lay 112 = .ok (.if_icmp .ge 65, 3) := by decide +kernel
theorem d_Mo_lay_115 : decode c_Mo_lay 115 = .ok (.iload_n 3, 1) := by decide +kernel
theorem d_Mo_lay_116 : decode c_Mo_lay 116 = .ok (.iload_n 1, 1) := by decide +kernel
theorem d_Mo_lay_117 : decode c_Mo_lay 117 = .ok (.imul, 1) := by decide +kernel
theorem d_Mo_lay_118 : decode c_Mo_lay 118 = .ok (.iload_n 2, 1) := by decide +kernel
theorem d_Mo_lay_119 : decode c_Mo_lay 119 = .ok (.iadd, 1) := by decide +kernel
theorem d_Mo_lay_120 : decode c_Mo_lay 120 = .ok (.istore 4, 2) := by decide +kernel
theorem d_Mo_lay_122 : decode c_Mo_lay 122 = .ok (.aload_n 0, 1) := by decide +kernel
theorem d_Mo_lay_123 : decode c_Mo_lay 123 = .ok (.getfield 30, 3) := by decide +kernel
theorem d_Mo_lay_126 : decode c_Mo_lay 126 = .ok (.iload_n 3, 1) := by decide +kernel
theorem d_Mo_lay_127 : decode c_Mo_lay 127 = .ok (.iload 4, 2) := by decide +kernel
theorem d_Mo_lay_129 : decode c_Mo_lay 129 = .ok (.aload_n 0, 1) := by decide +kernel
theorem d_Mo_lay_130 : decode c_Mo_lay 130 = .ok (.getfield 160, 3) := by decide +kernel
theorem d_Mo_lay_133 : decode c_Mo_lay 133 = .ok (.if_icmp .ge 13, 3) := by decide +kernel
theorem d_Mo_lay_136 : decode c_Mo_lay 136 = .ok (.aload_n 0, 1) := by decide +kernel
theorem d_Mo_lay_137 : decode c_Mo_lay 137 = .ok (.getfield 51, 3) := by decide +kernel
theorem d_Mo_lay_140 : decode c_Mo_lay 140 = .ok (.iload 4, 2) := by decide +kernel
theorem d_Mo_lay_142 : decode c_Mo_lay 142 = .ok (.iaload, 1) := by decide +kernel
theorem d_Mo_lay_143 : decode c_Mo_lay 143 = .ok (.goto 4, 3) := by decide +kernel
theorem d_Mo_lay_146 : decode c_Mo_lay 146 = .ok (.iconst 0, 1) := by decide +kernel
theorem d_Mo_lay_147 : decode c_Mo_lay 147 = .ok (.iastore, 1) := by decide +kernel
theorem d_Mo_lay_148 : decode c_Mo_lay 148 = .ok (.iload 4, 2) := by decide +kernel
theorem d_Mo_lay_150 : decode c_Mo_lay 150 = .ok (.aload_n 0, 1) := by decide +kernel
theorem d_Mo_lay_151 : decode c_Mo_lay 151 = .ok (.getfield 160, 3) := by decide +kernel
theorem d_Mo_lay_154 : decode c_Mo_lay 154 = .ok (.if_icmp .ge 17, 3) := by decide +kernel
theorem d_Mo_lay_157 : decode c_Mo_lay 157 = .ok (.aload_n 0, 1) := by decide +kernel
theorem d_Mo_lay_158 : decode c_Mo_lay 158 = .ok (.getfield 54, 3) := by decide +kernel
theorem d_Mo_lay_161 : decode c_Mo_lay 161 = .ok (.iload 4, 2) := by decide +kernel
theorem d_Mo_lay_163 : decode c_Mo_lay 163 = .ok (.aload_n 0, 1) := by decide +kernel
theorem d_Mo_lay_164 : decode c_Mo_lay 164 = .ok (.getfield 51, 3) := by decide +kernel
theorem d_Mo_lay_167 : decode c_Mo_lay 167 = .ok (.iload 4, 2) := by decide +kernel
theorem d_Mo_lay_169 : decode c_Mo_lay 169 = .ok (.iaload, 1) := by decide +kernel
theorem d_Mo_lay_170 : decode c_Mo_lay 170 = .ok (.iastore, 1) := by decide +kernel
theorem d_Mo_lay_171 : decode c_Mo_lay 171 = .ok (.iinc 3 1, 3) := by decide +kernel
theorem d_Mo_lay_174 : decode c_Mo_lay 174 = .ok (.goto (-67), 3) := by decide +kernel
theorem d_Mo_lay_177 : decode c_Mo_lay 177 = .ok (.aload_n 0, 1) := by decide +kernel
theorem d_Mo_lay_178 : decode c_Mo_lay 178 = .ok (.aload_n 0, 1) := by decide +kernel
theorem d_Mo_lay_179 : decode c_Mo_lay 179 = .ok (.getfield 173, 3) := by decide +kernel
theorem d_Mo_lay_182 : decode c_Mo_lay 182 = .ok (.aload_n 0, 1) := by decide +kernel
theorem d_Mo_lay_183 : decode c_Mo_lay 183 = .ok (.getfield 170, 3) := by decide +kernel
theorem d_Mo_lay_186 : decode c_Mo_lay 186 = .ok (.aload_n 0, 1) := by decide +kernel
theorem d_Mo_lay_187 : decode c_Mo_lay 187 = .ok (.getfield 176, 3) := by decide +kernel
theorem d_Mo_lay_190 : decode c_Mo_lay 190 = .ok (.invokevirtual 115, 3) := by decide +kernel
theorem d_Mo_lay_193 : decode c_Mo_lay 193 = .ok (.iconst 0, 1) := by decide +kernel
theorem d_Mo_lay_194 : decode c_Mo_lay 194 = .ok (.istore_n 3, 1) := by decide +kernel
theorem d_Mo_lay_195 : decode c_Mo_lay 195 = .ok (.iload_n 3, 1) := by decide +kernel
theorem d_Mo_lay_196 : decode c_Mo_lay 196 = .ok (.aload_n 0, 1) := by decide +kernel
theorem d_Mo_lay_197 : decode c_Mo_lay 197 = .ok (.getfield 170, 3) := by decide +kernel
theorem d_Mo_lay_200 : decode c_Mo_lay 200 = .ok (.if_icmp .ge 35, 3) := by decide +kernel
theorem d_Mo_lay_203 : decode c_Mo_lay 203 = .ok (.aload_n 0, 1) := by decide +kernel
theorem d_Mo_lay_204 : decode c_Mo_lay 204 = .ok (.getfield 54, 3) := by decide +kernel
theorem d_Mo_lay_207 : decode c_Mo_lay 207 = .ok (.aload_n 0, 1) := by decide +kernel
theorem d_Mo_lay_208 : decode c_Mo_lay 208 = .ok (.getfield 160, 3) := by decide +kernel
theorem d_Mo_lay_211 : decode c_Mo_lay 211 = .ok (.iload_n 3, 1) := by decide +kernel
theorem d_Mo_lay_212 : decode c_Mo_lay 212 = .ok (.iload_n 1, 1) := by decide +kernel
theorem d_Mo_lay_213 : decode c_Mo_lay 213 = .ok (.imul, 1) := by decide +kernel
theorem d_Mo_lay_214 : decode c_Mo_lay 214 = .ok (.iadd, 1) := by decide +kernel
theorem d_Mo_lay_215 : decode c_Mo_lay 215 = .ok (.iload_n 2, 1) := by decide +kernel
theorem d_Mo_lay_216 : decode c_Mo_lay 216 = .ok (.iadd, 1) := by decide +kernel
theorem d_Mo_lay_217 : decode c_Mo_lay 217 = .ok (.aload_n 0, 1) := by decide +kernel
theorem d_Mo_lay_218 : decode c_Mo_lay 218 = .ok (.getfield 30, 3) := by decide +kernel
theorem d_Mo_lay_221 : decode c_Mo_lay 221 = .ok (.aload_n 0, 1) := by decide +kernel
theorem d_Mo_lay_222 : decode c_Mo_lay 222 = .ok (.getfield 173, 3) := by decide +kernel
theorem d_Mo_lay_225 : decode c_Mo_lay 225 = .ok (.iload_n 3, 1) := by decide +kernel
theorem d_Mo_lay_226 : decode c_Mo_lay 226 = .ok (.iadd, 1) := by decide +kernel
theorem d_Mo_lay_227 : decode c_Mo_lay 227 = .ok (.iaload, 1) := by decide +kernel
theorem d_Mo_lay_228 : decode c_Mo_lay 228 = .ok (.iastore, 1) := by decide +kernel
theorem d_Mo_lay_229 : decode c_Mo_lay 229 = .ok (.iinc 3 1, 3) := by decide +kernel
theorem d_Mo_lay_232 : decode c_Mo_lay 232 = .ok (.goto (-37), 3) := by decide +kernel
theorem d_Mo_lay_235 : decode c_Mo_lay 235 = .ok (.iinc 2 1, 3) := by decide +kernel
theorem d_Mo_lay_238 : decode c_Mo_lay 238 = .ok (.goto (-138), 3) := by decide +kernel
theorem d_Mo_lay_241 : decode c_Mo_lay 241 = .ok (.iconst 0, 1) := by decide +kernel
theorem d_Mo_lay_242 : decode c_Mo_lay 242 = .ok (.istore_n 2, 1) := by decide +kernel
theorem d_Mo_lay_243 : decode c_Mo_lay 243 = .ok (.iload_n 2, 1) := by decide +kernel
theorem d_Mo_lay_244 : decode c_Mo_lay 244 = .ok (.aload_n 0, 1) := by decide +kernel
theorem d_Mo_lay_245 : decode c_Mo_lay 245 = .ok (.invokevirtual 179, 3) := by decide +kernel
theorem d_Mo_lay_248 : decode c_Mo_lay 248 = .ok (.if_icmp .ge 28, 3) := by decide +kernel
theorem d_Mo_lay_251 : decode c_Mo_lay 251 = .ok (.aload_n 0, 1) := by decide +kernel
theorem d_Mo_lay_252 : decode c_Mo_lay 252 = .ok (.getfield 57, 3) := by decide +kernel
theorem d_Mo_lay_255 : decode c_Mo_lay 255 = .ok (.iload_n 2, 1) := by decide +kernel
theorem d_Mo_lay_256 : decode c_Mo_lay 256 = .ok (.aload_n 0, 1) := by decide +kernel
theorem d_Mo_lay_257 : decode c_Mo_lay 257 = .ok (.getfield 54, 3) := by decide +kernel
theorem d_Mo_lay_260 : decode c_Mo_lay 260 = .ok (.iload_n 2, 1) := by decide +kernel
theorem d_Mo_lay_261 : decode c_Mo_lay 261 = .ok (.iaload, 1) := by decide +kernel
theorem d_Mo_lay_262 : decode c_Mo_lay 262 = .ok (.iastore, 1) := by decide +kernel
theorem d_Mo_lay_263 : decode c_Mo_lay 263 = .ok (.aload_n 0, 1) := by decide +kernel
theorem d_Mo_lay_264 : decode c_Mo_lay 264 = .ok (.getfield 60, 3) := by decide +kernel
theorem d_Mo_lay_267 : decode c_Mo_lay 267 = .ok (.iload_n 2, 1) := by decide +kernel
theorem d_Mo_lay_268 : decode c_Mo_lay 268 = .ok (.iconst 0, 1) := by decide +kernel
theorem d_Mo_lay_269 : decode c_Mo_lay 269 = .ok (.bastore, 1) := by decide +kernel
theorem d_Mo_lay_270 : decode c_Mo_lay 270 = .ok (.iinc 2 1, 3) := by decide +kernel
theorem d_Mo_lay_273 : decode c_Mo_lay 273 = .ok (.goto (-30), 3) := by decide +kernel
theorem d_Mo_lay_276 : decode c_Mo_lay 276 = .ok (.aload_n 0, 1) := by decide +kernel
theorem d_Mo_lay_277 : decode c_Mo_lay 277 = .ok (.invokevirtual 179, 3) := by decide +kernel
theorem d_Mo_lay_280 : decode c_Mo_lay 280 = .ok (.ireturn, 1) := by decide +kernel
theorem ok_Mo_lay : tb_mV y_Mo_lay c_Mo_lay 5 (some .int) 1 := ⟨tb_900, tb_48, tb_898, tb_899, by decide +kernel⟩
abbrev c_Mo_isSent : ByteArray := prog_9_method_35_code
abbrev y_Mo_isSent : MethodName := ⟨"ReedSetsModel", "isSent", "(I)Z"⟩
theorem d_Mo_isSent_0 : decode c_Mo_isSent 0 = .ok (.aload_n 0, 1) := by decide +kernel
theorem d_Mo_isSent_1 : decode c_Mo_isSent 1 = .ok (.getfield 163, 3) := by decide +kernel
theorem d_Mo_isSent_4 : decode c_Mo_isSent 4 = .ok (.ifCond .eq 19, 3) := by decide +kernel
theorem d_Mo_isSent_7 : decode c_Mo_isSent 7 = .ok (.iload_n 1, 1) := by decide +kernel
theorem d_Mo_isSent_8 : decode c_Mo_isSent 8 = .ok (.ifCond .lt 15, 3) := by decide +kernel
theorem d_Mo_isSent_11 : decode c_Mo_isSent 11 = .ok (.iload_n 1, 1) := by decide +kernel
theorem d_Mo_isSent_12 : decode c_Mo_isSent 12 = .ok (.aload_n 0, 1) := by decide +kernel
theorem d_Mo_isSent_13 : decode c_Mo_isSent 13 = .ok (.invokevirtual 179, 3) := by decide +kernel
theorem d_Mo_isSent_16 : decode c_Mo_isSent 16 = .ok (.if_icmp .ge 7, 3) := by decide +kernel
theorem d_Mo_isSent_19 : decode c_Mo_isSent 19 = .ok (.iconst 1, 1) := by decide +kernel
theorem d_Mo_isSent_20 : decode c_Mo_isSent 20 = .ok (.goto 4, 3) := by decide +kernel
theorem d_Mo_isSent_23 : decode c_Mo_isSent 23 = .ok (.iconst 0, 1) := by decide +kernel
theorem d_Mo_isSent_24 : decode c_Mo_isSent 24 = .ok (.ireturn, 1) := by decide +kernel
theorem ok_Mo_isSent : tb_mV y_Mo_isSent c_Mo_isSent 2 (some .boolean) 1 := ⟨tb_912, tb_48, tb_911, tb_32, by decide +kernel⟩
abbrev c_Mo_sent : ByteArray := prog_9_method_36_code
abbrev y_Mo_sent : MethodName := ⟨"ReedSetsModel", "sent", "(I)I"⟩
theorem d_Mo_sent_0 : decode c_Mo_sent 0 = .ok (.aload_n 0, 1) := by decide +kernel
theorem d_Mo_sent_1 : decode c_Mo_sent 1 = .ok (.iload_n 1, 1) := by decide +kernel
theorem d_Mo_sent_2 : decode c_Mo_sent 2 = .ok (.invokevirtual 182, 3) := by decide +kernel
theorem d_Mo_sent_5 : decode c_Mo_sent 5 = .ok (.ifCond .eq 12, 3) := by decide +kernel
theorem d_Mo_sent_8 : decode c_Mo_sent 8 = .ok (.aload_n 0, 1) := by decide +kernel
theorem d_Mo_sent_9 : decode c_Mo_sent 9 = .ok (.getfield 54, 3) := by decide +kernel
theorem d_Mo_sent_12 : decode c_Mo_sent 12 = .ok (.iload_n 1, 1) := by decide +kernel
theorem d_Mo_sent_13 : decode c_Mo_sent 13 = .ok (.iaload, 1) := by decide +kernel
theorem d_Mo_sent_14 : decode c_Mo_sent 14 = .ok (.goto 4, 3) := by decide +kernel
theorem d_Mo_sent_17 : decode c_Mo_sent 17 = .ok (.iconst (-1), 1) := by decide +kernel
theorem d_Mo_sent_18 : decode c_Mo_sent 18 = .ok (.ireturn, 1) := by decide +kernel
theorem ok_Mo_sent : tb_mV y_Mo_sent c_Mo_sent 2 (some .int) 1 := ⟨tb_908, tb_48, tb_906, tb_907, by decide +kernel⟩
abbrev c_Mo_damage : ByteArray := prog_9_method_37_code
abbrev y_Mo_damage : MethodName := ⟨"ReedSetsModel", "damage", "(III)I"⟩
theorem d_Mo_damage_0 : decode c_Mo_damage 0 = .ok (.aload_n 0, 1) := by decide +kernel
theorem d_Mo_damage_1 : decode c_Mo_damage 1 = .ok (.iload_n 1, 1) := by decide +kernel
theorem d_Mo_damage_2 : decode c_Mo_damage 2 = .ok (.invokevirtual 182, 3) := by decide +kernel
theorem d_Mo_damage_5 : decode c_Mo_damage 5 = .ok (.ifCond .eq 31, 3) := by decide +kernel
theorem d_Mo_damage_8 : decode c_Mo_damage 8 = .ok (.iload_n 2, 1) := by decide +kernel
theorem d_Mo_damage_9 : decode c_Mo_damage 9 = .ok (.iconst 1, 1) := by decide +kernel
theorem d_Mo_damage_10 : decode c_Mo_damage 10 = .ok (.if_icmp .lt 26, 3) := by decide +kernel
theorem d_Mo_damage_13 : decode c_Mo_damage 13 = .ok (.iload_n 2, 1) := by decide +kernel
theorem d_Mo_damage_14 : decode c_Mo_damage 14 = .ok (.bipush 100, 2) := by decide +kernel
theorem d_Mo_damage_16 : decode c_Mo_damage 16 = .ok (.if_icmp .gt 20, 3) := by decide +kernel
theorem d_Mo_damage_19 : decode c_Mo_damage 19 = .ok (.iload_n 1, 1) := by decide +kernel
theorem d_Mo_damage_20 : decode c_Mo_damage 20 = .ok (.iload_n 2, 1) := by decide +kernel
theorem d_Mo_damage_21 : decode c_Mo_damage 21 = .ok (.iadd, 1) := by decide +kernel
theorem d_Mo_damage_22 : decode c_Mo_damage 22 = .ok (.aload_n 0, 1) := by decide +kernel
theorem d_Mo_damage_23 : decode c_Mo_damage 23 = .ok (.invokevirtual 179, 3) := by decide +kernel
theorem d_Mo_damage_26 : decode c_Mo_damage 26 = .ok (.if_icmp .gt 10, 3) := by decide +kernel
theorem d_Mo_damage_29 : decode c_Mo_damage 29 = .ok (.iload_n 3, 1) := by decide +kernel
theorem d_Mo_damage_30 : decode c_Mo_damage 30 = .ok (.invokestatic 157, 3) := by decide +kernel
theorem d_Mo_damage_33 : decode c_Mo_damage 33 = .ok (.ifCond .ne 5, 3) := by decide +kernel
theorem d_Mo_damage_36 : decode c_Mo_damage 36 = .ok (.iconst (-1), 1) := by decide +kernel
theorem d_Mo_damage_37 : decode c_Mo_damage 37 = .ok (.ireturn, 1) := by decide +kernel
theorem d_Mo_damage_38 : decode c_Mo_damage 38 = .ok (.iload_n 1, 1) := by decide +kernel
theorem d_Mo_damage_39 : decode c_Mo_damage 39 = .ok (.istore 4, 2) := by decide +kernel
theorem d_Mo_damage_41 : decode c_Mo_damage 41 = .ok (.iload 4, 2) := by decide +kernel
theorem d_Mo_damage_43 : decode c_Mo_damage 43 = .ok (.iload_n 1, 1) := by decide +kernel
theorem d_Mo_damage_44 : decode c_Mo_damage 44 = .ok (.iload_n 2, 1) := by decide +kernel
theorem d_Mo_damage_45 : decode c_Mo_damage 45 = .ok (.iadd, 1) := by decide +kernel
theorem d_Mo_damage_46 : decode c_Mo_damage 46 = .ok (.if_icmp .ge 40, 3) := by decide +kernel
theorem d_Mo_damage_49 : decode c_Mo_damage 49 = .ok (.iload_n 3, 1) := by decide +kernel
theorem d_Mo_damage_50 : decode c_Mo_damage 50 = .ok (.ifCond .ge 14, 3) := by decide +kernel
theorem d_Mo_damage_53 : decode c_Mo_damage 53 = .ok (.aload_n 0, 1) := by decide +kernel
theorem d_Mo_damage_54 : decode c_Mo_damage 54 = .ok (.getfield 60, 3) := by decide +kernel
theorem d_Mo_damage_57 : decode c_Mo_damage 57 = .ok (.iload 4, 2) := by decide +kernel
theorem d_Mo_damage_59 : decode c_Mo_damage 59 = .ok (.iconst 1, 1) := by decide +kernel
theorem d_Mo_damage_60 : decode c_Mo_damage 60 = .ok (.bastore, 1) := by decide +kernel
theorem d_Mo_damage_61 : decode c_Mo_damage 61 = .ok (.goto 19, 3) := by decide +kernel
theorem d_Mo_damage_64 : decode c_Mo_damage 64 = .ok (.aload_n 0, 1) := by decide +kernel
theorem d_Mo_damage_65 : decode c_Mo_damage 65 = .ok (.getfield 54, 3) := by decide +kernel
theorem d_Mo_damage_68 : decode c_Mo_damage 68 = .ok (.iload 4, 2) := by decide +kernel
theorem d_Mo_damage_70 : decode c_Mo_damage 70 = .ok (.aload_n 0, 1) := by decide +kernel
theorem d_Mo_damage_71 : decode c_Mo_damage 71 = .ok (.getfield 54, 3) := by decide +kernel
theorem d_Mo_damage_74 : decode c_Mo_damage 74 = .ok (.iload 4, 2) := by decide +kernel
theorem d_Mo_damage_76 : decode c_Mo_damage 76 = .ok (.iaload, 1) := by decide +kernel
theorem d_Mo_damage_77 : decode c_Mo_damage 77 = .ok (.iload_n 3, 1) := by decide +kernel
theorem d_Mo_damage_78 : decode c_Mo_damage 78 = .ok (.ixor, 1) := by decide +kernel
theorem d_Mo_damage_79 : decode c_Mo_damage 79 = .ok (.iastore, 1) := by decide +kernel
theorem d_Mo_damage_80 : decode c_Mo_damage 80 = .ok (.iinc 4 1, 3) := by decide +kernel
theorem d_Mo_damage_83 : decode c_Mo_damage 83 = .ok (.goto (-42), 3) := by decide +kernel
theorem d_Mo_damage_86 : decode c_Mo_damage 86 = .ok (.iconst 1, 1) := by decide +kernel
theorem d_Mo_damage_87 : decode c_Mo_damage 87 = .ok (.ireturn, 1) := by decide +kernel
theorem ok_Mo_damage : tb_mV y_Mo_damage c_Mo_damage 5 (some .int) 3 := ⟨tb_916, tb_48, tb_914, tb_915, by decide +kernel⟩
abbrev c_Mo_whereSent : ByteArray := prog_9_method_38_code
abbrev y_Mo_whereSent : MethodName := ⟨"ReedSetsModel", "whereSent", "(II)I"⟩
theorem d_Mo_whereSent_0 : decode c_Mo_whereSent 0 = .ok (.iload_n 2, 1) := by decide +kernel
theorem d_Mo_whereSent_1 : decode c_Mo_whereSent 1 = .ok (.aload_n 0, 1) := by decide +kernel
theorem d_Mo_whereSent_2 : decode c_Mo_whereSent 2 = .ok (.getfield 173, 3) := by decide +kernel
theorem d_Mo_whereSent_5 : decode c_Mo_whereSent 5 = .ok (.if_icmp .lt 22, 3) := by decide +kernel
theorem d_Mo_whereSent_8 : decode c_Mo_whereSent 8 = .ok (.aload_n 0, 1) := by decide +kernel
theorem d_Mo_whereSent_9 : decode c_Mo_whereSent 9 = .ok (.getfield 160, 3) := by decide +kernel
theorem d_Mo_whereSent_12 : decode c_Mo_whereSent 12 = .ok (.iload_n 2, 1) := by decide +kernel
theorem d_Mo_whereSent_13 : decode c_Mo_whereSent 13 = .ok (.aload_n 0, 1) := by decide +kernel
theorem d_Mo_whereSent_14 : decode c_Mo_whereSent 14 = .ok (.getfield 173, 3) := by decide +kernel
theorem d_Mo_whereSent_17 : decode c_Mo_whereSent 17 = .ok (.isub, 1) := by decide +kernel
theorem d_Mo_whereSent_18 : decode c_Mo_whereSent 18 = .ok (.aload_n 0, 1) := by decide +kernel
theorem d_Mo_whereSent_19 : decode c_Mo_whereSent 19 = .ok (.getfield 167, 3) := by decide +kernel
theorem d_Mo_whereSent_22 : decode c_Mo_whereSent 22 = .ok (.imul, 1) := by decide +kernel
theorem d_Mo_whereSent_23 : decode c_Mo_whereSent 23 = .ok (.iadd, 1) := by decide +kernel
theorem d_Mo_whereSent_24 : decode c_Mo_whereSent 24 = .ok (.iload_n 1, 1) := by decide +kernel
theorem d_Mo_whereSent_25 : decode c_Mo_whereSent 25 = .ok (.iadd, 1) := by decide +kernel
theorem d_Mo_whereSent_26 : decode c_Mo_whereSent 26 = .ok (.ireturn, 1) := by decide +kernel
theorem d_Mo_whereSent_27 : decode c_Mo_whereSent 27 = .ok (.iload_n 2, 1) := by decide +kernel
theorem d_Mo_whereSent_28 : decode c_Mo_whereSent 28 = .ok (.aload_n 0, 1) := by decide +kernel
theorem d_Mo_whereSent_29 : decode c_Mo_whereSent 29 = .ok (.getfield 167, 3) := by decide +kernel
theorem d_Mo_whereSent_32 : decode c_Mo_whereSent 32 = .ok (.imul, 1) := by decide +kernel
theorem d_Mo_whereSent_33 : decode c_Mo_whereSent 33 = .ok (.iload_n 1, 1) := by decide +kernel
theorem d_Mo_whereSent_34 : decode c_Mo_whereSent 34 = .ok (.iadd, 1) := by decide +kernel
theorem d_Mo_whereSent_35 : decode c_Mo_whereSent 35 = .ok (.istore_n 3, 1) := by decide +kernel
theorem d_Mo_whereSent_36 : decode c_Mo_whereSent 36 = .ok (.iload_n 3, 1) := by decide +kernel
theorem d_Mo_whereSent_37 : decode c_Mo_whereSent 37 = .ok (.aload_n 0, 1) := by decide +kernel
theorem d_Mo_whereSent_38 : decode c_Mo_whereSent 38 = .ok (.getfield 160, 3) := by decide +kernel
theorem d_Mo_whereSent_41 : decode c_Mo_whereSent 41 = .ok (.if_icmp .ge 7, 3) := by decide +kernel
theorem d_Mo_whereSent_44 : decode c_Mo_whereSent 44 = .ok (.iload_n 3, 1) := by decide +kernel
theorem d_Mo_whereSent_45 : decode c_Mo_whereSent 45 = .ok (.goto 4, 3) := by decide +kernel
theorem d_Mo_whereSent_48 : decode c_Mo_whereSent 48 = .ok (.iconst (-1), 1) := by decide +kernel
theorem d_Mo_whereSent_49 : decode c_Mo_whereSent 49 = .ok (.ireturn, 1) := by decide +kernel
theorem ok_Mo_whereSent : tb_mV y_Mo_whereSent c_Mo_whereSent 4 (some .int) 2 := ⟨tb_928, tb_48, tb_927, tb_34, by decide +kernel⟩
abbrev c_Mo_mendStripe : ByteArray := prog_9_method_39_code
abbrev y_Mo_mendStripe : MethodName := ⟨"ReedSetsModel", "mendStripe", "(I)I"⟩
theorem d_Mo_mendStripe_0 : decode c_Mo_mendStripe 0 = .ok (.aload_n 0, 1) := by decide +kernel
theorem d_Mo_mendStripe_1 : decode c_Mo_mendStripe 1 = .ok (.aload_n 0, 1) := by decide +kernel
theorem d_Mo_mendStripe_2 : decode c_Mo_mendStripe 2 = .ok (.getfield 173, 3) := by decide +kernel
theorem d_Mo_mendStripe_5 : decode c_Mo_mendStripe 5 = .ok (.aload_n 0, 1) := by decide +kernel
theorem d_Mo_mendStripe_6 : decode c_Mo_mendStripe 6 = .ok (.getfield 170, 3) := by decide +kernel
theorem d_Mo_mendStripe_9 : decode c_Mo_mendStripe 9 = .ok (.iadd, 1) := by decide +kernel
theorem d_Mo_mendStripe_10 : decode c_Mo_mendStripe 10 = .ok (.putfield 119, 3) := by decide +kernel
theorem d_Mo_mendStripe_13 : decode c_Mo_mendStripe 13 = .ok (.aload_n 0, 1) := by decide +kernel
theorem d_Mo_mendStripe_14 : decode c_Mo_mendStripe 14 = .ok (.aload_n 0, 1) := by decide +kernel
theorem d_Mo_mendStripe_15 : decode c_Mo_mendStripe 15 = .ok (.getfield 170, 3) := by decide +kernel
theorem d_Mo_mendStripe_18 : decode c_Mo_mendStripe 18 = .ok (.putfield 122, 3) := by decide +kernel
theorem d_Mo_mendStripe_21 : decode c_Mo_mendStripe 21 = .ok (.aload_n 0, 1) := by decide +kernel
theorem d_Mo_mendStripe_22 : decode c_Mo_mendStripe 22 = .ok (.aload_n 0, 1) := by decide +kernel
theorem d_Mo_mendStripe_23 : decode c_Mo_mendStripe 23 = .ok (.getfield 176, 3) := by decide +kernel
theorem d_Mo_mendStripe_26 : decode c_Mo_mendStripe 26 = .ok (.putfield 125, 3) := by decide +kernel
theorem d_Mo_mendStripe_29 : decode c_Mo_mendStripe 29 = .ok (.iconst 0, 1) := by decide +kernel
theorem d_Mo_mendStripe_30 : decode c_Mo_mendStripe 30 = .ok (.istore_n 2, 1) := by decide +kernel
theorem d_Mo_mendStripe_31 : decode c_Mo_mendStripe 31 = .ok (.iload_n 2, 1) := by decide +kernel
theorem d_Mo_mendStripe_32 : decode c_Mo_mendStripe 32 = .ok (.aload_n 0, 1) := by decide +kernel
theorem d_Mo_mendStripe_33 : decode c_Mo_mendStripe 33 = .ok (.getfield 119, 3) := by decide +kernel
theorem d_Mo_mendStripe_36 : decode c_Mo_mendStripe 36 = .ok (.if_icmp .ge 60, 3) := by decide +kernel
theorem d_Mo_mendStripe_39 : decode c_Mo_mendStripe 39 = .ok (.aload_n 0, 1) := by decide +kernel
theorem d_Mo_mendStripe_40 : decode c_Mo_mendStripe 40 = .ok (.iload_n 1, 1) := by decide +kernel
theorem d_Mo_mendStripe_41 : decode c_Mo_mendStripe 41 = .ok (.iload_n 2, 1) := by decide +kernel
theorem d_Mo_mendStripe_42 : decode c_Mo_mendStripe 42 = .ok (.invokevirtual 185, 3) := by decide +kernel
theorem d_Mo_mendStripe_45 : decode c_Mo_mendStripe 45 = .ok (.istore_n 3, 1) := by decide +kernel
theorem d_Mo_mendStripe_46 : decode c_Mo_mendStripe 46 = .ok (.aload_n 0, 1) := by decide +kernel
theorem d_Mo_mendStripe_47 : decode c_Mo_mendStripe 47 = .ok (.getfield 30, 3) := by decide +kernel
theorem d_Mo_mendStripe_50 : decode c_Mo_mendStripe 50 = .ok (.iload_n 2, 1) := by decide +kernel
theorem d_Mo_mendStripe_51 : decode c_Mo_mendStripe 51 = .ok (.iload_n 3, 1) := by decide +kernel
theorem d_Mo_mendStripe_52 : decode c_Mo_mendStripe 52 = .ok (.ifCond .ge 7, 3) := by decide +kernel
theorem d_Mo_mendStripe_55 : decode c_Mo_mendStripe 55 = .ok (.iconst 0, 1) := by decide +kernel
theorem d_Mo_mendStripe_56 : decode c_Mo_mendStripe 56 = .ok (.goto 9, 3) := by decide +kernel
theorem d_Mo_mendStripe_59 : decode c_Mo_mendStripe 59 = .ok (.aload_n 0, 1) := by decide +kernel
theorem d_Mo_mendStripe_60 : decode c_Mo_mendStripe 60 = .ok (.getfield 54, 3) := by decide +kernel
theorem d_Mo_mendStripe_63 : decode c_Mo_mendStripe 63 = .ok (.iload_n 3, 1) := by decide +kernel
theorem d_Mo_mendStripe_64 : decode c_Mo_mendStripe 64 = .ok (.iaload, 1) := by decide +kernel
theorem d_Mo_mendStripe_65 : decode c_Mo_mendStripe 65 = .ok (.iastore, 1) := by decide +kernel
theorem d_Mo_mendStripe_66 : decode c_Mo_mendStripe 66 = .ok (.aload_n 0, 1) := by decide +kernel
theorem d_Mo_mendStripe_67 : decode c_Mo_mendStripe 67 = .ok (.getfield 33, 3) := by decide +kernel
theorem d_Mo_mendStripe_70 : decode c_Mo_mendStripe 70 = .ok (.iload_n 2, 1) := by decide +kernel
theorem d_Mo_mendStripe_71 : decode c_Mo_mendStripe 71 = .ok (.iload_n 3, 1) := by decide +kernel
theorem d_Mo_mendStripe_72 : decode c_Mo_mendStripe 72 = .ok (.ifCond .lt 16, 3) := by decide +kernel
theorem d_Mo_mendStripe_75 : decode c_Mo_mendStripe 75 = .ok (.aload_n 0, 1) := by decide +kernel
theorem d_Mo_mendStripe_76 : decode c_Mo_mendStripe 76 = .ok (.getfield 60, 3) := by decide +kernel
theorem d_Mo_mendStripe_79 : decode c_Mo_mendStripe 79 = .ok (.iload_n 3, 1) := by decide +kernel
theorem d_Mo_mendStripe_80 : decode c_Mo_mendStripe 80 = .ok (.baload, 1) := by decide +kernel
theorem d_Mo_mendStripe_81 : decode c_Mo_mendStripe 81 = .ok (.ifCond .eq 7, 3) := by decide +kernel
theorem d_Mo_mendStripe_84 : decode c_Mo_mendStripe 84 = .ok (.iconst 1, 1) := by decide +kernel
theorem d_Mo_mendStripe_85 : decode c_Mo_mendStripe 85 = .ok (.goto 4, 3) := by decide +kernel
theorem d_Mo_mendStripe_88 : decode c_Mo_mendStripe 88 = .ok (.iconst 0, 1) := by decide +kernel
theorem d_Mo_mendStripe_89 : decode c_Mo_mendStripe 89 = .ok (.bastore, 1) := by decide +kernel
theorem d_Mo_mendStripe_90 : decode c_Mo_mendStripe 90 = .ok (.iinc 2 1, 3) := by decide +kernel
theorem d_Mo_mendStripe_93 : decode c_Mo_mendStripe 93 = .ok (.goto (-62), 3) := by decide +kernel
theorem d_Mo_mendStripe_96 : decode c_Mo_mendStripe 96 = .ok (.aload_n 0, 1) := by decide +kernel
theorem d_Mo_mendStripe_97 : decode c_Mo_mendStripe 97 = .ok (.invokevirtual 150, 3) := by decide +kernel
theorem d_Mo_mendStripe_100 : decode c_Mo_mendStripe 100 = .ok (.istore_n 2, 1) := by decide +kernel
theorem d_Mo_mendStripe_101 : decode c_Mo_mendStripe 101 = .ok (.iconst 0, 1) := by decide +kernel
theorem d_Mo_mendStripe_102 : decode c_Mo_mendStripe 102 = .ok (.istore_n 3, 1) := by decide +kernel
theorem d_Mo_mendStripe_103 : decode c_Mo_mendStripe 103 = .ok (.iload_n 3, 1) := by decide +kernel
theorem d_Mo_mendStripe_104 : decode c_Mo_mendStripe 104 = .ok (.aload_n 0, 1) := by decide +kernel
theorem d_Mo_mendStripe_105 : decode c_Mo_mendStripe 105 = .ok (.getfield 119, 3) := by decide +kernel
theorem d_Mo_mendStripe_108 : decode c_Mo_mendStripe 108 = .ok (.if_icmp .ge 37, 3) := by decide +kernel
theorem d_Mo_mendStripe_111 : decode c_Mo_mendStripe 111 = .ok (.iload_n 2, 1) := by decide +kernel
theorem d_Mo_mendStripe_112 : decode c_Mo_mendStripe 112 = .ok (.ifCond .lt 33, 3) := by decide +kernel
theorem d_Mo_mendStripe_115 : decode c_Mo_mendStripe 115 = .ok (.aload_n 0, 1) := by decide +kernel
theorem d_Mo_mendStripe_116 : decode c_Mo_mendStripe 116 = .ok (.iload_n 1, 1) := by decide +kernel
theorem d_Mo_mendStripe_117 : decode c_Mo_mendStripe 117 = .ok (.iload_n 3, 1) := by decide +kernel
theorem d_Mo_mendStripe_118 : decode c_Mo_mendStripe 118 = .ok (.invokevirtual 185, 3) := by decide +kernel
theorem d_Mo_mendStripe_121 : decode c_Mo_mendStripe 121 = .ok (.ifCond .ge 16, 3) := by decide +kernel
theorem d_Mo_mendStripe_124 : decode c_Mo_mendStripe 124 = .ok (.aload_n 0, 1) := by decide +kernel
theorem d_Mo_mendStripe_125 : decode c_Mo_mendStripe 125 = .ok (.getfield 30, 3) := by decide +kernel
theorem d_Mo_mendStripe_128 : decode c_Mo_mendStripe 128 = .ok (.iload_n 3, 1) := by decide +kernel
theorem d_Mo_mendStripe_129 : decode c_Mo_mendStripe 129 = .ok (.iaload, 1) := by decide +kernel
theorem d_Mo_mendStripe_130 : decode c_Mo_mendStripe 130 = .ok (.ifCond .eq 7, 3) := by decide +kernel
theorem d_Mo_mendStripe_133 : decode c_Mo_mendStripe 133 = .ok (.iconst (-1), 1) := by decide +kernel
theorem d_Mo_mendStripe_134 : decode c_Mo_mendStripe 134 = .ok (.goto 4, 3) := by decide +kernel
theorem d_Mo_mendStripe_137 : decode c_Mo_mendStripe 137 = .ok (.iload_n 2, 1) := by decide +kernel
theorem d_Mo_mendStripe_138 : decode c_Mo_mendStripe 138 = .ok (.istore_n 2, 1) := by decide +kernel
theorem d_Mo_mendStripe_139 : decode c_Mo_mendStripe 139 = .ok (.iinc 3 1, 3) := by decide +kernel
theorem d_Mo_mendStripe_142 : decode c_Mo_mendStripe 142 = .ok (.goto (-39), 3) := by decide +kernel
theorem d_Mo_mendStripe_145 : decode c_Mo_mendStripe 145 = .ok (.iconst 0, 1) := by decide +kernel
theorem d_Mo_mendStripe_146 : decode c_Mo_mendStripe 146 = .ok (.istore_n 3, 1) := by decide +kernel
theorem d_Mo_mendStripe_147 : decode c_Mo_mendStripe 147 = .ok (.iload_n 3, 1) := by decide +kernel
theorem d_Mo_mendStripe_148 : decode c_Mo_mendStripe 148 = .ok (.aload_n 0, 1) := by decide +kernel
theorem d_Mo_mendStripe_149 : decode c_Mo_mendStripe 149 = .ok (.getfield 119, 3) := by decide +kernel
theorem d_Mo_mendStripe_152 : decode c_Mo_mendStripe 152 = .ok (.if_icmp .ge 47, 3) := by decide +kernel
theorem d_Mo_mendStripe_155 : decode c_Mo_mendStripe 155 = .ok (.iload_n 2, 1) := by decide +kernel
theorem d_Mo_mendStripe_156 : decode c_Mo_mendStripe 156 = .ok (.ifCond .lt 43, 3) := by decide +kernel
theorem d_Mo_mendStripe_159 : decode c_Mo_mendStripe 159 = .ok (.aload_n 0, 1) := by decide +kernel
theorem d_Mo_mendStripe_160 : decode c_Mo_mendStripe 160 = .ok (.iload_n 1, 1) := by decide +kernel
theorem d_Mo_mendStripe_161 : decode c_Mo_mendStripe 161 = .ok (.iload_n 3, 1) := by decide +kernel
theorem d_Mo_mendStripe_162 : decode c_Mo_mendStripe 162 = .ok (.invokevirtual 185, 3) := by decide +kernel
theorem d_Mo_mendStripe_165 : decode c_Mo_mendStripe 165 = .ok (.istore 4, 2) := by decide +kernel
theorem d_Mo_mendStripe_167 : decode c_Mo_mendStripe 167 = .ok (.iload 4, 2) := by decide +kernel
theorem d_Mo_mendStripe_169 : decode c_Mo_mendStripe 169 = .ok (.ifCond .lt 24, 3) := by decide +kernel
theorem d_Mo_mendStripe_172 : decode c_Mo_mendStripe 172 = .ok (.aload_n 0, 1) := by decide +kernel
theorem d_Mo_mendStripe_173 : decode c_Mo_mendStripe 173 = .ok (.getfield 54, 3) := by decide +kernel
theorem d_Mo_mendStripe_176 : decode c_Mo_mendStripe 176 = .ok (.iload 4, 2) := by decide +kernel
theorem d_Mo_mendStripe_178 : decode c_Mo_mendStripe 178 = .ok (.aload_n 0, 1) := by decide +kernel
theorem d_Mo_mendStripe_179 : decode c_Mo_mendStripe 179 = .ok (.getfield 30, 3) := by decide +kernel
theorem d_Mo_mendStripe_182 : decode c_Mo_mendStripe 182 = .ok (.iload_n 3, 1) := by decide +kernel
theorem d_Mo_mendStripe_183 : decode c_Mo_mendStripe 183 = .ok (.iaload, 1) := by decide +kernel
theorem d_Mo_mendStripe_184 : decode c_Mo_mendStripe 184 = .ok (.iastore, 1) := by decide +kernel
theorem d_Mo_mendStripe_185 : decode c_Mo_mendStripe 185 = .ok (.aload_n 0, 1) := by decide +kernel
theorem d_Mo_mendStripe_186 : decode c_Mo_mendStripe 186 = .ok (.getfield 60, 3) := by decide +kernel
theorem d_Mo_mendStripe_189 : decode c_Mo_mendStripe 189 = .ok (.iload 4, 2) := by decide +kernel
theorem d_Mo_mendStripe_191 : decode c_Mo_mendStripe 191 = .ok (.iconst 0, 1) := by decide +kernel
theorem d_Mo_mendStripe_192 : decode c_Mo_mendStripe 192 = .ok (.bastore, 1) := by decide +kernel
theorem d_Mo_mendStripe_193 : decode c_Mo_mendStripe 193 = .ok (.iinc 3 1, 3) := by decide +kernel
theorem d_Mo_mendStripe_196 : decode c_Mo_mendStripe 196 = .ok (.goto (-49), 3) := by decide +kernel
theorem d_Mo_mendStripe_199 : decode c_Mo_mendStripe 199 = .ok (.iload_n 2, 1) := by decide +kernel
theorem d_Mo_mendStripe_200 : decode c_Mo_mendStripe 200 = .ok (.ireturn, 1) := by decide +kernel
theorem ok_Mo_mendStripe : tb_mV y_Mo_mendStripe c_Mo_mendStripe 5 (some .int) 1 := ⟨tb_924, tb_48, tb_923, tb_33, by decide +kernel⟩
abbrev c_Mo_mend : ByteArray := prog_9_method_40_code
abbrev y_Mo_mend : MethodName := ⟨"ReedSetsModel", "mend", "()I"⟩
theorem d_Mo_mend_0 : decode c_Mo_mend 0 = .ok (.aload_n 0, 1) := by decide +kernel
theorem d_Mo_mend_1 : decode c_Mo_mend 1 = .ok (.getfield 163, 3) := by decide +kernel
theorem d_Mo_mend_4 : decode c_Mo_mend 4 = .ok (.ifCond .ne 5, 3) := by decide +kernel
theorem d_Mo_mend_7 : decode c_Mo_mend 7 = .ok (.iconst (-1), 1) := by decide +kernel
theorem d_Mo_mend_8 : decode c_Mo_mend 8 = .ok (.ireturn, 1) := by decide +kernel
theorem d_Mo_mend_9 : decode c_Mo_mend 9 = .ok (.iconst 0, 1) := by decide +kernel
theorem d_Mo_mend_10 : decode c_Mo_mend 10 = .ok (.istore_n 1, 1) := by decide +kernel
theorem d_Mo_mend_11 : decode c_Mo_mend 11 = .ok (.iconst 0, 1) := by decide +kernel
theorem d_Mo_mend_12 : decode c_Mo_mend 12 = .ok (.istore_n 2, 1) := by decide +kernel
theorem d_Mo_mend_13 : decode c_Mo_mend 13 = .ok (.iload_n 2, 1) := by decide +kernel
theorem d_Mo_mend_14 : decode c_Mo_mend 14 = .ok (.aload_n 0, 1) := by decide +kernel
theorem d_Mo_mend_15 : decode c_Mo_mend 15 = .ok (.getfield 167, 3) := by decide +kernel
theorem d_Mo_mend_18 : decode c_Mo_mend 18 = .ok (.if_icmp .ge 28, 3) := by decide +kernel
theorem d_Mo_mend_21 : decode c_Mo_mend 21 = .ok (.aload_n 0, 1) := by decide +kernel
theorem d_Mo_mend_22 : decode c_Mo_mend 22 = .ok (.iload_n 2, 1) := by decide +kernel
theorem d_Mo_mend_23 : decode c_Mo_mend 23 = .ok (.invokevirtual 188, 3) := by decide +kernel
theorem d_Mo_mend_26 : decode c_Mo_mend 26 = .ok (.istore_n 3, 1) := by decide +kernel
theorem d_Mo_mend_27 : decode c_Mo_mend 27 = .ok (.iload_n 3, 1) := by decide +kernel
theorem d_Mo_mend_28 : decode c_Mo_mend 28 = .ok (.ifCond .ge 8, 3) := by decide +kernel
theorem d_Mo_mend_31 : decode c_Mo_mend 31 = .ok (.bipush (-2), 2) := by decide +kernel
theorem d_Mo_mend_33 : decode c_Mo_mend 33 = .ok (.iload_n 2, 1) := by decide +kernel
theorem d_Mo_mend_34 : decode c_Mo_mend 34 = .ok (.isub, 1) := by decide +kernel
theorem d_Mo_mend_35 : decode c_Mo_mend 35 = .ok (.ireturn, 1) := by decide +kernel
theorem d_Mo_mend_36 : decode c_Mo_mend 36 = .ok (.iload_n 1, 1) := by decide +kernel
theorem d_Mo_mend_37 : decode c_Mo_mend 37 = .ok (.iload_n 3, 1) := by decide +kernel
theorem d_Mo_mend_38 : decode c_Mo_mend 38 = .ok (.iadd, 1) := by decide +kernel
theorem d_Mo_mend_39 : decode c_Mo_mend 39 = .ok (.istore_n 1, 1) := by decide +kernel
theorem d_Mo_mend_40 : decode c_Mo_mend 40 = .ok (.iinc 2 1, 3) := by decide +kernel
theorem d_Mo_mend_43 : decode c_Mo_mend 43 = .ok (.goto (-30), 3) := by decide +kernel
theorem d_Mo_mend_46 : decode c_Mo_mend 46 = .ok (.iload_n 1, 1) := by decide +kernel
theorem d_Mo_mend_47 : decode c_Mo_mend 47 = .ok (.ireturn, 1) := by decide +kernel
theorem ok_Mo_mend : tb_mV y_Mo_mend c_Mo_mend 4 (some .int) 0 := ⟨tb_920, tb_48, tb_918, tb_919, by decide +kernel⟩
abbrev c_Mo_wrong : ByteArray := prog_9_method_41_code
abbrev y_Mo_wrong : MethodName := ⟨"ReedSetsModel", "wrong", "()I"⟩
theorem d_Mo_wrong_0 : decode c_Mo_wrong 0 = .ok (.aload_n 0, 1) := by decide +kernel
theorem d_Mo_wrong_1 : decode c_Mo_wrong 1 = .ok (.getfield 163, 3) := by decide +kernel
theorem d_Mo_wrong_4 : decode c_Mo_wrong 4 = .ok (.ifCond .ne 5, 3) := by decide +kernel
theorem d_Mo_wrong_7 : decode c_Mo_wrong 7 = .ok (.iconst (-1), 1) := by decide +kernel
theorem d_Mo_wrong_8 : decode c_Mo_wrong 8 = .ok (.ireturn, 1) := by decide +kernel
theorem d_Mo_wrong_9 : decode c_Mo_wrong 9 = .ok (.iconst 0, 1) := by decide +kernel
theorem d_Mo_wrong_10 : decode c_Mo_wrong 10 = .ok (.istore_n 1, 1) := by decide +kernel
theorem d_Mo_wrong_11 : decode c_Mo_wrong 11 = .ok (.iconst 0, 1) := by decide +kernel
theorem d_Mo_wrong_12 : decode c_Mo_wrong 12 = .ok (.istore_n 2, 1) := by decide +kernel
theorem d_Mo_wrong_13 : decode c_Mo_wrong 13 = .ok (.iload_n 2, 1) := by decide +kernel
theorem d_Mo_wrong_14 : decode c_Mo_wrong 14 = .ok (.aload_n 0, 1) := by decide +kernel
theorem d_Mo_wrong_15 : decode c_Mo_wrong 15 = .ok (.invokevirtual 179, 3) := by decide +kernel
theorem d_Mo_wrong_18 : decode c_Mo_wrong 18 = .ok (.if_icmp .ge 41, 3) := by decide +kernel
theorem d_Mo_wrong_21 : decode c_Mo_wrong 21 = .ok (.iload_n 1, 1) := by decide +kernel
theorem d_Mo_wrong_22 : decode c_Mo_wrong 22 = .ok (.aload_n 0, 1) := by decide +kernel
theorem d_Mo_wrong_23 : decode c_Mo_wrong 23 = .ok (.getfield 60, 3) := by decide +kernel
theorem d_Mo_wrong_26 : decode c_Mo_wrong 26 = .ok (.iload_n 2, 1) := by decide +kernel
theorem d_Mo_wrong_27 : decode c_Mo_wrong 27 = .ok (.baload, 1) := by decide +kernel
theorem d_Mo_wrong_28 : decode c_Mo_wrong 28 = .ok (.ifCond .ne 18, 3) := by decide +kernel
theorem d_Mo_wrong_31 : decode c_Mo_wrong 31 = .ok (.aload_n 0, 1) := by decide +kernel
theorem d_Mo_wrong_32 : decode c_Mo_wrong 32 = .ok (.getfield 54, 3) := by decide +kernel
theorem d_Mo_wrong_35 : decode c_Mo_wrong 35 = .ok (.iload_n 2, 1) := by decide +kernel
theorem d_Mo_wrong_36 : decode c_Mo_wrong 36 = .ok (.iaload, 1) := by decide +kernel
theorem d_Mo_wrong_37 : decode c_Mo_wrong 37 = .ok (.aload_n 0, 1) := by decide +kernel
theorem d_Mo_wrong_38 : decode c_Mo_wrong 38 = .ok (.getfield 57, 3) := by decide +kernel
theorem d_Mo_wrong_41 : decode c_Mo_wrong 41 = .ok (.iload_n 2, 1) := by decide +kernel
theorem d_Mo_wrong_42 : decode c_Mo_wrong 42 = .ok (.iaload, 1) := by decide +kernel
theorem d_Mo_wrong_43 : decode c_Mo_wrong 43 = .ok (.if_icmp .eq 7, 3) := by decide +kernel
theorem d_Mo_wrong_46 : decode c_Mo_wrong 46 = .ok (.iconst 1, 1) := by decide +kernel
theorem d_Mo_wrong_47 : decode c_Mo_wrong 47 = .ok (.goto 4, 3) := by decide +kernel
theorem d_Mo_wrong_50 : decode c_Mo_wrong 50 = .ok (.iconst 0, 1) := by decide +kernel
theorem d_Mo_wrong_51 : decode c_Mo_wrong 51 = .ok (.iadd, 1) := by decide +kernel
theorem d_Mo_wrong_52 : decode c_Mo_wrong 52 = .ok (.istore_n 1, 1) := by decide +kernel
theorem d_Mo_wrong_53 : decode c_Mo_wrong 53 = .ok (.iinc 2 1, 3) := by decide +kernel
theorem d_Mo_wrong_56 : decode c_Mo_wrong 56 = .ok (.goto (-43), 3) := by decide +kernel
theorem d_Mo_wrong_59 : decode c_Mo_wrong 59 = .ok (.iload_n 1, 1) := by decide +kernel
theorem d_Mo_wrong_60 : decode c_Mo_wrong 60 = .ok (.ireturn, 1) := by decide +kernel
theorem ok_Mo_wrong : tb_mV y_Mo_wrong c_Mo_wrong 3 (some .int) 0 := ⟨tb_932, tb_48, tb_930, tb_931, by decide +kernel⟩
abbrev c_Mo_shares : ByteArray := prog_9_method_42_code
abbrev y_Mo_shares : MethodName := ⟨"ReedSetsModel", "shares", "(II)I"⟩
theorem d_Mo_shares_0 : decode c_Mo_shares 0 = .ok (.iload_n 1, 1) := by decide +kernel
theorem d_Mo_shares_1 : decode c_Mo_shares 1 = .ok (.iconst 1, 1) := by decide +kernel
theorem d_Mo_shares_2 : decode c_Mo_shares 2 = .ok (.if_icmp .lt 20, 3) := by decide +kernel
theorem d_Mo_shares_5 : decode c_Mo_shares 5 = .ok (.iload_n 1, 1) := by decide +kernel
theorem d_Mo_shares_6 : decode c_Mo_shares 6 = .ok (.bipush 20, 2) := by decide +kernel
theorem d_Mo_shares_8 : decode c_Mo_shares 8 = .ok (.if_icmp .gt 14, 3) := by decide +kernel
theorem d_Mo_shares_11 : decode c_Mo_shares 11 = .ok (.iload_n 2, 1) := by decide +kernel
theorem d_Mo_shares_12 : decode c_Mo_shares 12 = .ok (.iconst 1, 1) := by decide +kernel
theorem d_Mo_shares_13 : decode c_Mo_shares 13 = .ok (.if_icmp .lt 9, 3) := by decide +kernel
theorem d_Mo_shares_16 : decode c_Mo_shares 16 = .ok (.iload_n 2, 1) := by decide +kernel
theorem d_Mo_shares_17 : decode c_Mo_shares 17 = .ok (.bipush 16, 2) := by decide +kernel
theorem d_Mo_shares_19 : decode c_Mo_shares 19 = .ok (.if_icmp .le 5, 3) := by decide +kernel
theorem d_Mo_shares_22 : decode c_Mo_shares 22 = .ok (.iconst (-1), 1) := by decide +kernel
theorem d_Mo_shares_23 : decode c_Mo_shares 23 = .ok (.ireturn, 1) := by decide +kernel
theorem d_Mo_shares_24 : decode c_Mo_shares 24 = .ok (.aload_n 0, 1) := by decide +kernel
theorem d_Mo_shares_25 : decode c_Mo_shares 25 = .ok (.iload_n 1, 1) := by decide +kernel
theorem d_Mo_shares_26 : decode c_Mo_shares 26 = .ok (.putfield 63, 3) := by decide +kernel
theorem d_Mo_shares_29 : decode c_Mo_shares 29 = .ok (.aload_n 0, 1) := by decide +kernel
theorem d_Mo_shares_30 : decode c_Mo_shares 30 = .ok (.iload_n 2, 1) := by decide +kernel
theorem d_Mo_shares_31 : decode c_Mo_shares 31 = .ok (.putfield 66, 3) := by decide +kernel
theorem d_Mo_shares_34 : decode c_Mo_shares 34 = .ok (.aload_n 0, 1) := by decide +kernel
theorem d_Mo_shares_35 : decode c_Mo_shares 35 = .ok (.iconst 0, 1) := by decide +kernel
theorem d_Mo_shares_36 : decode c_Mo_shares 36 = .ok (.putfield 191, 3) := by decide +kernel
theorem d_Mo_shares_39 : decode c_Mo_shares 39 = .ok (.iconst 0, 1) := by decide +kernel
theorem d_Mo_shares_40 : decode c_Mo_shares 40 = .ok (.istore_n 3, 1) := by decide +kernel
theorem d_Mo_shares_41 : decode c_Mo_shares 41 = .ok (.iload_n 3, 1) := by decide +kernel
theorem d_Mo_shares_42 : decode c_Mo_shares 42 = .ok (.sipush 256, 3) := by decide +kernel
theorem d_Mo_shares_45 : decode c_Mo_shares 45 = .ok (.if_icmp .ge 16, 3) := by decide +kernel
theorem d_Mo_shares_48 : decode c_Mo_shares 48 = .ok (.aload_n 0, 1) := by decide +kernel
theorem d_Mo_shares_49 : decode c_Mo_shares 49 = .ok (.getfield 69, 3) := by decide +kernel
theorem d_Mo_shares_52 : decode c_Mo_shares 52 = .ok (.iload_n 3, 1) := by decide +kernel
theorem d_Mo_shares_53 : decode c_Mo_shares 53 = .ok (.iconst 0, 1) := by decide +kernel
theorem d_Mo_shares_54 : decode c_Mo_shares 54 = .ok (.bastore, 1) := by decide +kernel
theorem d_Mo_shares_55 : decode c_Mo_shares 55 = .ok (.iinc 3 1, 3) := by decide +kernel
theorem d_Mo_shares_58 : decode c_Mo_shares 58 = .ok (.goto (-17), 3) := by decide +kernel
theorem d_Mo_shares_61 : decode c_Mo_shares 61 = .ok (.iconst 1, 1) := by decide +kernel
theorem d_Mo_shares_62 : decode c_Mo_shares 62 = .ok (.ireturn, 1) := by decide +kernel
theorem ok_Mo_shares : tb_mV y_Mo_shares c_Mo_shares 4 (some .int) 2 := ⟨tb_936, tb_48, tb_934, tb_935, by decide +kernel⟩
abbrev c_Mo_share : ByteArray := prog_9_method_43_code
abbrev y_Mo_share : MethodName := ⟨"ReedSetsModel", "share", "(III)I"⟩
theorem d_Mo_share_0 : decode c_Mo_share 0 = .ok (.iload_n 1, 1) := by decide +kernel
theorem d_Mo_share_1 : decode c_Mo_share 1 = .ok (.invokestatic 91, 3) := by decide +kernel
theorem d_Mo_share_4 : decode c_Mo_share 4 = .ok (.ifCond .eq 22, 3) := by decide +kernel
theorem d_Mo_share_7 : decode c_Mo_share 7 = .ok (.iload_n 2, 1) := by decide +kernel
theorem d_Mo_share_8 : decode c_Mo_share 8 = .ok (.ifCond .lt 18, 3) := by decide +kernel
theorem d_Mo_share_11 : decode c_Mo_share 11 = .ok (.iload_n 2, 1) := by decide +kernel
theorem d_Mo_share_12 : decode c_Mo_share 12 = .ok (.aload_n 0, 1) := by decide +kernel
theorem d_Mo_share_13 : decode c_Mo_share 13 = .ok (.getfield 66, 3) := by decide +kernel
theorem d_Mo_share_16 : decode c_Mo_share 16 = .ok (.if_icmp .ge 10, 3) := by decide +kernel
theorem d_Mo_share_19 : decode c_Mo_share 19 = .ok (.iload_n 3, 1) := by decide +kernel
theorem d_Mo_share_20 : decode c_Mo_share 20 = .ok (.invokestatic 91, 3) := by decide +kernel
theorem d_Mo_share_23 : decode c_Mo_share 23 = .ok (.ifCond .ne 5, 3) := by decide +kernel
theorem d_Mo_share_26 : decode c_Mo_share 26 = .ok (.iconst (-1), 1) := by decide +kernel
theorem d_Mo_share_27 : decode c_Mo_share 27 = .ok (.ireturn, 1) := by decide +kernel
theorem d_Mo_share_28 : decode c_Mo_share 28 = .ok (.aload_n 0, 1) := by decide +kernel
theorem d_Mo_share_29 : decode c_Mo_share 29 = .ok (.getfield 69, 3) := by decide +kernel
theorem d_Mo_share_32 : decode c_Mo_share 32 = .ok (.iload_n 1, 1) := by decide +kernel
theorem d_Mo_share_33 : decode c_Mo_share 33 = .ok (.baload, 1) := by decide +kernel
theorem d_Mo_share_34 : decode c_Mo_share 34 = .ok (.ifCond .ne 49, 3) := by decide +kernel
theorem d_Mo_share_37 : decode c_Mo_share 37 = .ok (.aload_n 0, 1) := by decide +kernel
theorem d_Mo_share_38 : decode c_Mo_share 38 = .ok (.getfield 69, 3) := by decide +kernel
theorem d_Mo_share_41 : decode c_Mo_share 41 = .ok (.iload_n 1, 1) := by decide +kernel
theorem d_Mo_share_42 : decode c_Mo_share 42 = .ok (.iconst 1, 1) := by decide +kernel
theorem d_Mo_share_43 : decode c_Mo_share 43 = .ok (.bastore, 1) := by decide +kernel
theorem d_Mo_share_44 : decode c_Mo_share 44 = .ok (.aload_n 0, 1) := by decide +kernel
theorem d_Mo_share_45 : decode c_Mo_share 45 = .ok (.dup, 1) := by decide +kernel
theorem d_Mo_share_46 : decode c_Mo_share 46 = .ok (.getfield 191, 3) := by decide +kernel
theorem d_Mo_share_49 : decode c_Mo_share 49 = .ok (.iconst 1, 1) := by decide +kernel
theorem d_Mo_share_50 : decode c_Mo_share 50 = .ok (.iadd, 1) := by decide +kernel
theorem d_Mo_share_51 : decode c_Mo_share 51 = .ok (.putfield 191, 3) := by decide +kernel
theorem d_Mo_share_54 : decode c_Mo_share 54 = .ok (.iconst 0, 1) := by decide +kernel
theorem d_Mo_share_55 : decode c_Mo_share 55 = .ok (.istore 4, 2) := by decide +kernel
theorem d_Mo_share_57 : decode c_Mo_share 57 = .ok (.iload 4, 2) := by decide +kernel
theorem d_Mo_share_59 : decode c_Mo_share 59 = .ok (.bipush 16, 2) := by decide +kernel
theorem d_Mo_share_61 : decode c_Mo_share 61 = .ok (.if_icmp .ge 22, 3) := by decide +kernel
theorem d_Mo_share_64 : decode c_Mo_share 64 = .ok (.aload_n 0, 1) := by decide +kernel
theorem d_Mo_share_65 : decode c_Mo_share 65 = .ok (.getfield 72, 3) := by decide +kernel
theorem d_Mo_share_68 : decode c_Mo_share 68 = .ok (.bipush 16, 2) := by decide +kernel
theorem d_Mo_share_70 : decode c_Mo_share 70 = .ok (.iload_n 1, 1) := by decide +kernel
theorem d_Mo_share_71 : decode c_Mo_share 71 = .ok (.imul, 1) := by decide +kernel
theorem d_Mo_share_72 : decode c_Mo_share 72 = .ok (.iload 4, 2) := by decide +kernel
theorem d_Mo_share_74 : decode c_Mo_share 74 = .ok (.iadd, 1) := by decide +kernel
theorem d_Mo_share_75 : decode c_Mo_share 75 = .ok (.iconst 0, 1) := by decide +kernel
theorem d_Mo_share_76 : decode c_Mo_share 76 = .ok (.iastore, 1) := by decide +kernel
theorem d_Mo_share_77 : decode c_Mo_share 77 = .ok (.iinc 4 1, 3) := by decide +kernel
theorem d_Mo_share_80 : decode c_Mo_share 80 = .ok (.goto (-23), 3) := by decide +kernel
theorem d_Mo_share_83 : decode c_Mo_share 83 = .ok (.aload_n 0, 1) := by decide +kernel
theorem d_Mo_share_84 : decode c_Mo_share 84 = .ok (.getfield 72, 3) := by decide +kernel
theorem d_Mo_share_87 : decode c_Mo_share 87 = .ok (.bipush 16, 2) := by decide +kernel
theorem d_Mo_share_89 : decode c_Mo_share 89 = .ok (.iload_n 1, 1) := by decide +kernel
theorem d_Mo_share_90 : decode c_Mo_share 90 = .ok (.imul, 1) := by decide +kernel
theorem d_Mo_share_91 : decode c_Mo_share 91 = .ok (.iload_n 2, 1) := by decide +kernel
theorem d_Mo_share_92 : decode c_Mo_share 92 = .ok (.iadd, 1) := by decide +kernel
theorem d_Mo_share_93 : decode c_Mo_share 93 = .ok (.iload_n 3, 1) := by decide +kernel
theorem d_Mo_share_94 : decode c_Mo_share 94 = .ok (.iastore, 1) := by decide +kernel
theorem d_Mo_share_95 : decode c_Mo_share 95 = .ok (.aload_n 0, 1) := by decide +kernel
theorem d_Mo_share_96 : decode c_Mo_share 96 = .ok (.getfield 191, 3) := by decide +kernel
theorem d_Mo_share_99 : decode c_Mo_share 99 = .ok (.ireturn, 1) := by decide +kernel
theorem ok_Mo_share : tb_mV y_Mo_share c_Mo_share 5 (some .int) 3 := ⟨tb_940, tb_48, tb_938, tb_939, by decide +kernel⟩
abbrev c_Mo_drop : ByteArray := prog_9_method_44_code
abbrev y_Mo_drop : MethodName := ⟨"ReedSetsModel", "drop", "(I)I"⟩
theorem d_Mo_drop_0 : decode c_Mo_drop 0 = .ok (.iload_n 1, 1) := by decide +kernel
theorem d_Mo_drop_1 : decode c_Mo_drop 1 = .ok (.invokestatic 91, 3) := by decide +kernel
theorem d_Mo_drop_4 : decode c_Mo_drop 4 = .ok (.ifCond .eq 12, 3) := by decide +kernel
theorem d_Mo_drop_7 : decode c_Mo_drop 7 = .ok (.aload_n 0, 1) := by decide +kernel
theorem d_Mo_drop_8 : decode c_Mo_drop 8 = .ok (.getfield 69, 3) := by decide +kernel
theorem d_Mo_drop_11 : decode c_Mo_drop 11 = .ok (.iload_n 1, 1) := by decide +kernel
theorem d_Mo_drop_12 : decode c_Mo_drop 12 = .ok (.baload, 1) := by decide +kernel
theorem d_Mo_drop_13 : decode c_Mo_drop 13 = .ok (.ifCond .ne 5, 3) := by decide +kernel
theorem d_Mo_drop_16 : decode c_Mo_drop 16 = .ok (.iconst (-1), 1) := by decide +kernel
theorem d_Mo_drop_17 : decode c_Mo_drop 17 = .ok (.ireturn, 1) := by decide +kernel
theorem d_Mo_drop_18 : decode c_Mo_drop 18 = .ok (.aload_n 0, 1) := by decide +kernel
theorem d_Mo_drop_19 : decode c_Mo_drop 19 = .ok (.getfield 69, 3) := by decide +kernel
theorem d_Mo_drop_22 : decode c_Mo_drop 22 = .ok (.iload_n 1, 1) := by decide +kernel
theorem d_Mo_drop_23 : decode c_Mo_drop 23 = .ok (.iconst 0, 1) := by decide +kernel
theorem d_Mo_drop_24 : decode c_Mo_drop 24 = .ok (.bastore, 1) := by decide +kernel
theorem d_Mo_drop_25 : decode c_Mo_drop 25 = .ok (.aload_n 0, 1) := by decide +kernel
theorem d_Mo_drop_26 : decode c_Mo_drop 26 = .ok (.dup, 1) := by decide +kernel
theorem d_Mo_drop_27 : decode c_Mo_drop 27 = .ok (.getfield 191, 3) := by decide +kernel
theorem d_Mo_drop_30 : decode c_Mo_drop 30 = .ok (.iconst 1, 1) := by decide +kernel
theorem d_Mo_drop_31 : decode c_Mo_drop 31 = .ok (.isub, 1) := by decide +kernel
theorem d_Mo_drop_32 : decode c_Mo_drop 32 = .ok (.putfield 191, 3) := by decide +kernel
theorem d_Mo_drop_35 : decode c_Mo_drop 35 = .ok (.aload_n 0, 1) := by decide +kernel
theorem d_Mo_drop_36 : decode c_Mo_drop 36 = .ok (.getfield 191, 3) := by decide +kernel
theorem d_Mo_drop_39 : decode c_Mo_drop 39 = .ok (.ireturn, 1) := by decide +kernel
theorem ok_Mo_drop : tb_mV y_Mo_drop c_Mo_drop 2 (some .int) 1 := ⟨tb_944, tb_48, tb_942, tb_943, by decide +kernel⟩
abbrev c_Mo_findUsed : ByteArray := prog_9_method_45_code
abbrev y_Mo_findUsed : MethodName := ⟨"ReedSetsModel", "findUsed", "(I)V"⟩
theorem d_Mo_findUsed_0 : decode c_Mo_findUsed 0 = .ok (.iconst 0, 1) := by decide +kernel
theorem d_Mo_findUsed_1 : decode c_Mo_findUsed 1 = .ok (.istore_n 2, 1) := by decide +kernel
theorem d_Mo_findUsed_2 : decode c_Mo_findUsed 2 = .ok (.iconst 0, 1) := by decide +kernel
theorem d_Mo_findUsed_3 : decode c_Mo_findUsed 3 = .ok (.istore_n 3, 1) := by decide +kernel
theorem d_Mo_findUsed_4 : decode c_Mo_findUsed 4 = .ok (.iload_n 3, 1) := by decide +kernel
theorem d_Mo_findUsed_5 : decode c_Mo_findUsed 5 = .ok (.sipush 256, 3) := by decide +kernel
theorem d_Mo_findUsed_8 : decode c_Mo_findUsed 8 = .ok (.if_icmp .ge 41, 3) := by decide +kernel
theorem d_Mo_findUsed_11 : decode c_Mo_findUsed 11 = .ok (.iload_n 2, 1) := by decide +kernel
theorem d_Mo_findUsed_12 : decode c_Mo_findUsed 12 = .ok (.aload_n 0, 1) := by decide +kernel
theorem d_Mo_findUsed_13 : decode c_Mo_findUsed 13 = .ok (.getfield 63, 3) := by decide +kernel
theorem d_Mo_findUsed_16 : decode c_Mo_findUsed 16 = .ok (.if_icmp .ge 33, 3) := by decide +kernel
theorem d_Mo_findUsed_19 : decode c_Mo_findUsed 19 = .ok (.aload_n 0, 1) := by decide +kernel
theorem d_Mo_findUsed_20 : decode c_Mo_findUsed 20 = .ok (.getfield 69, 3) := by decide +kernel
theorem d_Mo_findUsed_23 : decode c_Mo_findUsed 23 = .ok (.iload_n 3, 1) := by decide +kernel
theorem d_Mo_findUsed_24 : decode c_Mo_findUsed 24 = .ok (.baload, 1) := by decide +kernel
theorem d_Mo_findUsed_25 : decode c_Mo_findUsed 25 = .ok (.ifCond .eq 18, 3) := by decide +kernel
theorem d_Mo_findUsed_28 : decode c_Mo_findUsed 28 = .ok (.iload_n 3, 1) := by decide +kernel
theorem d_Mo_findUsed_29 : decode c_Mo_findUsed 29 = .ok (.iload_n 1, 1) := by decide +kernel
theorem d_Mo_findUsed_30 : decode c_Mo_findUsed 30 = .ok (.if_icmp .eq 13, 3) := by decide +kernel
theorem d_Mo_findUsed_33 : decode c_Mo_findUsed 33 = .ok (.aload_n 0, 1) := by decide +kernel
theorem d_Mo_findUsed_34 : decode c_Mo_findUsed 34 = .ok (.getfield 75, 3) := by decide +kernel
theorem d_Mo_findUsed_37 : decode c_Mo_findUsed 37 = .ok (.iload_n 2, 1) := by decide +kernel
theorem d_Mo_findUsed_38 : decode c_Mo_findUsed 38 = .ok (.iload_n 3, 1) := by decide +kernel
theorem d_Mo_findUsed_39 : decode c_Mo_findUsed 39 = .ok (.iastore, 1) := by decide +kernel
theorem d_Mo_findUsed_40 : decode c_Mo_findUsed 40 = .ok (.iinc 2 1, 3) := by decide +kernel
theorem d_Mo_findUsed_43 : decode c_Mo_findUsed 43 = .ok (.iinc 3 1, 3) := by decide +kernel
theorem d_Mo_findUsed_46 : decode c_Mo_findUsed 46 = .ok (.goto (-42), 3) := by decide +kernel
theorem d_Mo_findUsed_49 : decode c_Mo_findUsed 49 = .ok (.iconst 0, 1) := by decide +kernel
theorem d_Mo_findUsed_50 : decode c_Mo_findUsed 50 = .ok (.istore_n 3, 1) := by decide +kernel
theorem d_Mo_findUsed_51 : decode c_Mo_findUsed 51 = .ok (.iload_n 3, 1) := by decide +kernel
theorem d_Mo_findUsed_52 : decode c_Mo_findUsed 52 = .ok (.aload_n 0, 1) := by decide +kernel
theorem d_Mo_findUsed_53 : decode c_Mo_findUsed 53 = .ok (.getfield 63, 3) := by decide +kernel
theorem d_Mo_findUsed_56 : decode c_Mo_findUsed 56 = .ok (.if_icmp .ge 73, 3) := by decide +kernel
theorem d_Mo_findUsed_59 : decode c_Mo_findUsed 59 = .ok (.iconst 1, 1) := by decide +kernel
theorem d_Mo_findUsed_60 : decode c_Mo_findUsed 60 = .ok (.istore 4, 2) := by decide +kernel
theorem d_Mo_findUsed_62 : decode c_Mo_findUsed 62 = .ok (.iconst 0, 1) := by decide +kernel
theorem d_Mo_findUsed_63 : decode c_Mo_findUsed 63 = .ok (.istore 5, 2) := by decide +kernel
theorem d_Mo_findUsed_65 : decode c_Mo_findUsed 65 = .ok (.iload 5, 2) := by decide +kernel
theorem d_Mo_findUsed_67 : decode c_Mo_findUsed 67 = .ok (.aload_n 0, 1) := by decide +kernel
theorem d_Mo_findUsed_68 : decode c_Mo_findUsed 68 = .ok (.getfield 63, 3) := by decide +kernel
theorem d_Mo_findUsed_71 : decode c_Mo_findUsed 71 = .ok (.if_icmp .ge 41, 3) := by decide +kernel
theorem d_Mo_findUsed_74 : decode c_Mo_findUsed 74 = .ok (.iload 5, 2) := by decide +kernel
theorem d_Mo_findUsed_76 : decode c_Mo_findUsed 76 = .ok (.iload_n 3, 1) := by decide +kernel
theorem d_Mo_findUsed_77 : decode c_Mo_findUsed 77 = .ok (.if_icmp .ne 8, 3) := by decide +kernel
theorem d_Mo_findUsed_80 : decode c_Mo_findUsed 80 = .ok (.iload 4, 2) := by decide +kernel
theorem d_Mo_findUsed_82 : decode c_Mo_findUsed 82 = .ok (.goto 22, 3) := by decide +kernel
theorem d_Mo_findUsed_85 : decode c_Mo_findUsed 85 = .ok (.iload 4, 2) := by decide +kernel
theorem d_Mo_findUsed_87 : decode c_Mo_findUsed 87 = .ok (.aload_n 0, 1) := by decide +kernel
theorem d_Mo_findUsed_88 : decode c_Mo_findUsed 88 = .ok (.getfield 75, 3) := by decide +kernel
theorem d_Mo_findUsed_91 : decode c_Mo_findUsed 91 = .ok (.iload_n 3, 1) := by decide +kernel
theorem d_Mo_findUsed_92 : decode c_Mo_findUsed 92 = .ok (.iaload, 1) := by decide +kernel
theorem d_Mo_findUsed_93 : decode c_Mo_findUsed 93 = .ok (.aload_n 0, 1) := by decide +kernel
theorem d_Mo_findUsed_94 : decode c_Mo_findUsed 94 = .ok (.getfield 75, 3) := by decide +kernel
theorem d_Mo_findUsed_97 : decode c_Mo_findUsed 97 = .ok (.iload 5, 2) := by decide +kernel
theorem d_Mo_findUsed_99 : decode c_Mo_findUsed 99 = .ok (.iaload, 1) := by decide +kernel
theorem d_Mo_findUsed_100 : decode c_Mo_findUsed 100 = .ok (.ixor, 1) := by decide +kernel
theorem d_Mo_findUsed_101 : decode c_Mo_findUsed 101 = .ok (.invokestatic 84, 3) := by decide +kernel
theorem d_Mo_findUsed_104 : decode c_Mo_findUsed 104 = .ok (.istore 4, 2) := by decide +kernel
theorem d_Mo_findUsed_106 : decode c_Mo_findUsed 106 = .ok (.iinc 5 1, 3) := by decide +kernel
theorem d_Mo_findUsed_109 : decode c_Mo_findUsed 109 = .ok (.goto (-44), 3) := by decide +kernel
theorem d_Mo_findUsed_112 : decode c_Mo_findUsed 112 = .ok (.aload_n 0, 1) := by decide +kernel
theorem d_Mo_findUsed_113 : decode c_Mo_findUsed 113 = .ok (.getfield 78, 3) := by decide +kernel
theorem d_Mo_findUsed_116 : decode c_Mo_findUsed 116 = .ok (.iload_n 3, 1) := by decide +kernel
theorem d_Mo_findUsed_117 : decode c_Mo_findUsed 117 = .ok (.iload 4, 2) := by decide +kernel
theorem d_Mo_findUsed_119 : decode c_Mo_findUsed 119 = .ok (.invokestatic 95, 3) := by decide +kernel
theorem d_Mo_findUsed_122 : decode c_Mo_findUsed 122 = .ok (.iastore, 1) := by decide +kernel
theorem d_Mo_findUsed_123 : decode c_Mo_findUsed 123 = .ok (.iinc 3 1, 3) := by decide +kernel
theorem d_Mo_findUsed_126 : decode c_Mo_findUsed 126 = .ok (.goto (-75), 3) := by decide +kernel
theorem d_Mo_findUsed_129 : decode c_Mo_findUsed 129 = .ok (.return_, 1) := by decide +kernel
theorem ok_Mo_findUsed : tb_mV y_Mo_findUsed c_Mo_findUsed 6 none 1 := ⟨tb_952, tb_48, tb_951, tb_35, by decide +kernel⟩
abbrev c_Mo_weigh : ByteArray := prog_9_method_46_code
abbrev y_Mo_weigh : MethodName := ⟨"ReedSetsModel", "weigh", "(I)V"⟩
theorem d_Mo_weigh_0 : decode c_Mo_weigh 0 = .ok (.iconst 0, 1) := by decide +kernel
theorem d_Mo_weigh_1 : decode c_Mo_weigh 1 = .ok (.istore_n 2, 1) := by decide +kernel
theorem d_Mo_weigh_2 : decode c_Mo_weigh 2 = .ok (.iload_n 2, 1) := by decide +kernel
theorem d_Mo_weigh_3 : decode c_Mo_weigh 3 = .ok (.aload_n 0, 1) := by decide +kernel
theorem d_Mo_weigh_4 : decode c_Mo_weigh 4 = .ok (.getfield 63, 3) := by decide +kernel
theorem d_Mo_weigh_7 : decode c_Mo_weigh 7 = .ok (.if_icmp .ge 69, 3) := by decide +kernel
theorem d_Mo_weigh_10 : decode c_Mo_weigh 10 = .ok (.iconst 1, 1) := by decide +kernel
theorem d_Mo_weigh_11 : decode c_Mo_weigh 11 = .ok (.istore_n 3, 1) := by decide +kernel
theorem d_Mo_weigh_12 : decode c_Mo_weigh 12 = .ok (.iconst 0, 1) := by decide +kernel
theorem d_Mo_weigh_13 : decode c_Mo_weigh 13 = .ok (.istore 4, 2) := by decide +kernel
theorem d_Mo_weigh_15 : decode c_Mo_weigh 15 = .ok (.iload 4, 2) := by decide +kernel
theorem d_Mo_weigh_17 : decode c_Mo_weigh 17 = .ok (.aload_n 0, 1) := by decide +kernel
theorem d_Mo_weigh_18 : decode c_Mo_weigh 18 = .ok (.getfield 63, 3) := by decide +kernel
theorem d_Mo_weigh_21 : decode c_Mo_weigh 21 = .ok (.if_icmp .ge 33, 3) := by decide +kernel
theorem d_Mo_weigh_24 : decode c_Mo_weigh 24 = .ok (.iload 4, 2) := by decide +kernel
theorem d_Mo_weigh_26 : decode c_Mo_weigh 26 = .ok (.iload_n 2, 1) := by decide +kernel
theorem d_Mo_weigh_27 : decode c_Mo_weigh 27 = .ok (.if_icmp .ne 7, 3) := by decide +kernel
theorem d_Mo_weigh_30 : decode c_Mo_weigh 30 = .ok (.iload_n 3, 1) := by decide +kernel
theorem d_Mo_weigh_31 : decode c_Mo_weigh 31 = .ok (.goto 16, 3) := by decide +kernel
theorem d_Mo_weigh_34 : decode c_Mo_weigh 34 = .ok (.iload_n 3, 1) := by decide +kernel
theorem d_Mo_weigh_35 : decode c_Mo_weigh 35 = .ok (.iload_n 1, 1) := by decide +kernel
theorem d_Mo_weigh_36 : decode c_Mo_weigh 36 = .ok (.aload_n 0, 1) := by decide +kernel
theorem d_Mo_weigh_37 : decode c_Mo_weigh 37 = .ok (.getfield 75, 3) := by decide +kernel
theorem d_Mo_weigh_40 : decode c_Mo_weigh 40 = .ok (.iload 4, 2) := by decide +kernel
theorem d_Mo_weigh_42 : decode c_Mo_weigh 42 = .ok (.iaload, 1) := by decide +kernel
theorem d_Mo_weigh_43 : decode c_Mo_weigh 43 = .ok (.ixor, 1) := by decide +kernel
theorem d_Mo_weigh_44 : decode c_Mo_weigh 44 = .ok (.invokestatic 84, 3) := by decide +kernel
theorem d_Mo_weigh_47 : decode c_Mo_weigh 47 = .ok (.istore_n 3, 1) := by decide +kernel
theorem d_Mo_weigh_48 : decode c_Mo_weigh 48 = .ok (.iinc 4 1, 3) := by decide +kernel
theorem d_Mo_weigh_51 : decode c_Mo_weigh 51 = .ok (.goto (-36), 3) := by decide +kernel
theorem d_Mo_weigh_54 : decode c_Mo_weigh 54 = .ok (.aload_n 0, 1) := by decide +kernel
theorem d_Mo_weigh_55 : decode c_Mo_weigh 55 = .ok (.getfield 81, 3) := by decide +kernel
theorem d_Mo_weigh_58 : decode c_Mo_weigh 58 = .ok (.iload_n 2, 1) := by decide +kernel
theorem d_Mo_weigh_59 : decode c_Mo_weigh 59 = .ok (.iload_n 3, 1) := by decide +kernel
theorem d_Mo_weigh_60 : decode c_Mo_weigh 60 = .ok (.aload_n 0, 1) := by decide +kernel
theorem d_Mo_weigh_61 : decode c_Mo_weigh 61 = .ok (.getfield 78, 3) := by decide +kernel
theorem d_Mo_weigh_64 : decode c_Mo_weigh 64 = .ok (.iload_n 2, 1) := by decide +kernel
theorem d_Mo_weigh_65 : decode c_Mo_weigh 65 = .ok (.iaload, 1) := by decide +kernel
theorem d_Mo_weigh_66 : decode c_Mo_weigh 66 = .ok (.invokestatic 84, 3) := by decide +kernel
theorem d_Mo_weigh_69 : decode c_Mo_weigh 69 = .ok (.iastore, 1) := by decide +kernel
theorem d_Mo_weigh_70 : decode c_Mo_weigh 70 = .ok (.iinc 2 1, 3) := by decide +kernel
theorem d_Mo_weigh_73 : decode c_Mo_weigh 73 = .ok (.goto (-71), 3) := by decide +kernel
theorem d_Mo_weigh_76 : decode c_Mo_weigh 76 = .ok (.return_, 1) := by decide +kernel
theorem ok_Mo_weigh : tb_mV y_Mo_weigh c_Mo_weigh 5 none 1 := ⟨tb_956, tb_48, tb_955, tb_36, by decide +kernel⟩
abbrev c_Mo_madeBy : ByteArray := prog_9_method_47_code
abbrev y_Mo_madeBy : MethodName := ⟨"ReedSetsModel", "madeBy", "(I)I"⟩
theorem d_Mo_madeBy_0 : decode c_Mo_madeBy 0 = .ok (.iconst 0, 1) := by decide +kernel
theorem d_Mo_madeBy_1 : decode c_Mo_madeBy 1 = .ok (.istore_n 2, 1) := by decide +kernel
theorem d_Mo_madeBy_2 : decode c_Mo_madeBy 2 = .ok (.iconst 0, 1) := by decide +kernel
theorem d_Mo_madeBy_3 : decode c_Mo_madeBy 3 = .ok (.istore_n 3, 1) := by decide +kernel
theorem d_Mo_madeBy_4 : decode c_Mo_madeBy 4 = .ok (.iload_n 3, 1) := by decide +kernel
theorem d_Mo_madeBy_5 : decode c_Mo_madeBy 5 = .ok (.aload_n 0, 1) := by decide +kernel
theorem d_Mo_madeBy_6 : decode c_Mo_madeBy 6 = .ok (.getfield 63, 3) := by decide +kernel
theorem d_Mo_madeBy_9 : decode c_Mo_madeBy 9 = .ok (.if_icmp .ge 37, 3) := by decide +kernel
theorem d_Mo_madeBy_12 : decode c_Mo_madeBy 12 = .ok (.iload_n 2, 1) := by decide +kernel
theorem d_Mo_madeBy_13 : decode c_Mo_madeBy 13 = .ok (.aload_n 0, 1) := by decide +kernel
theorem d_Mo_madeBy_14 : decode c_Mo_madeBy 14 = .ok (.getfield 72, 3) := by decide +kernel
theorem d_Mo_madeBy_17 : decode c_Mo_madeBy 17 = .ok (.bipush 16, 2) := by decide +kernel
theorem d_Mo_madeBy_19 : decode c_Mo_madeBy 19 = .ok (.aload_n 0, 1) := by decide +kernel
theorem d_Mo_madeBy_20 : decode c_Mo_madeBy 20 = .ok (.getfield 75, 3) := by decide +kernel
theorem d_Mo_madeBy_23 : decode c_Mo_madeBy 23 = .ok (.iload_n 3, 1) := by decide +kernel
theorem d_Mo_madeBy_24 : decode c_Mo_madeBy 24 = .ok (.iaload, 1) := by decide +kernel
theorem d_Mo_madeBy_25 : decode c_Mo_madeBy 25 = .ok (.imul, 1) := by decide +kernel
theorem d_Mo_madeBy_26 : decode c_Mo_madeBy 26 = .ok (.iload_n 1, 1) := by decide +kernel
theorem d_Mo_madeBy_27 : decode c_Mo_madeBy 27 = .ok (.iadd, 1) := by decide +kernel
theorem d_Mo_madeBy_28 : decode c_Mo_madeBy 28 = .ok (.iaload, 1) := by decide +kernel
theorem d_Mo_madeBy_29 : decode c_Mo_madeBy 29 = .ok (.aload_n 0, 1) := by decide +kernel
theorem d_Mo_madeBy_30 : decode c_Mo_madeBy 30 = .ok (.getfield 81, 3) := by decide +kernel
theorem d_Mo_madeBy_33 : decode c_Mo_madeBy 33 = .ok (.iload_n 3, 1) := by decide +kernel
theorem d_Mo_madeBy_34 : decode c_Mo_madeBy 34 = .ok (.iaload, 1) := by decide +kernel
theorem d_Mo_madeBy_35 : decode c_Mo_madeBy 35 = .ok (.invokestatic 84, 3) := by decide +kernel
theorem d_Mo_madeBy_38 : decode c_Mo_madeBy 38 = .ok (.ixor, 1) := by decide +kernel
theorem d_Mo_madeBy_39 : decode c_Mo_madeBy 39 = .ok (.istore_n 2, 1) := by decide +kernel
theorem d_Mo_madeBy_40 : decode c_Mo_madeBy 40 = .ok (.iinc 3 1, 3) := by decide +kernel
theorem d_Mo_madeBy_43 : decode c_Mo_madeBy 43 = .ok (.goto (-39), 3) := by decide +kernel
theorem d_Mo_madeBy_46 : decode c_Mo_madeBy 46 = .ok (.iload_n 2, 1) := by decide +kernel
theorem d_Mo_madeBy_47 : decode c_Mo_madeBy 47 = .ok (.ireturn, 1) := by decide +kernel
theorem ok_Mo_madeBy : tb_mV y_Mo_madeBy c_Mo_madeBy 4 (some .int) 1 := ⟨tb_960, tb_48, tb_959, tb_37, by decide +kernel⟩
abbrev c_Mo_made : ByteArray := prog_9_method_48_code
abbrev y_Mo_made : MethodName := ⟨"ReedSetsModel", "made", "(II)I"⟩
theorem d_Mo_made_0 : decode c_Mo_made 0 = .ok (.iload_n 1, 1) := by decide +kernel
theorem d_Mo_made_1 : decode c_Mo_made 1 = .ok (.invokestatic 91, 3) := by decide +kernel
theorem d_Mo_made_4 : decode c_Mo_made 4 = .ok (.ifCond .eq 26, 3) := by decide +kernel
theorem d_Mo_made_7 : decode c_Mo_made 7 = .ok (.iload_n 2, 1) := by decide +kernel
theorem d_Mo_made_8 : decode c_Mo_made 8 = .ok (.ifCond .lt 22, 3) := by decide +kernel
theorem d_Mo_made_11 : decode c_Mo_made 11 = .ok (.iload_n 2, 1) := by decide +kernel
theorem d_Mo_made_12 : decode c_Mo_made 12 = .ok (.aload_n 0, 1) := by decide +kernel
theorem d_Mo_made_13 : decode c_Mo_made 13 = .ok (.getfield 66, 3) := by decide +kernel
theorem d_Mo_made_16 : decode c_Mo_made 16 = .ok (.if_icmp .ge 14, 3) := by decide +kernel
theorem d_Mo_made_19 : decode c_Mo_made 19 = .ok (.aload_n 0, 1) := by decide +kernel
theorem d_Mo_made_20 : decode c_Mo_made 20 = .ok (.getfield 191, 3) := by decide +kernel
theorem d_Mo_made_23 : decode c_Mo_made 23 = .ok (.aload_n 0, 1) := by decide +kernel
theorem d_Mo_made_24 : decode c_Mo_made 24 = .ok (.getfield 63, 3) := by decide +kernel
theorem d_Mo_made_27 : decode c_Mo_made 27 = .ok (.if_icmp .ge 5, 3) := by decide +kernel
theorem d_Mo_made_30 : decode c_Mo_made 30 = .ok (.iconst (-1), 1) := by decide +kernel
theorem d_Mo_made_31 : decode c_Mo_made 31 = .ok (.ireturn, 1) := by decide +kernel
theorem d_Mo_made_32 : decode c_Mo_made 32 = .ok (.aload_n 0, 1) := by decide +kernel
theorem d_Mo_made_33 : decode c_Mo_made 33 = .ok (.iconst (-1), 1) := by decide +kernel
theorem d_Mo_made_34 : decode c_Mo_made 34 = .ok (.invokevirtual 194, 3) := by decide +kernel
theorem d_Mo_made_37 : decode c_Mo_made 37 = .ok (.aload_n 0, 1) := by decide +kernel
theorem d_Mo_made_38 : decode c_Mo_made 38 = .ok (.iload_n 1, 1) := by decide +kernel
theorem d_Mo_made_39 : decode c_Mo_made 39 = .ok (.invokevirtual 198, 3) := by decide +kernel
theorem d_Mo_made_42 : decode c_Mo_made 42 = .ok (.aload_n 0, 1) := by decide +kernel
theorem d_Mo_made_43 : decode c_Mo_made 43 = .ok (.iload_n 2, 1) := by decide +kernel
theorem d_Mo_made_44 : decode c_Mo_made 44 = .ok (.invokevirtual 201, 3) := by decide +kernel
theorem d_Mo_made_47 : decode c_Mo_made 47 = .ok (.ireturn, 1) := by decide +kernel
theorem ok_Mo_made : tb_mV y_Mo_made c_Mo_made 3 (some .int) 2 := ⟨tb_948, tb_48, tb_946, tb_947, by decide +kernel⟩
abbrev c_Mo_unlike : ByteArray := prog_9_method_49_code
abbrev y_Mo_unlike : MethodName := ⟨"ReedSetsModel", "unlike", "(II)I"⟩
theorem d_Mo_unlike_0 : decode c_Mo_unlike 0 = .ok (.aload_n 0, 1) := by decide +kernel
theorem d_Mo_unlike_1 : decode c_Mo_unlike 1 = .ok (.iload_n 1, 1) := by decide +kernel
theorem d_Mo_unlike_2 : decode c_Mo_unlike 2 = .ok (.invokevirtual 194, 3) := by decide +kernel
theorem d_Mo_unlike_5 : decode c_Mo_unlike 5 = .ok (.iconst 0, 1) := by decide +kernel
theorem d_Mo_unlike_6 : decode c_Mo_unlike 6 = .ok (.istore_n 3, 1) := by decide +kernel
theorem d_Mo_unlike_7 : decode c_Mo_unlike 7 = .ok (.iconst 0, 1) := by decide +kernel
theorem d_Mo_unlike_8 : decode c_Mo_unlike 8 = .ok (.istore 4, 2) := by decide +kernel
theorem d_Mo_unlike_10 : decode c_Mo_unlike 10 = .ok (.iload 4, 2) := by decide +kernel
theorem d_Mo_unlike_12 : decode c_Mo_unlike 12 = .ok (.sipush 256, 3) := by decide +kernel
theorem d_Mo_unlike_15 : decode c_Mo_unlike 15 = .ok (.if_icmp .ge 104, 3) := by decide +kernel
theorem d_Mo_unlike_18 : decode c_Mo_unlike 18 = .ok (.iload_n 3, 1) := by decide +kernel
theorem d_Mo_unlike_19 : decode c_Mo_unlike 19 = .ok (.iload_n 2, 1) := by decide +kernel
theorem d_Mo_unlike_20 : decode c_Mo_unlike 20 = .ok (.if_icmp .ge 99, 3) := by decide +kernel
theorem d_Mo_unlike_23 : decode c_Mo_unlike 23 = .ok (.iconst 0, 1) := by decide +kernel
theorem d_Mo_unlike_24 : decode c_Mo_unlike 24 = .ok (.istore 5, 2) := by decide +kernel
theorem d_Mo_unlike_26 : decode c_Mo_unlike 26 = .ok (.aload_n 0, 1) := by decide +kernel
theorem d_Mo_unlike_27 : decode c_Mo_unlike 27 = .ok (.getfield 69, 3) := by decide +kernel
theorem d_Mo_unlike_30 : decode c_Mo_unlike 30 = .ok (.iload 4, 2) := by decide +kernel
theorem d_Mo_unlike_32 : decode c_Mo_unlike 32 = .ok (.baload, 1) := by decide +kernel
theorem d_Mo_unlike_33 : decode c_Mo_unlike 33 = .ok (.ifCond .eq 67, 3) := by decide +kernel
theorem d_Mo_unlike_36 : decode c_Mo_unlike 36 = .ok (.iload 4, 2) := by decide +kernel
theorem d_Mo_unlike_38 : decode c_Mo_unlike 38 = .ok (.iload_n 1, 1) := by decide +kernel
theorem d_Mo_unlike_39 : decode c_Mo_unlike 39 = .ok (.if_icmp .eq 61, 3) := by decide +kernel
theorem d_Mo_unlike_42 : decode c_Mo_unlike 42 = .ok (.aload_n 0, 1) := by decide +kernel
theorem d_Mo_unlike_43 : decode c_Mo_unlike 43 = .ok (.iload 4, 2) := by decide +kernel
theorem d_Mo_unlike_45 : decode c_Mo_unlike 45 = .ok (.invokevirtual 198, 3) := by decide +kernel
theorem d_Mo_unlike_48 : decode c_Mo_unlike 48 = .ok (.iconst 0, 1) := by decide +kernel
theorem d_Mo_unlike_49 : decode c_Mo_unlike 49 = .ok (.istore 6, 2) := by decide +kernel
theorem d_Mo_unlike_51 : decode c_Mo_unlike 51 = .ok (.iload 6, 2) := by decide +kernel
theorem d_Mo_unlike_53 : decode c_Mo_unlike 53 = .ok (.aload_n 0, 1) := by decide +kernel
theorem d_Mo_unlike_54 : decode c_Mo_unlike 54 = .ok (.getfield 66, 3) := by decide +kernel
theorem d_Mo_unlike_57 : decode c_Mo_unlike 57 = .ok (.if_icmp .ge 43, 3) := by decide +kernel
theorem d_Mo_unlike_60 : decode c_Mo_unlike 60 = .ok (.iload 5, 2) := by decide +kernel
theorem d_Mo_unlike_62 : decode c_Mo_unlike 62 = .ok (.ifCond .ne 38, 3) := by decide +kernel
theorem d_Mo_unlike_65 : decode c_Mo_unlike 65 = .ok (.aload_n 0, 1) := by decide +kernel
theorem d_Mo_unlike_66 : decode c_Mo_unlike 66 = .ok (.iload 6, 2) := by decide +kernel
theorem d_Mo_unlike_68 : decode c_Mo_unlike 68 = .ok (.invokevirtual 201, 3) := by decide +kernel
theorem d_Mo_unlike_71 : decode c_Mo_unlike 71 = .ok (.aload_n 0, 1) := by decide +kernel
theorem d_Mo_unlike_72 : decode c_Mo_unlike 72 = .ok (.getfield 72, 3) := by decide +kernel
theorem d_Mo_unlike_75 : decode c_Mo_unlike 75 = .ok (.bipush 16, 2) := by decide +kernel
theorem d_Mo_unlike_77 : decode c_Mo_unlike 77 = .ok (.iload 4, 2) := by decide +kernel
theorem d_Mo_unlike_79 : decode c_Mo_unlike 79 = .ok (.imul, 1) := by decide +kernel
theorem d_Mo_unlike_80 : decode c_Mo_unlike 80 = .ok (.iload 6, 2) := by decide +kernel
theorem d_Mo_unlike_82 : decode c_Mo_unlike 82 = .ok (.iadd, 1) := by decide +kernel
theorem d_Mo_unlike_83 : decode c_Mo_unlike 83 = .ok (.iaload, 1) := by decide +kernel
theorem d_Mo_unlike_84 : decode c_Mo_unlike 84 = .ok (.if_icmp .eq 7, 3) := by decide +kernel
theorem d_Mo_unlike_87 : decode c_Mo_unlike 87 = .ok (.iconst 1, 1) := by decide +kernel
theorem d_Mo_unlike_88 : decode c_Mo_unlike 88 = .ok (.goto 4, 3) := by decide +kernel
theorem d_Mo_unlike_91 : decode c_Mo_unlike 91 = .ok (.iconst 0, 1) := by decide +kernel
theorem d_Mo_unlike_92 : decode c_Mo_unlike 92 = .ok (.istore 5, 2) := by decide +kernel
theorem d_Mo_unlike_94 : decode c_Mo_unlike 94 = .ok (.iinc 6 1, 3) := by decide +kernel
theorem d_Mo_unlike_97 : decode c_Mo_unlike 97 = .ok (.goto (-46), 3) := by decide +kernel
theorem d_Mo_unlike_100 : decode c_Mo_unlike 100 = .ok (.iload_n 3, 1) := by decide +kernel
theorem d_Mo_unlike_101 : decode c_Mo_unlike 101 = .ok (.iload 5, 2) := by decide +kernel
theorem d_Mo_unlike_103 : decode c_Mo_unlike 103 = .ok (.ifCond .eq 7, 3) := by decide +kernel
theorem d_Mo_unlike_106 : decode c_Mo_unlike 106 = .ok (.iconst 1, 1) := by decide +kernel
theorem d_Mo_unlike_107 : decode c_Mo_unlike 107 = .ok (.goto 4, 3) := by decide +kernel
theorem d_Mo_unlike_110 : decode c_Mo_unlike 110 = .ok (.iconst 0, 1) := by decide +kernel
theorem d_Mo_unlike_111 : decode c_Mo_unlike 111 = .ok (.iadd, 1) := by decide +kernel
theorem d_Mo_unlike_112 : decode c_Mo_unlike 112 = .ok (.istore_n 3, 1) := by decide +kernel
theorem d_Mo_unlike_113 : decode c_Mo_unlike 113 = .ok (.iinc 4 1, 3) := by decide +kernel
theorem d_Mo_unlike_116 : decode c_Mo_unlike 116 = .ok (.goto (-106), 3) := by decide +kernel
theorem d_Mo_unlike_119 : decode c_Mo_unlike 119 = .ok (.iload_n 3, 1) := by decide +kernel
theorem d_Mo_unlike_120 : decode c_Mo_unlike 120 = .ok (.ireturn, 1) := by decide +kernel
theorem ok_Mo_unlike : tb_mV y_Mo_unlike c_Mo_unlike 7 (some .int) 2 := ⟨tb_968, tb_48, tb_967, tb_38, by decide +kernel⟩
abbrev c_Mo_apart : ByteArray := prog_9_method_50_code
abbrev y_Mo_apart : MethodName := ⟨"ReedSetsModel", "apart", "()I"⟩
theorem d_Mo_apart_0 : decode c_Mo_apart 0 = .ok (.aload_n 0, 1) := by decide +kernel
theorem d_Mo_apart_1 : decode c_Mo_apart 1 = .ok (.getfield 191, 3) := by decide +kernel
theorem d_Mo_apart_4 : decode c_Mo_apart 4 = .ok (.aload_n 0, 1) := by decide +kernel
theorem d_Mo_apart_5 : decode c_Mo_apart 5 = .ok (.getfield 63, 3) := by decide +kernel
theorem d_Mo_apart_8 : decode c_Mo_apart 8 = .ok (.if_icmp .ge 7, 3) := by decide +kernel
theorem d_Mo_apart_11 : decode c_Mo_apart 11 = .ok (.iconst (-1), 1) := by decide +kernel
theorem d_Mo_apart_12 : decode c_Mo_apart 12 = .ok (.goto 11, 3) := by decide +kernel
theorem d_Mo_apart_15 : decode c_Mo_apart 15 = .ok (.aload_n 0, 1) := by decide +kernel
theorem d_Mo_apart_16 : decode c_Mo_apart 16 = .ok (.iconst (-1), 1) := by decide +kernel
theorem d_Mo_apart_17 : decode c_Mo_apart 17 = .ok (.sipush 256, 3) := by decide +kernel
theorem d_Mo_apart_20 : decode c_Mo_apart 20 = .ok (.invokevirtual 204, 3) := by decide +kernel
theorem d_Mo_apart_23 : decode c_Mo_apart 23 = .ok (.ireturn, 1) := by decide +kernel
theorem ok_Mo_apart : tb_mV y_Mo_apart c_Mo_apart 1 (some .int) 0 := ⟨tb_964, tb_48, tb_962, tb_963, by decide +kernel⟩
abbrev c_Mo_odd : ByteArray := prog_9_method_51_code
abbrev y_Mo_odd : MethodName := ⟨"ReedSetsModel", "odd", "()I"⟩
theorem d_Mo_odd_0 : decode c_Mo_odd 0 = .ok (.aload_n 0, 1) := by decide +kernel
theorem d_Mo_odd_1 : decode c_Mo_odd 1 = .ok (.getfield 191, 3) := by decide +kernel
theorem d_Mo_odd_4 : decode c_Mo_odd 4 = .ok (.aload_n 0, 1) := by decide +kernel
theorem d_Mo_odd_5 : decode c_Mo_odd 5 = .ok (.getfield 63, 3) := by decide +kernel
theorem d_Mo_odd_8 : decode c_Mo_odd 8 = .ok (.if_icmp .ge 5, 3) := by decide +kernel
theorem d_Mo_odd_11 : decode c_Mo_odd 11 = .ok (.iconst (-1), 1) := by decide +kernel
theorem d_Mo_odd_12 : decode c_Mo_odd 12 = .ok (.ireturn, 1) := by decide +kernel
theorem d_Mo_odd_13 : decode c_Mo_odd 13 = .ok (.aload_n 0, 1) := by decide +kernel
theorem d_Mo_odd_14 : decode c_Mo_odd 14 = .ok (.iconst (-1), 1) := by decide +kernel
theorem d_Mo_odd_15 : decode c_Mo_odd 15 = .ok (.iconst 1, 1) := by decide +kernel
theorem d_Mo_odd_16 : decode c_Mo_odd 16 = .ok (.invokevirtual 204, 3) := by decide +kernel
theorem d_Mo_odd_19 : decode c_Mo_odd 19 = .ok (.ifCond .ne 7, 3) := by decide +kernel
theorem d_Mo_odd_22 : decode c_Mo_odd 22 = .ok (.sipush 256, 3) := by decide +kernel
theorem d_Mo_odd_25 : decode c_Mo_odd 25 = .ok (.ireturn, 1) := by decide +kernel
theorem d_Mo_odd_26 : decode c_Mo_odd 26 = .ok (.iconst 0, 1) := by decide +kernel
theorem d_Mo_odd_27 : decode c_Mo_odd 27 = .ok (.istore_n 1, 1) := by decide +kernel
theorem d_Mo_odd_28 : decode c_Mo_odd 28 = .ok (.iload_n 1, 1) := by decide +kernel
theorem d_Mo_odd_29 : decode c_Mo_odd 29 = .ok (.sipush 256, 3) := by decide +kernel
theorem d_Mo_odd_32 : decode c_Mo_odd 32 = .ok (.if_icmp .ge 40, 3) := by decide +kernel
theorem d_Mo_odd_35 : decode c_Mo_odd 35 = .ok (.aload_n 0, 1) := by decide +kernel
theorem d_Mo_odd_36 : decode c_Mo_odd 36 = .ok (.getfield 191, 3) := by decide +kernel
theorem d_Mo_odd_39 : decode c_Mo_odd 39 = .ok (.aload_n 0, 1) := by decide +kernel
theorem d_Mo_odd_40 : decode c_Mo_odd 40 = .ok (.getfield 63, 3) := by decide +kernel
theorem d_Mo_odd_43 : decode c_Mo_odd 43 = .ok (.if_icmp .le 29, 3) := by decide +kernel
theorem d_Mo_odd_46 : decode c_Mo_odd 46 = .ok (.aload_n 0, 1) := by decide +kernel
theorem d_Mo_odd_47 : decode c_Mo_odd 47 = .ok (.getfield 69, 3) := by decide +kernel
theorem d_Mo_odd_50 : decode c_Mo_odd 50 = .ok (.iload_n 1, 1) := by decide +kernel
theorem d_Mo_odd_51 : decode c_Mo_odd 51 = .ok (.baload, 1) := by decide +kernel
theorem d_Mo_odd_52 : decode c_Mo_odd 52 = .ok (.ifCond .eq 14, 3) := by decide +kernel
theorem d_Mo_odd_55 : decode c_Mo_odd 55 = .ok (.aload_n 0, 1) := by decide +kernel
theorem d_Mo_odd_56 : decode c_Mo_odd 56 = .ok (.iload_n 1, 1) := by decide +kernel
theorem d_Mo_odd_57 : decode c_Mo_odd 57 = .ok (.iconst 1, 1) := by decide +kernel
theorem d_Mo_odd_58 : decode c_Mo_odd 58 = .ok (.invokevirtual 204, 3) := by decide +kernel
theorem d_Mo_odd_61 : decode c_Mo_odd 61 = .ok (.ifCond .ne 5, 3) := by decide +kernel
theorem d_Mo_odd_64 : decode c_Mo_odd 64 = .ok (.iload_n 1, 1) := by decide +kernel
theorem d_Mo_odd_65 : decode c_Mo_odd 65 = .ok (.ireturn, 1) := by decide +kernel
theorem d_Mo_odd_66 : decode c_Mo_odd 66 = .ok (.iinc 1 1, 3) := by decide +kernel
theorem d_Mo_odd_69 : decode c_Mo_odd 69 = .ok (.goto (-41), 3) := by decide +kernel
theorem d_Mo_odd_72 : decode c_Mo_odd 72 = .ok (.iconst (-1), 1) := by decide +kernel
theorem d_Mo_odd_73 : decode c_Mo_odd 73 = .ok (.ireturn, 1) := by decide +kernel
theorem ok_Mo_odd : tb_mV y_Mo_odd c_Mo_odd 2 (some .int) 0 := ⟨tb_972, tb_48, tb_970, tb_971, by decide +kernel⟩
