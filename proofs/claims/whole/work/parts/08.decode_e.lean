abbrev c_RS_times : ByteArray := prog_1_method_2_code
abbrev y_RS_times : MethodName := ⟨"ReedSets", "times", "(II)I"⟩
theorem d_RS_times_0 : decode c_RS_times 0 = .ok (.iload_n 1, 1) := by decide +kernel
theorem d_RS_times_1 : decode c_RS_times 1 = .ok (.invokestatic 53, 3) := by decide +kernel
theorem d_RS_times_4 : decode c_RS_times 4 = .ok (.ifCond .eq 10, 3) := by decide +kernel
theorem d_RS_times_7 : decode c_RS_times 7 = .ok (.iload_n 2, 1) := by decide +kernel
theorem d_RS_times_8 : decode c_RS_times 8 = .ok (.invokestatic 53, 3) := by decide +kernel
theorem d_RS_times_11 : decode c_RS_times 11 = .ok (.ifCond .ne 5, 3) := by decide +kernel
theorem d_RS_times_14 : decode c_RS_times 14 = .ok (.iconst (-1), 1) := by decide +kernel
theorem d_RS_times_15 : decode c_RS_times 15 = .ok (.ireturn, 1) := by decide +kernel
theorem d_RS_times_16 : decode c_RS_times 16 = .ok (.aload_n 0, 1) := by decide +kernel
theorem d_RS_times_17 : decode c_RS_times 17 = .ok (.getfield 12, 3) := by decide +kernel
theorem d_RS_times_20 : decode c_RS_times 20 = .ok (.iload_n 1, 1) := by decide +kernel
theorem d_RS_times_21 : decode c_RS_times 21 = .ok (.iload_n 2, 1) := by decide +kernel
theorem d_RS_times_22 : decode c_RS_times 22 = .ok (.invokevirtual 57, 3) := by decide +kernel
theorem d_RS_times_25 : decode c_RS_times 25 = .ok (.ireturn, 1) := by decide +kernel
theorem ok_RS_times : tb_mV y_RS_times c_RS_times 3 (some .int) 2 := ⟨tb_297, tb_40, tb_295, tb_296, by decide +kernel⟩
abbrev c_RS_over : ByteArray := prog_1_method_3_code
abbrev y_RS_over : MethodName := ⟨"ReedSets", "over", "(II)I"⟩
theorem d_RS_over_0 : decode c_RS_over 0 = .ok (.iload_n 1, 1) := by decide +kernel
theorem d_RS_over_1 : decode c_RS_over 1 = .ok (.invokestatic 53, 3) := by decide +kernel
theorem d_RS_over_4 : decode c_RS_over 4 = .ok (.ifCond .eq 14, 3) := by decide +kernel
theorem d_RS_over_7 : decode c_RS_over 7 = .ok (.iload_n 2, 1) := by decide +kernel
theorem d_RS_over_8 : decode c_RS_over 8 = .ok (.invokestatic 53, 3) := by decide +kernel
theorem d_RS_over_11 : decode c_RS_over 11 = .ok (.ifCond .eq 7, 3) := by decide +kernel
theorem d_RS_over_14 : decode c_RS_over 14 = .ok (.iload_n 2, 1) := by decide +kernel
theorem d_RS_over_15 : decode c_RS_over 15 = .ok (.ifCond .ne 5, 3) := by decide +kernel
theorem d_RS_over_18 : decode c_RS_over 18 = .ok (.iconst (-1), 1) := by decide +kernel
theorem d_RS_over_19 : decode c_RS_over 19 = .ok (.ireturn, 1) := by decide +kernel
theorem d_RS_over_20 : decode c_RS_over 20 = .ok (.aload_n 0, 1) := by decide +kernel
theorem d_RS_over_21 : decode c_RS_over 21 = .ok (.getfield 12, 3) := by decide +kernel
theorem d_RS_over_24 : decode c_RS_over 24 = .ok (.iload_n 1, 1) := by decide +kernel
theorem d_RS_over_25 : decode c_RS_over 25 = .ok (.iload_n 2, 1) := by decide +kernel
theorem d_RS_over_26 : decode c_RS_over 26 = .ok (.invokevirtual 61, 3) := by decide +kernel
theorem d_RS_over_29 : decode c_RS_over 29 = .ok (.ireturn, 1) := by decide +kernel
theorem ok_RS_over : tb_mV y_RS_over c_RS_over 3 (some .int) 2 := ⟨tb_305, tb_40, tb_303, tb_304, by decide +kernel⟩
abbrev c_RS_power : ByteArray := prog_1_method_4_code
abbrev y_RS_power : MethodName := ⟨"ReedSets", "power", "(II)I"⟩
theorem d_RS_power_0 : decode c_RS_power 0 = .ok (.iload_n 1, 1) := by decide +kernel
theorem d_RS_power_1 : decode c_RS_power 1 = .ok (.invokestatic 53, 3) := by decide +kernel
theorem d_RS_power_4 : decode c_RS_power 4 = .ok (.ifCond .eq 11, 3) := by decide +kernel
theorem d_RS_power_7 : decode c_RS_power 7 = .ok (.iload_n 1, 1) := by decide +kernel
theorem d_RS_power_8 : decode c_RS_power 8 = .ok (.ifCond .ne 9, 3) := by decide +kernel
theorem d_RS_power_11 : decode c_RS_power 11 = .ok (.iload_n 2, 1) := by decide +kernel
theorem d_RS_power_12 : decode c_RS_power 12 = .ok (.ifCond .ge 5, 3) := by decide +kernel
theorem d_RS_power_15 : decode c_RS_power 15 = .ok (.iconst (-1), 1) := by decide +kernel
theorem d_RS_power_16 : decode c_RS_power 16 = .ok (.ireturn, 1) := by decide +kernel
theorem d_RS_power_17 : decode c_RS_power 17 = .ok (.aload_n 0, 1) := by decide +kernel
theorem d_RS_power_18 : decode c_RS_power 18 = .ok (.getfield 12, 3) := by decide +kernel
theorem d_RS_power_21 : decode c_RS_power 21 = .ok (.iload_n 1, 1) := by decide +kernel
theorem d_RS_power_22 : decode c_RS_power 22 = .ok (.iload_n 2, 1) := by decide +kernel
theorem d_RS_power_23 : decode c_RS_power 23 = .ok (.invokevirtual 64, 3) := by decide +kernel
theorem d_RS_power_26 : decode c_RS_power 26 = .ok (.ireturn, 1) := by decide +kernel
theorem ok_RS_power : tb_mV y_RS_power c_RS_power 3 (some .int) 2 := ⟨tb_313, tb_40, tb_311, tb_312, by decide +kernel⟩
abbrev c_RS_log : ByteArray := prog_1_method_5_code
abbrev y_RS_log : MethodName := ⟨"ReedSets", "log", "(I)I"⟩
theorem d_RS_log_0 : decode c_RS_log 0 = .ok (.iload_n 1, 1) := by decide +kernel
theorem d_RS_log_1 : decode c_RS_log 1 = .ok (.invokestatic 53, 3) := by decide +kernel
theorem d_RS_log_4 : decode c_RS_log 4 = .ok (.ifCond .eq 7, 3) := by decide +kernel
theorem d_RS_log_7 : decode c_RS_log 7 = .ok (.iload_n 1, 1) := by decide +kernel
theorem d_RS_log_8 : decode c_RS_log 8 = .ok (.ifCond .ne 5, 3) := by decide +kernel
theorem d_RS_log_11 : decode c_RS_log 11 = .ok (.iconst (-1), 1) := by decide +kernel
theorem d_RS_log_12 : decode c_RS_log 12 = .ok (.ireturn, 1) := by decide +kernel
theorem d_RS_log_13 : decode c_RS_log 13 = .ok (.aload_n 0, 1) := by decide +kernel
theorem d_RS_log_14 : decode c_RS_log 14 = .ok (.getfield 12, 3) := by decide +kernel
theorem d_RS_log_17 : decode c_RS_log 17 = .ok (.iload_n 1, 1) := by decide +kernel
theorem d_RS_log_18 : decode c_RS_log 18 = .ok (.invokevirtual 67, 3) := by decide +kernel
theorem d_RS_log_21 : decode c_RS_log 21 = .ok (.ireturn, 1) := by decide +kernel
theorem ok_RS_log : tb_mV y_RS_log c_RS_log 2 (some .int) 1 := ⟨tb_325, tb_40, tb_323, tb_324, by decide +kernel⟩
abbrev c_RS_code : ByteArray := prog_1_method_6_code
abbrev y_RS_code : MethodName := ⟨"ReedSets", "code", "(III)I"⟩
theorem d_RS_code_0 : decode c_RS_code 0 = .ok (.iload_n 1, 1) := by decide +kernel
theorem d_RS_code_1 : decode c_RS_code 1 = .ok (.iconst 1, 1) := by decide +kernel
theorem d_RS_code_2 : decode c_RS_code 2 = .ok (.if_icmp .lt 20, 3) := by decide +kernel
theorem d_RS_code_5 : decode c_RS_code 5 = .ok (.iload_n 1, 1) := by decide +kernel
theorem d_RS_code_6 : decode c_RS_code 6 = .ok (.sipush 200, 3) := by decide +kernel
theorem d_RS_code_9 : decode c_RS_code 9 = .ok (.if_icmp .gt 13, 3) := by decide +kernel
theorem d_RS_code_12 : decode c_RS_code 12 = .ok (.iload_n 2, 1) := by decide +kernel
theorem d_RS_code_13 : decode c_RS_code 13 = .ok (.ifCond .lt 9, 3) := by decide +kernel
theorem d_RS_code_16 : decode c_RS_code 16 = .ok (.iload_n 2, 1) := by decide +kernel
theorem d_RS_code_17 : decode c_RS_code 17 = .ok (.bipush 40, 2) := by decide +kernel
theorem d_RS_code_19 : decode c_RS_code 19 = .ok (.if_icmp .le 5, 3) := by decide +kernel
theorem d_RS_code_22 : decode c_RS_code 22 = .ok (.iconst (-1), 1) := by decide +kernel
theorem d_RS_code_23 : decode c_RS_code 23 = .ok (.ireturn, 1) := by decide +kernel
theorem d_RS_code_24 : decode c_RS_code 24 = .ok (.iload_n 1, 1) := by decide +kernel
theorem d_RS_code_25 : decode c_RS_code 25 = .ok (.iload_n 2, 1) := by decide +kernel
theorem d_RS_code_26 : decode c_RS_code 26 = .ok (.iadd, 1) := by decide +kernel
theorem d_RS_code_27 : decode c_RS_code 27 = .ok (.sipush 255, 3) := by decide +kernel
theorem d_RS_code_30 : decode c_RS_code 30 = .ok (.if_icmp .gt 14, 3) := by decide +kernel
theorem d_RS_code_33 : decode c_RS_code 33 = .ok (.iload_n 3, 1) := by decide +kernel
theorem d_RS_code_34 : decode c_RS_code 34 = .ok (.ifCond .lt 10, 3) := by decide +kernel
theorem d_RS_code_37 : decode c_RS_code 37 = .ok (.iload_n 3, 1) := by decide +kernel
theorem d_RS_code_38 : decode c_RS_code 38 = .ok (.sipush 255, 3) := by decide +kernel
theorem d_RS_code_41 : decode c_RS_code 41 = .ok (.if_icmp .lt 5, 3) := by decide +kernel
theorem d_RS_code_44 : decode c_RS_code 44 = .ok (.iconst (-1), 1) := by decide +kernel
theorem d_RS_code_45 : decode c_RS_code 45 = .ok (.ireturn, 1) := by decide +kernel
theorem d_RS_code_46 : decode c_RS_code 46 = .ok (.aload_n 0, 1) := by decide +kernel
theorem d_RS_code_47 : decode c_RS_code 47 = .ok (.getfield 21, 3) := by decide +kernel
theorem d_RS_code_50 : decode c_RS_code 50 = .ok (.iload_n 1, 1) := by decide +kernel
theorem d_RS_code_51 : decode c_RS_code 51 = .ok (.iload_n 2, 1) := by decide +kernel
theorem d_RS_code_52 : decode c_RS_code 52 = .ok (.iload_n 3, 1) := by decide +kernel
theorem d_RS_code_53 : decode c_RS_code 53 = .ok (.invokevirtual 71, 3) := by decide +kernel
theorem d_RS_code_56 : decode c_RS_code 56 = .ok (.aload_n 0, 1) := by decide +kernel
theorem d_RS_code_57 : decode c_RS_code 57 = .ok (.getfield 21, 3) := by decide +kernel
theorem d_RS_code_60 : decode c_RS_code 60 = .ok (.invokevirtual 75, 3) := by decide +kernel
theorem d_RS_code_63 : decode c_RS_code 63 = .ok (.ireturn, 1) := by decide +kernel
theorem ok_RS_code : tb_mV y_RS_code c_RS_code 4 (some .int) 3 := ⟨tb_333, tb_40, tb_331, tb_332, by decide +kernel⟩
abbrev c_RS_generator : ByteArray := prog_1_method_7_code
abbrev y_RS_generator : MethodName := ⟨"ReedSets", "generator", "(I)I"⟩
theorem d_RS_generator_0 : decode c_RS_generator 0 = .ok (.iload_n 1, 1) := by decide +kernel
theorem d_RS_generator_1 : decode c_RS_generator 1 = .ok (.ifCond .lt 14, 3) := by decide +kernel
theorem d_RS_generator_4 : decode c_RS_generator 4 = .ok (.iload_n 1, 1) := by decide +kernel
theorem d_RS_generator_5 : decode c_RS_generator 5 = .ok (.aload_n 0, 1) := by decide +kernel
theorem d_RS_generator_6 : decode c_RS_generator 6 = .ok (.getfield 21, 3) := by decide +kernel
theorem d_RS_generator_9 : decode c_RS_generator 9 = .ok (.getfield 79, 3) := by decide +kernel
theorem d_RS_generator_12 : decode c_RS_generator 12 = .ok (.if_icmp .le 5, 3) := by decide +kernel
theorem d_RS_generator_15 : decode c_RS_generator 15 = .ok (.iconst (-1), 1) := by decide +kernel
theorem d_RS_generator_16 : decode c_RS_generator 16 = .ok (.ireturn, 1) := by decide +kernel
theorem d_RS_generator_17 : decode c_RS_generator 17 = .ok (.aload_n 0, 1) := by decide +kernel
theorem d_RS_generator_18 : decode c_RS_generator 18 = .ok (.getfield 21, 3) := by decide +kernel
theorem d_RS_generator_21 : decode c_RS_generator 21 = .ok (.getfield 83, 3) := by decide +kernel
theorem d_RS_generator_24 : decode c_RS_generator 24 = .ok (.iload_n 1, 1) := by decide +kernel
theorem d_RS_generator_25 : decode c_RS_generator 25 = .ok (.iaload, 1) := by decide +kernel
theorem d_RS_generator_26 : decode c_RS_generator 26 = .ok (.ireturn, 1) := by decide +kernel
theorem ok_RS_generator : tb_mV y_RS_generator c_RS_generator 2 (some .int) 1 := ⟨tb_342, tb_40, tb_340, tb_341, by decide +kernel⟩
abbrev c_RS_put : ByteArray := prog_1_method_8_code
abbrev y_RS_put : MethodName := ⟨"ReedSets", "put", "(II)I"⟩
theorem d_RS_put_0 : decode c_RS_put 0 = .ok (.aload_n 0, 1) := by decide +kernel
theorem d_RS_put_1 : decode c_RS_put 1 = .ok (.getfield 21, 3) := by decide +kernel
theorem d_RS_put_4 : decode c_RS_put 4 = .ok (.iload_n 1, 1) := by decide +kernel
theorem d_RS_put_5 : decode c_RS_put 5 = .ok (.invokevirtual 87, 3) := by decide +kernel
theorem d_RS_put_8 : decode c_RS_put 8 = .ok (.ifCond .eq 10, 3) := by decide +kernel
theorem d_RS_put_11 : decode c_RS_put 11 = .ok (.iload_n 2, 1) := by decide +kernel
theorem d_RS_put_12 : decode c_RS_put 12 = .ok (.invokestatic 53, 3) := by decide +kernel
theorem d_RS_put_15 : decode c_RS_put 15 = .ok (.ifCond .ne 5, 3) := by decide +kernel
theorem d_RS_put_18 : decode c_RS_put 18 = .ok (.iconst (-1), 1) := by decide +kernel
theorem d_RS_put_19 : decode c_RS_put 19 = .ok (.ireturn, 1) := by decide +kernel
theorem d_RS_put_20 : decode c_RS_put 20 = .ok (.aload_n 0, 1) := by decide +kernel
theorem d_RS_put_21 : decode c_RS_put 21 = .ok (.getfield 21, 3) := by decide +kernel
theorem d_RS_put_24 : decode c_RS_put 24 = .ok (.getfield 90, 3) := by decide +kernel
theorem d_RS_put_27 : decode c_RS_put 27 = .ok (.iload_n 1, 1) := by decide +kernel
theorem d_RS_put_28 : decode c_RS_put 28 = .ok (.iaload, 1) := by decide +kernel
theorem d_RS_put_29 : decode c_RS_put 29 = .ok (.istore_n 3, 1) := by decide +kernel
theorem d_RS_put_30 : decode c_RS_put 30 = .ok (.aload_n 0, 1) := by decide +kernel
theorem d_RS_put_31 : decode c_RS_put 31 = .ok (.getfield 21, 3) := by decide +kernel
theorem d_RS_put_34 : decode c_RS_put 34 = .ok (.getfield 90, 3) := by decide +kernel
theorem d_RS_put_37 : decode c_RS_put 37 = .ok (.iload_n 1, 1) := by decide +kernel
theorem d_RS_put_38 : decode c_RS_put 38 = .ok (.iload_n 2, 1) := by decide +kernel
theorem d_RS_put_39 : decode c_RS_put 39 = .ok (.iastore, 1) := by decide +kernel
theorem d_RS_put_40 : decode c_RS_put 40 = .ok (.iload_n 3, 1) := by decide +kernel
theorem d_RS_put_41 : decode c_RS_put 41 = .ok (.ireturn, 1) := by decide +kernel
theorem ok_RS_put : tb_mV y_RS_put c_RS_put 4 (some .int) 2 := ⟨tb_346, tb_40, tb_344, tb_345, by decide +kernel⟩
abbrev c_RS_encode : ByteArray := prog_1_method_9_code
abbrev y_RS_encode : MethodName := ⟨"ReedSets", "encode", "()I"⟩
theorem d_RS_encode_0 : decode c_RS_encode 0 = .ok (.aload_n 0, 1) := by decide +kernel
theorem d_RS_encode_1 : decode c_RS_encode 1 = .ok (.getfield 21, 3) := by decide +kernel
theorem d_RS_encode_4 : decode c_RS_encode 4 = .ok (.invokevirtual 93, 3) := by decide +kernel
theorem d_RS_encode_7 : decode c_RS_encode 7 = .ok (.ifCond .eq 5, 3) := by decide +kernel
theorem d_RS_encode_10 : decode c_RS_encode 10 = .ok (.iconst (-1), 1) := by decide +kernel
theorem d_RS_encode_11 : decode c_RS_encode 11 = .ok (.ireturn, 1) := by decide +kernel
theorem d_RS_encode_12 : decode c_RS_encode 12 = .ok (.aload_n 0, 1) := by decide +kernel
theorem d_RS_encode_13 : decode c_RS_encode 13 = .ok (.getfield 21, 3) := by decide +kernel
theorem d_RS_encode_16 : decode c_RS_encode 16 = .ok (.invokevirtual 97, 3) := by decide +kernel
theorem d_RS_encode_19 : decode c_RS_encode 19 = .ok (.aload_n 0, 1) := by decide +kernel
theorem d_RS_encode_20 : decode c_RS_encode 20 = .ok (.getfield 21, 3) := by decide +kernel
theorem d_RS_encode_23 : decode c_RS_encode 23 = .ok (.invokevirtual 100, 3) := by decide +kernel
theorem d_RS_encode_26 : decode c_RS_encode 26 = .ok (.iconst 1, 1) := by decide +kernel
theorem d_RS_encode_27 : decode c_RS_encode 27 = .ok (.ireturn, 1) := by decide +kernel
theorem ok_RS_encode : tb_mV y_RS_encode c_RS_encode 1 (some .int) 0 := ⟨tb_355, tb_40, tb_353, tb_354, by decide +kernel⟩
abbrev c_RS_at : ByteArray := prog_1_method_10_code
abbrev y_RS_at : MethodName := ⟨"ReedSets", "at", "(I)I"⟩
theorem d_RS_at_0 : decode c_RS_at 0 = .ok (.aload_n 0, 1) := by decide +kernel
theorem d_RS_at_1 : decode c_RS_at 1 = .ok (.getfield 21, 3) := by decide +kernel
theorem d_RS_at_4 : decode c_RS_at 4 = .ok (.iload_n 1, 1) := by decide +kernel
theorem d_RS_at_5 : decode c_RS_at 5 = .ok (.invokevirtual 87, 3) := by decide +kernel
theorem d_RS_at_8 : decode c_RS_at 8 = .ok (.ifCond .eq 15, 3) := by decide +kernel
theorem d_RS_at_11 : decode c_RS_at 11 = .ok (.aload_n 0, 1) := by decide +kernel
theorem d_RS_at_12 : decode c_RS_at 12 = .ok (.getfield 21, 3) := by decide +kernel
theorem d_RS_at_15 : decode c_RS_at 15 = .ok (.getfield 90, 3) := by decide +kernel
theorem d_RS_at_18 : decode c_RS_at 18 = .ok (.iload_n 1, 1) := by decide +kernel
theorem d_RS_at_19 : decode c_RS_at 19 = .ok (.iaload, 1) := by decide +kernel
theorem d_RS_at_20 : decode c_RS_at 20 = .ok (.goto 4, 3) := by decide +kernel
theorem d_RS_at_23 : decode c_RS_at 23 = .ok (.iconst (-1), 1) := by decide +kernel
theorem d_RS_at_24 : decode c_RS_at 24 = .ok (.ireturn, 1) := by decide +kernel
theorem ok_RS_at : tb_mV y_RS_at c_RS_at 2 (some .int) 1 := ⟨tb_374, tb_40, tb_372, tb_373, by decide +kernel⟩
abbrev c_RS_lose : ByteArray := prog_1_method_11_code
abbrev y_RS_lose : MethodName := ⟨"ReedSets", "lose", "(I)I"⟩
theorem d_RS_lose_0 : decode c_RS_lose 0 = .ok (.aload_n 0, 1) := by decide +kernel
theorem d_RS_lose_1 : decode c_RS_lose 1 = .ok (.getfield 21, 3) := by decide +kernel
theorem d_RS_lose_4 : decode c_RS_lose 4 = .ok (.iload_n 1, 1) := by decide +kernel
theorem d_RS_lose_5 : decode c_RS_lose 5 = .ok (.invokevirtual 87, 3) := by decide +kernel
theorem d_RS_lose_8 : decode c_RS_lose 8 = .ok (.ifCond .eq 15, 3) := by decide +kernel
theorem d_RS_lose_11 : decode c_RS_lose 11 = .ok (.aload_n 0, 1) := by decide +kernel
theorem d_RS_lose_12 : decode c_RS_lose 12 = .ok (.getfield 21, 3) := by decide +kernel
theorem d_RS_lose_15 : decode c_RS_lose 15 = .ok (.getfield 103, 3) := by decide +kernel
theorem d_RS_lose_18 : decode c_RS_lose 18 = .ok (.iload_n 1, 1) := by decide +kernel
theorem d_RS_lose_19 : decode c_RS_lose 19 = .ok (.baload, 1) := by decide +kernel
theorem d_RS_lose_20 : decode c_RS_lose 20 = .ok (.ifCond .eq 5, 3) := by decide +kernel
theorem d_RS_lose_23 : decode c_RS_lose 23 = .ok (.iconst (-1), 1) := by decide +kernel
theorem d_RS_lose_24 : decode c_RS_lose 24 = .ok (.ireturn, 1) := by decide +kernel
theorem d_RS_lose_25 : decode c_RS_lose 25 = .ok (.aload_n 0, 1) := by decide +kernel
theorem d_RS_lose_26 : decode c_RS_lose 26 = .ok (.getfield 21, 3) := by decide +kernel
theorem d_RS_lose_29 : decode c_RS_lose 29 = .ok (.getfield 103, 3) := by decide +kernel
theorem d_RS_lose_32 : decode c_RS_lose 32 = .ok (.iload_n 1, 1) := by decide +kernel
theorem d_RS_lose_33 : decode c_RS_lose 33 = .ok (.iconst 1, 1) := by decide +kernel
theorem d_RS_lose_34 : decode c_RS_lose 34 = .ok (.bastore, 1) := by decide +kernel
theorem d_RS_lose_35 : decode c_RS_lose 35 = .ok (.aload_n 0, 1) := by decide +kernel
theorem d_RS_lose_36 : decode c_RS_lose 36 = .ok (.getfield 21, 3) := by decide +kernel
theorem d_RS_lose_39 : decode c_RS_lose 39 = .ok (.dup, 1) := by decide +kernel
theorem d_RS_lose_40 : decode c_RS_lose 40 = .ok (.getfield 107, 3) := by decide +kernel
theorem d_RS_lose_43 : decode c_RS_lose 43 = .ok (.iconst 1, 1) := by decide +kernel
theorem d_RS_lose_44 : decode c_RS_lose 44 = .ok (.iadd, 1) := by decide +kernel
theorem d_RS_lose_45 : decode c_RS_lose 45 = .ok (.putfield 107, 3) := by decide +kernel
theorem d_RS_lose_48 : decode c_RS_lose 48 = .ok (.aload_n 0, 1) := by decide +kernel
theorem d_RS_lose_49 : decode c_RS_lose 49 = .ok (.getfield 21, 3) := by decide +kernel
theorem d_RS_lose_52 : decode c_RS_lose 52 = .ok (.getfield 107, 3) := by decide +kernel
theorem d_RS_lose_55 : decode c_RS_lose 55 = .ok (.ireturn, 1) := by decide +kernel
theorem ok_RS_lose : tb_mV y_RS_lose c_RS_lose 2 (some .int) 1 := ⟨tb_378, tb_40, tb_376, tb_377, by decide +kernel⟩
abbrev c_RS_syndrome : ByteArray := prog_1_method_12_code
abbrev y_RS_syndrome : MethodName := ⟨"ReedSets", "syndrome", "(I)I"⟩
theorem d_RS_syndrome_0 : decode c_RS_syndrome 0 = .ok (.iload_n 1, 1) := by decide +kernel
theorem d_RS_syndrome_1 : decode c_RS_syndrome 1 = .ok (.ifCond .lt 14, 3) := by decide +kernel
theorem d_RS_syndrome_4 : decode c_RS_syndrome 4 = .ok (.iload_n 1, 1) := by decide +kernel
theorem d_RS_syndrome_5 : decode c_RS_syndrome 5 = .ok (.aload_n 0, 1) := by decide +kernel
theorem d_RS_syndrome_6 : decode c_RS_syndrome 6 = .ok (.getfield 21, 3) := by decide +kernel
theorem d_RS_syndrome_9 : decode c_RS_syndrome 9 = .ok (.getfield 79, 3) := by decide +kernel
theorem d_RS_syndrome_12 : decode c_RS_syndrome 12 = .ok (.if_icmp .lt 5, 3) := by decide +kernel
theorem d_RS_syndrome_15 : decode c_RS_syndrome 15 = .ok (.iconst (-1), 1) := by decide +kernel
theorem d_RS_syndrome_16 : decode c_RS_syndrome 16 = .ok (.ireturn, 1) := by decide +kernel
theorem d_RS_syndrome_17 : decode c_RS_syndrome 17 = .ok (.aload_n 0, 1) := by decide +kernel
theorem d_RS_syndrome_18 : decode c_RS_syndrome 18 = .ok (.getfield 21, 3) := by decide +kernel
theorem d_RS_syndrome_21 : decode c_RS_syndrome 21 = .ok (.aload_n 0, 1) := by decide +kernel
theorem d_RS_syndrome_22 : decode c_RS_syndrome 22 = .ok (.getfield 21, 3) := by decide +kernel
theorem d_RS_syndrome_25 : decode c_RS_syndrome 25 = .ok (.getfield 110, 3) := by decide +kernel
theorem d_RS_syndrome_28 : decode c_RS_syndrome 28 = .ok (.iload_n 1, 1) := by decide +kernel
theorem d_RS_syndrome_29 : decode c_RS_syndrome 29 = .ok (.iadd, 1) := by decide +kernel
theorem d_RS_syndrome_30 : decode c_RS_syndrome 30 = .ok (.invokevirtual 113, 3) := by decide +kernel
theorem d_RS_syndrome_33 : decode c_RS_syndrome 33 = .ok (.ireturn, 1) := by decide +kernel
theorem ok_RS_syndrome : tb_mV y_RS_syndrome c_RS_syndrome 2 (some .int) 1 := ⟨tb_382, tb_40, tb_380, tb_381, by decide +kernel⟩
abbrev c_RS_repair : ByteArray := prog_1_method_13_code
abbrev y_RS_repair : MethodName := ⟨"ReedSets", "repair", "()I"⟩
theorem d_RS_repair_0 : decode c_RS_repair 0 = .ok (.aload_n 0, 1) := by decide +kernel
theorem d_RS_repair_1 : decode c_RS_repair 1 = .ok (.getfield 28, 3) := by decide +kernel
theorem d_RS_repair_4 : decode c_RS_repair 4 = .ok (.aload_n 0, 1) := by decide +kernel
theorem d_RS_repair_5 : decode c_RS_repair 5 = .ok (.getfield 21, 3) := by decide +kernel
theorem d_RS_repair_8 : decode c_RS_repair 8 = .ok (.invokevirtual 116, 3) := by decide +kernel
theorem d_RS_repair_11 : decode c_RS_repair 11 = .ok (.istore_n 1, 1) := by decide +kernel
theorem d_RS_repair_12 : decode c_RS_repair 12 = .ok (.iload_n 1, 1) := by decide +kernel
theorem d_RS_repair_13 : decode c_RS_repair 13 = .ok (.iconst (-1), 1) := by decide +kernel
theorem d_RS_repair_14 : decode c_RS_repair 14 = .ok (.if_icmp .ne 5, 3) := by decide +kernel
theorem d_RS_repair_17 : decode c_RS_repair 17 = .ok (.iconst (-1), 1) := by decide +kernel
theorem d_RS_repair_18 : decode c_RS_repair 18 = .ok (.ireturn, 1) := by decide +kernel
theorem d_RS_repair_19 : decode c_RS_repair 19 = .ok (.aload_n 0, 1) := by decide +kernel
theorem d_RS_repair_20 : decode c_RS_repair 20 = .ok (.getfield 35, 3) := by decide +kernel
theorem d_RS_repair_23 : decode c_RS_repair 23 = .ok (.invokevirtual 120, 3) := by decide +kernel
theorem d_RS_repair_26 : decode c_RS_repair 26 = .ok (.iconst 0, 1) := by decide +kernel
theorem d_RS_repair_27 : decode c_RS_repair 27 = .ok (.istore_n 2, 1) := by decide +kernel
theorem d_RS_repair_28 : decode c_RS_repair 28 = .ok (.iload_n 2, 1) := by decide +kernel
theorem d_RS_repair_29 : decode c_RS_repair 29 = .ok (.aload_n 0, 1) := by decide +kernel
theorem d_RS_repair_30 : decode c_RS_repair 30 = .ok (.getfield 28, 3) := by decide +kernel
theorem d_RS_repair_33 : decode c_RS_repair 33 = .ok (.getfield 123, 3) := by decide +kernel
theorem d_RS_repair_36 : decode c_RS_repair 36 = .ok (.if_icmp .ge 49, 3) := by decide +kernel
theorem d_RS_repair_39 : decode c_RS_repair 39 = .ok (.aload_n 0, 1) := by decide +kernel
theorem d_RS_repair_40 : decode c_RS_repair 40 = .ok (.getfield 28, 3) := by decide +kernel
theorem d_RS_repair_43 : decode c_RS_repair 43 = .ok (.getfield 126, 3) := by decide +kernel
theorem d_RS_repair_46 : decode c_RS_repair 46 = .ok (.iload_n 2, 1) := by decide +kernel
theorem d_RS_repair_47 : decode c_RS_repair 47 = .ok (.iaload, 1) := by decide +kernel
theorem d_RS_repair_48 : decode c_RS_repair 48 = .ok (.istore_n 3, 1) := by decide +kernel
theorem d_RS_repair_49 : decode c_RS_repair 49 = .ok (.aload_n 0, 1) := by decide +kernel
theorem d_RS_repair_50 : decode c_RS_repair 50 = .ok (.getfield 35, 3) := by decide +kernel
theorem d_RS_repair_53 : decode c_RS_repair 53 = .ok (.iload_n 3, 1) := by decide +kernel
theorem d_RS_repair_54 : decode c_RS_repair 54 = .ok (.aload_n 0, 1) := by decide +kernel
theorem d_RS_repair_55 : decode c_RS_repair 55 = .ok (.getfield 21, 3) := by decide +kernel
theorem d_RS_repair_58 : decode c_RS_repair 58 = .ok (.getfield 90, 3) := by decide +kernel
theorem d_RS_repair_61 : decode c_RS_repair 61 = .ok (.iload_n 3, 1) := by decide +kernel
theorem d_RS_repair_62 : decode c_RS_repair 62 = .ok (.iaload, 1) := by decide +kernel
theorem d_RS_repair_63 : decode c_RS_repair 63 = .ok (.aload_n 0, 1) := by decide +kernel
theorem d_RS_repair_64 : decode c_RS_repair 64 = .ok (.getfield 28, 3) := by decide +kernel
theorem d_RS_repair_67 : decode c_RS_repair 67 = .ok (.aload_n 0, 1) := by decide +kernel
theorem d_RS_repair_68 : decode c_RS_repair 68 = .ok (.getfield 21, 3) := by decide +kernel
theorem d_RS_repair_71 : decode c_RS_repair 71 = .ok (.iload_n 2, 1) := by decide +kernel
theorem d_RS_repair_72 : decode c_RS_repair 72 = .ok (.invokevirtual 129, 3) := by decide +kernel
theorem d_RS_repair_75 : decode c_RS_repair 75 = .ok (.ixor, 1) := by decide +kernel
theorem d_RS_repair_76 : decode c_RS_repair 76 = .ok (.invokevirtual 133, 3) := by decide +kernel
theorem d_RS_repair_79 : decode c_RS_repair 79 = .ok (.iinc 2 1, 3) := by decide +kernel
theorem d_RS_repair_82 : decode c_RS_repair 82 = .ok (.goto (-54), 3) := by decide +kernel
theorem d_RS_repair_85 : decode c_RS_repair 85 = .ok (.aload_n 0, 1) := by decide +kernel
theorem d_RS_repair_86 : decode c_RS_repair 86 = .ok (.getfield 28, 3) := by decide +kernel
theorem d_RS_repair_89 : decode c_RS_repair 89 = .ok (.aload_n 0, 1) := by decide +kernel
theorem d_RS_repair_90 : decode c_RS_repair 90 = .ok (.getfield 21, 3) := by decide +kernel
theorem d_RS_repair_93 : decode c_RS_repair 93 = .ok (.invokevirtual 137, 3) := by decide +kernel
theorem d_RS_repair_96 : decode c_RS_repair 96 = .ok (.iload_n 1, 1) := by decide +kernel
theorem d_RS_repair_97 : decode c_RS_repair 97 = .ok (.ireturn, 1) := by decide +kernel
theorem ok_RS_repair : tb_mV y_RS_repair c_RS_repair 4 (some .int) 0 := ⟨tb_390, tb_40, tb_388, tb_389, by decide +kernel⟩
abbrev c_RS_changed : ByteArray := prog_1_method_14_code
abbrev y_RS_changed : MethodName := ⟨"ReedSets", "changed", "(II)I"⟩
theorem d_RS_changed_0 : decode c_RS_changed 0 = .ok (.iload_n 1, 1) := by decide +kernel
theorem d_RS_changed_1 : decode c_RS_changed 1 = .ok (.ifCond .lt 14, 3) := by decide +kernel
theorem d_RS_changed_4 : decode c_RS_changed 4 = .ok (.iload_n 1, 1) := by decide +kernel
theorem d_RS_changed_5 : decode c_RS_changed 5 = .ok (.aload_n 0, 1) := by decide +kernel
theorem d_RS_changed_6 : decode c_RS_changed 6 = .ok (.getfield 35, 3) := by decide +kernel
theorem d_RS_changed_9 : decode c_RS_changed 9 = .ok (.getfield 141, 3) := by decide +kernel
theorem d_RS_changed_12 : decode c_RS_changed 12 = .ok (.if_icmp .lt 5, 3) := by decide +kernel
theorem d_RS_changed_15 : decode c_RS_changed 15 = .ok (.iconst (-1), 1) := by decide +kernel
theorem d_RS_changed_16 : decode c_RS_changed 16 = .ok (.ireturn, 1) := by decide +kernel
theorem d_RS_changed_17 : decode c_RS_changed 17 = .ok (.iload_n 2, 1) := by decide +kernel
theorem d_RS_changed_18 : decode c_RS_changed 18 = .ok (.ifCond .ne 13, 3) := by decide +kernel
theorem d_RS_changed_21 : decode c_RS_changed 21 = .ok (.aload_n 0, 1) := by decide +kernel
theorem d_RS_changed_22 : decode c_RS_changed 22 = .ok (.getfield 35, 3) := by decide +kernel
theorem d_RS_changed_25 : decode c_RS_changed 25 = .ok (.getfield 144, 3) := by decide +kernel
theorem d_RS_changed_28 : decode c_RS_changed 28 = .ok (.iload_n 1, 1) := by decide +kernel
theorem d_RS_changed_29 : decode c_RS_changed 29 = .ok (.iaload, 1) := by decide +kernel
theorem d_RS_changed_30 : decode c_RS_changed 30 = .ok (.ireturn, 1) := by decide +kernel
theorem d_RS_changed_31 : decode c_RS_changed 31 = .ok (.iload_n 2, 1) := by decide +kernel
theorem d_RS_changed_32 : decode c_RS_changed 32 = .ok (.iconst 1, 1) := by decide +kernel
theorem d_RS_changed_33 : decode c_RS_changed 33 = .ok (.if_icmp .ne 15, 3) := by decide +kernel
theorem d_RS_changed_36 : decode c_RS_changed 36 = .ok (.aload_n 0, 1) := by decide +kernel
theorem d_RS_changed_37 : decode c_RS_changed 37 = .ok (.getfield 35, 3) := by decide +kernel
theorem d_RS_changed_40 : decode c_RS_changed 40 = .ok (.getfield 145, 3) := by decide +kernel
theorem d_RS_changed_43 : decode c_RS_changed 43 = .ok (.iload_n 1, 1) := by decide +kernel
theorem d_RS_changed_44 : decode c_RS_changed 44 = .ok (.iaload, 1) := by decide +kernel
theorem d_RS_changed_45 : decode c_RS_changed 45 = .ok (.goto 4, 3) := by decide +kernel
theorem d_RS_changed_48 : decode c_RS_changed 48 = .ok (.iconst (-1), 1) := by decide +kernel
theorem d_RS_changed_49 : decode c_RS_changed 49 = .ok (.ireturn, 1) := by decide +kernel
theorem ok_RS_changed : tb_mV y_RS_changed c_RS_changed 3 (some .int) 2 := ⟨tb_485, tb_40, tb_483, tb_484, by decide +kernel⟩
abbrev c_RS_mayFollow : ByteArray := prog_1_method_28_code
abbrev y_RS_mayFollow : MethodName := ⟨"ReedSets", "mayFollow", "(I)Z"⟩
theorem d_RS_mayFollow_0 : decode c_RS_mayFollow 0 = .ok (.iload_n 0, 1) := by decide +kernel
theorem d_RS_mayFollow_1 : decode c_RS_mayFollow 1 = .ok (.iconst (-1), 1) := by decide +kernel
theorem d_RS_mayFollow_2 : decode c_RS_mayFollow 2 = .ok (.if_icmp .eq 10, 3) := by decide +kernel
theorem d_RS_mayFollow_5 : decode c_RS_mayFollow 5 = .ok (.iload_n 0, 1) := by decide +kernel
theorem d_RS_mayFollow_6 : decode c_RS_mayFollow 6 = .ok (.invokestatic 53, 3) := by decide +kernel
theorem d_RS_mayFollow_9 : decode c_RS_mayFollow 9 = .ok (.ifCond .eq 7, 3) := by decide +kernel
theorem d_RS_mayFollow_12 : decode c_RS_mayFollow 12 = .ok (.iconst 1, 1) := by decide +kernel
theorem d_RS_mayFollow_13 : decode c_RS_mayFollow 13 = .ok (.goto 4, 3) := by decide +kernel
theorem d_RS_mayFollow_16 : decode c_RS_mayFollow 16 = .ok (.iconst 0, 1) := by decide +kernel
theorem d_RS_mayFollow_17 : decode c_RS_mayFollow 17 = .ok (.ireturn, 1) := by decide +kernel
theorem ok_RS_mayFollow : tb_mS y_RS_mayFollow c_RS_mayFollow 1 (some .boolean) 1 := ⟨tb_492, tb_40, tb_491, by decide +kernel⟩
abbrev c_RS_counted : ByteArray := prog_1_method_29_code
abbrev y_RS_counted : MethodName := ⟨"ReedSets", "counted", "(I)I"⟩
theorem d_RS_counted_0 : decode c_RS_counted 0 = .ok (.iload_n 0, 1) := by decide +kernel
theorem d_RS_counted_1 : decode c_RS_counted 1 = .ok (.iconst (-1), 1) := by decide +kernel
theorem d_RS_counted_2 : decode c_RS_counted 2 = .ok (.if_icmp .ne 7, 3) := by decide +kernel
theorem d_RS_counted_5 : decode c_RS_counted 5 = .ok (.iconst 0, 1) := by decide +kernel
theorem d_RS_counted_6 : decode c_RS_counted 6 = .ok (.goto 4, 3) := by decide +kernel
theorem d_RS_counted_9 : decode c_RS_counted 9 = .ok (.iconst 1, 1) := by decide +kernel
theorem d_RS_counted_10 : decode c_RS_counted 10 = .ok (.ireturn, 1) := by decide +kernel
theorem ok_RS_counted : tb_mS y_RS_counted c_RS_counted 1 (some .int) 1 := ⟨tb_495, tb_40, tb_494, by decide +kernel⟩
abbrev c_RS_block : ByteArray := prog_1_method_15_code
abbrev y_RS_block : MethodName := ⟨"ReedSets", "block", "(IIII)I"⟩
theorem d_RS_block_0 : decode c_RS_block 0 = .ok (.iload_n 1, 1) := by decide +kernel
theorem d_RS_block_1 : decode c_RS_block 1 = .ok (.invokestatic 148, 3) := by decide +kernel
theorem d_RS_block_4 : decode c_RS_block 4 = .ok (.ifCond .eq 25, 3) := by decide +kernel
theorem d_RS_block_7 : decode c_RS_block 7 = .ok (.iload_n 2, 1) := by decide +kernel
theorem d_RS_block_8 : decode c_RS_block 8 = .ok (.invokestatic 148, 3) := by decide +kernel
theorem d_RS_block_11 : decode c_RS_block 11 = .ok (.ifCond .eq 18, 3) := by decide +kernel
theorem d_RS_block_14 : decode c_RS_block 14 = .ok (.iload_n 3, 1) := by decide +kernel
theorem d_RS_block_15 : decode c_RS_block 15 = .ok (.invokestatic 148, 3) := by decide +kernel
theorem d_RS_block_18 : decode c_RS_block 18 = .ok (.ifCond .eq 11, 3) := by decide +kernel
theorem d_RS_block_21 : decode c_RS_block 21 = .ok (.iload 4, 2) := by decide +kernel
theorem d_RS_block_23 : decode c_RS_block 23 = .ok (.invokestatic 148, 3) := by decide +kernel
theorem d_RS_block_26 : decode c_RS_block 26 = .ok (.ifCond .ne 5, 3) := by decide +kernel
theorem d_RS_block_29 : decode c_RS_block 29 = .ok (.iconst (-1), 1) := by decide +kernel
theorem d_RS_block_30 : decode c_RS_block 30 = .ok (.ireturn, 1) := by decide +kernel
theorem d_RS_block_31 : decode c_RS_block 31 = .ok (.iload_n 1, 1) := by decide +kernel
theorem d_RS_block_32 : decode c_RS_block 32 = .ok (.invokestatic 151, 3) := by decide +kernel
theorem d_RS_block_35 : decode c_RS_block 35 = .ok (.iload_n 2, 1) := by decide +kernel
theorem d_RS_block_36 : decode c_RS_block 36 = .ok (.invokestatic 151, 3) := by decide +kernel
theorem d_RS_block_39 : decode c_RS_block 39 = .ok (.iadd, 1) := by decide +kernel
theorem d_RS_block_40 : decode c_RS_block 40 = .ok (.iload_n 3, 1) := by decide +kernel
theorem d_RS_block_41 : decode c_RS_block 41 = .ok (.invokestatic 151, 3) := by decide +kernel
theorem d_RS_block_44 : decode c_RS_block 44 = .ok (.iadd, 1) := by decide +kernel
theorem d_RS_block_45 : decode c_RS_block 45 = .ok (.iload 4, 2) := by decide +kernel
theorem d_RS_block_47 : decode c_RS_block 47 = .ok (.invokestatic 151, 3) := by decide +kernel
theorem d_RS_block_50 : decode c_RS_block 50 = .ok (.iadd, 1) := by decide +kernel
theorem d_RS_block_51 : decode c_RS_block 51 = .ok (.istore 5, 2) := by decide +kernel
theorem d_RS_block_53 : decode c_RS_block 53 = .ok (.aload_n 0, 1) := by decide +kernel
theorem d_RS_block_54 : decode c_RS_block 54 = .ok (.getfield 42, 3) := by decide +kernel
theorem d_RS_block_57 : decode c_RS_block 57 = .ok (.getfield 154, 3) := by decide +kernel
theorem d_RS_block_60 : decode c_RS_block 60 = .ok (.iload 5, 2) := by decide +kernel
theorem d_RS_block_62 : decode c_RS_block 62 = .ok (.iadd, 1) := by decide +kernel
theorem d_RS_block_63 : decode c_RS_block 63 = .ok (.sipush 800, 3) := by decide +kernel
theorem d_RS_block_66 : decode c_RS_block 66 = .ok (.if_icmp .le 5, 3) := by decide +kernel
theorem d_RS_block_69 : decode c_RS_block 69 = .ok (.iconst (-1), 1) := by decide +kernel
theorem d_RS_block_70 : decode c_RS_block 70 = .ok (.ireturn, 1) := by decide +kernel
theorem d_RS_block_71 : decode c_RS_block 71 = .ok (.aload_n 0, 1) := by decide +kernel
theorem d_RS_block_72 : decode c_RS_block 72 = .ok (.getfield 42, 3) := by decide +kernel
theorem d_RS_block_75 : decode c_RS_block 75 = .ok (.iload_n 1, 1) := by decide +kernel
theorem d_RS_block_76 : decode c_RS_block 76 = .ok (.invokevirtual 156, 3) := by decide +kernel
theorem d_RS_block_79 : decode c_RS_block 79 = .ok (.aload_n 0, 1) := by decide +kernel
theorem d_RS_block_80 : decode c_RS_block 80 = .ok (.getfield 42, 3) := by decide +kernel
theorem d_RS_block_83 : decode c_RS_block 83 = .ok (.iload_n 2, 1) := by decide +kernel
theorem d_RS_block_84 : decode c_RS_block 84 = .ok (.invokevirtual 156, 3) := by decide +kernel
theorem d_RS_block_87 : decode c_RS_block 87 = .ok (.aload_n 0, 1) := by decide +kernel
theorem d_RS_block_88 : decode c_RS_block 88 = .ok (.getfield 42, 3) := by decide +kernel
theorem d_RS_block_91 : decode c_RS_block 91 = .ok (.iload_n 3, 1) := by decide +kernel
theorem d_RS_block_92 : decode c_RS_block 92 = .ok (.invokevirtual 156, 3) := by decide +kernel
theorem d_RS_block_95 : decode c_RS_block 95 = .ok (.aload_n 0, 1) := by decide +kernel
theorem d_RS_block_96 : decode c_RS_block 96 = .ok (.getfield 42, 3) := by decide +kernel
theorem d_RS_block_99 : decode c_RS_block 99 = .ok (.iload 4, 2) := by decide +kernel
theorem d_RS_block_101 : decode c_RS_block 101 = .ok (.invokevirtual 156, 3) := by decide +kernel
theorem d_RS_block_104 : decode c_RS_block 104 = .ok (.aload_n 0, 1) := by decide +kernel
theorem d_RS_block_105 : decode c_RS_block 105 = .ok (.getfield 42, 3) := by decide +kernel
theorem d_RS_block_108 : decode c_RS_block 108 = .ok (.invokevirtual 160, 3) := by decide +kernel
theorem d_RS_block_111 : decode c_RS_block 111 = .ok (.aload_n 0, 1) := by decide +kernel
theorem d_RS_block_112 : decode c_RS_block 112 = .ok (.getfield 42, 3) := by decide +kernel
theorem d_RS_block_115 : decode c_RS_block 115 = .ok (.getfield 154, 3) := by decide +kernel
theorem d_RS_block_118 : decode c_RS_block 118 = .ok (.ireturn, 1) := by decide +kernel
theorem ok_RS_block : tb_mV y_RS_block c_RS_block 6 (some .int) 4 := ⟨tb_489, tb_40, tb_487, tb_488, by decide +kernel⟩
abbrev c_RS_wipe : ByteArray := prog_1_method_16_code
abbrev y_RS_wipe : MethodName := ⟨"ReedSets", "wipe", "()I"⟩
theorem d_RS_wipe_0 : decode c_RS_wipe 0 = .ok (.aload_n 0, 1) := by decide +kernel
theorem d_RS_wipe_1 : decode c_RS_wipe 1 = .ok (.getfield 42, 3) := by decide +kernel
theorem d_RS_wipe_4 : decode c_RS_wipe 4 = .ok (.getfield 154, 3) := by decide +kernel
theorem d_RS_wipe_7 : decode c_RS_wipe 7 = .ok (.istore_n 1, 1) := by decide +kernel
theorem d_RS_wipe_8 : decode c_RS_wipe 8 = .ok (.aload_n 0, 1) := by decide +kernel
theorem d_RS_wipe_9 : decode c_RS_wipe 9 = .ok (.getfield 42, 3) := by decide +kernel
theorem d_RS_wipe_12 : decode c_RS_wipe 12 = .ok (.iconst 0, 1) := by decide +kernel
theorem d_RS_wipe_13 : decode c_RS_wipe 13 = .ok (.putfield 154, 3) := by decide +kernel
theorem d_RS_wipe_16 : decode c_RS_wipe 16 = .ok (.aload_n 0, 1) := by decide +kernel
theorem d_RS_wipe_17 : decode c_RS_wipe 17 = .ok (.getfield 42, 3) := by decide +kernel
theorem d_RS_wipe_20 : decode c_RS_wipe 20 = .ok (.invokevirtual 160, 3) := by decide +kernel
theorem d_RS_wipe_23 : decode c_RS_wipe 23 = .ok (.iload_n 1, 1) := by decide +kernel
theorem d_RS_wipe_24 : decode c_RS_wipe 24 = .ok (.ireturn, 1) := by decide +kernel
theorem ok_RS_wipe : tb_mV y_RS_wipe c_RS_wipe 2 (some .int) 0 := ⟨tb_507, tb_40, tb_505, tb_506, by decide +kernel⟩
abbrev c_RS_lay : ByteArray := prog_1_method_17_code
abbrev y_RS_lay : MethodName := ⟨"ReedSets", "lay", "(I)I"⟩
theorem d_RS_lay_0 : decode c_RS_lay 0 = .ok (.aload_n 0, 1) := by decide +kernel
theorem d_RS_lay_1 : decode c_RS_lay 1 = .ok (.getfield 42, 3) := by decide +kernel
theorem d_RS_lay_4 : decode c_RS_lay 4 = .ok (.iload_n 1, 1) := by decide +kernel
theorem d_RS_lay_5 : decode c_RS_lay 5 = .ok (.aload_n 0, 1) := by decide +kernel
theorem d_RS_lay_6 : decode c_RS_lay 6 = .ok (.getfield 21, 3) := by decide +kernel
theorem d_RS_lay_9 : decode c_RS_lay 9 = .ok (.getfield 79, 3) := by decide +kernel
theorem d_RS_lay_12 : decode c_RS_lay 12 = .ok (.aload_n 0, 1) := by decide +kernel
theorem d_RS_lay_13 : decode c_RS_lay 13 = .ok (.getfield 21, 3) := by decide +kernel
theorem d_RS_lay_16 : decode c_RS_lay 16 = .ok (.getfield 110, 3) := by decide +kernel
theorem d_RS_lay_19 : decode c_RS_lay 19 = .ok (.invokevirtual 163, 3) := by decide +kernel
theorem d_RS_lay_22 : decode c_RS_lay 22 = .ok (.ireturn, 1) := by decide +kernel
theorem ok_RS_lay : tb_mV y_RS_lay c_RS_lay 2 (some .int) 1 := ⟨tb_511, tb_40, tb_509, tb_510, by decide +kernel⟩
abbrev c_RS_sent : ByteArray := prog_1_method_18_code
abbrev y_RS_sent : MethodName := ⟨"ReedSets", "sent", "(I)I"⟩
theorem d_RS_sent_0 : decode c_RS_sent 0 = .ok (.aload_n 0, 1) := by decide +kernel
theorem d_RS_sent_1 : decode c_RS_sent 1 = .ok (.getfield 42, 3) := by decide +kernel
theorem d_RS_sent_4 : decode c_RS_sent 4 = .ok (.iload_n 1, 1) := by decide +kernel
theorem d_RS_sent_5 : decode c_RS_sent 5 = .ok (.invokevirtual 167, 3) := by decide +kernel
theorem d_RS_sent_8 : decode c_RS_sent 8 = .ok (.ifCond .eq 15, 3) := by decide +kernel
theorem d_RS_sent_11 : decode c_RS_sent 11 = .ok (.aload_n 0, 1) := by decide +kernel
theorem d_RS_sent_12 : decode c_RS_sent 12 = .ok (.getfield 42, 3) := by decide +kernel
theorem d_RS_sent_15 : decode c_RS_sent 15 = .ok (.getfield 170, 3) := by decide +kernel
theorem d_RS_sent_18 : decode c_RS_sent 18 = .ok (.iload_n 1, 1) := by decide +kernel
theorem d_RS_sent_19 : decode c_RS_sent 19 = .ok (.iaload, 1) := by decide +kernel
theorem d_RS_sent_20 : decode c_RS_sent 20 = .ok (.goto 4, 3) := by decide +kernel
theorem d_RS_sent_23 : decode c_RS_sent 23 = .ok (.iconst (-1), 1) := by decide +kernel
theorem d_RS_sent_24 : decode c_RS_sent 24 = .ok (.ireturn, 1) := by decide +kernel
theorem ok_RS_sent : tb_mV y_RS_sent c_RS_sent 2 (some .int) 1 := ⟨tb_534, tb_40, tb_532, tb_533, by decide +kernel⟩
abbrev c_RS_damage : ByteArray := prog_1_method_19_code
abbrev y_RS_damage : MethodName := ⟨"ReedSets", "damage", "(III)I"⟩
theorem d_RS_damage_0 : decode c_RS_damage 0 = .ok (.iload_n 2, 1) := by decide +kernel
theorem d_RS_damage_1 : decode c_RS_damage 1 = .ok (.iconst 1, 1) := by decide +kernel
theorem d_RS_damage_2 : decode c_RS_damage 2 = .ok (.if_icmp .lt 16, 3) := by decide +kernel
theorem d_RS_damage_5 : decode c_RS_damage 5 = .ok (.iload_n 2, 1) := by decide +kernel
theorem d_RS_damage_6 : decode c_RS_damage 6 = .ok (.bipush 100, 2) := by decide +kernel
theorem d_RS_damage_8 : decode c_RS_damage 8 = .ok (.if_icmp .gt 10, 3) := by decide +kernel
theorem d_RS_damage_11 : decode c_RS_damage 11 = .ok (.iload_n 3, 1) := by decide +kernel
theorem d_RS_damage_12 : decode c_RS_damage 12 = .ok (.invokestatic 148, 3) := by decide +kernel
theorem d_RS_damage_15 : decode c_RS_damage 15 = .ok (.ifCond .ne 5, 3) := by decide +kernel
theorem d_RS_damage_18 : decode c_RS_damage 18 = .ok (.iconst (-1), 1) := by decide +kernel
theorem d_RS_damage_19 : decode c_RS_damage 19 = .ok (.ireturn, 1) := by decide +kernel
theorem d_RS_damage_20 : decode c_RS_damage 20 = .ok (.aload_n 0, 1) := by decide +kernel
theorem d_RS_damage_21 : decode c_RS_damage 21 = .ok (.getfield 42, 3) := by decide +kernel
theorem d_RS_damage_24 : decode c_RS_damage 24 = .ok (.iload_n 1, 1) := by decide +kernel
theorem d_RS_damage_25 : decode c_RS_damage 25 = .ok (.invokevirtual 167, 3) := by decide +kernel
theorem d_RS_damage_28 : decode c_RS_damage 28 = .ok (.ifCond .eq 16, 3) := by decide +kernel
theorem d_RS_damage_31 : decode c_RS_damage 31 = .ok (.iload_n 2, 1) := by decide +kernel
theorem d_RS_damage_32 : decode c_RS_damage 32 = .ok (.aload_n 0, 1) := by decide +kernel
theorem d_RS_damage_33 : decode c_RS_damage 33 = .ok (.getfield 42, 3) := by decide +kernel
theorem d_RS_damage_36 : decode c_RS_damage 36 = .ok (.getfield 173, 3) := by decide +kernel
theorem d_RS_damage_39 : decode c_RS_damage 39 = .ok (.iload_n 1, 1) := by decide +kernel
theorem d_RS_damage_40 : decode c_RS_damage 40 = .ok (.isub, 1) := by decide +kernel
theorem d_RS_damage_41 : decode c_RS_damage 41 = .ok (.if_icmp .le 5, 3) := by decide +kernel
theorem d_RS_damage_44 : decode c_RS_damage 44 = .ok (.iconst (-1), 1) := by decide +kernel
theorem d_RS_damage_45 : decode c_RS_damage 45 = .ok (.ireturn, 1) := by decide +kernel
theorem d_RS_damage_46 : decode c_RS_damage 46 = .ok (.aload_n 0, 1) := by decide +kernel
theorem d_RS_damage_47 : decode c_RS_damage 47 = .ok (.getfield 42, 3) := by decide +kernel
theorem d_RS_damage_50 : decode c_RS_damage 50 = .ok (.iload_n 1, 1) := by decide +kernel
theorem d_RS_damage_51 : decode c_RS_damage 51 = .ok (.iload_n 2, 1) := by decide +kernel
theorem d_RS_damage_52 : decode c_RS_damage 52 = .ok (.iload_n 3, 1) := by decide +kernel
theorem d_RS_damage_53 : decode c_RS_damage 53 = .ok (.invokevirtual 176, 3) := by decide +kernel
theorem d_RS_damage_56 : decode c_RS_damage 56 = .ok (.iconst 1, 1) := by decide +kernel
theorem d_RS_damage_57 : decode c_RS_damage 57 = .ok (.ireturn, 1) := by decide +kernel
theorem ok_RS_damage : tb_mV y_RS_damage c_RS_damage 4 (some .int) 3 := ⟨tb_542, tb_40, tb_540, tb_541, by decide +kernel⟩
abbrev c_RS_mend : ByteArray := prog_1_method_20_code
abbrev y_RS_mend : MethodName := ⟨"ReedSets", "mend", "()I"⟩
theorem d_RS_mend_0 : decode c_RS_mend 0 = .ok (.aload_n 0, 1) := by decide +kernel
theorem d_RS_mend_1 : decode c_RS_mend 1 = .ok (.getfield 42, 3) := by decide +kernel
theorem d_RS_mend_4 : decode c_RS_mend 4 = .ok (.invokevirtual 179, 3) := by decide +kernel
theorem d_RS_mend_7 : decode c_RS_mend 7 = .ok (.ifCond .eq 17, 3) := by decide +kernel
theorem d_RS_mend_10 : decode c_RS_mend 10 = .ok (.aload_n 0, 1) := by decide +kernel
theorem d_RS_mend_11 : decode c_RS_mend 11 = .ok (.getfield 42, 3) := by decide +kernel
theorem d_RS_mend_14 : decode c_RS_mend 14 = .ok (.aload_n 0, 1) := by decide +kernel
theorem d_RS_mend_15 : decode c_RS_mend 15 = .ok (.getfield 28, 3) := by decide +kernel
theorem d_RS_mend_18 : decode c_RS_mend 18 = .ok (.invokevirtual 182, 3) := by decide +kernel
theorem d_RS_mend_21 : decode c_RS_mend 21 = .ok (.goto 4, 3) := by decide +kernel
theorem d_RS_mend_24 : decode c_RS_mend 24 = .ok (.iconst (-1), 1) := by decide +kernel
theorem d_RS_mend_25 : decode c_RS_mend 25 = .ok (.ireturn, 1) := by decide +kernel
theorem ok_RS_mend : tb_mV y_RS_mend c_RS_mend 1 (some .int) 0 := ⟨tb_550, tb_40, tb_548, tb_549, by decide +kernel⟩
abbrev c_RS_wrong : ByteArray := prog_1_method_21_code
abbrev y_RS_wrong : MethodName := ⟨"ReedSets", "wrong", "()I"⟩
theorem d_RS_wrong_0 : decode c_RS_wrong 0 = .ok (.aload_n 0, 1) := by decide +kernel
theorem d_RS_wrong_1 : decode c_RS_wrong 1 = .ok (.getfield 42, 3) := by decide +kernel
theorem d_RS_wrong_4 : decode c_RS_wrong 4 = .ok (.invokevirtual 179, 3) := by decide +kernel
theorem d_RS_wrong_7 : decode c_RS_wrong 7 = .ok (.ifCond .eq 13, 3) := by decide +kernel
theorem d_RS_wrong_10 : decode c_RS_wrong 10 = .ok (.aload_n 0, 1) := by decide +kernel
theorem d_RS_wrong_11 : decode c_RS_wrong 11 = .ok (.getfield 42, 3) := by decide +kernel
theorem d_RS_wrong_14 : decode c_RS_wrong 14 = .ok (.invokevirtual 186, 3) := by decide +kernel
theorem d_RS_wrong_17 : decode c_RS_wrong 17 = .ok (.goto 4, 3) := by decide +kernel
theorem d_RS_wrong_20 : decode c_RS_wrong 20 = .ok (.iconst (-1), 1) := by decide +kernel
theorem d_RS_wrong_21 : decode c_RS_wrong 21 = .ok (.ireturn, 1) := by decide +kernel
theorem ok_RS_wrong : tb_mV y_RS_wrong c_RS_wrong 1 (some .int) 0 := ⟨tb_581, tb_40, tb_579, tb_580, by decide +kernel⟩
abbrev c_RS_shares : ByteArray := prog_1_method_22_code
abbrev y_RS_shares : MethodName := ⟨"ReedSets", "shares", "(II)I"⟩
theorem d_RS_shares_0 : decode c_RS_shares 0 = .ok (.iload_n 1, 1) := by decide +kernel
theorem d_RS_shares_1 : decode c_RS_shares 1 = .ok (.iconst 1, 1) := by decide +kernel
theorem d_RS_shares_2 : decode c_RS_shares 2 = .ok (.if_icmp .lt 20, 3) := by decide +kernel
theorem d_RS_shares_5 : decode c_RS_shares 5 = .ok (.iload_n 1, 1) := by decide +kernel
theorem d_RS_shares_6 : decode c_RS_shares 6 = .ok (.bipush 20, 2) := by decide +kernel
theorem d_RS_shares_8 : decode c_RS_shares 8 = .ok (.if_icmp .gt 14, 3) := by decide +kernel
theorem d_RS_shares_11 : decode c_RS_shares 11 = .ok (.iload_n 2, 1) := by decide +kernel
theorem d_RS_shares_12 : decode c_RS_shares 12 = .ok (.iconst 1, 1) := by decide +kernel
theorem d_RS_shares_13 : decode c_RS_shares 13 = .ok (.if_icmp .lt 9, 3) := by decide +kernel
theorem d_RS_shares_16 : decode c_RS_shares 16 = .ok (.iload_n 2, 1) := by decide +kernel
theorem d_RS_shares_17 : decode c_RS_shares 17 = .ok (.bipush 16, 2) := by decide +kernel
theorem d_RS_shares_19 : decode c_RS_shares 19 = .ok (.if_icmp .le 5, 3) := by decide +kernel
theorem d_RS_shares_22 : decode c_RS_shares 22 = .ok (.iconst (-1), 1) := by decide +kernel
theorem d_RS_shares_23 : decode c_RS_shares 23 = .ok (.ireturn, 1) := by decide +kernel
theorem d_RS_shares_24 : decode c_RS_shares 24 = .ok (.aload_n 0, 1) := by decide +kernel
theorem d_RS_shares_25 : decode c_RS_shares 25 = .ok (.getfield 49, 3) := by decide +kernel
theorem d_RS_shares_28 : decode c_RS_shares 28 = .ok (.iload_n 1, 1) := by decide +kernel
theorem d_RS_shares_29 : decode c_RS_shares 29 = .ok (.iload_n 2, 1) := by decide +kernel
theorem d_RS_shares_30 : decode c_RS_shares 30 = .ok (.invokevirtual 189, 3) := by decide +kernel
theorem d_RS_shares_33 : decode c_RS_shares 33 = .ok (.iconst 1, 1) := by decide +kernel
theorem d_RS_shares_34 : decode c_RS_shares 34 = .ok (.ireturn, 1) := by decide +kernel
theorem ok_RS_shares : tb_mV y_RS_shares c_RS_shares 3 (some .int) 2 := ⟨tb_589, tb_40, tb_587, tb_588, by decide +kernel⟩
abbrev c_RS_share : ByteArray := prog_1_method_23_code
abbrev y_RS_share : MethodName := ⟨"ReedSets", "share", "(III)I"⟩
theorem d_RS_share_0 : decode c_RS_share 0 = .ok (.iload_n 1, 1) := by decide +kernel
theorem d_RS_share_1 : decode c_RS_share 1 = .ok (.invokestatic 53, 3) := by decide +kernel
theorem d_RS_share_4 : decode c_RS_share 4 = .ok (.ifCond .eq 21, 3) := by decide +kernel
theorem d_RS_share_7 : decode c_RS_share 7 = .ok (.aload_n 0, 1) := by decide +kernel
theorem d_RS_share_8 : decode c_RS_share 8 = .ok (.getfield 49, 3) := by decide +kernel
theorem d_RS_share_11 : decode c_RS_share 11 = .ok (.iload_n 2, 1) := by decide +kernel
theorem d_RS_share_12 : decode c_RS_share 12 = .ok (.invokevirtual 192, 3) := by decide +kernel
theorem d_RS_share_15 : decode c_RS_share 15 = .ok (.ifCond .eq 10, 3) := by decide +kernel
theorem d_RS_share_18 : decode c_RS_share 18 = .ok (.iload_n 3, 1) := by decide +kernel
theorem d_RS_share_19 : decode c_RS_share 19 = .ok (.invokestatic 53, 3) := by decide +kernel
theorem d_RS_share_22 : decode c_RS_share 22 = .ok (.ifCond .ne 5, 3) := by decide +kernel
theorem d_RS_share_25 : decode c_RS_share 25 = .ok (.iconst (-1), 1) := by decide +kernel
theorem d_RS_share_26 : decode c_RS_share 26 = .ok (.ireturn, 1) := by decide +kernel
theorem d_RS_share_27 : decode c_RS_share 27 = .ok (.aload_n 0, 1) := by decide +kernel
theorem d_RS_share_28 : decode c_RS_share 28 = .ok (.getfield 49, 3) := by decide +kernel
theorem d_RS_share_31 : decode c_RS_share 31 = .ok (.iload_n 1, 1) := by decide +kernel
theorem d_RS_share_32 : decode c_RS_share 32 = .ok (.iload_n 2, 1) := by decide +kernel
theorem d_RS_share_33 : decode c_RS_share 33 = .ok (.iload_n 3, 1) := by decide +kernel
theorem d_RS_share_34 : decode c_RS_share 34 = .ok (.invokevirtual 193, 3) := by decide +kernel
theorem d_RS_share_37 : decode c_RS_share 37 = .ok (.aload_n 0, 1) := by decide +kernel
theorem d_RS_share_38 : decode c_RS_share 38 = .ok (.getfield 49, 3) := by decide +kernel
theorem d_RS_share_41 : decode c_RS_share 41 = .ok (.getfield 196, 3) := by decide +kernel
theorem d_RS_share_44 : decode c_RS_share 44 = .ok (.ireturn, 1) := by decide +kernel
theorem ok_RS_share : tb_mV y_RS_share c_RS_share 4 (some .int) 3 := ⟨tb_594, tb_40, tb_592, tb_593, by decide +kernel⟩
abbrev c_RS_drop : ByteArray := prog_1_method_24_code
abbrev y_RS_drop : MethodName := ⟨"ReedSets", "drop", "(I)I"⟩
theorem d_RS_drop_0 : decode c_RS_drop 0 = .ok (.iload_n 1, 1) := by decide +kernel
theorem d_RS_drop_1 : decode c_RS_drop 1 = .ok (.invokestatic 53, 3) := by decide +kernel
theorem d_RS_drop_4 : decode c_RS_drop 4 = .ok (.ifCond .eq 15, 3) := by decide +kernel
theorem d_RS_drop_7 : decode c_RS_drop 7 = .ok (.aload_n 0, 1) := by decide +kernel
theorem d_RS_drop_8 : decode c_RS_drop 8 = .ok (.getfield 49, 3) := by decide +kernel
theorem d_RS_drop_11 : decode c_RS_drop 11 = .ok (.getfield 197, 3) := by decide +kernel
theorem d_RS_drop_14 : decode c_RS_drop 14 = .ok (.iload_n 1, 1) := by decide +kernel
theorem d_RS_drop_15 : decode c_RS_drop 15 = .ok (.baload, 1) := by decide +kernel
theorem d_RS_drop_16 : decode c_RS_drop 16 = .ok (.ifCond .ne 5, 3) := by decide +kernel
theorem d_RS_drop_19 : decode c_RS_drop 19 = .ok (.iconst (-1), 1) := by decide +kernel
theorem d_RS_drop_20 : decode c_RS_drop 20 = .ok (.ireturn, 1) := by decide +kernel
theorem d_RS_drop_21 : decode c_RS_drop 21 = .ok (.aload_n 0, 1) := by decide +kernel
theorem d_RS_drop_22 : decode c_RS_drop 22 = .ok (.getfield 49, 3) := by decide +kernel
theorem d_RS_drop_25 : decode c_RS_drop 25 = .ok (.getfield 197, 3) := by decide +kernel
theorem d_RS_drop_28 : decode c_RS_drop 28 = .ok (.iload_n 1, 1) := by decide +kernel
theorem d_RS_drop_29 : decode c_RS_drop 29 = .ok (.iconst 0, 1) := by decide +kernel
theorem d_RS_drop_30 : decode c_RS_drop 30 = .ok (.bastore, 1) := by decide +kernel
theorem d_RS_drop_31 : decode c_RS_drop 31 = .ok (.aload_n 0, 1) := by decide +kernel
theorem d_RS_drop_32 : decode c_RS_drop 32 = .ok (.getfield 49, 3) := by decide +kernel
theorem d_RS_drop_35 : decode c_RS_drop 35 = .ok (.dup, 1) := by decide +kernel
theorem d_RS_drop_36 : decode c_RS_drop 36 = .ok (.getfield 196, 3) := by decide +kernel
theorem d_RS_drop_39 : decode c_RS_drop 39 = .ok (.iconst 1, 1) := by decide +kernel
theorem d_RS_drop_40 : decode c_RS_drop 40 = .ok (.isub, 1) := by decide +kernel
theorem d_RS_drop_41 : decode c_RS_drop 41 = .ok (.putfield 196, 3) := by decide +kernel
theorem d_RS_drop_44 : decode c_RS_drop 44 = .ok (.aload_n 0, 1) := by decide +kernel
theorem d_RS_drop_45 : decode c_RS_drop 45 = .ok (.getfield 49, 3) := by decide +kernel
theorem d_RS_drop_48 : decode c_RS_drop 48 = .ok (.getfield 196, 3) := by decide +kernel
theorem d_RS_drop_51 : decode c_RS_drop 51 = .ok (.ireturn, 1) := by decide +kernel
theorem ok_RS_drop : tb_mV y_RS_drop c_RS_drop 2 (some .int) 1 := ⟨tb_607, tb_40, tb_605, tb_606, by decide +kernel⟩
abbrev c_RS_made : ByteArray := prog_1_method_25_code
abbrev y_RS_made : MethodName := ⟨"ReedSets", "made", "(II)I"⟩
theorem d_RS_made_0 : decode c_RS_made 0 = .ok (.iload_n 1, 1) := by decide +kernel
theorem d_RS_made_1 : decode c_RS_made 1 = .ok (.invokestatic 53, 3) := by decide +kernel
theorem d_RS_made_4 : decode c_RS_made 4 = .ok (.ifCond .eq 25, 3) := by decide +kernel
theorem d_RS_made_7 : decode c_RS_made 7 = .ok (.aload_n 0, 1) := by decide +kernel
theorem d_RS_made_8 : decode c_RS_made 8 = .ok (.getfield 49, 3) := by decide +kernel
theorem d_RS_made_11 : decode c_RS_made 11 = .ok (.iload_n 2, 1) := by decide +kernel
theorem d_RS_made_12 : decode c_RS_made 12 = .ok (.invokevirtual 192, 3) := by decide +kernel
theorem d_RS_made_15 : decode c_RS_made 15 = .ok (.ifCond .eq 14, 3) := by decide +kernel
theorem d_RS_made_18 : decode c_RS_made 18 = .ok (.aload_n 0, 1) := by decide +kernel
theorem d_RS_made_19 : decode c_RS_made 19 = .ok (.getfield 49, 3) := by decide +kernel
theorem d_RS_made_22 : decode c_RS_made 22 = .ok (.iconst (-1), 1) := by decide +kernel
theorem d_RS_made_23 : decode c_RS_made 23 = .ok (.invokevirtual 200, 3) := by decide +kernel
theorem d_RS_made_26 : decode c_RS_made 26 = .ok (.ifCond .ne 5, 3) := by decide +kernel
theorem d_RS_made_29 : decode c_RS_made 29 = .ok (.iconst (-1), 1) := by decide +kernel
theorem d_RS_made_30 : decode c_RS_made 30 = .ok (.ireturn, 1) := by decide +kernel
theorem d_RS_made_31 : decode c_RS_made 31 = .ok (.aload_n 0, 1) := by decide +kernel
theorem d_RS_made_32 : decode c_RS_made 32 = .ok (.getfield 49, 3) := by decide +kernel
theorem d_RS_made_35 : decode c_RS_made 35 = .ok (.iload_n 1, 1) := by decide +kernel
theorem d_RS_made_36 : decode c_RS_made 36 = .ok (.invokevirtual 203, 3) := by decide +kernel
theorem d_RS_made_39 : decode c_RS_made 39 = .ok (.aload_n 0, 1) := by decide +kernel
theorem d_RS_made_40 : decode c_RS_made 40 = .ok (.getfield 49, 3) := by decide +kernel
theorem d_RS_made_43 : decode c_RS_made 43 = .ok (.iload_n 2, 1) := by decide +kernel
theorem d_RS_made_44 : decode c_RS_made 44 = .ok (.invokevirtual 206, 3) := by decide +kernel
theorem d_RS_made_47 : decode c_RS_made 47 = .ok (.ireturn, 1) := by decide +kernel
theorem ok_RS_made : tb_mV y_RS_made c_RS_made 3 (some .int) 2 := ⟨tb_611, tb_40, tb_609, tb_610, by decide +kernel⟩
abbrev c_RS_apart : ByteArray := prog_1_method_26_code
abbrev y_RS_apart : MethodName := ⟨"ReedSets", "apart", "()I"⟩
theorem d_RS_apart_0 : decode c_RS_apart 0 = .ok (.aload_n 0, 1) := by decide +kernel
theorem d_RS_apart_1 : decode c_RS_apart 1 = .ok (.getfield 49, 3) := by decide +kernel
theorem d_RS_apart_4 : decode c_RS_apart 4 = .ok (.iconst (-1), 1) := by decide +kernel
theorem d_RS_apart_5 : decode c_RS_apart 5 = .ok (.invokevirtual 200, 3) := by decide +kernel
theorem d_RS_apart_8 : decode c_RS_apart 8 = .ok (.ifCond .eq 13, 3) := by decide +kernel
theorem d_RS_apart_11 : decode c_RS_apart 11 = .ok (.aload_n 0, 1) := by decide +kernel
theorem d_RS_apart_12 : decode c_RS_apart 12 = .ok (.getfield 49, 3) := by decide +kernel
theorem d_RS_apart_15 : decode c_RS_apart 15 = .ok (.invokevirtual 209, 3) := by decide +kernel
theorem d_RS_apart_18 : decode c_RS_apart 18 = .ok (.goto 4, 3) := by decide +kernel
theorem d_RS_apart_21 : decode c_RS_apart 21 = .ok (.iconst (-1), 1) := by decide +kernel
theorem d_RS_apart_22 : decode c_RS_apart 22 = .ok (.ireturn, 1) := by decide +kernel
theorem ok_RS_apart : tb_mV y_RS_apart c_RS_apart 1 (some .int) 0 := ⟨tb_633, tb_40, tb_631, tb_632, by decide +kernel⟩
abbrev c_RS_odd : ByteArray := prog_1_method_27_code
abbrev y_RS_odd : MethodName := ⟨"ReedSets", "odd", "()I"⟩
theorem d_RS_odd_0 : decode c_RS_odd 0 = .ok (.aload_n 0, 1) := by decide +kernel
theorem d_RS_odd_1 : decode c_RS_odd 1 = .ok (.getfield 49, 3) := by decide +kernel
theorem d_RS_odd_4 : decode c_RS_odd 4 = .ok (.iconst (-1), 1) := by decide +kernel
theorem d_RS_odd_5 : decode c_RS_odd 5 = .ok (.invokevirtual 200, 3) := by decide +kernel
theorem d_RS_odd_8 : decode c_RS_odd 8 = .ok (.ifCond .eq 13, 3) := by decide +kernel
theorem d_RS_odd_11 : decode c_RS_odd 11 = .ok (.aload_n 0, 1) := by decide +kernel
theorem d_RS_odd_12 : decode c_RS_odd 12 = .ok (.getfield 49, 3) := by decide +kernel
theorem d_RS_odd_15 : decode c_RS_odd 15 = .ok (.invokevirtual 212, 3) := by decide +kernel
theorem d_RS_odd_18 : decode c_RS_odd 18 = .ok (.goto 4, 3) := by decide +kernel
theorem d_RS_odd_21 : decode c_RS_odd 21 = .ok (.iconst (-1), 1) := by decide +kernel
theorem d_RS_odd_22 : decode c_RS_odd 22 = .ok (.ireturn, 1) := by decide +kernel
theorem ok_RS_odd : tb_mV y_RS_odd c_RS_odd 1 (some .int) 0 := ⟨tb_647, tb_40, tb_645, tb_646, by decide +kernel⟩
