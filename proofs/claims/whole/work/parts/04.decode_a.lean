abbrev c_Arr_fill2 : ByteArray := prog_12_method_103_code
abbrev y_Arr_fill2 : MethodName := ⟨"java/util/Arrays", "fill", "([II)V"⟩
theorem d_Arr_fill2_0 : decode c_Arr_fill2 0 = .ok (.iconst 0, 1) := by decide +kernel
theorem d_Arr_fill2_1 : decode c_Arr_fill2 1 = .ok (.istore_n 2, 1) := by decide +kernel
theorem d_Arr_fill2_2 : decode c_Arr_fill2 2 = .ok (.aload_n 0, 1) := by decide +kernel
theorem d_Arr_fill2_3 : decode c_Arr_fill2 3 = .ok (.arraylength, 1) := by decide +kernel
theorem d_Arr_fill2_4 : decode c_Arr_fill2 4 = .ok (.istore_n 3, 1) := by decide +kernel
theorem d_Arr_fill2_5 : decode c_Arr_fill2 5 = .ok (.iload_n 2, 1) := by decide +kernel
theorem d_Arr_fill2_6 : decode c_Arr_fill2 6 = .ok (.iload_n 3, 1) := by decide +kernel
theorem d_Arr_fill2_7 : decode c_Arr_fill2 7 = .ok (.if_icmp .ge 13, 3) := by decide +kernel
theorem d_Arr_fill2_10 : decode c_Arr_fill2 10 = .ok (.aload_n 0, 1) := by decide +kernel
theorem d_Arr_fill2_11 : decode c_Arr_fill2 11 = .ok (.iload_n 2, 1) := by decide +kernel
theorem d_Arr_fill2_12 : decode c_Arr_fill2 12 = .ok (.iload_n 1, 1) := by decide +kernel
theorem d_Arr_fill2_13 : decode c_Arr_fill2 13 = .ok (.iastore, 1) := by decide +kernel
theorem d_Arr_fill2_14 : decode c_Arr_fill2 14 = .ok (.iinc 2 1, 3) := by decide +kernel
theorem d_Arr_fill2_17 : decode c_Arr_fill2 17 = .ok (.goto (-12), 3) := by decide +kernel
theorem d_Arr_fill2_20 : decode c_Arr_fill2 20 = .ok (.return_, 1) := by decide +kernel
theorem ok_Arr_fill2 : tb_mS y_Arr_fill2 c_Arr_fill2 4 none 2 := ⟨tb_85, tb_43, tb_84, by decide +kernel⟩
abbrev c_Wo_findAll : ByteArray := prog_7_method_6_code
abbrev y_Wo_findAll : MethodName := ⟨"ReedSets$Word", "findAll", "()V"⟩
theorem d_Wo_findAll_0 : decode c_Wo_findAll 0 = .ok (.iconst 0, 1) := by decide +kernel
theorem d_Wo_findAll_1 : decode c_Wo_findAll 1 = .ok (.istore_n 1, 1) := by decide +kernel
theorem d_Wo_findAll_2 : decode c_Wo_findAll 2 = .ok (.iload_n 1, 1) := by decide +kernel
theorem d_Wo_findAll_3 : decode c_Wo_findAll 3 = .ok (.sipush 240, 3) := by decide +kernel
theorem d_Wo_findAll_6 : decode c_Wo_findAll 6 = .ok (.if_icmp .ge 16, 3) := by decide +kernel
theorem d_Wo_findAll_9 : decode c_Wo_findAll 9 = .ok (.aload_n 0, 1) := by decide +kernel
theorem d_Wo_findAll_10 : decode c_Wo_findAll 10 = .ok (.getfield 15, 3) := by decide +kernel
theorem d_Wo_findAll_13 : decode c_Wo_findAll 13 = .ok (.iload_n 1, 1) := by decide +kernel
theorem d_Wo_findAll_14 : decode c_Wo_findAll 14 = .ok (.iconst 0, 1) := by decide +kernel
theorem d_Wo_findAll_15 : decode c_Wo_findAll 15 = .ok (.bastore, 1) := by decide +kernel
theorem d_Wo_findAll_16 : decode c_Wo_findAll 16 = .ok (.iinc 1 1, 3) := by decide +kernel
theorem d_Wo_findAll_19 : decode c_Wo_findAll 19 = .ok (.goto (-17), 3) := by decide +kernel
theorem d_Wo_findAll_22 : decode c_Wo_findAll 22 = .ok (.aload_n 0, 1) := by decide +kernel
theorem d_Wo_findAll_23 : decode c_Wo_findAll 23 = .ok (.iconst 0, 1) := by decide +kernel
theorem d_Wo_findAll_24 : decode c_Wo_findAll 24 = .ok (.putfield 66, 3) := by decide +kernel
theorem d_Wo_findAll_27 : decode c_Wo_findAll 27 = .ok (.return_, 1) := by decide +kernel
theorem ok_Wo_findAll : tb_mV y_Wo_findAll c_Wo_findAll 2 none 0 := ⟨tb_89, tb_42, tb_87, tb_88, by decide +kernel⟩
abbrev c_Fi_powerOfTwo : ByteArray := prog_3_method_6_code
abbrev y_Fi_powerOfTwo : MethodName := ⟨"ReedSets$Field", "powerOfTwo", "(I)I"⟩
theorem d_Fi_powerOfTwo_0 : decode c_Fi_powerOfTwo 0 = .ok (.iload_n 1, 1) := by decide +kernel
theorem d_Fi_powerOfTwo_1 : decode c_Fi_powerOfTwo 1 = .ok (.sipush 255, 3) := by decide +kernel
theorem d_Fi_powerOfTwo_4 : decode c_Fi_powerOfTwo 4 = .ok (.irem, 1) := by decide +kernel
theorem d_Fi_powerOfTwo_5 : decode c_Fi_powerOfTwo 5 = .ok (.istore_n 2, 1) := by decide +kernel
theorem d_Fi_powerOfTwo_6 : decode c_Fi_powerOfTwo 6 = .ok (.aload_n 0, 1) := by decide +kernel
theorem d_Fi_powerOfTwo_7 : decode c_Fi_powerOfTwo 7 = .ok (.getfield 9, 3) := by decide +kernel
theorem d_Fi_powerOfTwo_10 : decode c_Fi_powerOfTwo 10 = .ok (.iload_n 2, 1) := by decide +kernel
theorem d_Fi_powerOfTwo_11 : decode c_Fi_powerOfTwo 11 = .ok (.ifCond .ge 11, 3) := by decide +kernel
theorem d_Fi_powerOfTwo_14 : decode c_Fi_powerOfTwo 14 = .ok (.iload_n 2, 1) := by decide +kernel
theorem d_Fi_powerOfTwo_15 : decode c_Fi_powerOfTwo 15 = .ok (.sipush 255, 3) := by decide +kernel
theorem d_Fi_powerOfTwo_18 : decode c_Fi_powerOfTwo 18 = .ok (.iadd, 1) := by decide +kernel
theorem d_Fi_powerOfTwo_19 : decode c_Fi_powerOfTwo 19 = .ok (.goto 4, 3) := by decide +kernel
theorem d_Fi_powerOfTwo_22 : decode c_Fi_powerOfTwo 22 = .ok (.iload_n 2, 1) := by decide +kernel
theorem d_Fi_powerOfTwo_23 : decode c_Fi_powerOfTwo 23 = .ok (.iaload, 1) := by decide +kernel
theorem d_Fi_powerOfTwo_24 : decode c_Fi_powerOfTwo 24 = .ok (.ireturn, 1) := by decide +kernel
theorem ok_Fi_powerOfTwo : tb_mV y_Fi_powerOfTwo c_Fi_powerOfTwo 3 (some .int) 1 := ⟨tb_97, tb_41, tb_95, tb_96, by decide +kernel⟩
abbrev c_Fi_product : ByteArray := prog_3_method_3_code
abbrev y_Fi_product : MethodName := ⟨"ReedSets$Field", "product", "(II)I"⟩
theorem d_Fi_product_0 : decode c_Fi_product 0 = .ok (.iload_n 1, 1) := by decide +kernel
theorem d_Fi_product_1 : decode c_Fi_product 1 = .ok (.ifCond .eq 7, 3) := by decide +kernel
theorem d_Fi_product_4 : decode c_Fi_product 4 = .ok (.iload_n 2, 1) := by decide +kernel
theorem d_Fi_product_5 : decode c_Fi_product 5 = .ok (.ifCond .ne 5, 3) := by decide +kernel
theorem d_Fi_product_8 : decode c_Fi_product 8 = .ok (.iconst 0, 1) := by decide +kernel
theorem d_Fi_product_9 : decode c_Fi_product 9 = .ok (.ireturn, 1) := by decide +kernel
theorem d_Fi_product_10 : decode c_Fi_product 10 = .ok (.aload_n 0, 1) := by decide +kernel
theorem d_Fi_product_11 : decode c_Fi_product 11 = .ok (.getfield 9, 3) := by decide +kernel
theorem d_Fi_product_14 : decode c_Fi_product 14 = .ok (.aload_n 0, 1) := by decide +kernel
theorem d_Fi_product_15 : decode c_Fi_product 15 = .ok (.getfield 15, 3) := by decide +kernel
theorem d_Fi_product_18 : decode c_Fi_product 18 = .ok (.iload_n 1, 1) := by decide +kernel
theorem d_Fi_product_19 : decode c_Fi_product 19 = .ok (.sipush 255, 3) := by decide +kernel
theorem d_Fi_product_22 : decode c_Fi_product 22 = .ok (.iand, 1) := by decide +kernel
theorem d_Fi_product_23 : decode c_Fi_product 23 = .ok (.iaload, 1) := by decide +kernel
theorem d_Fi_product_24 : decode c_Fi_product 24 = .ok (.aload_n 0, 1) := by decide +kernel
theorem d_Fi_product_25 : decode c_Fi_product 25 = .ok (.getfield 15, 3) := by decide +kernel
theorem d_Fi_product_28 : decode c_Fi_product 28 = .ok (.iload_n 2, 1) := by decide +kernel
theorem d_Fi_product_29 : decode c_Fi_product 29 = .ok (.sipush 255, 3) := by decide +kernel
theorem d_Fi_product_32 : decode c_Fi_product 32 = .ok (.iand, 1) := by decide +kernel
theorem d_Fi_product_33 : decode c_Fi_product 33 = .ok (.iaload, 1) := by decide +kernel
theorem d_Fi_product_34 : decode c_Fi_product 34 = .ok (.iadd, 1) := by decide +kernel
theorem d_Fi_product_35 : decode c_Fi_product 35 = .ok (.sipush 511, 3) := by decide +kernel
theorem d_Fi_product_38 : decode c_Fi_product 38 = .ok (.iand, 1) := by decide +kernel
theorem d_Fi_product_39 : decode c_Fi_product 39 = .ok (.iaload, 1) := by decide +kernel
theorem d_Fi_product_40 : decode c_Fi_product 40 = .ok (.ireturn, 1) := by decide +kernel
theorem ok_Fi_product : tb_mV y_Fi_product c_Fi_product 3 (some .int) 2 := ⟨tb_101, tb_41, tb_99, tb_100, by decide +kernel⟩
abbrev c_Wo_multiplyFactors : ByteArray := prog_7_method_3_code
abbrev y_Wo_multiplyFactors : MethodName := ⟨"ReedSets$Word", "multiplyFactors", "()V"⟩
theorem d_Wo_multiplyFactors_0 : decode c_Wo_multiplyFactors 0 = .ok (.aload_n 0, 1) := by decide +kernel
theorem d_Wo_multiplyFactors_1 : decode c_Wo_multiplyFactors 1 = .ok (.getfield 19, 3) := by decide +kernel
theorem d_Wo_multiplyFactors_4 : decode c_Wo_multiplyFactors 4 = .ok (.iconst 0, 1) := by decide +kernel
theorem d_Wo_multiplyFactors_5 : decode c_Wo_multiplyFactors 5 = .ok (.invokestatic 40, 3) := by decide +kernel
theorem d_Wo_multiplyFactors_8 : decode c_Wo_multiplyFactors 8 = .ok (.aload_n 0, 1) := by decide +kernel
theorem d_Wo_multiplyFactors_9 : decode c_Wo_multiplyFactors 9 = .ok (.getfield 19, 3) := by decide +kernel
theorem d_Wo_multiplyFactors_12 : decode c_Wo_multiplyFactors 12 = .ok (.iconst 0, 1) := by decide +kernel
theorem d_Wo_multiplyFactors_13 : decode c_Wo_multiplyFactors 13 = .ok (.iconst 1, 1) := by decide +kernel
theorem d_Wo_multiplyFactors_14 : decode c_Wo_multiplyFactors 14 = .ok (.iastore, 1) := by decide +kernel
theorem d_Wo_multiplyFactors_15 : decode c_Wo_multiplyFactors 15 = .ok (.iconst 0, 1) := by decide +kernel
theorem d_Wo_multiplyFactors_16 : decode c_Wo_multiplyFactors 16 = .ok (.istore_n 1, 1) := by decide +kernel
theorem d_Wo_multiplyFactors_17 : decode c_Wo_multiplyFactors 17 = .ok (.iload_n 1, 1) := by decide +kernel
theorem d_Wo_multiplyFactors_18 : decode c_Wo_multiplyFactors 18 = .ok (.aload_n 0, 1) := by decide +kernel
theorem d_Wo_multiplyFactors_19 : decode c_Wo_multiplyFactors 19 = .ok (.getfield 34, 3) := by decide +kernel
theorem d_Wo_multiplyFactors_22 : decode c_Wo_multiplyFactors 22 = .ok (.if_icmp .ge 87, 3) := by decide +kernel
theorem d_Wo_multiplyFactors_25 : decode c_Wo_multiplyFactors 25 = .ok (.aload_n 0, 1) := by decide +kernel
theorem d_Wo_multiplyFactors_26 : decode c_Wo_multiplyFactors 26 = .ok (.getfield 22, 3) := by decide +kernel
theorem d_Wo_multiplyFactors_29 : decode c_Wo_multiplyFactors 29 = .ok (.aload_n 0, 1) := by decide +kernel
theorem d_Wo_multiplyFactors_30 : decode c_Wo_multiplyFactors 30 = .ok (.getfield 37, 3) := by decide +kernel
theorem d_Wo_multiplyFactors_33 : decode c_Wo_multiplyFactors 33 = .ok (.iload_n 1, 1) := by decide +kernel
theorem d_Wo_multiplyFactors_34 : decode c_Wo_multiplyFactors 34 = .ok (.iadd, 1) := by decide +kernel
theorem d_Wo_multiplyFactors_35 : decode c_Wo_multiplyFactors 35 = .ok (.invokevirtual 52, 3) := by decide +kernel
theorem d_Wo_multiplyFactors_38 : decode c_Wo_multiplyFactors 38 = .ok (.istore_n 2, 1) := by decide +kernel
theorem d_Wo_multiplyFactors_39 : decode c_Wo_multiplyFactors 39 = .ok (.iload_n 1, 1) := by decide +kernel
theorem d_Wo_multiplyFactors_40 : decode c_Wo_multiplyFactors 40 = .ok (.iconst 1, 1) := by decide +kernel
theorem d_Wo_multiplyFactors_41 : decode c_Wo_multiplyFactors 41 = .ok (.iadd, 1) := by decide +kernel
theorem d_Wo_multiplyFactors_42 : decode c_Wo_multiplyFactors 42 = .ok (.istore_n 3, 1) := by decide +kernel
theorem d_Wo_multiplyFactors_43 : decode c_Wo_multiplyFactors 43 = .ok (.iload_n 3, 1) := by decide +kernel
theorem d_Wo_multiplyFactors_44 : decode c_Wo_multiplyFactors 44 = .ok (.iconst 1, 1) := by decide +kernel
theorem d_Wo_multiplyFactors_45 : decode c_Wo_multiplyFactors 45 = .ok (.if_icmp .lt 38, 3) := by decide +kernel
theorem d_Wo_multiplyFactors_48 : decode c_Wo_multiplyFactors 48 = .ok (.aload_n 0, 1) := by decide +kernel
theorem d_Wo_multiplyFactors_49 : decode c_Wo_multiplyFactors 49 = .ok (.getfield 19, 3) := by decide +kernel
theorem d_Wo_multiplyFactors_52 : decode c_Wo_multiplyFactors 52 = .ok (.iload_n 3, 1) := by decide +kernel
theorem d_Wo_multiplyFactors_53 : decode c_Wo_multiplyFactors 53 = .ok (.aload_n 0, 1) := by decide +kernel
theorem d_Wo_multiplyFactors_54 : decode c_Wo_multiplyFactors 54 = .ok (.getfield 19, 3) := by decide +kernel
theorem d_Wo_multiplyFactors_57 : decode c_Wo_multiplyFactors 57 = .ok (.iload_n 3, 1) := by decide +kernel
theorem d_Wo_multiplyFactors_58 : decode c_Wo_multiplyFactors 58 = .ok (.iconst 1, 1) := by decide +kernel
theorem d_Wo_multiplyFactors_59 : decode c_Wo_multiplyFactors 59 = .ok (.isub, 1) := by decide +kernel
theorem d_Wo_multiplyFactors_60 : decode c_Wo_multiplyFactors 60 = .ok (.iaload, 1) := by decide +kernel
theorem d_Wo_multiplyFactors_61 : decode c_Wo_multiplyFactors 61 = .ok (.aload_n 0, 1) := by decide +kernel
theorem d_Wo_multiplyFactors_62 : decode c_Wo_multiplyFactors 62 = .ok (.getfield 22, 3) := by decide +kernel
theorem d_Wo_multiplyFactors_65 : decode c_Wo_multiplyFactors 65 = .ok (.aload_n 0, 1) := by decide +kernel
theorem d_Wo_multiplyFactors_66 : decode c_Wo_multiplyFactors 66 = .ok (.getfield 19, 3) := by decide +kernel
theorem d_Wo_multiplyFactors_69 : decode c_Wo_multiplyFactors 69 = .ok (.iload_n 3, 1) := by decide +kernel
theorem d_Wo_multiplyFactors_70 : decode c_Wo_multiplyFactors 70 = .ok (.iaload, 1) := by decide +kernel
theorem d_Wo_multiplyFactors_71 : decode c_Wo_multiplyFactors 71 = .ok (.iload_n 2, 1) := by decide +kernel
theorem d_Wo_multiplyFactors_72 : decode c_Wo_multiplyFactors 72 = .ok (.invokevirtual 58, 3) := by decide +kernel
theorem d_Wo_multiplyFactors_75 : decode c_Wo_multiplyFactors 75 = .ok (.ixor, 1) := by decide +kernel
theorem d_Wo_multiplyFactors_76 : decode c_Wo_multiplyFactors 76 = .ok (.iastore, 1) := by decide +kernel
theorem d_Wo_multiplyFactors_77 : decode c_Wo_multiplyFactors 77 = .ok (.iinc 3 (-1), 3) := by decide +kernel
theorem d_Wo_multiplyFactors_80 : decode c_Wo_multiplyFactors 80 = .ok (.goto (-37), 3) := by decide +kernel
theorem d_Wo_multiplyFactors_83 : decode c_Wo_multiplyFactors 83 = .ok (.aload_n 0, 1) := by decide +kernel
theorem d_Wo_multiplyFactors_84 : decode c_Wo_multiplyFactors 84 = .ok (.getfield 19, 3) := by decide +kernel
theorem d_Wo_multiplyFactors_87 : decode c_Wo_multiplyFactors 87 = .ok (.iconst 0, 1) := by decide +kernel
theorem d_Wo_multiplyFactors_88 : decode c_Wo_multiplyFactors 88 = .ok (.aload_n 0, 1) := by decide +kernel
theorem d_Wo_multiplyFactors_89 : decode c_Wo_multiplyFactors 89 = .ok (.getfield 22, 3) := by decide +kernel
theorem d_Wo_multiplyFactors_92 : decode c_Wo_multiplyFactors 92 = .ok (.aload_n 0, 1) := by decide +kernel
theorem d_Wo_multiplyFactors_93 : decode c_Wo_multiplyFactors 93 = .ok (.getfield 19, 3) := by decide +kernel
theorem d_Wo_multiplyFactors_96 : decode c_Wo_multiplyFactors 96 = .ok (.iconst 0, 1) := by decide +kernel
theorem d_Wo_multiplyFactors_97 : decode c_Wo_multiplyFactors 97 = .ok (.iaload, 1) := by decide +kernel
theorem d_Wo_multiplyFactors_98 : decode c_Wo_multiplyFactors 98 = .ok (.iload_n 2, 1) := by decide +kernel
theorem d_Wo_multiplyFactors_99 : decode c_Wo_multiplyFactors 99 = .ok (.invokevirtual 58, 3) := by decide +kernel
theorem d_Wo_multiplyFactors_102 : decode c_Wo_multiplyFactors 102 = .ok (.iastore, 1) := by decide +kernel
theorem d_Wo_multiplyFactors_103 : decode c_Wo_multiplyFactors 103 = .ok (.iinc 1 1, 3) := by decide +kernel
theorem d_Wo_multiplyFactors_106 : decode c_Wo_multiplyFactors 106 = .ok (.goto (-89), 3) := by decide +kernel
theorem d_Wo_multiplyFactors_109 : decode c_Wo_multiplyFactors 109 = .ok (.return_, 1) := by decide +kernel
theorem ok_Wo_multiplyFactors : tb_mV y_Wo_multiplyFactors c_Wo_multiplyFactors 4 none 0 := ⟨tb_93, tb_42, tb_92, tb_0, by decide +kernel⟩
abbrev c_Wo_shape : ByteArray := prog_7_method_2_code
abbrev y_Wo_shape : MethodName := ⟨"ReedSets$Word", "shape", "(III)V"⟩
theorem d_Wo_shape_0 : decode c_Wo_shape 0 = .ok (.aload_n 0, 1) := by decide +kernel
theorem d_Wo_shape_1 : decode c_Wo_shape 1 = .ok (.iload_n 1, 1) := by decide +kernel
theorem d_Wo_shape_2 : decode c_Wo_shape 2 = .ok (.putfield 30, 3) := by decide +kernel
theorem d_Wo_shape_5 : decode c_Wo_shape 5 = .ok (.aload_n 0, 1) := by decide +kernel
theorem d_Wo_shape_6 : decode c_Wo_shape 6 = .ok (.iload_n 2, 1) := by decide +kernel
theorem d_Wo_shape_7 : decode c_Wo_shape 7 = .ok (.putfield 34, 3) := by decide +kernel
theorem d_Wo_shape_10 : decode c_Wo_shape 10 = .ok (.aload_n 0, 1) := by decide +kernel
theorem d_Wo_shape_11 : decode c_Wo_shape 11 = .ok (.iload_n 3, 1) := by decide +kernel
theorem d_Wo_shape_12 : decode c_Wo_shape 12 = .ok (.putfield 37, 3) := by decide +kernel
theorem d_Wo_shape_15 : decode c_Wo_shape 15 = .ok (.aload_n 0, 1) := by decide +kernel
theorem d_Wo_shape_16 : decode c_Wo_shape 16 = .ok (.getfield 9, 3) := by decide +kernel
theorem d_Wo_shape_19 : decode c_Wo_shape 19 = .ok (.iconst 0, 1) := by decide +kernel
theorem d_Wo_shape_20 : decode c_Wo_shape 20 = .ok (.invokestatic 40, 3) := by decide +kernel
theorem d_Wo_shape_23 : decode c_Wo_shape 23 = .ok (.aload_n 0, 1) := by decide +kernel
theorem d_Wo_shape_24 : decode c_Wo_shape 24 = .ok (.invokevirtual 46, 3) := by decide +kernel
theorem d_Wo_shape_27 : decode c_Wo_shape 27 = .ok (.aload_n 0, 1) := by decide +kernel
theorem d_Wo_shape_28 : decode c_Wo_shape 28 = .ok (.invokevirtual 49, 3) := by decide +kernel
theorem d_Wo_shape_31 : decode c_Wo_shape 31 = .ok (.return_, 1) := by decide +kernel
theorem ok_Wo_shape : tb_mV y_Wo_shape c_Wo_shape 4 none 3 := ⟨tb_82, tb_42, tb_80, tb_81, by decide +kernel⟩
abbrev c_Fi_isByte : ByteArray := prog_3_method_2_code
abbrev y_Fi_isByte : MethodName := ⟨"ReedSets$Field", "isByte", "(I)Z"⟩
theorem d_Fi_isByte_0 : decode c_Fi_isByte 0 = .ok (.iload_n 0, 1) := by decide +kernel
theorem d_Fi_isByte_1 : decode c_Fi_isByte 1 = .ok (.ifCond .lt 14, 3) := by decide +kernel
theorem d_Fi_isByte_4 : decode c_Fi_isByte 4 = .ok (.iload_n 0, 1) := by decide +kernel
theorem d_Fi_isByte_5 : decode c_Fi_isByte 5 = .ok (.sipush 256, 3) := by decide +kernel
theorem d_Fi_isByte_8 : decode c_Fi_isByte 8 = .ok (.if_icmp .ge 7, 3) := by decide +kernel
theorem d_Fi_isByte_11 : decode c_Fi_isByte 11 = .ok (.iconst 1, 1) := by decide +kernel
theorem d_Fi_isByte_12 : decode c_Fi_isByte 12 = .ok (.goto 4, 3) := by decide +kernel
theorem d_Fi_isByte_15 : decode c_Fi_isByte 15 = .ok (.iconst 0, 1) := by decide +kernel
theorem d_Fi_isByte_16 : decode c_Fi_isByte 16 = .ok (.ireturn, 1) := by decide +kernel
theorem ok_Fi_isByte : tb_mS y_Fi_isByte c_Fi_isByte 1 (some .boolean) 1 := ⟨tb_300, tb_41, tb_299, by decide +kernel⟩
abbrev c_Fi_quotient : ByteArray := prog_3_method_4_code
abbrev y_Fi_quotient : MethodName := ⟨"ReedSets$Field", "quotient", "(II)I"⟩
theorem d_Fi_quotient_0 : decode c_Fi_quotient 0 = .ok (.iload_n 1, 1) := by decide +kernel
theorem d_Fi_quotient_1 : decode c_Fi_quotient 1 = .ok (.ifCond .eq 7, 3) := by decide +kernel
theorem d_Fi_quotient_4 : decode c_Fi_quotient 4 = .ok (.iload_n 2, 1) := by decide +kernel
theorem d_Fi_quotient_5 : decode c_Fi_quotient 5 = .ok (.ifCond .ne 5, 3) := by decide +kernel
theorem d_Fi_quotient_8 : decode c_Fi_quotient 8 = .ok (.iconst 0, 1) := by decide +kernel
theorem d_Fi_quotient_9 : decode c_Fi_quotient 9 = .ok (.ireturn, 1) := by decide +kernel
theorem d_Fi_quotient_10 : decode c_Fi_quotient 10 = .ok (.aload_n 0, 1) := by decide +kernel
theorem d_Fi_quotient_11 : decode c_Fi_quotient 11 = .ok (.getfield 9, 3) := by decide +kernel
theorem d_Fi_quotient_14 : decode c_Fi_quotient 14 = .ok (.aload_n 0, 1) := by decide +kernel
theorem d_Fi_quotient_15 : decode c_Fi_quotient 15 = .ok (.getfield 15, 3) := by decide +kernel
theorem d_Fi_quotient_18 : decode c_Fi_quotient 18 = .ok (.iload_n 1, 1) := by decide +kernel
theorem d_Fi_quotient_19 : decode c_Fi_quotient 19 = .ok (.sipush 255, 3) := by decide +kernel
theorem d_Fi_quotient_22 : decode c_Fi_quotient 22 = .ok (.iand, 1) := by decide +kernel
theorem d_Fi_quotient_23 : decode c_Fi_quotient 23 = .ok (.iaload, 1) := by decide +kernel
theorem d_Fi_quotient_24 : decode c_Fi_quotient 24 = .ok (.sipush 255, 3) := by decide +kernel
theorem d_Fi_quotient_27 : decode c_Fi_quotient 27 = .ok (.iadd, 1) := by decide +kernel
theorem d_Fi_quotient_28 : decode c_Fi_quotient 28 = .ok (.aload_n 0, 1) := by decide +kernel
theorem d_Fi_quotient_29 : decode c_Fi_quotient 29 = .ok (.getfield 15, 3) := by decide +kernel
theorem d_Fi_quotient_32 : decode c_Fi_quotient 32 = .ok (.iload_n 2, 1) := by decide +kernel
theorem d_Fi_quotient_33 : decode c_Fi_quotient 33 = .ok (.sipush 255, 3) := by decide +kernel
theorem d_Fi_quotient_36 : decode c_Fi_quotient 36 = .ok (.iand, 1) := by decide +kernel
theorem d_Fi_quotient_37 : decode c_Fi_quotient 37 = .ok (.iaload, 1) := by decide +kernel
theorem d_Fi_quotient_38 : decode c_Fi_quotient 38 = .ok (.isub, 1) := by decide +kernel
theorem d_Fi_quotient_39 : decode c_Fi_quotient 39 = .ok (.sipush 511, 3) := by decide +kernel
theorem d_Fi_quotient_42 : decode c_Fi_quotient 42 = .ok (.iand, 1) := by decide +kernel
theorem d_Fi_quotient_43 : decode c_Fi_quotient 43 = .ok (.iaload, 1) := by decide +kernel
theorem d_Fi_quotient_44 : decode c_Fi_quotient 44 = .ok (.ireturn, 1) := by decide +kernel
theorem ok_Fi_quotient : tb_mV y_Fi_quotient c_Fi_quotient 3 (some .int) 2 := ⟨tb_309, tb_41, tb_307, tb_308, by decide +kernel⟩
abbrev c_Math_floorMod : ByteArray := prog_10_method_50_code
abbrev y_Math_floorMod : MethodName := ⟨"java/lang/Math", "floorMod", "(II)I"⟩
theorem d_Math_floorMod_0 : decode c_Math_floorMod 0 = .ok (.iload_n 0, 1) := by decide +kernel
theorem d_Math_floorMod_1 : decode c_Math_floorMod 1 = .ok (.iload_n 1, 1) := by decide +kernel
theorem d_Math_floorMod_2 : decode c_Math_floorMod 2 = .ok (.irem, 1) := by decide +kernel
theorem d_Math_floorMod_3 : decode c_Math_floorMod 3 = .ok (.istore_n 2, 1) := by decide +kernel
theorem d_Math_floorMod_4 : decode c_Math_floorMod 4 = .ok (.iload_n 0, 1) := by decide +kernel
theorem d_Math_floorMod_5 : decode c_Math_floorMod 5 = .ok (.iload_n 1, 1) := by decide +kernel
theorem d_Math_floorMod_6 : decode c_Math_floorMod 6 = .ok (.ixor, 1) := by decide +kernel
theorem d_Math_floorMod_7 : decode c_Math_floorMod 7 = .ok (.ifCond .ge 11, 3) := by decide +kernel
theorem d_Math_floorMod_10 : decode c_Math_floorMod 10 = .ok (.iload_n 2, 1) := by decide +kernel
theorem d_Math_floorMod_11 : decode c_Math_floorMod 11 = .ok (.ifCond .eq 7, 3) := by decide +kernel
theorem d_Math_floorMod_14 : decode c_Math_floorMod 14 = .ok (.iload_n 2, 1) := by decide +kernel
theorem d_Math_floorMod_15 : decode c_Math_floorMod 15 = .ok (.iload_n 1, 1) := by decide +kernel
theorem d_Math_floorMod_16 : decode c_Math_floorMod 16 = .ok (.iadd, 1) := by decide +kernel
theorem d_Math_floorMod_17 : decode c_Math_floorMod 17 = .ok (.ireturn, 1) := by decide +kernel
theorem d_Math_floorMod_18 : decode c_Math_floorMod 18 = .ok (.iload_n 2, 1) := by decide +kernel
theorem d_Math_floorMod_19 : decode c_Math_floorMod 19 = .ok (.ireturn, 1) := by decide +kernel
theorem ok_Math_floorMod : tb_mS y_Math_floorMod c_Math_floorMod 3 (some .int) 2 := ⟨tb_320, tb_49, tb_319, by decide +kernel⟩
abbrev c_Fi_raised : ByteArray := prog_3_method_5_code
abbrev y_Fi_raised : MethodName := ⟨"ReedSets$Field", "raised", "(II)I"⟩
theorem d_Fi_raised_0 : decode c_Fi_raised 0 = .ok (.iload_n 2, 1) := by decide +kernel
theorem d_Fi_raised_1 : decode c_Fi_raised 1 = .ok (.ifCond .ne 5, 3) := by decide +kernel
theorem d_Fi_raised_4 : decode c_Fi_raised 4 = .ok (.iconst 1, 1) := by decide +kernel
theorem d_Fi_raised_5 : decode c_Fi_raised 5 = .ok (.ireturn, 1) := by decide +kernel
theorem d_Fi_raised_6 : decode c_Fi_raised 6 = .ok (.iload_n 1, 1) := by decide +kernel
theorem d_Fi_raised_7 : decode c_Fi_raised 7 = .ok (.ifCond .ne 7, 3) := by decide +kernel
theorem d_Fi_raised_10 : decode c_Fi_raised 10 = .ok (.iconst 0, 1) := by decide +kernel
theorem d_Fi_raised_11 : decode c_Fi_raised 11 = .ok (.goto 25, 3) := by decide +kernel
theorem d_Fi_raised_14 : decode c_Fi_raised 14 = .ok (.aload_n 0, 1) := by decide +kernel
theorem d_Fi_raised_15 : decode c_Fi_raised 15 = .ok (.aload_n 0, 1) := by decide +kernel
theorem d_Fi_raised_16 : decode c_Fi_raised 16 = .ok (.getfield 15, 3) := by decide +kernel
theorem d_Fi_raised_19 : decode c_Fi_raised 19 = .ok (.iload_n 1, 1) := by decide +kernel
theorem d_Fi_raised_20 : decode c_Fi_raised 20 = .ok (.sipush 255, 3) := by decide +kernel
theorem d_Fi_raised_23 : decode c_Fi_raised 23 = .ok (.iand, 1) := by decide +kernel
theorem d_Fi_raised_24 : decode c_Fi_raised 24 = .ok (.iaload, 1) := by decide +kernel
theorem d_Fi_raised_25 : decode c_Fi_raised 25 = .ok (.iload_n 2, 1) := by decide +kernel
theorem d_Fi_raised_26 : decode c_Fi_raised 26 = .ok (.sipush 255, 3) := by decide +kernel
theorem d_Fi_raised_29 : decode c_Fi_raised 29 = .ok (.invokestatic 18, 3) := by decide +kernel
theorem d_Fi_raised_32 : decode c_Fi_raised 32 = .ok (.imul, 1) := by decide +kernel
theorem d_Fi_raised_33 : decode c_Fi_raised 33 = .ok (.invokevirtual 24, 3) := by decide +kernel
theorem d_Fi_raised_36 : decode c_Fi_raised 36 = .ok (.ireturn, 1) := by decide +kernel
theorem ok_Fi_raised : tb_mV y_Fi_raised c_Fi_raised 3 (some .int) 2 := ⟨tb_317, tb_41, tb_315, tb_316, by decide +kernel⟩
abbrev c_Fi_logOf : ByteArray := prog_3_method_7_code
abbrev y_Fi_logOf : MethodName := ⟨"ReedSets$Field", "logOf", "(I)I"⟩
theorem d_Fi_logOf_0 : decode c_Fi_logOf 0 = .ok (.aload_n 0, 1) := by decide +kernel
theorem d_Fi_logOf_1 : decode c_Fi_logOf 1 = .ok (.getfield 15, 3) := by decide +kernel
theorem d_Fi_logOf_4 : decode c_Fi_logOf 4 = .ok (.iload_n 1, 1) := by decide +kernel
theorem d_Fi_logOf_5 : decode c_Fi_logOf 5 = .ok (.sipush 255, 3) := by decide +kernel
theorem d_Fi_logOf_8 : decode c_Fi_logOf 8 = .ok (.iand, 1) := by decide +kernel
theorem d_Fi_logOf_9 : decode c_Fi_logOf 9 = .ok (.iaload, 1) := by decide +kernel
theorem d_Fi_logOf_10 : decode c_Fi_logOf 10 = .ok (.ireturn, 1) := by decide +kernel
theorem ok_Fi_logOf : tb_mV y_Fi_logOf c_Fi_logOf 2 (some .int) 1 := ⟨tb_329, tb_41, tb_327, tb_328, by decide +kernel⟩
abbrev c_Wo_size : ByteArray := prog_7_method_4_code
abbrev y_Wo_size : MethodName := ⟨"ReedSets$Word", "size", "()I"⟩
theorem d_Wo_size_0 : decode c_Wo_size 0 = .ok (.aload_n 0, 1) := by decide +kernel
theorem d_Wo_size_1 : decode c_Wo_size 1 = .ok (.getfield 30, 3) := by decide +kernel
theorem d_Wo_size_4 : decode c_Wo_size 4 = .ok (.aload_n 0, 1) := by decide +kernel
theorem d_Wo_size_5 : decode c_Wo_size 5 = .ok (.getfield 34, 3) := by decide +kernel
theorem d_Wo_size_8 : decode c_Wo_size 8 = .ok (.iadd, 1) := by decide +kernel
theorem d_Wo_size_9 : decode c_Wo_size 9 = .ok (.ireturn, 1) := by decide +kernel
theorem ok_Wo_size : tb_mV y_Wo_size c_Wo_size 1 (some .int) 0 := ⟨tb_338, tb_42, tb_336, tb_337, by decide +kernel⟩
abbrev c_Wo_hasPlace : ByteArray := prog_7_method_5_code
abbrev y_Wo_hasPlace : MethodName := ⟨"ReedSets$Word", "hasPlace", "(I)Z"⟩
theorem d_Wo_hasPlace_0 : decode c_Wo_hasPlace 0 = .ok (.iload_n 1, 1) := by decide +kernel
theorem d_Wo_hasPlace_1 : decode c_Wo_hasPlace 1 = .ok (.ifCond .lt 15, 3) := by decide +kernel
theorem d_Wo_hasPlace_4 : decode c_Wo_hasPlace 4 = .ok (.iload_n 1, 1) := by decide +kernel
theorem d_Wo_hasPlace_5 : decode c_Wo_hasPlace 5 = .ok (.aload_n 0, 1) := by decide +kernel
theorem d_Wo_hasPlace_6 : decode c_Wo_hasPlace 6 = .ok (.invokevirtual 62, 3) := by decide +kernel
theorem d_Wo_hasPlace_9 : decode c_Wo_hasPlace 9 = .ok (.if_icmp .ge 7, 3) := by decide +kernel
theorem d_Wo_hasPlace_12 : decode c_Wo_hasPlace 12 = .ok (.iconst 1, 1) := by decide +kernel
theorem d_Wo_hasPlace_13 : decode c_Wo_hasPlace 13 = .ok (.goto 4, 3) := by decide +kernel
theorem d_Wo_hasPlace_16 : decode c_Wo_hasPlace 16 = .ok (.iconst 0, 1) := by decide +kernel
theorem d_Wo_hasPlace_17 : decode c_Wo_hasPlace 17 = .ok (.ireturn, 1) := by decide +kernel
theorem ok_Wo_hasPlace : tb_mV y_Wo_hasPlace c_Wo_hasPlace 2 (some .boolean) 1 := ⟨tb_350, tb_42, tb_348, tb_349, by decide +kernel⟩
abbrev c_Wo_hasLostData : ByteArray := prog_7_method_7_code
abbrev y_Wo_hasLostData : MethodName := ⟨"ReedSets$Word", "hasLostData", "()Z"⟩
theorem d_Wo_hasLostData_0 : decode c_Wo_hasLostData 0 = .ok (.iconst 0, 1) := by decide +kernel
theorem d_Wo_hasLostData_1 : decode c_Wo_hasLostData 1 = .ok (.istore_n 1, 1) := by decide +kernel
theorem d_Wo_hasLostData_2 : decode c_Wo_hasLostData 2 = .ok (.iload_n 1, 1) := by decide +kernel
theorem d_Wo_hasLostData_3 : decode c_Wo_hasLostData 3 = .ok (.aload_n 0, 1) := by decide +kernel
theorem d_Wo_hasLostData_4 : decode c_Wo_hasLostData 4 = .ok (.getfield 30, 3) := by decide +kernel
theorem d_Wo_hasLostData_7 : decode c_Wo_hasLostData 7 = .ok (.if_icmp .ge 20, 3) := by decide +kernel
theorem d_Wo_hasLostData_10 : decode c_Wo_hasLostData 10 = .ok (.aload_n 0, 1) := by decide +kernel
theorem d_Wo_hasLostData_11 : decode c_Wo_hasLostData 11 = .ok (.getfield 15, 3) := by decide +kernel
theorem d_Wo_hasLostData_14 : decode c_Wo_hasLostData 14 = .ok (.iload_n 1, 1) := by decide +kernel
theorem d_Wo_hasLostData_15 : decode c_Wo_hasLostData 15 = .ok (.baload, 1) := by decide +kernel
theorem d_Wo_hasLostData_16 : decode c_Wo_hasLostData 16 = .ok (.ifCond .eq 5, 3) := by decide +kernel
theorem d_Wo_hasLostData_19 : decode c_Wo_hasLostData 19 = .ok (.iconst 1, 1) := by decide +kernel
theorem d_Wo_hasLostData_20 : decode c_Wo_hasLostData 20 = .ok (.ireturn, 1) := by decide +kernel
theorem d_Wo_hasLostData_21 : decode c_Wo_hasLostData 21 = .ok (.iinc 1 1, 3) := by decide +kernel
theorem d_Wo_hasLostData_24 : decode c_Wo_hasLostData 24 = .ok (.goto (-22), 3) := by decide +kernel
theorem d_Wo_hasLostData_27 : decode c_Wo_hasLostData 27 = .ok (.iconst 0, 1) := by decide +kernel
theorem d_Wo_hasLostData_28 : decode c_Wo_hasLostData 28 = .ok (.ireturn, 1) := by decide +kernel
theorem ok_Wo_hasLostData : tb_mV y_Wo_hasLostData c_Wo_hasLostData 2 (some .boolean) 0 := ⟨tb_359, tb_42, tb_357, tb_358, by decide +kernel⟩
abbrev c_Arr_rangeCheck : ByteArray := prog_12_method_30_code
abbrev y_Arr_rangeCheck : MethodName := ⟨"java/util/Arrays", "rangeCheck", "(III)V"⟩
theorem d_Arr_rangeCheck_0 : decode c_Arr_rangeCheck 0 = .ok (.iload_n 1, 1) := by decide +kernel
theorem d_Arr_rangeCheck_1 : decode c_Arr_rangeCheck 1 = .ok (.iload_n 2, 1) := by decide +kernel
theorem d_Arr_rangeCheck_2 : decode c_Arr_rangeCheck 2 = .ok (.if_icmp .le 44, 3) := by decide +kernel
theorem d_Arr_rangeCheck_5 : decode c_Arr_rangeCheck 5 = .ok (.new 43, 3) := by decide +kernel
theorem d_Arr_rangeCheck_8 : decode c_Arr_rangeCheck 8 = .ok (.dup, 1) := by decide +kernel
theorem d_Arr_rangeCheck_9 : decode c_Arr_rangeCheck 9 = .ok (.new 45, 3) := by decide +kernel
theorem d_Arr_rangeCheck_12 : decode c_Arr_rangeCheck 12 = .ok (.dup, 1) := by decide +kernel
theorem d_Arr_rangeCheck_13 : decode c_Arr_rangeCheck 13 = .ok (.invokespecial 47, 3) := by decide +kernel
theorem d_Arr_rangeCheck_16 : decode c_Arr_rangeCheck 16 = .ok (.ldc 48, 2) := by decide +kernel
theorem d_Arr_rangeCheck_18 : decode c_Arr_rangeCheck 18 = .ok (.invokevirtual 50, 3) := by decide +kernel
theorem d_Arr_rangeCheck_21 : decode c_Arr_rangeCheck 21 = .ok (.iload_n 1, 1) := by decide +kernel
theorem d_Arr_rangeCheck_22 : decode c_Arr_rangeCheck 22 = .ok (.invokevirtual 54, 3) := by decide +kernel
theorem d_Arr_rangeCheck_25 : decode c_Arr_rangeCheck 25 = .ok (.ldc 57, 2) := by decide +kernel
theorem d_Arr_rangeCheck_27 : decode c_Arr_rangeCheck 27 = .ok (.invokevirtual 50, 3) := by decide +kernel
theorem d_Arr_rangeCheck_30 : decode c_Arr_rangeCheck 30 = .ok (.iload_n 2, 1) := by decide +kernel
theorem d_Arr_rangeCheck_31 : decode c_Arr_rangeCheck 31 = .ok (.invokevirtual 54, 3) := by decide +kernel
theorem d_Arr_rangeCheck_34 : decode c_Arr_rangeCheck 34 = .ok (.ldc 59, 2) := by decide +kernel
theorem d_Arr_rangeCheck_36 : decode c_Arr_rangeCheck 36 = .ok (.invokevirtual 50, 3) := by decide +kernel
theorem d_Arr_rangeCheck_39 : decode c_Arr_rangeCheck 39 = .ok (.invokevirtual 61, 3) := by decide +kernel
theorem d_Arr_rangeCheck_42 : decode c_Arr_rangeCheck 42 = .ok (.invokespecial 65, 3) := by decide +kernel
theorem d_Arr_rangeCheck_45 : decode c_Arr_rangeCheck 45 = .ok (.athrow, 1) := by decide +kernel
theorem d_Arr_rangeCheck_46 : decode c_Arr_rangeCheck 46 = .ok (.iload_n 1, 1) := by decide +kernel
theorem d_Arr_rangeCheck_47 : decode c_Arr_rangeCheck 47 = .ok (.ifCond .ge 12, 3) := by decide +kernel
theorem d_Arr_rangeCheck_50 : decode c_Arr_rangeCheck 50 = .ok (.new 68, 3) := by decide +kernel
theorem d_Arr_rangeCheck_53 : decode c_Arr_rangeCheck 53 = .ok (.dup, 1) := by decide +kernel
theorem d_Arr_rangeCheck_54 : decode c_Arr_rangeCheck 54 = .ok (.iload_n 1, 1) := by decide +kernel
theorem d_Arr_rangeCheck_55 : decode c_Arr_rangeCheck 55 = .ok (.invokespecial 70, 3) := by decide +kernel
theorem d_Arr_rangeCheck_58 : decode c_Arr_rangeCheck 58 = .ok (.athrow, 1) := by decide +kernel
theorem d_Arr_rangeCheck_59 : decode c_Arr_rangeCheck 59 = .ok (.iload_n 2, 1) := by decide +kernel
theorem d_Arr_rangeCheck_60 : decode c_Arr_rangeCheck 60 = .ok (.iload_n 0, 1) := by decide +kernel
theorem d_Arr_rangeCheck_61 : decode c_Arr_rangeCheck 61 = .ok (.if_icmp .le 12, 3) := by decide +kernel
theorem d_Arr_rangeCheck_64 : decode c_Arr_rangeCheck 64 = .ok (.new 68, 3) := by decide +kernel
theorem d_Arr_rangeCheck_67 : decode c_Arr_rangeCheck 67 = .ok (.dup, 1) := by decide +kernel
theorem d_Arr_rangeCheck_68 : decode c_Arr_rangeCheck 68 = .ok (.iload_n 2, 1) := by decide +kernel
theorem d_Arr_rangeCheck_69 : decode c_Arr_rangeCheck 69 = .ok (.invokespecial 70, 3) := by decide +kernel
theorem d_Arr_rangeCheck_72 : decode c_Arr_rangeCheck 72 = .ok (.athrow, 1) := by decide +kernel
theorem d_Arr_rangeCheck_73 : decode c_Arr_rangeCheck 73 = .ok (.return_, 1) := by decide +kernel
theorem ok_Arr_rangeCheck : tb_mS y_Arr_rangeCheck c_Arr_rangeCheck 3 none 3 := ⟨tb_369, tb_43, tb_368, by decide +kernel⟩
abbrev c_Arr_fill4 : ByteArray := prog_12_method_104_code
abbrev y_Arr_fill4 : MethodName := ⟨"java/util/Arrays", "fill", "([IIII)V"⟩
theorem d_Arr_fill4_0 : decode c_Arr_fill4 0 = .ok (.aload_n 0, 1) := by decide +kernel
theorem d_Arr_fill4_1 : decode c_Arr_fill4 1 = .ok (.arraylength, 1) := by decide +kernel
theorem d_Arr_fill4_2 : decode c_Arr_fill4 2 = .ok (.iload_n 1, 1) := by decide +kernel
theorem d_Arr_fill4_3 : decode c_Arr_fill4 3 = .ok (.iload_n 2, 1) := by decide +kernel
theorem d_Arr_fill4_4 : decode c_Arr_fill4 4 = .ok (.invokestatic 13, 3) := by decide +kernel
theorem d_Arr_fill4_7 : decode c_Arr_fill4 7 = .ok (.iload_n 1, 1) := by decide +kernel
theorem d_Arr_fill4_8 : decode c_Arr_fill4 8 = .ok (.istore 4, 2) := by decide +kernel
theorem d_Arr_fill4_10 : decode c_Arr_fill4 10 = .ok (.iload 4, 2) := by decide +kernel
theorem d_Arr_fill4_12 : decode c_Arr_fill4 12 = .ok (.iload_n 2, 1) := by decide +kernel
theorem d_Arr_fill4_13 : decode c_Arr_fill4 13 = .ok (.if_icmp .ge 14, 3) := by decide +kernel
theorem d_Arr_fill4_16 : decode c_Arr_fill4 16 = .ok (.aload_n 0, 1) := by decide +kernel
theorem d_Arr_fill4_17 : decode c_Arr_fill4 17 = .ok (.iload 4, 2) := by decide +kernel
theorem d_Arr_fill4_19 : decode c_Arr_fill4 19 = .ok (.iload_n 3, 1) := by decide +kernel
theorem d_Arr_fill4_20 : decode c_Arr_fill4 20 = .ok (.iastore, 1) := by decide +kernel
theorem d_Arr_fill4_21 : decode c_Arr_fill4 21 = .ok (.iinc 4 1, 3) := by decide +kernel
theorem d_Arr_fill4_24 : decode c_Arr_fill4 24 = .ok (.goto (-14), 3) := by decide +kernel
theorem d_Arr_fill4_27 : decode c_Arr_fill4 27 = .ok (.return_, 1) := by decide +kernel
theorem ok_Arr_fill4 : tb_mS y_Arr_fill4 c_Arr_fill4 5 none 4 := ⟨tb_366, tb_43, tb_365, by decide +kernel⟩
abbrev c_Wo_fillRepairs : ByteArray := prog_7_method_9_code
abbrev y_Wo_fillRepairs : MethodName := ⟨"ReedSets$Word", "fillRepairs", "()V"⟩
theorem d_Wo_fillRepairs_0 : decode c_Wo_fillRepairs 0 = .ok (.aload_n 0, 1) := by decide +kernel
theorem d_Wo_fillRepairs_1 : decode c_Wo_fillRepairs 1 = .ok (.getfield 34, 3) := by decide +kernel
theorem d_Wo_fillRepairs_4 : decode c_Wo_fillRepairs 4 = .ok (.ifCond .ne 4, 3) := by decide +kernel
theorem d_Wo_fillRepairs_7 : decode c_Wo_fillRepairs 7 = .ok (.return_, 1) := by decide +kernel
theorem d_Wo_fillRepairs_8 : decode c_Wo_fillRepairs 8 = .ok (.aload_n 0, 1) := by decide +kernel
theorem d_Wo_fillRepairs_9 : decode c_Wo_fillRepairs 9 = .ok (.getfield 9, 3) := by decide +kernel
theorem d_Wo_fillRepairs_12 : decode c_Wo_fillRepairs 12 = .ok (.aload_n 0, 1) := by decide +kernel
theorem d_Wo_fillRepairs_13 : decode c_Wo_fillRepairs 13 = .ok (.getfield 30, 3) := by decide +kernel
theorem d_Wo_fillRepairs_16 : decode c_Wo_fillRepairs 16 = .ok (.aload_n 0, 1) := by decide +kernel
theorem d_Wo_fillRepairs_17 : decode c_Wo_fillRepairs 17 = .ok (.getfield 30, 3) := by decide +kernel
theorem d_Wo_fillRepairs_20 : decode c_Wo_fillRepairs 20 = .ok (.aload_n 0, 1) := by decide +kernel
theorem d_Wo_fillRepairs_21 : decode c_Wo_fillRepairs 21 = .ok (.getfield 34, 3) := by decide +kernel
theorem d_Wo_fillRepairs_24 : decode c_Wo_fillRepairs 24 = .ok (.iadd, 1) := by decide +kernel
theorem d_Wo_fillRepairs_25 : decode c_Wo_fillRepairs 25 = .ok (.iconst 0, 1) := by decide +kernel
theorem d_Wo_fillRepairs_26 : decode c_Wo_fillRepairs 26 = .ok (.invokestatic 69, 3) := by decide +kernel
theorem d_Wo_fillRepairs_29 : decode c_Wo_fillRepairs 29 = .ok (.aload_n 0, 1) := by decide +kernel
theorem d_Wo_fillRepairs_30 : decode c_Wo_fillRepairs 30 = .ok (.getfield 34, 3) := by decide +kernel
theorem d_Wo_fillRepairs_33 : decode c_Wo_fillRepairs 33 = .ok (.iconst 1, 1) := by decide +kernel
theorem d_Wo_fillRepairs_34 : decode c_Wo_fillRepairs 34 = .ok (.isub, 1) := by decide +kernel
theorem d_Wo_fillRepairs_35 : decode c_Wo_fillRepairs 35 = .ok (.istore_n 1, 1) := by decide +kernel
theorem d_Wo_fillRepairs_36 : decode c_Wo_fillRepairs 36 = .ok (.iconst 0, 1) := by decide +kernel
theorem d_Wo_fillRepairs_37 : decode c_Wo_fillRepairs 37 = .ok (.istore_n 2, 1) := by decide +kernel
theorem d_Wo_fillRepairs_38 : decode c_Wo_fillRepairs 38 = .ok (.iload_n 2, 1) := by decide +kernel
theorem d_Wo_fillRepairs_39 : decode c_Wo_fillRepairs 39 = .ok (.aload_n 0, 1) := by decide +kernel
theorem d_Wo_fillRepairs_40 : decode c_Wo_fillRepairs 40 = .ok (.getfield 30, 3) := by decide +kernel
theorem d_Wo_fillRepairs_43 : decode c_Wo_fillRepairs 43 = .ok (.if_icmp .ge 110, 3) := by decide +kernel
theorem d_Wo_fillRepairs_46 : decode c_Wo_fillRepairs 46 = .ok (.aload_n 0, 1) := by decide +kernel
theorem d_Wo_fillRepairs_47 : decode c_Wo_fillRepairs 47 = .ok (.getfield 9, 3) := by decide +kernel
theorem d_Wo_fillRepairs_50 : decode c_Wo_fillRepairs 50 = .ok (.iload_n 2, 1) := by decide +kernel
theorem d_Wo_fillRepairs_51 : decode c_Wo_fillRepairs 51 = .ok (.iaload, 1) := by decide +kernel
theorem d_Wo_fillRepairs_52 : decode c_Wo_fillRepairs 52 = .ok (.aload_n 0, 1) := by decide +kernel
theorem d_Wo_fillRepairs_53 : decode c_Wo_fillRepairs 53 = .ok (.getfield 9, 3) := by decide +kernel
theorem d_Wo_fillRepairs_56 : decode c_Wo_fillRepairs 56 = .ok (.aload_n 0, 1) := by decide +kernel
theorem d_Wo_fillRepairs_57 : decode c_Wo_fillRepairs 57 = .ok (.getfield 30, 3) := by decide +kernel
theorem d_Wo_fillRepairs_60 : decode c_Wo_fillRepairs 60 = .ok (.iaload, 1) := by decide +kernel
theorem d_Wo_fillRepairs_61 : decode c_Wo_fillRepairs 61 = .ok (.ixor, 1) := by decide +kernel
theorem d_Wo_fillRepairs_62 : decode c_Wo_fillRepairs 62 = .ok (.istore_n 3, 1) := by decide +kernel
theorem d_Wo_fillRepairs_63 : decode c_Wo_fillRepairs 63 = .ok (.iconst 0, 1) := by decide +kernel
theorem d_Wo_fillRepairs_64 : decode c_Wo_fillRepairs 64 = .ok (.istore 4, 2) := by decide +kernel
theorem d_Wo_fillRepairs_66 : decode c_Wo_fillRepairs 66 = .ok (.iload 4, 2) := by decide +kernel
theorem d_Wo_fillRepairs_68 : decode c_Wo_fillRepairs 68 = .ok (.iload_n 1, 1) := by decide +kernel
theorem d_Wo_fillRepairs_69 : decode c_Wo_fillRepairs 69 = .ok (.if_icmp .ge 53, 3) := by decide +kernel
theorem d_Wo_fillRepairs_72 : decode c_Wo_fillRepairs 72 = .ok (.aload_n 0, 1) := by decide +kernel
theorem d_Wo_fillRepairs_73 : decode c_Wo_fillRepairs 73 = .ok (.getfield 9, 3) := by decide +kernel
theorem d_Wo_fillRepairs_76 : decode c_Wo_fillRepairs 76 = .ok (.aload_n 0, 1) := by decide +kernel
theorem d_Wo_fillRepairs_77 : decode c_Wo_fillRepairs 77 = .ok (.getfield 30, 3) := by decide +kernel
theorem d_Wo_fillRepairs_80 : decode c_Wo_fillRepairs 80 = .ok (.iload 4, 2) := by decide +kernel
theorem d_Wo_fillRepairs_82 : decode c_Wo_fillRepairs 82 = .ok (.iadd, 1) := by decide +kernel
theorem d_Wo_fillRepairs_83 : decode c_Wo_fillRepairs 83 = .ok (.aload_n 0, 1) := by decide +kernel
theorem d_Wo_fillRepairs_84 : decode c_Wo_fillRepairs 84 = .ok (.getfield 9, 3) := by decide +kernel
theorem d_Wo_fillRepairs_87 : decode c_Wo_fillRepairs 87 = .ok (.aload_n 0, 1) := by decide +kernel
theorem d_Wo_fillRepairs_88 : decode c_Wo_fillRepairs 88 = .ok (.getfield 30, 3) := by decide +kernel
theorem d_Wo_fillRepairs_91 : decode c_Wo_fillRepairs 91 = .ok (.iload 4, 2) := by decide +kernel
theorem d_Wo_fillRepairs_93 : decode c_Wo_fillRepairs 93 = .ok (.iadd, 1) := by decide +kernel
theorem d_Wo_fillRepairs_94 : decode c_Wo_fillRepairs 94 = .ok (.iconst 1, 1) := by decide +kernel
theorem d_Wo_fillRepairs_95 : decode c_Wo_fillRepairs 95 = .ok (.iadd, 1) := by decide +kernel
theorem d_Wo_fillRepairs_96 : decode c_Wo_fillRepairs 96 = .ok (.iaload, 1) := by decide +kernel
theorem d_Wo_fillRepairs_97 : decode c_Wo_fillRepairs 97 = .ok (.aload_n 0, 1) := by decide +kernel
theorem d_Wo_fillRepairs_98 : decode c_Wo_fillRepairs 98 = .ok (.getfield 22, 3) := by decide +kernel
theorem d_Wo_fillRepairs_101 : decode c_Wo_fillRepairs 101 = .ok (.iload_n 3, 1) := by decide +kernel
theorem d_Wo_fillRepairs_102 : decode c_Wo_fillRepairs 102 = .ok (.aload_n 0, 1) := by decide +kernel
theorem d_Wo_fillRepairs_103 : decode c_Wo_fillRepairs 103 = .ok (.getfield 19, 3) := by decide +kernel
theorem d_Wo_fillRepairs_106 : decode c_Wo_fillRepairs 106 = .ok (.iload_n 1, 1) := by decide +kernel
theorem d_Wo_fillRepairs_107 : decode c_Wo_fillRepairs 107 = .ok (.iload 4, 2) := by decide +kernel
theorem d_Wo_fillRepairs_109 : decode c_Wo_fillRepairs 109 = .ok (.isub, 1) := by decide +kernel
theorem d_Wo_fillRepairs_110 : decode c_Wo_fillRepairs 110 = .ok (.iaload, 1) := by decide +kernel
theorem d_Wo_fillRepairs_111 : decode c_Wo_fillRepairs 111 = .ok (.invokevirtual 58, 3) := by decide +kernel
theorem d_Wo_fillRepairs_114 : decode c_Wo_fillRepairs 114 = .ok (.ixor, 1) := by decide +kernel
theorem d_Wo_fillRepairs_115 : decode c_Wo_fillRepairs 115 = .ok (.iastore, 1) := by decide +kernel
theorem d_Wo_fillRepairs_116 : decode c_Wo_fillRepairs 116 = .ok (.iinc 4 1, 3) := by decide +kernel
theorem d_Wo_fillRepairs_119 : decode c_Wo_fillRepairs 119 = .ok (.goto (-53), 3) := by decide +kernel
theorem d_Wo_fillRepairs_122 : decode c_Wo_fillRepairs 122 = .ok (.aload_n 0, 1) := by decide +kernel
theorem d_Wo_fillRepairs_123 : decode c_Wo_fillRepairs 123 = .ok (.getfield 9, 3) := by decide +kernel
theorem d_Wo_fillRepairs_126 : decode c_Wo_fillRepairs 126 = .ok (.aload_n 0, 1) := by decide +kernel
theorem d_Wo_fillRepairs_127 : decode c_Wo_fillRepairs 127 = .ok (.getfield 30, 3) := by decide +kernel
theorem d_Wo_fillRepairs_130 : decode c_Wo_fillRepairs 130 = .ok (.iload_n 1, 1) := by decide +kernel
theorem d_Wo_fillRepairs_131 : decode c_Wo_fillRepairs 131 = .ok (.iadd, 1) := by decide +kernel
theorem d_Wo_fillRepairs_132 : decode c_Wo_fillRepairs 132 = .ok (.aload_n 0, 1) := by decide +kernel
theorem d_Wo_fillRepairs_133 : decode c_Wo_fillRepairs 133 = .ok (.getfield 22, 3) := by decide +kernel
theorem d_Wo_fillRepairs_136 : decode c_Wo_fillRepairs 136 = .ok (.iload_n 3, 1) := by decide +kernel
theorem d_Wo_fillRepairs_137 : decode c_Wo_fillRepairs 137 = .ok (.aload_n 0, 1) := by decide +kernel
theorem d_Wo_fillRepairs_138 : decode c_Wo_fillRepairs 138 = .ok (.getfield 19, 3) := by decide +kernel
theorem d_Wo_fillRepairs_141 : decode c_Wo_fillRepairs 141 = .ok (.iconst 0, 1) := by decide +kernel
theorem d_Wo_fillRepairs_142 : decode c_Wo_fillRepairs 142 = .ok (.iaload, 1) := by decide +kernel
theorem d_Wo_fillRepairs_143 : decode c_Wo_fillRepairs 143 = .ok (.invokevirtual 58, 3) := by decide +kernel
theorem d_Wo_fillRepairs_146 : decode c_Wo_fillRepairs 146 = .ok (.iastore, 1) := by decide +kernel
theorem d_Wo_fillRepairs_147 : decode c_Wo_fillRepairs 147 = .ok (.iinc 2 1, 3) := by decide +kernel
theorem d_Wo_fillRepairs_150 : decode c_Wo_fillRepairs 150 = .ok (.goto (-112), 3) := by decide +kernel
theorem d_Wo_fillRepairs_153 : decode c_Wo_fillRepairs 153 = .ok (.return_, 1) := by decide +kernel
theorem ok_Wo_fillRepairs : tb_mV y_Wo_fillRepairs c_Wo_fillRepairs 5 none 0 := ⟨tb_363, tb_42, tb_361, tb_362, by decide +kernel⟩
abbrev c_Wo_valueFor : ByteArray := prog_7_method_10_code
abbrev y_Wo_valueFor : MethodName := ⟨"ReedSets$Word", "valueFor", "(I)I"⟩
theorem d_Wo_valueFor_0 : decode c_Wo_valueFor 0 = .ok (.aload_n 0, 1) := by decide +kernel
theorem d_Wo_valueFor_1 : decode c_Wo_valueFor 1 = .ok (.getfield 22, 3) := by decide +kernel
theorem d_Wo_valueFor_4 : decode c_Wo_valueFor 4 = .ok (.iload_n 1, 1) := by decide +kernel
theorem d_Wo_valueFor_5 : decode c_Wo_valueFor 5 = .ok (.invokevirtual 52, 3) := by decide +kernel
theorem d_Wo_valueFor_8 : decode c_Wo_valueFor 8 = .ok (.istore_n 2, 1) := by decide +kernel
theorem d_Wo_valueFor_9 : decode c_Wo_valueFor 9 = .ok (.iconst 0, 1) := by decide +kernel
theorem d_Wo_valueFor_10 : decode c_Wo_valueFor 10 = .ok (.istore_n 3, 1) := by decide +kernel
theorem d_Wo_valueFor_11 : decode c_Wo_valueFor 11 = .ok (.iconst 0, 1) := by decide +kernel
theorem d_Wo_valueFor_12 : decode c_Wo_valueFor 12 = .ok (.istore 4, 2) := by decide +kernel
theorem d_Wo_valueFor_14 : decode c_Wo_valueFor 14 = .ok (.iload 4, 2) := by decide +kernel
theorem d_Wo_valueFor_16 : decode c_Wo_valueFor 16 = .ok (.aload_n 0, 1) := by decide +kernel
theorem d_Wo_valueFor_17 : decode c_Wo_valueFor 17 = .ok (.invokevirtual 62, 3) := by decide +kernel
theorem d_Wo_valueFor_20 : decode c_Wo_valueFor 20 = .ok (.if_icmp .ge 41, 3) := by decide +kernel
theorem d_Wo_valueFor_23 : decode c_Wo_valueFor 23 = .ok (.aload_n 0, 1) := by decide +kernel
theorem d_Wo_valueFor_24 : decode c_Wo_valueFor 24 = .ok (.getfield 22, 3) := by decide +kernel
theorem d_Wo_valueFor_27 : decode c_Wo_valueFor 27 = .ok (.iload_n 3, 1) := by decide +kernel
theorem d_Wo_valueFor_28 : decode c_Wo_valueFor 28 = .ok (.iload_n 2, 1) := by decide +kernel
theorem d_Wo_valueFor_29 : decode c_Wo_valueFor 29 = .ok (.invokevirtual 58, 3) := by decide +kernel
theorem d_Wo_valueFor_32 : decode c_Wo_valueFor 32 = .ok (.aload_n 0, 1) := by decide +kernel
theorem d_Wo_valueFor_33 : decode c_Wo_valueFor 33 = .ok (.getfield 15, 3) := by decide +kernel
theorem d_Wo_valueFor_36 : decode c_Wo_valueFor 36 = .ok (.iload 4, 2) := by decide +kernel
theorem d_Wo_valueFor_38 : decode c_Wo_valueFor 38 = .ok (.baload, 1) := by decide +kernel
theorem d_Wo_valueFor_39 : decode c_Wo_valueFor 39 = .ok (.ifCond .eq 7, 3) := by decide +kernel
theorem d_Wo_valueFor_42 : decode c_Wo_valueFor 42 = .ok (.iconst 0, 1) := by decide +kernel
theorem d_Wo_valueFor_43 : decode c_Wo_valueFor 43 = .ok (.goto 10, 3) := by decide +kernel
theorem d_Wo_valueFor_46 : decode c_Wo_valueFor 46 = .ok (.aload_n 0, 1) := by decide +kernel
theorem d_Wo_valueFor_47 : decode c_Wo_valueFor 47 = .ok (.getfield 9, 3) := by decide +kernel
theorem d_Wo_valueFor_50 : decode c_Wo_valueFor 50 = .ok (.iload 4, 2) := by decide +kernel
theorem d_Wo_valueFor_52 : decode c_Wo_valueFor 52 = .ok (.iaload, 1) := by decide +kernel
theorem d_Wo_valueFor_53 : decode c_Wo_valueFor 53 = .ok (.ixor, 1) := by decide +kernel
theorem d_Wo_valueFor_54 : decode c_Wo_valueFor 54 = .ok (.istore_n 3, 1) := by decide +kernel
theorem d_Wo_valueFor_55 : decode c_Wo_valueFor 55 = .ok (.iinc 4 1, 3) := by decide +kernel
theorem d_Wo_valueFor_58 : decode c_Wo_valueFor 58 = .ok (.goto (-44), 3) := by decide +kernel
theorem d_Wo_valueFor_61 : decode c_Wo_valueFor 61 = .ok (.iload_n 3, 1) := by decide +kernel
theorem d_Wo_valueFor_62 : decode c_Wo_valueFor 62 = .ok (.ireturn, 1) := by decide +kernel
theorem ok_Wo_valueFor : tb_mV y_Wo_valueFor c_Wo_valueFor 5 (some .int) 1 := ⟨tb_386, tb_42, tb_384, tb_385, by decide +kernel⟩
abbrev c_Wo_powerAt : ByteArray := prog_7_method_11_code
abbrev y_Wo_powerAt : MethodName := ⟨"ReedSets$Word", "powerAt", "(I)I"⟩
theorem d_Wo_powerAt_0 : decode c_Wo_powerAt 0 = .ok (.aload_n 0, 1) := by decide +kernel
theorem d_Wo_powerAt_1 : decode c_Wo_powerAt 1 = .ok (.invokevirtual 62, 3) := by decide +kernel
theorem d_Wo_powerAt_4 : decode c_Wo_powerAt 4 = .ok (.iconst 1, 1) := by decide +kernel
theorem d_Wo_powerAt_5 : decode c_Wo_powerAt 5 = .ok (.isub, 1) := by decide +kernel
theorem d_Wo_powerAt_6 : decode c_Wo_powerAt 6 = .ok (.iload_n 1, 1) := by decide +kernel
theorem d_Wo_powerAt_7 : decode c_Wo_powerAt 7 = .ok (.isub, 1) := by decide +kernel
theorem d_Wo_powerAt_8 : decode c_Wo_powerAt 8 = .ok (.ireturn, 1) := by decide +kernel
theorem ok_Wo_powerAt : tb_mV y_Wo_powerAt c_Wo_powerAt 2 (some .int) 1 := ⟨tb_409, tb_42, tb_407, tb_408, by decide +kernel⟩
abbrev c_Math_min : ByteArray := prog_10_method_69_code
abbrev y_Math_min : MethodName := ⟨"java/lang/Math", "min", "(II)I"⟩
theorem d_Math_min_0 : decode c_Math_min 0 = .ok (.iload_n 0, 1) := by decide +kernel
theorem d_Math_min_1 : decode c_Math_min 1 = .ok (.iload_n 1, 1) := by decide +kernel
theorem d_Math_min_2 : decode c_Math_min 2 = .ok (.if_icmp .gt 7, 3) := by decide +kernel
theorem d_Math_min_5 : decode c_Math_min 5 = .ok (.iload_n 0, 1) := by decide +kernel
theorem d_Math_min_6 : decode c_Math_min 6 = .ok (.goto 4, 3) := by decide +kernel
theorem d_Math_min_9 : decode c_Math_min 9 = .ok (.iload_n 1, 1) := by decide +kernel
theorem d_Math_min_10 : decode c_Math_min 10 = .ok (.ireturn, 1) := by decide +kernel
theorem ok_Math_min : tb_mS y_Math_min c_Math_min 2 (some .int) 2 := ⟨tb_446, tb_49, tb_445, by decide +kernel⟩
abbrev c_Fi_valueOf : ByteArray := prog_3_method_8_code
abbrev y_Fi_valueOf : MethodName := ⟨"ReedSets$Field", "valueOf", "([III)I"⟩
theorem d_Fi_valueOf_0 : decode c_Fi_valueOf 0 = .ok (.iconst 0, 1) := by decide +kernel
theorem d_Fi_valueOf_1 : decode c_Fi_valueOf 1 = .ok (.istore 4, 2) := by decide +kernel
theorem d_Fi_valueOf_3 : decode c_Fi_valueOf 3 = .ok (.iload_n 2, 1) := by decide +kernel
theorem d_Fi_valueOf_4 : decode c_Fi_valueOf 4 = .ok (.aload_n 1, 1) := by decide +kernel
theorem d_Fi_valueOf_5 : decode c_Fi_valueOf 5 = .ok (.arraylength, 1) := by decide +kernel
theorem d_Fi_valueOf_6 : decode c_Fi_valueOf 6 = .ok (.invokestatic 28, 3) := by decide +kernel
theorem d_Fi_valueOf_9 : decode c_Fi_valueOf 9 = .ok (.iconst 1, 1) := by decide +kernel
theorem d_Fi_valueOf_10 : decode c_Fi_valueOf 10 = .ok (.isub, 1) := by decide +kernel
theorem d_Fi_valueOf_11 : decode c_Fi_valueOf 11 = .ok (.istore 5, 2) := by decide +kernel
theorem d_Fi_valueOf_13 : decode c_Fi_valueOf 13 = .ok (.iload 5, 2) := by decide +kernel
theorem d_Fi_valueOf_15 : decode c_Fi_valueOf 15 = .ok (.ifCond .lt 23, 3) := by decide +kernel
theorem d_Fi_valueOf_18 : decode c_Fi_valueOf 18 = .ok (.aload_n 0, 1) := by decide +kernel
theorem d_Fi_valueOf_19 : decode c_Fi_valueOf 19 = .ok (.iload 4, 2) := by decide +kernel
theorem d_Fi_valueOf_21 : decode c_Fi_valueOf 21 = .ok (.iload_n 3, 1) := by decide +kernel
theorem d_Fi_valueOf_22 : decode c_Fi_valueOf 22 = .ok (.invokevirtual 31, 3) := by decide +kernel
theorem d_Fi_valueOf_25 : decode c_Fi_valueOf 25 = .ok (.aload_n 1, 1) := by decide +kernel
theorem d_Fi_valueOf_26 : decode c_Fi_valueOf 26 = .ok (.iload 5, 2) := by decide +kernel
theorem d_Fi_valueOf_28 : decode c_Fi_valueOf 28 = .ok (.iaload, 1) := by decide +kernel
theorem d_Fi_valueOf_29 : decode c_Fi_valueOf 29 = .ok (.ixor, 1) := by decide +kernel
theorem d_Fi_valueOf_30 : decode c_Fi_valueOf 30 = .ok (.istore 4, 2) := by decide +kernel
theorem d_Fi_valueOf_32 : decode c_Fi_valueOf 32 = .ok (.iinc 5 (-1), 3) := by decide +kernel
theorem d_Fi_valueOf_35 : decode c_Fi_valueOf 35 = .ok (.goto (-22), 3) := by decide +kernel
theorem d_Fi_valueOf_38 : decode c_Fi_valueOf 38 = .ok (.iload 4, 2) := by decide +kernel
theorem d_Fi_valueOf_40 : decode c_Fi_valueOf 40 = .ok (.ireturn, 1) := by decide +kernel
theorem ok_Fi_valueOf : tb_mV y_Fi_valueOf c_Fi_valueOf 6 (some .int) 3 := ⟨tb_443, tb_41, tb_441, tb_442, by decide +kernel⟩
abbrev c_Wo_take : ByteArray := prog_7_method_8_code
abbrev y_Wo_take : MethodName := ⟨"ReedSets$Word", "take", "(IIZ)V"⟩
theorem d_Wo_take_0 : decode c_Wo_take 0 = .ok (.aload_n 0, 1) := by decide +kernel
theorem d_Wo_take_1 : decode c_Wo_take 1 = .ok (.getfield 9, 3) := by decide +kernel
theorem d_Wo_take_4 : decode c_Wo_take 4 = .ok (.iload_n 1, 1) := by decide +kernel
theorem d_Wo_take_5 : decode c_Wo_take 5 = .ok (.iload_n 2, 1) := by decide +kernel
theorem d_Wo_take_6 : decode c_Wo_take 6 = .ok (.iastore, 1) := by decide +kernel
theorem d_Wo_take_7 : decode c_Wo_take 7 = .ok (.aload_n 0, 1) := by decide +kernel
theorem d_Wo_take_8 : decode c_Wo_take 8 = .ok (.getfield 15, 3) := by decide +kernel
theorem d_Wo_take_11 : decode c_Wo_take 11 = .ok (.iload_n 1, 1) := by decide +kernel
theorem d_Wo_take_12 : decode c_Wo_take 12 = .ok (.iload_n 3, 1) := by decide +kernel
theorem d_Wo_take_13 : decode c_Wo_take 13 = .ok (.bastore, 1) := by decide +kernel
theorem d_Wo_take_14 : decode c_Wo_take 14 = .ok (.iload_n 3, 1) := by decide +kernel
theorem d_Wo_take_15 : decode c_Wo_take 15 = .ok (.ifCond .eq 13, 3) := by decide +kernel
theorem d_Wo_take_18 : decode c_Wo_take 18 = .ok (.aload_n 0, 1) := by decide +kernel
theorem d_Wo_take_19 : decode c_Wo_take 19 = .ok (.dup, 1) := by decide +kernel
theorem d_Wo_take_20 : decode c_Wo_take 20 = .ok (.getfield 66, 3) := by decide +kernel
theorem d_Wo_take_23 : decode c_Wo_take 23 = .ok (.iconst 1, 1) := by decide +kernel
theorem d_Wo_take_24 : decode c_Wo_take 24 = .ok (.iadd, 1) := by decide +kernel
theorem d_Wo_take_25 : decode c_Wo_take 25 = .ok (.putfield 66, 3) := by decide +kernel
theorem d_Wo_take_28 : decode c_Wo_take 28 = .ok (.return_, 1) := by decide +kernel
theorem ok_Wo_take : tb_mV y_Wo_take c_Wo_take 4 none 3 := ⟨tb_571, tb_42, tb_569, tb_570, by decide +kernel⟩
