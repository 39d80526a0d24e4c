abbrev c_Fi_init : ByteArray := prog_3_method_1_code
abbrev y_Fi_init : MethodName := ⟨"ReedSets$Field", "<init>", "()V"⟩
theorem d_Fi_init_0 : decode c_Fi_init 0 = .ok (.aload_n 0, 1) := by decide +kernel
theorem d_Fi_init_1 : decode c_Fi_init 1 = .ok (.invokespecial 3, 3) := by decide +kernel
theorem d_Fi_init_4 : decode c_Fi_init 4 = .ok (.aload_n 0, 1) := by decide +kernel
theorem d_Fi_init_5 : decode c_Fi_init 5 = .ok (.sipush 512, 3) := by decide +kernel
theorem d_Fi_init_8 : decode c_Fi_init 8 = .ok (.newarray .int, 2) := by decide +kernel
theorem d_Fi_init_10 : decode c_Fi_init 10 = .ok (.putfield 9, 3) := by decide +kernel
theorem d_Fi_init_13 : decode c_Fi_init 13 = .ok (.aload_n 0, 1) := by decide +kernel
theorem d_Fi_init_14 : decode c_Fi_init 14 = .ok (.sipush 256, 3) := by decide +kernel
theorem d_Fi_init_17 : decode c_Fi_init 17 = .ok (.newarray .int, 2) := by decide +kernel
theorem d_Fi_init_19 : decode c_Fi_init 19 = .ok (.putfield 15, 3) := by decide +kernel
theorem d_Fi_init_22 : decode c_Fi_init 22 = .ok (.iconst 1, 1) := by decide +kernel
theorem d_Fi_init_23 : decode c_Fi_init 23 = .ok (.istore_n 1, 1) := by decide +kernel
theorem d_Fi_init_24 : decode c_Fi_init 24 = .ok (.iconst 0, 1) := by decide +kernel
theorem d_Fi_init_25 : decode c_Fi_init 25 = .ok (.istore_n 2, 1) := by decide +kernel
theorem d_Fi_init_26 : decode c_Fi_init 26 = .ok (.iload_n 2, 1) := by decide +kernel
theorem d_Fi_init_27 : decode c_Fi_init 27 = .ok (.sipush 255, 3) := by decide +kernel
theorem d_Fi_init_30 : decode c_Fi_init 30 = .ok (.if_icmp .ge 55, 3) := by decide +kernel
theorem d_Fi_init_33 : decode c_Fi_init 33 = .ok (.aload_n 0, 1) := by decide +kernel
theorem d_Fi_init_34 : decode c_Fi_init 34 = .ok (.getfield 9, 3) := by decide +kernel
theorem d_Fi_init_37 : decode c_Fi_init 37 = .ok (.iload_n 2, 1) := by decide +kernel
theorem d_Fi_init_38 : decode c_Fi_init 38 = .ok (.iload_n 1, 1) := by decide +kernel
theorem d_Fi_init_39 : decode c_Fi_init 39 = .ok (.iastore, 1) := by decide +kernel
theorem d_Fi_init_40 : decode c_Fi_init 40 = .ok (.aload_n 0, 1) := by decide +kernel
theorem d_Fi_init_41 : decode c_Fi_init 41 = .ok (.getfield 9, 3) := by decide +kernel
theorem d_Fi_init_44 : decode c_Fi_init 44 = .ok (.iload_n 2, 1) := by decide +kernel
theorem d_Fi_init_45 : decode c_Fi_init 45 = .ok (.sipush 255, 3) := by decide +kernel
theorem d_Fi_init_48 : decode c_Fi_init 48 = .ok (.iadd, 1) := by decide +kernel
theorem d_Fi_init_49 : decode c_Fi_init 49 = .ok (.iload_n 1, 1) := by decide +kernel
theorem d_Fi_init_50 : decode c_Fi_init 50 = .ok (.iastore, 1) := by decide +kernel
theorem d_Fi_init_51 : decode c_Fi_init 51 = .ok (.aload_n 0, 1) := by decide +kernel
theorem d_Fi_init_52 : decode c_Fi_init 52 = .ok (.getfield 15, 3) := by decide +kernel
theorem d_Fi_init_55 : decode c_Fi_init 55 = .ok (.iload_n 1, 1) := by decide +kernel
theorem d_Fi_init_56 : decode c_Fi_init 56 = .ok (.sipush 255, 3) := by decide +kernel
theorem d_Fi_init_59 : decode c_Fi_init 59 = .ok (.iand, 1) := by decide +kernel
theorem d_Fi_init_60 : decode c_Fi_init 60 = .ok (.iload_n 2, 1) := by decide +kernel
theorem d_Fi_init_61 : decode c_Fi_init 61 = .ok (.iastore, 1) := by decide +kernel
theorem d_Fi_init_62 : decode c_Fi_init 62 = .ok (.iload_n 1, 1) := by decide +kernel
theorem d_Fi_init_63 : decode c_Fi_init 63 = .ok (.iconst 1, 1) := by decide +kernel
theorem d_Fi_init_64 : decode c_Fi_init 64 = .ok (.ishl, 1) := by decide +kernel
theorem d_Fi_init_65 : decode c_Fi_init 65 = .ok (.istore_n 1, 1) := by decide +kernel
theorem d_Fi_init_66 : decode c_Fi_init 66 = .ok (.iload_n 1, 1) := by decide +kernel
theorem d_Fi_init_67 : decode c_Fi_init 67 = .ok (.sipush 256, 3) := by decide +kernel
theorem d_Fi_init_70 : decode c_Fi_init 70 = .ok (.if_icmp .lt 9, 3) := by decide +kernel
theorem d_Fi_init_73 : decode c_Fi_init 73 = .ok (.iload_n 1, 1) := by decide +kernel
theorem d_Fi_init_74 : decode c_Fi_init 74 = .ok (.sipush 285, 3) := by decide +kernel
theorem d_Fi_init_77 : decode c_Fi_init 77 = .ok (.ixor, 1) := by decide +kernel
theorem d_Fi_init_78 : decode c_Fi_init 78 = .ok (.istore_n 1, 1) := by decide +kernel
theorem d_Fi_init_79 : decode c_Fi_init 79 = .ok (.iinc 2 1, 3) := by decide +kernel
theorem d_Fi_init_82 : decode c_Fi_init 82 = .ok (.goto (-56), 3) := by decide +kernel
theorem d_Fi_init_85 : decode c_Fi_init 85 = .ok (.return_, 1) := by decide +kernel
theorem ok_Fi_init : tb_mI y_Fi_init c_Fi_init 3 0 := ⟨tb_63, tb_41, tb_62, rfl, by decide +kernel⟩
abbrev c_Ch_init : ByteArray := prog_2_method_1_code
abbrev y_Ch_init : MethodName := ⟨"ReedSets$Changes", "<init>", "()V"⟩
theorem d_Ch_init_0 : decode c_Ch_init 0 = .ok (.aload_n 0, 1) := by decide +kernel
theorem d_Ch_init_1 : decode c_Ch_init 1 = .ok (.invokespecial 3, 3) := by decide +kernel
theorem d_Ch_init_4 : decode c_Ch_init 4 = .ok (.aload_n 0, 1) := by decide +kernel
theorem d_Ch_init_5 : decode c_Ch_init 5 = .ok (.bipush 40, 2) := by decide +kernel
theorem d_Ch_init_7 : decode c_Ch_init 7 = .ok (.newarray .int, 2) := by decide +kernel
theorem d_Ch_init_9 : decode c_Ch_init 9 = .ok (.putfield 9, 3) := by decide +kernel
theorem d_Ch_init_12 : decode c_Ch_init 12 = .ok (.aload_n 0, 1) := by decide +kernel
theorem d_Ch_init_13 : decode c_Ch_init 13 = .ok (.bipush 40, 2) := by decide +kernel
theorem d_Ch_init_15 : decode c_Ch_init 15 = .ok (.newarray .int, 2) := by decide +kernel
theorem d_Ch_init_17 : decode c_Ch_init 17 = .ok (.putfield 15, 3) := by decide +kernel
theorem d_Ch_init_20 : decode c_Ch_init 20 = .ok (.return_, 1) := by decide +kernel
theorem ok_Ch_init : tb_mI y_Ch_init c_Ch_init 1 0 := ⟨tb_181, tb_45, tb_180, rfl, by decide +kernel⟩
abbrev c_So_init : ByteArray := prog_5_method_1_code
abbrev y_So_init : MethodName := ⟨"ReedSets$Solver", "<init>", "(LReedSets$Field;)V"⟩
theorem d_So_init_0 : decode c_So_init 0 = .ok (.aload_n 0, 1) := by decide +kernel
theorem d_So_init_1 : decode c_So_init 1 = .ok (.invokespecial 3, 3) := by decide +kernel
theorem d_So_init_4 : decode c_So_init 4 = .ok (.aload_n 0, 1) := by decide +kernel
theorem d_So_init_5 : decode c_So_init 5 = .ok (.bipush 40, 2) := by decide +kernel
theorem d_So_init_7 : decode c_So_init 7 = .ok (.newarray .int, 2) := by decide +kernel
theorem d_So_init_9 : decode c_So_init 9 = .ok (.putfield 9, 3) := by decide +kernel
theorem d_So_init_12 : decode c_So_init 12 = .ok (.aload_n 0, 1) := by decide +kernel
theorem d_So_init_13 : decode c_So_init 13 = .ok (.bipush 41, 2) := by decide +kernel
theorem d_So_init_15 : decode c_So_init 15 = .ok (.newarray .int, 2) := by decide +kernel
theorem d_So_init_17 : decode c_So_init 17 = .ok (.putfield 15, 3) := by decide +kernel
theorem d_So_init_20 : decode c_So_init 20 = .ok (.aload_n 0, 1) := by decide +kernel
theorem d_So_init_21 : decode c_So_init 21 = .ok (.bipush 41, 2) := by decide +kernel
theorem d_So_init_23 : decode c_So_init 23 = .ok (.newarray .int, 2) := by decide +kernel
theorem d_So_init_25 : decode c_So_init 25 = .ok (.putfield 18, 3) := by decide +kernel
theorem d_So_init_28 : decode c_So_init 28 = .ok (.aload_n 0, 1) := by decide +kernel
theorem d_So_init_29 : decode c_So_init 29 = .ok (.bipush 41, 2) := by decide +kernel
theorem d_So_init_31 : decode c_So_init 31 = .ok (.newarray .int, 2) := by decide +kernel
theorem d_So_init_33 : decode c_So_init 33 = .ok (.putfield 21, 3) := by decide +kernel
theorem d_So_init_36 : decode c_So_init 36 = .ok (.aload_n 0, 1) := by decide +kernel
theorem d_So_init_37 : decode c_So_init 37 = .ok (.bipush 41, 2) := by decide +kernel
theorem d_So_init_39 : decode c_So_init 39 = .ok (.newarray .int, 2) := by decide +kernel
theorem d_So_init_41 : decode c_So_init 41 = .ok (.putfield 24, 3) := by decide +kernel
theorem d_So_init_44 : decode c_So_init 44 = .ok (.aload_n 0, 1) := by decide +kernel
theorem d_So_init_45 : decode c_So_init 45 = .ok (.bipush 40, 2) := by decide +kernel
theorem d_So_init_47 : decode c_So_init 47 = .ok (.newarray .int, 2) := by decide +kernel
theorem d_So_init_49 : decode c_So_init 49 = .ok (.putfield 27, 3) := by decide +kernel
theorem d_So_init_52 : decode c_So_init 52 = .ok (.aload_n 0, 1) := by decide +kernel
theorem d_So_init_53 : decode c_So_init 53 = .ok (.bipush 40, 2) := by decide +kernel
theorem d_So_init_55 : decode c_So_init 55 = .ok (.newarray .int, 2) := by decide +kernel
theorem d_So_init_57 : decode c_So_init 57 = .ok (.putfield 30, 3) := by decide +kernel
theorem d_So_init_60 : decode c_So_init 60 = .ok (.aload_n 0, 1) := by decide +kernel
theorem d_So_init_61 : decode c_So_init 61 = .ok (.aload_n 1, 1) := by decide +kernel
theorem d_So_init_62 : decode c_So_init 62 = .ok (.putfield 33, 3) := by decide +kernel
theorem d_So_init_65 : decode c_So_init 65 = .ok (.return_, 1) := by decide +kernel
theorem ok_So_init : tb_mI y_So_init c_So_init 2 1 := ⟨tb_145, tb_44, tb_144, rfl, by decide +kernel⟩
abbrev c_Wo_init : ByteArray := prog_7_method_1_code
abbrev y_Wo_init : MethodName := ⟨"ReedSets$Word", "<init>", "(LReedSets$Field;)V"⟩
theorem d_Wo_init_0 : decode c_Wo_init 0 = .ok (.aload_n 0, 1) := by decide +kernel
theorem d_Wo_init_1 : decode c_Wo_init 1 = .ok (.invokespecial 3, 3) := by decide +kernel
theorem d_Wo_init_4 : decode c_Wo_init 4 = .ok (.aload_n 0, 1) := by decide +kernel
theorem d_Wo_init_5 : decode c_Wo_init 5 = .ok (.sipush 240, 3) := by decide +kernel
theorem d_Wo_init_8 : decode c_Wo_init 8 = .ok (.newarray .int, 2) := by decide +kernel
theorem d_Wo_init_10 : decode c_Wo_init 10 = .ok (.putfield 9, 3) := by decide +kernel
theorem d_Wo_init_13 : decode c_Wo_init 13 = .ok (.aload_n 0, 1) := by decide +kernel
theorem d_Wo_init_14 : decode c_Wo_init 14 = .ok (.sipush 240, 3) := by decide +kernel
theorem d_Wo_init_17 : decode c_Wo_init 17 = .ok (.newarray .boolean, 2) := by decide +kernel
theorem d_Wo_init_19 : decode c_Wo_init 19 = .ok (.putfield 15, 3) := by decide +kernel
theorem d_Wo_init_22 : decode c_Wo_init 22 = .ok (.aload_n 0, 1) := by decide +kernel
theorem d_Wo_init_23 : decode c_Wo_init 23 = .ok (.bipush 41, 2) := by decide +kernel
theorem d_Wo_init_25 : decode c_Wo_init 25 = .ok (.newarray .int, 2) := by decide +kernel
theorem d_Wo_init_27 : decode c_Wo_init 27 = .ok (.putfield 19, 3) := by decide +kernel
theorem d_Wo_init_30 : decode c_Wo_init 30 = .ok (.aload_n 0, 1) := by decide +kernel
theorem d_Wo_init_31 : decode c_Wo_init 31 = .ok (.aload_n 1, 1) := by decide +kernel
theorem d_Wo_init_32 : decode c_Wo_init 32 = .ok (.putfield 22, 3) := by decide +kernel
theorem d_Wo_init_35 : decode c_Wo_init 35 = .ok (.aload_n 0, 1) := by decide +kernel
theorem d_Wo_init_36 : decode c_Wo_init 36 = .ok (.iconst 1, 1) := by decide +kernel
theorem d_Wo_init_37 : decode c_Wo_init 37 = .ok (.iconst 0, 1) := by decide +kernel
theorem d_Wo_init_38 : decode c_Wo_init 38 = .ok (.iconst 0, 1) := by decide +kernel
theorem d_Wo_init_39 : decode c_Wo_init 39 = .ok (.invokevirtual 26, 3) := by decide +kernel
theorem d_Wo_init_42 : decode c_Wo_init 42 = .ok (.return_, 1) := by decide +kernel
theorem ok_Wo_init : tb_mI y_Wo_init c_Wo_init 2 1 := ⟨tb_77, tb_42, tb_76, rfl, by decide +kernel⟩
abbrev c_St_init : ByteArray := prog_6_method_1_code
abbrev y_St_init : MethodName := ⟨"ReedSets$Striped", "<init>", "(LReedSets$Field;)V"⟩
theorem d_St_init_0 : decode c_St_init 0 = .ok (.aload_n 0, 1) := by decide +kernel
theorem d_St_init_1 : decode c_St_init 1 = .ok (.invokespecial 3, 3) := by decide +kernel
theorem d_St_init_4 : decode c_St_init 4 = .ok (.aload_n 0, 1) := by decide +kernel
theorem d_St_init_5 : decode c_St_init 5 = .ok (.sipush 800, 3) := by decide +kernel
theorem d_St_init_8 : decode c_St_init 8 = .ok (.newarray .int, 2) := by decide +kernel
theorem d_St_init_10 : decode c_St_init 10 = .ok (.putfield 9, 3) := by decide +kernel
theorem d_St_init_13 : decode c_St_init 13 = .ok (.aload_n 0, 1) := by decide +kernel
theorem d_St_init_14 : decode c_St_init 14 = .ok (.sipush 1440, 3) := by decide +kernel
theorem d_St_init_17 : decode c_St_init 17 = .ok (.newarray .int, 2) := by decide +kernel
theorem d_St_init_19 : decode c_St_init 19 = .ok (.putfield 15, 3) := by decide +kernel
theorem d_St_init_22 : decode c_St_init 22 = .ok (.aload_n 0, 1) := by decide +kernel
theorem d_St_init_23 : decode c_St_init 23 = .ok (.sipush 1440, 3) := by decide +kernel
theorem d_St_init_26 : decode c_St_init 26 = .ok (.newarray .boolean, 2) := by decide +kernel
theorem d_St_init_28 : decode c_St_init 28 = .ok (.putfield 18, 3) := by decide +kernel
theorem d_St_init_31 : decode c_St_init 31 = .ok (.aload_n 0, 1) := by decide +kernel
theorem d_St_init_32 : decode c_St_init 32 = .ok (.sipush 1440, 3) := by decide +kernel
theorem d_St_init_35 : decode c_St_init 35 = .ok (.newarray .int, 2) := by decide +kernel
theorem d_St_init_37 : decode c_St_init 37 = .ok (.putfield 22, 3) := by decide +kernel
theorem d_St_init_40 : decode c_St_init 40 = .ok (.aload_n 0, 1) := by decide +kernel
theorem d_St_init_41 : decode c_St_init 41 = .ok (.new 25, 3) := by decide +kernel
theorem d_St_init_44 : decode c_St_init 44 = .ok (.dup, 1) := by decide +kernel
theorem d_St_init_45 : decode c_St_init 45 = .ok (.aload_n 1, 1) := by decide +kernel
theorem d_St_init_46 : decode c_St_init 46 = .ok (.invokespecial 27, 3) := by decide +kernel
theorem d_St_init_49 : decode c_St_init 49 = .ok (.putfield 30, 3) := by decide +kernel
theorem d_St_init_52 : decode c_St_init 52 = .ok (.return_, 1) := by decide +kernel
theorem ok_St_init : tb_mI y_St_init c_St_init 2 1 := ⟨tb_200, tb_46, tb_199, rfl, by decide +kernel⟩
abbrev c_Sh_init : ByteArray := prog_4_method_1_code
abbrev y_Sh_init : MethodName := ⟨"ReedSets$Sharing", "<init>", "(LReedSets$Field;)V"⟩
theorem d_Sh_init_0 : decode c_Sh_init 0 = .ok (.aload_n 0, 1) := by decide +kernel
theorem d_Sh_init_1 : decode c_Sh_init 1 = .ok (.invokespecial 3, 3) := by decide +kernel
theorem d_Sh_init_4 : decode c_Sh_init 4 = .ok (.aload_n 0, 1) := by decide +kernel
theorem d_Sh_init_5 : decode c_Sh_init 5 = .ok (.sipush 4096, 3) := by decide +kernel
theorem d_Sh_init_8 : decode c_Sh_init 8 = .ok (.newarray .int, 2) := by decide +kernel
theorem d_Sh_init_10 : decode c_Sh_init 10 = .ok (.putfield 9, 3) := by decide +kernel
theorem d_Sh_init_13 : decode c_Sh_init 13 = .ok (.aload_n 0, 1) := by decide +kernel
theorem d_Sh_init_14 : decode c_Sh_init 14 = .ok (.bipush 20, 2) := by decide +kernel
theorem d_Sh_init_16 : decode c_Sh_init 16 = .ok (.newarray .int, 2) := by decide +kernel
theorem d_Sh_init_18 : decode c_Sh_init 18 = .ok (.putfield 15, 3) := by decide +kernel
theorem d_Sh_init_21 : decode c_Sh_init 21 = .ok (.aload_n 0, 1) := by decide +kernel
theorem d_Sh_init_22 : decode c_Sh_init 22 = .ok (.bipush 20, 2) := by decide +kernel
theorem d_Sh_init_24 : decode c_Sh_init 24 = .ok (.newarray .int, 2) := by decide +kernel
theorem d_Sh_init_26 : decode c_Sh_init 26 = .ok (.putfield 18, 3) := by decide +kernel
theorem d_Sh_init_29 : decode c_Sh_init 29 = .ok (.aload_n 0, 1) := by decide +kernel
theorem d_Sh_init_30 : decode c_Sh_init 30 = .ok (.bipush 20, 2) := by decide +kernel
theorem d_Sh_init_32 : decode c_Sh_init 32 = .ok (.newarray .int, 2) := by decide +kernel
theorem d_Sh_init_34 : decode c_Sh_init 34 = .ok (.putfield 21, 3) := by decide +kernel
theorem d_Sh_init_37 : decode c_Sh_init 37 = .ok (.aload_n 0, 1) := by decide +kernel
theorem d_Sh_init_38 : decode c_Sh_init 38 = .ok (.sipush 256, 3) := by decide +kernel
theorem d_Sh_init_41 : decode c_Sh_init 41 = .ok (.newarray .boolean, 2) := by decide +kernel
theorem d_Sh_init_43 : decode c_Sh_init 43 = .ok (.putfield 24, 3) := by decide +kernel
theorem d_Sh_init_46 : decode c_Sh_init 46 = .ok (.aload_n 0, 1) := by decide +kernel
theorem d_Sh_init_47 : decode c_Sh_init 47 = .ok (.aload_n 1, 1) := by decide +kernel
theorem d_Sh_init_48 : decode c_Sh_init 48 = .ok (.putfield 28, 3) := by decide +kernel
theorem d_Sh_init_51 : decode c_Sh_init 51 = .ok (.aload_n 0, 1) := by decide +kernel
theorem d_Sh_init_52 : decode c_Sh_init 52 = .ok (.iconst 1, 1) := by decide +kernel
theorem d_Sh_init_53 : decode c_Sh_init 53 = .ok (.iconst 1, 1) := by decide +kernel
theorem d_Sh_init_54 : decode c_Sh_init 54 = .ok (.invokevirtual 32, 3) := by decide +kernel
theorem d_Sh_init_57 : decode c_Sh_init 57 = .ok (.return_, 1) := by decide +kernel
theorem ok_Sh_init : tb_mI y_Sh_init c_Sh_init 2 1 := ⟨tb_236, tb_47, tb_235, rfl, by decide +kernel⟩
abbrev c_RS_init : ByteArray := prog_1_method_1_code
abbrev y_RS_init : MethodName := ⟨"ReedSets", "<init>", "()V"⟩
theorem d_RS_init_0 : decode c_RS_init 0 = .ok (.aload_n 0, 1) := by decide +kernel
theorem d_RS_init_1 : decode c_RS_init 1 = .ok (.invokespecial 3, 3) := by decide +kernel
theorem d_RS_init_4 : decode c_RS_init 4 = .ok (.aload_n 0, 1) := by decide +kernel
theorem d_RS_init_5 : decode c_RS_init 5 = .ok (.new 9, 3) := by decide +kernel
theorem d_RS_init_8 : decode c_RS_init 8 = .ok (.dup, 1) := by decide +kernel
theorem d_RS_init_9 : decode c_RS_init 9 = .ok (.invokespecial 11, 3) := by decide +kernel
theorem d_RS_init_12 : decode c_RS_init 12 = .ok (.putfield 12, 3) := by decide +kernel
theorem d_RS_init_15 : decode c_RS_init 15 = .ok (.aload_n 0, 1) := by decide +kernel
theorem d_RS_init_16 : decode c_RS_init 16 = .ok (.new 16, 3) := by decide +kernel
theorem d_RS_init_19 : decode c_RS_init 19 = .ok (.dup, 1) := by decide +kernel
theorem d_RS_init_20 : decode c_RS_init 20 = .ok (.aload_n 0, 1) := by decide +kernel
theorem d_RS_init_21 : decode c_RS_init 21 = .ok (.getfield 12, 3) := by decide +kernel
theorem d_RS_init_24 : decode c_RS_init 24 = .ok (.invokespecial 18, 3) := by decide +kernel
theorem d_RS_init_27 : decode c_RS_init 27 = .ok (.putfield 21, 3) := by decide +kernel
theorem d_RS_init_30 : decode c_RS_init 30 = .ok (.aload_n 0, 1) := by decide +kernel
theorem d_RS_init_31 : decode c_RS_init 31 = .ok (.new 25, 3) := by decide +kernel
theorem d_RS_init_34 : decode c_RS_init 34 = .ok (.dup, 1) := by decide +kernel
theorem d_RS_init_35 : decode c_RS_init 35 = .ok (.aload_n 0, 1) := by decide +kernel
theorem d_RS_init_36 : decode c_RS_init 36 = .ok (.getfield 12, 3) := by decide +kernel
theorem d_RS_init_39 : decode c_RS_init 39 = .ok (.invokespecial 27, 3) := by decide +kernel
theorem d_RS_init_42 : decode c_RS_init 42 = .ok (.putfield 28, 3) := by decide +kernel
theorem d_RS_init_45 : decode c_RS_init 45 = .ok (.aload_n 0, 1) := by decide +kernel
theorem d_RS_init_46 : decode c_RS_init 46 = .ok (.new 32, 3) := by decide +kernel
theorem d_RS_init_49 : decode c_RS_init 49 = .ok (.dup, 1) := by decide +kernel
theorem d_RS_init_50 : decode c_RS_init 50 = .ok (.invokespecial 34, 3) := by decide +kernel
theorem d_RS_init_53 : decode c_RS_init 53 = .ok (.putfield 35, 3) := by decide +kernel
theorem d_RS_init_56 : decode c_RS_init 56 = .ok (.aload_n 0, 1) := by decide +kernel
theorem d_RS_init_57 : decode c_RS_init 57 = .ok (.new 39, 3) := by decide +kernel
theorem d_RS_init_60 : decode c_RS_init 60 = .ok (.dup, 1) := by decide +kernel
theorem d_RS_init_61 : decode c_RS_init 61 = .ok (.aload_n 0, 1) := by decide +kernel
theorem d_RS_init_62 : decode c_RS_init 62 = .ok (.getfield 12, 3) := by decide +kernel
theorem d_RS_init_65 : decode c_RS_init 65 = .ok (.invokespecial 41, 3) := by decide +kernel
theorem d_RS_init_68 : decode c_RS_init 68 = .ok (.putfield 42, 3) := by decide +kernel
theorem d_RS_init_71 : decode c_RS_init 71 = .ok (.aload_n 0, 1) := by decide +kernel
theorem d_RS_init_72 : decode c_RS_init 72 = .ok (.new 46, 3) := by decide +kernel
theorem d_RS_init_75 : decode c_RS_init 75 = .ok (.dup, 1) := by decide +kernel
theorem d_RS_init_76 : decode c_RS_init 76 = .ok (.aload_n 0, 1) := by decide +kernel
theorem d_RS_init_77 : decode c_RS_init 77 = .ok (.getfield 12, 3) := by decide +kernel
theorem d_RS_init_80 : decode c_RS_init 80 = .ok (.invokespecial 48, 3) := by decide +kernel
theorem d_RS_init_83 : decode c_RS_init 83 = .ok (.putfield 49, 3) := by decide +kernel
theorem d_RS_init_86 : decode c_RS_init 86 = .ok (.return_, 1) := by decide +kernel
theorem ok_RS_init : tb_mI y_RS_init c_RS_init 1 0 := ⟨tb_55, tb_40, tb_54, rfl, by decide +kernel⟩
abbrev c_Mo_init : ByteArray := prog_9_method_1_code
abbrev y_Mo_init : MethodName := ⟨"ReedSetsModel", "<init>", "()V"⟩
theorem d_Mo_init_0 : decode c_Mo_init 0 = .ok (.aload_n 0, 1) := by decide +kernel
theorem d_Mo_init_1 : decode c_Mo_init 1 = .ok (.invokespecial 1, 3) := by decide +kernel
theorem d_Mo_init_4 : decode c_Mo_init 4 = .ok (.aload_n 0, 1) := by decide +kernel
theorem d_Mo_init_5 : decode c_Mo_init 5 = .ok (.iconst 1, 1) := by decide +kernel
theorem d_Mo_init_6 : decode c_Mo_init 6 = .ok (.putfield 7, 3) := by decide +kernel
theorem d_Mo_init_9 : decode c_Mo_init 9 = .ok (.aload_n 0, 1) := by decide +kernel
theorem d_Mo_init_10 : decode c_Mo_init 10 = .ok (.sipush 255, 3) := by decide +kernel
theorem d_Mo_init_13 : decode c_Mo_init 13 = .ok (.newarray .int, 2) := by decide +kernel
theorem d_Mo_init_15 : decode c_Mo_init 15 = .ok (.putfield 13, 3) := by decide +kernel
theorem d_Mo_init_18 : decode c_Mo_init 18 = .ok (.aload_n 0, 1) := by decide +kernel
theorem d_Mo_init_19 : decode c_Mo_init 19 = .ok (.sipush 255, 3) := by decide +kernel
theorem d_Mo_init_22 : decode c_Mo_init 22 = .ok (.newarray .boolean, 2) := by decide +kernel
theorem d_Mo_init_24 : decode c_Mo_init 24 = .ok (.putfield 17, 3) := by decide +kernel
theorem d_Mo_init_27 : decode c_Mo_init 27 = .ok (.aload_n 0, 1) := by decide +kernel
theorem d_Mo_init_28 : decode c_Mo_init 28 = .ok (.bipush 41, 2) := by decide +kernel
theorem d_Mo_init_30 : decode c_Mo_init 30 = .ok (.newarray .int, 2) := by decide +kernel
theorem d_Mo_init_32 : decode c_Mo_init 32 = .ok (.putfield 21, 3) := by decide +kernel
theorem d_Mo_init_35 : decode c_Mo_init 35 = .ok (.aload_n 0, 1) := by decide +kernel
theorem d_Mo_init_36 : decode c_Mo_init 36 = .ok (.sipush 255, 3) := by decide +kernel
theorem d_Mo_init_39 : decode c_Mo_init 39 = .ok (.newarray .int, 2) := by decide +kernel
theorem d_Mo_init_41 : decode c_Mo_init 41 = .ok (.putfield 24, 3) := by decide +kernel
theorem d_Mo_init_44 : decode c_Mo_init 44 = .ok (.aload_n 0, 1) := by decide +kernel
theorem d_Mo_init_45 : decode c_Mo_init 45 = .ok (.sipush 255, 3) := by decide +kernel
theorem d_Mo_init_48 : decode c_Mo_init 48 = .ok (.newarray .int, 2) := by decide +kernel
theorem d_Mo_init_50 : decode c_Mo_init 50 = .ok (.putfield 27, 3) := by decide +kernel
theorem d_Mo_init_53 : decode c_Mo_init 53 = .ok (.aload_n 0, 1) := by decide +kernel
theorem d_Mo_init_54 : decode c_Mo_init 54 = .ok (.sipush 255, 3) := by decide +kernel
theorem d_Mo_init_57 : decode c_Mo_init 57 = .ok (.newarray .int, 2) := by decide +kernel
theorem d_Mo_init_59 : decode c_Mo_init 59 = .ok (.putfield 30, 3) := by decide +kernel
theorem d_Mo_init_62 : decode c_Mo_init 62 = .ok (.aload_n 0, 1) := by decide +kernel
theorem d_Mo_init_63 : decode c_Mo_init 63 = .ok (.sipush 255, 3) := by decide +kernel
theorem d_Mo_init_66 : decode c_Mo_init 66 = .ok (.newarray .boolean, 2) := by decide +kernel
theorem d_Mo_init_68 : decode c_Mo_init 68 = .ok (.putfield 33, 3) := by decide +kernel
theorem d_Mo_init_71 : decode c_Mo_init 71 = .ok (.aload_n 0, 1) := by decide +kernel
theorem d_Mo_init_72 : decode c_Mo_init 72 = .ok (.bipush 40, 2) := by decide +kernel
theorem d_Mo_init_74 : decode c_Mo_init 74 = .ok (.newarray .int, 2) := by decide +kernel
theorem d_Mo_init_76 : decode c_Mo_init 76 = .ok (.putfield 36, 3) := by decide +kernel
theorem d_Mo_init_79 : decode c_Mo_init 79 = .ok (.aload_n 0, 1) := by decide +kernel
theorem d_Mo_init_80 : decode c_Mo_init 80 = .ok (.bipush 82, 2) := by decide +kernel
theorem d_Mo_init_82 : decode c_Mo_init 82 = .ok (.newarray .int, 2) := by decide +kernel
theorem d_Mo_init_84 : decode c_Mo_init 84 = .ok (.putfield 39, 3) := by decide +kernel
theorem d_Mo_init_87 : decode c_Mo_init 87 = .ok (.aload_n 0, 1) := by decide +kernel
theorem d_Mo_init_88 : decode c_Mo_init 88 = .ok (.bipush 40, 2) := by decide +kernel
theorem d_Mo_init_90 : decode c_Mo_init 90 = .ok (.newarray .int, 2) := by decide +kernel
theorem d_Mo_init_92 : decode c_Mo_init 92 = .ok (.putfield 42, 3) := by decide +kernel
theorem d_Mo_init_95 : decode c_Mo_init 95 = .ok (.aload_n 0, 1) := by decide +kernel
theorem d_Mo_init_96 : decode c_Mo_init 96 = .ok (.sipush 1681, 3) := by decide +kernel
theorem d_Mo_init_99 : decode c_Mo_init 99 = .ok (.newarray .int, 2) := by decide +kernel
theorem d_Mo_init_101 : decode c_Mo_init 101 = .ok (.putfield 45, 3) := by decide +kernel
theorem d_Mo_init_104 : decode c_Mo_init 104 = .ok (.aload_n 0, 1) := by decide +kernel
theorem d_Mo_init_105 : decode c_Mo_init 105 = .ok (.bipush 41, 2) := by decide +kernel
theorem d_Mo_init_107 : decode c_Mo_init 107 = .ok (.newarray .int, 2) := by decide +kernel
theorem d_Mo_init_109 : decode c_Mo_init 109 = .ok (.putfield 48, 3) := by decide +kernel
theorem d_Mo_init_112 : decode c_Mo_init 112 = .ok (.aload_n 0, 1) := by decide +kernel
theorem d_Mo_init_113 : decode c_Mo_init 113 = .ok (.sipush 800, 3) := by decide +kernel
theorem d_Mo_init_116 : decode c_Mo_init 116 = .ok (.newarray .int, 2) := by decide +kernel
theorem d_Mo_init_118 : decode c_Mo_init 118 = .ok (.putfield 51, 3) := by decide +kernel
theorem d_Mo_init_121 : decode c_Mo_init 121 = .ok (.aload_n 0, 1) := by decide +kernel
theorem d_Mo_init_122 : decode c_Mo_init 122 = .ok (.sipush 1440, 3) := by decide +kernel
theorem d_Mo_init_125 : decode c_Mo_init 125 = .ok (.newarray .int, 2) := by decide +kernel
theorem d_Mo_init_127 : decode c_Mo_init 127 = .ok (.putfield 54, 3) := by decide +kernel
theorem d_Mo_init_130 : decode c_Mo_init 130 = .ok (.aload_n 0, 1) := by decide +kernel
theorem d_Mo_init_131 : decode c_Mo_init 131 = .ok (.sipush 1440, 3) := by decide +kernel
theorem d_Mo_init_134 : decode c_Mo_init 134 = .ok (.newarray .int, 2) := by decide +kernel
theorem d_Mo_init_136 : decode c_Mo_init 136 = .ok (.putfield 57, 3) := by decide +kernel
theorem d_Mo_init_139 : decode c_Mo_init 139 = .ok (.aload_n 0, 1) := by decide +kernel
theorem d_Mo_init_140 : decode c_Mo_init 140 = .ok (.sipush 1440, 3) := by decide +kernel
theorem d_Mo_init_143 : decode c_Mo_init 143 = .ok (.newarray .boolean, 2) := by decide +kernel
theorem d_Mo_init_145 : decode c_Mo_init 145 = .ok (.putfield 60, 3) := by decide +kernel
theorem d_Mo_init_148 : decode c_Mo_init 148 = .ok (.aload_n 0, 1) := by decide +kernel
theorem d_Mo_init_149 : decode c_Mo_init 149 = .ok (.iconst 1, 1) := by decide +kernel
theorem d_Mo_init_150 : decode c_Mo_init 150 = .ok (.putfield 63, 3) := by decide +kernel
theorem d_Mo_init_153 : decode c_Mo_init 153 = .ok (.aload_n 0, 1) := by decide +kernel
theorem d_Mo_init_154 : decode c_Mo_init 154 = .ok (.iconst 1, 1) := by decide +kernel
theorem d_Mo_init_155 : decode c_Mo_init 155 = .ok (.putfield 66, 3) := by decide +kernel
theorem d_Mo_init_158 : decode c_Mo_init 158 = .ok (.aload_n 0, 1) := by decide +kernel
theorem d_Mo_init_159 : decode c_Mo_init 159 = .ok (.sipush 256, 3) := by decide +kernel
theorem d_Mo_init_162 : decode c_Mo_init 162 = .ok (.newarray .boolean, 2) := by decide +kernel
theorem d_Mo_init_164 : decode c_Mo_init 164 = .ok (.putfield 69, 3) := by decide +kernel
theorem d_Mo_init_167 : decode c_Mo_init 167 = .ok (.aload_n 0, 1) := by decide +kernel
theorem d_Mo_init_168 : decode c_Mo_init 168 = .ok (.sipush 4096, 3) := by decide +kernel
theorem d_Mo_init_171 : decode c_Mo_init 171 = .ok (.newarray .int, 2) := by decide +kernel
theorem d_Mo_init_173 : decode c_Mo_init 173 = .ok (.putfield 72, 3) := by decide +kernel
theorem d_Mo_init_176 : decode c_Mo_init 176 = .ok (.aload_n 0, 1) := by decide +kernel
theorem d_Mo_init_177 : decode c_Mo_init 177 = .ok (.bipush 20, 2) := by decide +kernel
theorem d_Mo_init_179 : decode c_Mo_init 179 = .ok (.newarray .int, 2) := by decide +kernel
theorem d_Mo_init_181 : decode c_Mo_init 181 = .ok (.putfield 75, 3) := by decide +kernel
theorem d_Mo_init_184 : decode c_Mo_init 184 = .ok (.aload_n 0, 1) := by decide +kernel
theorem d_Mo_init_185 : decode c_Mo_init 185 = .ok (.bipush 20, 2) := by decide +kernel
theorem d_Mo_init_187 : decode c_Mo_init 187 = .ok (.newarray .int, 2) := by decide +kernel
theorem d_Mo_init_189 : decode c_Mo_init 189 = .ok (.putfield 78, 3) := by decide +kernel
theorem d_Mo_init_192 : decode c_Mo_init 192 = .ok (.aload_n 0, 1) := by decide +kernel
theorem d_Mo_init_193 : decode c_Mo_init 193 = .ok (.bipush 20, 2) := by decide +kernel
theorem d_Mo_init_195 : decode c_Mo_init 195 = .ok (.newarray .int, 2) := by decide +kernel
theorem d_Mo_init_197 : decode c_Mo_init 197 = .ok (.putfield 81, 3) := by decide +kernel
theorem d_Mo_init_200 : decode c_Mo_init 200 = .ok (.return_, 1) := by decide +kernel
theorem ok_Mo_init : tb_mI y_Mo_init c_Mo_init 1 0 := ⟨tb_662, tb_48, tb_661, rfl, by decide +kernel⟩
theorem df_Ch : ∀ j, j < 3 → defaultValue (ty_Ch j) = vp_V [.null, .null, .int 0] j := by
  intro j hj
  match j, hj with
  | 0, _ => rfl
  | 1, _ => rfl
  | 2, _ => rfl
  | k + 3, hk => exact absurd hk (by omega)
theorem df_Fi : ∀ j, j < 2 → defaultValue (ty_Fi j) = vp_V [.null, .null] j := by
  intro j hj
  match j, hj with
  | 0, _ => rfl
  | 1, _ => rfl
  | k + 2, hk => exact absurd hk (by omega)
theorem df_Sh : ∀ j, j < 10 → defaultValue (ty_Sh j) = vp_V [.null, .null, .null, .null, .null, .int 0, .int 0, .int 0, .null, .int 0] j := by
  intro j hj
  match j, hj with
  | 0, _ => rfl
  | 1, _ => rfl
  | 2, _ => rfl
  | 3, _ => rfl
  | 4, _ => rfl
  | 5, _ => rfl
  | 6, _ => rfl
  | 7, _ => rfl
  | 8, _ => rfl
  | 9, _ => rfl
  | k + 10, hk => exact absurd hk (by omega)
theorem df_So : ∀ j, j < 9 → defaultValue (ty_So j) = vp_V [.null, .null, .null, .null, .null, .null, .null, .null, .int 0] j := by
  intro j hj
  match j, hj with
  | 0, _ => rfl
  | 1, _ => rfl
  | 2, _ => rfl
  | 3, _ => rfl
  | 4, _ => rfl
  | 5, _ => rfl
  | 6, _ => rfl
  | 7, _ => rfl
  | 8, _ => rfl
  | k + 9, hk => exact absurd hk (by omega)
theorem df_St : ∀ j, j < 8 → defaultValue (ty_St j) = vp_V [.null, .null, .null, .null, .null, .int 0, .int 0, .int 0] j := by
  intro j hj
  match j, hj with
  | 0, _ => rfl
  | 1, _ => rfl
  | 2, _ => rfl
  | 3, _ => rfl
  | 4, _ => rfl
  | 5, _ => rfl
  | 6, _ => rfl
  | 7, _ => rfl
  | k + 8, hk => exact absurd hk (by omega)
theorem df_Wo : ∀ j, j < 8 → defaultValue (ty_Wo j) = vp_V [.null, .null, .null, .null, .int 0, .int 0, .int 0, .int 0] j := by
  intro j hj
  match j, hj with
  | 0, _ => rfl
  | 1, _ => rfl
  | 2, _ => rfl
  | 3, _ => rfl
  | 4, _ => rfl
  | 5, _ => rfl
  | 6, _ => rfl
  | 7, _ => rfl
  | k + 8, hk => exact absurd hk (by omega)
theorem df_RS : ∀ j, j < 6 → defaultValue (ty_RS j) = vp_V [.null, .null, .null, .null, .null, .null] j := by
  intro j hj
  match j, hj with
  | 0, _ => rfl
  | 1, _ => rfl
  | 2, _ => rfl
  | 3, _ => rfl
  | 4, _ => rfl
  | 5, _ => rfl
  | k + 6, hk => exact absurd hk (by omega)
theorem df_Mo : ∀ j, j < 38 → defaultValue (ty_Mo j) = vp_V [.int 0, .int 0, .int 0, .null, .null, .null, .int 0, .null, .null, .null, .null, .int 0, .int 0, .int 0, .null, .null, .null, .int 0, .null, .null, .null, .int 0, .int 0, .int 0, .int 0, .int 0, .int 0, .null, .null, .null, .int 0, .int 0, .null, .null, .int 0, .null, .null, .null] j := by
  intro j hj
  match j, hj with
  | 0, _ => rfl
  | 1, _ => rfl
  | 2, _ => rfl
  | 3, _ => rfl
  | 4, _ => rfl
  | 5, _ => rfl
  | 6, _ => rfl
  | 7, _ => rfl
  | 8, _ => rfl
  | 9, _ => rfl
  | 10, _ => rfl
  | 11, _ => rfl
  | 12, _ => rfl
  | 13, _ => rfl
  | 14, _ => rfl
  | 15, _ => rfl
  | 16, _ => rfl
  | 17, _ => rfl
  | 18, _ => rfl
  | 19, _ => rfl
  | 20, _ => rfl
  | 21, _ => rfl
  | 22, _ => rfl
  | 23, _ => rfl
  | 24, _ => rfl
  | 25, _ => rfl
  | 26, _ => rfl
  | 27, _ => rfl
  | 28, _ => rfl
  | 29, _ => rfl
  | 30, _ => rfl
  | 31, _ => rfl
  | 32, _ => rfl
  | 33, _ => rfl
  | 34, _ => rfl
  | 35, _ => rfl
  | 36, _ => rfl
  | 37, _ => rfl
  | k + 38, hk => exact absurd hk (by omega)
