abbrev wd_So_isRightAfter (aF aF_powers aF_logs aW aW_bytes aW_lost aW_factors aS aS_syndromes aS_locator aS_helper aS_kept aS_evaluator aS_places aS_fixes : Nat) (cI cZ : ClassId) (F_powers : Nat → Int32) (F_logs : Nat → Int32) (W_lostCount : Int32) (W_data : Int32) (W_repairs : Int32) (W_first : Int32) (S_found : Int32) (S_syndromes : Nat → Int32) (S_places : Nat → Int32) (S_fixes : Nat → Int32) : va_W := [(aF, .inr (1, [.ref aF_powers, .ref aF_logs])), (aF_powers, .inl (cI, 512, .inl F_powers)), (aF_logs, .inl (cI, 256, .inl F_logs)), (aW, .inr (5, [.ref aF, .ref aW_bytes, .ref aW_lost, .ref aW_factors, .int W_lostCount, .int W_data, .int W_repairs, .int W_first])), (aS, .inr (3, [.ref aF, .ref aS_syndromes, .ref aS_locator, .ref aS_helper, .ref aS_kept, .ref aS_evaluator, .ref aS_places, .ref aS_fixes, .int S_found])), (aS_syndromes, .inl (cI, 40, .inl S_syndromes)), (aS_places, .inl (cI, 40, .inl S_places)), (aS_fixes, .inl (cI, 40, .inl S_fixes))]
def wp_So_isRightAfter_b20 (F_powers : Nat → Int32) (F_logs : Nat → Int32) (W_data : Int32) (W_repairs : Int32) (W_first : Int32) (S_found : Int32) (S_syndromes : Nat → Int32) (S_places : Nat → Int32) (S_fixes : Nat → Int32) (post : Int32 → Prop) (K2 : Int32 → Prop) (K20 : Int32 → Int32 → Int32 → Prop) (x2 : Int32) (x3 : Int32) (x4 : Int32) : Prop := (S_found ≤ x4 → ((x3 = 0 → (∀ x2_87 : Int32, x2_87 = (x2 + (1 : Int32)) → (K2 x2_87))) ∧ (¬ x3 = 0 → (post (0 : Int32))))) ∧ (¬ S_found ≤ x4 → (vp_in x4 40 ∧ (wp_Wo_powerAt W_data W_repairs (S_places x4.toNatClampNeg) (fun r_37 => (∀ x5_47 : Int32, x5_47 = (r_37 * (W_first + x2)) → (vp_in x4 40 ∧ (wp_Fi_powerOfTwo F_powers x5_47 (fun r_67 => (wp_Fi_product F_powers F_logs (S_fixes x4.toNatClampNeg) r_67 (fun r_70 => (∀ x3_74 : Int32, x3_74 = (x3 ^^^ r_70) → (∀ x4_75 : Int32, x4_75 = (x4 + (1 : Int32)) → (K20 x2 x3_74 x4_75)))))))))))))
def wp_So_isRightAfter_L20 (F_powers : Nat → Int32) (F_logs : Nat → Int32) (W_data : Int32) (W_repairs : Int32) (W_first : Int32) (S_found : Int32) (S_syndromes : Nat → Int32) (S_places : Nat → Int32) (S_fixes : Nat → Int32) (post : Int32 → Prop) (K2 : Int32 → Prop) : Nat → Int32 → Int32 → Int32 → Prop
  | 0 => fun _ _ _ => False
  | n + 1 => wp_So_isRightAfter_b20 F_powers F_logs W_data W_repairs W_first S_found S_syndromes S_places S_fixes post K2 (wp_So_isRightAfter_L20 F_powers F_logs W_data W_repairs W_first S_found S_syndromes S_places S_fixes post K2 n)
def wp_So_isRightAfter_b2 (F_powers : Nat → Int32) (F_logs : Nat → Int32) (W_data : Int32) (W_repairs : Int32) (W_first : Int32) (S_found : Int32) (S_syndromes : Nat → Int32) (S_places : Nat → Int32) (S_fixes : Nat → Int32) (post : Int32 → Prop) (K2 : Int32 → Prop) (x2 : Int32) : Prop := (W_repairs ≤ x2 → (post (1 : Int32))) ∧ (¬ W_repairs ≤ x2 → (vp_in x2 40 ∧ (∀ x3_16 : Int32, x3_16 = (S_syndromes x2.toNatClampNeg) → (∃ n : Nat, wp_So_isRightAfter_L20 F_powers F_logs W_data W_repairs W_first S_found S_syndromes S_places S_fixes post K2 n x2 x3_16 (0 : Int32)))))
def wp_So_isRightAfter_L2 (F_powers : Nat → Int32) (F_logs : Nat → Int32) (W_data : Int32) (W_repairs : Int32) (W_first : Int32) (S_found : Int32) (S_syndromes : Nat → Int32) (S_places : Nat → Int32) (S_fixes : Nat → Int32) (post : Int32 → Prop)  : Nat → Int32 → Prop
  | 0 => fun _ => False
  | n + 1 => wp_So_isRightAfter_b2 F_powers F_logs W_data W_repairs W_first S_found S_syndromes S_places S_fixes post (wp_So_isRightAfter_L2 F_powers F_logs W_data W_repairs W_first S_found S_syndromes S_places S_fixes post n)
def wp_So_isRightAfter (F_powers : Nat → Int32) (F_logs : Nat → Int32) (W_data : Int32) (W_repairs : Int32) (W_first : Int32) (S_found : Int32) (S_syndromes : Nat → Int32) (S_places : Nat → Int32) (S_fixes : Nat → Int32) (post : Int32 → Prop) : Prop := ∃ n : Nat, wp_So_isRightAfter_L2 F_powers F_logs W_data W_repairs W_first S_found S_syndromes S_places S_fixes post  n (0 : Int32)
abbrev rm_So_isRightAfter : Room := { frames := 2, cells := 0, slots := 0, locals := 41 }
set_option maxHeartbeats 4000000 in
set_option maxRecDepth 100000 in
theorem ct_So_isRightAfter (l : Launch) (dC : Nat → ClassId) (dI : Nat → Nat → Nat) (aF aF_powers aF_logs aW aW_bytes aW_lost aW_factors aS aS_syndromes aS_locator aS_helper aS_kept aS_evaluator aS_places aS_fixes : Nat) (cI cZ : ClassId) (F_powers : Nat → Int32) (F_logs : Nat → Int32) (W_lostCount : Int32) (W_data : Int32) (W_repairs : Int32) (W_first : Int32) (S_found : Int32) (S_syndromes : Nat → Int32) (S_places : Nat → Int32) (S_fixes : Nat → Int32)  (post : Int32 → Prop) (h : wp_So_isRightAfter F_powers F_logs W_data W_repairs W_first S_found S_syndromes S_places S_fixes post) (sz : Nat) : Met l y_So_isRightAfter (Cond.code y_So_isRightAfter c_So_isRightAfter 6 (some .boolean) :: tb) rm_So_isRightAfter (mt_P (dC, dI) vwCl [(cI, .int), (cZ, .boolean)] [.ref aS, .ref aW] (wd_So_isRightAfter aF aF_powers aF_logs aW aW_bytes aW_lost aW_factors aS aS_syndromes aS_locator aS_helper aS_kept aS_evaluator aS_places aS_fixes cI cZ F_powers F_logs W_lostCount W_data W_repairs W_first S_found S_syndromes S_places S_fixes) sz) (va_Qi (fun (r : Int32) (u : Unit) => post r) (mt_B (dC, dI) vwCl [(cI, .int), (cZ, .boolean)] (wd_So_isRightAfter aF aF_powers aF_logs aW aW_bytes aW_lost aW_factors aS aS_syndromes aS_locator aS_helper aS_kept aS_evaluator aS_places aS_fixes cI cZ F_powers F_logs W_lostCount W_data W_repairs W_first S_found S_syndromes S_places S_fixes) sz (fun u : Unit => wd_So_isRightAfter aF aF_powers aF_logs aW aW_bytes aW_lost aW_factors aS aS_syndromes aS_locator aS_helper aS_kept aS_evaluator aS_places aS_fixes cI cZ F_powers F_logs W_lostCount W_data W_repairs W_first S_found S_syndromes S_places S_fixes)) (va_A (wd_So_isRightAfter aF aF_powers aF_logs aW aW_bytes aW_lost aW_factors aS aS_syndromes aS_locator aS_helper aS_kept aS_evaluator aS_places aS_fixes cI cZ F_powers F_logs W_lostCount W_data W_repairs W_first S_found S_syndromes S_places S_fixes) sz)) 0 0 (va_A (wd_So_isRightAfter aF aF_powers aF_logs aW aW_bytes aW_lost aW_factors aS aS_syndromes aS_locator aS_helper aS_kept aS_evaluator aS_places aS_fixes cI cZ F_powers F_logs W_lostCount W_data W_repairs W_first S_found S_syndromes S_places S_fixes) sz) := by
  refine mt_bd (by decide +kernel) (Nat.le_of_ble_eq_true rfl) ?_
  intro p e s m args below meth c hx hb hml hown hts hr hlk hnm hsz hP hK hD hA hS ls hl
  subst hsz
  have hown : s.vm.findClass "ReedSets$Solver" = some m.cls := hown
  have hl : lv_has ls 6 [(0, .ref aS), (1, .ref aW)] := hl
  refine lz_Q (fun Q hQ => ?_)
  obtain ⟨A, hAe⟩ : ∃ A : Nat → Prop, A = va_A (wd_So_isRightAfter aF aF_powers aF_logs aW aW_bytes aW_lost aW_factors aS aS_syndromes aS_locator aS_helper aS_kept aS_evaluator aS_places aS_fixes cI cZ F_powers F_logs W_lostCount W_data W_repairs W_first S_found S_syndromes S_places S_fixes) s.heap.size := ⟨_, rfl⟩
  rw [← hAe] at hD hA hS
  have RET : ∀ (v : Int32)  (H : Heap) (locs : List Loc) (ls : Array Slot) (pc : Nat), decode c_So_isRightAfter pc = .ok (.ireturn, 1) → narrow .boolean (.int v) = .int v → post v  → va_P (dC, dI) vwCl (wd_So_isRightAfter aF aF_powers aF_logs aW aW_bytes aW_lost aW_factors aS aS_syndromes aS_locator aS_helper aS_kept aS_evaluator aS_places aS_fixes cI cZ F_powers F_logs W_lostCount W_data W_repairs W_first S_found S_syndromes S_places S_fixes) H → va_D A (wd_So_isRightAfter aF aF_powers aF_logs aW aW_bytes aW_lost aW_factors aS aS_syndromes aS_locator aS_helper aS_kept aS_evaluator aS_places aS_fixes cI cZ F_powers F_logs W_lostCount W_data W_repairs W_first S_found S_syndromes S_places S_fixes) → va_S A s.heap H locs → W p l e rm_So_isRightAfter s m args below meth c H locs 0 0 Q (F0 m pc ls [.int v]) := by
    intro v  H locs ls pc hd hz hp h1 h2 h3
    rw [hQ]
    rw [hAe] at h2 h3
    exact mt_retz () hx hb hr hlk hd hK h1 h2 h3 hz hp
  have B20 : ∀ (K2 : Int32 → Prop) (HK2 : ∀ (x2 : Int32) (H : Heap) (locs : List Loc) (ls : Array Slot), K2 x2 → va_P (dC, dI) vwCl (wd_So_isRightAfter aF aF_powers aF_logs aW aW_bytes aW_lost aW_factors aS aS_syndromes aS_locator aS_helper aS_kept aS_evaluator aS_places aS_fixes cI cZ F_powers F_logs W_lostCount W_data W_repairs W_first S_found S_syndromes S_places S_fixes) H → va_D A (wd_So_isRightAfter aF aF_powers aF_logs aW aW_bytes aW_lost aW_factors aS aS_syndromes aS_locator aS_helper aS_kept aS_evaluator aS_places aS_fixes cI cZ F_powers F_logs W_lostCount W_data W_repairs W_first S_found S_syndromes S_places S_fixes) → va_S A s.heap H locs → lv_has ls 6 [(0, .ref aS), (1, .ref aW), (2, .int x2)] → W p l e rm_So_isRightAfter s m args below meth c H locs 0 0 Q (F0 m 2 ls [])) (K20 : Int32 → Int32 → Int32 → Prop) (HK20 : ∀ (x2 : Int32) (x3 : Int32) (x4 : Int32) (H : Heap) (locs : List Loc) (ls : Array Slot), K20 x2 x3 x4 → va_P (dC, dI) vwCl (wd_So_isRightAfter aF aF_powers aF_logs aW aW_bytes aW_lost aW_factors aS aS_syndromes aS_locator aS_helper aS_kept aS_evaluator aS_places aS_fixes cI cZ F_powers F_logs W_lostCount W_data W_repairs W_first S_found S_syndromes S_places S_fixes) H → va_D A (wd_So_isRightAfter aF aF_powers aF_logs aW aW_bytes aW_lost aW_factors aS aS_syndromes aS_locator aS_helper aS_kept aS_evaluator aS_places aS_fixes cI cZ F_powers F_logs W_lostCount W_data W_repairs W_first S_found S_syndromes S_places S_fixes) → va_S A s.heap H locs → lv_has ls 6 [(0, .ref aS), (1, .ref aW), (2, .int x2), (3, .int x3), (4, .int x4)] → W p l e rm_So_isRightAfter s m args below meth c H locs 0 0 Q (F0 m 20 ls [])), ∀ (x2 : Int32) (x3 : Int32) (x4 : Int32) (H : Heap) (locs : List Loc) (ls : Array Slot), wp_So_isRightAfter_b20 F_powers F_logs W_data W_repairs W_first S_found S_syndromes S_places S_fixes post K2 K20 x2 x3 x4 → va_P (dC, dI) vwCl (wd_So_isRightAfter aF aF_powers aF_logs aW aW_bytes aW_lost aW_factors aS aS_syndromes aS_locator aS_helper aS_kept aS_evaluator aS_places aS_fixes cI cZ F_powers F_logs W_lostCount W_data W_repairs W_first S_found S_syndromes S_places S_fixes) H → va_D A (wd_So_isRightAfter aF aF_powers aF_logs aW aW_bytes aW_lost aW_factors aS aS_syndromes aS_locator aS_helper aS_kept aS_evaluator aS_places aS_fixes cI cZ F_powers F_logs W_lostCount W_data W_repairs W_first S_found S_syndromes S_places S_fixes) → va_S A s.heap H locs → lv_has ls 6 [(0, .ref aS), (1, .ref aW), (2, .int x2), (3, .int x3), (4, .int x4)] → W p l e rm_So_isRightAfter s m args below meth c H locs 0 0 Q (F0 m 20 ls []) := by
    intro K2 HK2 K20 HK20 x2 x3 x4 H locs ls h hP hD hS hl
    refine lv_iload hx hb d_So_isRightAfter_20 (lv_at hl 4 rfl) ?_
    refine lv_aload_n hx hb d_So_isRightAfter_22 rfl (lv_at hl 0 rfl) ?_
    refine va_get (D := (dC, dI)) (ci := 3) (v := .int S_found) (C := "ReedSets$Solver") (T := T_So) (N := 9) hx hb hts in_So hown hK hP 4 rfl rfl 8 (by decide) (hts _ tb_156) (fun _ h9 => h9) rfl d_So_isRightAfter_23 ?_
    refine lv_icmp_ge (tgt := 81) hx hb d_So_isRightAfter_26 (by decide) (fun g26 => ?_) (fun g26 => ?_)
    · have h := h.1 g26
      refine lv_iload_n hx hb d_So_isRightAfter_81 rfl (lv_at hl 3 rfl) ?_
      refine lv_if_eq (tgt := 87) hx hb d_So_isRightAfter_82 (by decide) (fun g82 => ?_) (fun g82 => ?_)
      · have h := h.1 g82
        obtain ⟨x2_87, ex2_87⟩ : ∃ y : Int32, y = (x2 + (1 : Int32)) := ⟨_, rfl⟩
        have h := h x2_87 ex2_87
        refine lv_iinc (v := x2_87) (lv' := [(2, .int x2_87), (0, .ref aS), (1, .ref aW), (3, .int x3), (4, .int x4)]) hx hb d_So_isRightAfter_87 hl (k := 2) rfl (by rw [ex2_87]; rfl) (by decide) rfl (fun ls hl => ?_)
        refine lv_goto (tgt := 2) hx hb d_So_isRightAfter_90 (by decide) ?_
        exact HK2 x2_87 H locs ls h hP hD hS (lv_sub hl [1, 2, 0] rfl)
      · have h := h.2 g82
        refine lv_iconst (v := (0 : Int32)) hx hb d_So_isRightAfter_85 (by decide) ?_
        exact RET (0 : Int32) H locs ls 86 d_So_isRightAfter_86 rfl h hP hD hS
    · have h := h.2 g26
      refine lv_aload_n hx hb d_So_isRightAfter_29 rfl (lv_at hl 1 rfl) ?_
      refine lv_aload_n hx hb d_So_isRightAfter_30 rfl (lv_at hl 0 rfl) ?_
      refine va_get (D := (dC, dI)) (ci := 3) (v := .ref aS_places) (C := "ReedSets$Solver") (T := T_So) (N := 9) hx hb hts in_So hown hK hP 4 rfl rfl 6 (by decide) (hts _ tb_153) (fun _ h9 => h9) rfl d_So_isRightAfter_31 ?_
      refine lv_iload hx hb d_So_isRightAfter_34 (lv_at hl 4 rfl) ?_
      obtain ⟨hi, h⟩ := h
      refine va_iald hx hb hK hP 6 0 rfl rfl hi d_So_isRightAfter_36 ?_
      refine mt_i (va_runV (As := [.int (S_places x4.toNatClampNeg)]) (rest := []) ⟨hx, hb, hml, hown, hts⟩ (ct_Wo_powerAt l dC dI aW aF aW_bytes aW_lost aW_factors cI cZ W_lostCount W_data W_repairs W_first (S_places x4.toNatClampNeg) _ h _) (tb_cV hts ok_Wo_powerAt tb_406 rfl rfl ⟨Nat.le_of_ble_eq_true rfl, Nat.le_of_ble_eq_true rfl⟩) (mt_preV hK hP hD [.int (S_places x4.toNatClampNeg)] [3] rfl (by decide) (ci := 5) (q0 := 3) rfl rfl) rfl rfl hl.1 rfl (lv_room (Nat.le_of_ble_eq_true rfl)) d_So_isRightAfter_37 ⟨Nat.zero_le _, Nat.zero_le _⟩) hP hD hS hA [3] rfl (fun _ => rfl) (fun r_37 u H locs h hP hD hS => ?_)
      have hP : va_P (dC, dI) vwCl (wd_So_isRightAfter aF aF_powers aF_logs aW aW_bytes aW_lost aW_factors aS aS_syndromes aS_locator aS_helper aS_kept aS_evaluator aS_places aS_fixes cI cZ F_powers F_logs W_lostCount W_data W_repairs W_first S_found S_syndromes S_places S_fixes) H := hP
      have hD : va_D A (wd_So_isRightAfter aF aF_powers aF_logs aW aW_bytes aW_lost aW_factors aS aS_syndromes aS_locator aS_helper aS_kept aS_evaluator aS_places aS_fixes cI cZ F_powers F_logs W_lostCount W_data W_repairs W_first S_found S_syndromes S_places S_fixes) := hD
      refine lv_aload_n hx hb d_So_isRightAfter_40 rfl (lv_at hl 1 rfl) ?_
      refine va_get (D := (dC, dI)) (ci := 5) (v := .int W_first) (C := "ReedSets$Word") (T := T_Wo) (N := 8) hx hb hts in_Wo hown hK hP 3 rfl rfl 7 (by decide) (hts _ tb_121) (fun _ h9 => h9) rfl d_So_isRightAfter_41 ?_
      refine lv_iload_n hx hb d_So_isRightAfter_44 rfl (lv_at hl 2 rfl) ?_
      refine lv_iadd hx hb d_So_isRightAfter_45 ?_
      refine lv_imul hx hb d_So_isRightAfter_46 ?_
      refine lv_topi (fun x5_47 ex5_47 => ?_)
      have h := h x5_47 ex5_47
      refine lv_istore (lv' := [(5, .int x5_47), (0, .ref aS), (1, .ref aW), (2, .int x2), (3, .int x3), (4, .int x4)]) hx hb d_So_isRightAfter_47 hl (by decide) rfl (fun ls hl => ?_)
      refine lv_iload_n hx hb d_So_isRightAfter_49 rfl (lv_at hl 4 rfl) ?_
      refine lv_aload_n hx hb d_So_isRightAfter_50 rfl (lv_at hl 1 rfl) ?_
      refine va_get (D := (dC, dI)) (ci := 3) (v := .ref aF) (C := "ReedSets$Solver") (T := T_So) (N := 9) hx hb hts in_So hown hK hP 4 rfl rfl 0 (by decide) (hts _ tb_147) (fun _ h9 => h9) rfl d_So_isRightAfter_51 ?_
      refine lv_aload_n hx hb d_So_isRightAfter_54 rfl (lv_at hl 1 rfl) ?_
      refine va_get (D := (dC, dI)) (ci := 3) (v := .ref aS_fixes) (C := "ReedSets$Solver") (T := T_So) (N := 9) hx hb hts in_So hown hK hP 4 rfl rfl 7 (by decide) (hts _ tb_155) (fun _ h9 => h9) rfl d_So_isRightAfter_55 ?_
      refine lv_iload hx hb d_So_isRightAfter_58 (lv_at hl 5 rfl) ?_
      obtain ⟨hi, h⟩ := h
      refine va_iald hx hb hK hP 7 0 rfl rfl hi d_So_isRightAfter_60 ?_
      refine lv_aload_n hx hb d_So_isRightAfter_61 rfl (lv_at hl 1 rfl) ?_
      refine va_get (D := (dC, dI)) (ci := 3) (v := .ref aF) (C := "ReedSets$Solver") (T := T_So) (N := 9) hx hb hts in_So hown hK hP 4 rfl rfl 0 (by decide) (hts _ tb_147) (fun _ h9 => h9) rfl d_So_isRightAfter_62 ?_
      refine lv_iload hx hb d_So_isRightAfter_65 (lv_at hl 0 rfl) ?_
      refine mt_i (va_runV (As := [.int x5_47]) (rest := [.int (S_fixes x4.toNatClampNeg), .ref aF, .int x3]) ⟨hx, hb, hml, hown, hts⟩ (ct_Fi_powerOfTwo l dC dI aF aF_powers aF_logs cI cZ F_powers x5_47 _ h _) (tb_cV hts ok_Fi_powerOfTwo tb_410 rfl rfl ⟨Nat.le_of_ble_eq_true rfl, Nat.le_of_ble_eq_true rfl⟩) (mt_preV hK hP hD [.int x5_47] [0, 1] rfl (by decide) (ci := 1) (q0 := 0) rfl rfl) rfl rfl hl.1 rfl (lv_room (Nat.le_of_ble_eq_true rfl)) d_So_isRightAfter_67 ⟨Nat.zero_le _, Nat.zero_le _⟩) hP hD hS hA [0, 1] rfl (fun _ => rfl) (fun r_67 u H locs h hP hD hS => ?_)
      have hP : va_P (dC, dI) vwCl (wd_So_isRightAfter aF aF_powers aF_logs aW aW_bytes aW_lost aW_factors aS aS_syndromes aS_locator aS_helper aS_kept aS_evaluator aS_places aS_fixes cI cZ F_powers F_logs W_lostCount W_data W_repairs W_first S_found S_syndromes S_places S_fixes) H := hP
      have hD : va_D A (wd_So_isRightAfter aF aF_powers aF_logs aW aW_bytes aW_lost aW_factors aS aS_syndromes aS_locator aS_helper aS_kept aS_evaluator aS_places aS_fixes cI cZ F_powers F_logs W_lostCount W_data W_repairs W_first S_found S_syndromes S_places S_fixes) := hD
      refine mt_i (va_runV (As := [.int (S_fixes x4.toNatClampNeg), .int r_67]) (rest := [.int x3]) ⟨hx, hb, hml, hown, hts⟩ (ct_Fi_product l dC dI aF aF_powers aF_logs cI cZ F_powers F_logs (S_fixes x4.toNatClampNeg) r_67 _ h _) (tb_cV hts ok_Fi_product tb_411 rfl rfl ⟨Nat.le_of_ble_eq_true rfl, Nat.le_of_ble_eq_true rfl⟩) (mt_preV hK hP hD [.int (S_fixes x4.toNatClampNeg), .int r_67] [0, 1, 2] rfl (by decide) (ci := 1) (q0 := 0) rfl rfl) rfl rfl hl.1 rfl (lv_room (Nat.le_of_ble_eq_true rfl)) d_So_isRightAfter_70 ⟨Nat.zero_le _, Nat.zero_le _⟩) hP hD hS hA [0, 1, 2] rfl (fun _ => rfl) (fun r_70 u H locs h hP hD hS => ?_)
      have hP : va_P (dC, dI) vwCl (wd_So_isRightAfter aF aF_powers aF_logs aW aW_bytes aW_lost aW_factors aS aS_syndromes aS_locator aS_helper aS_kept aS_evaluator aS_places aS_fixes cI cZ F_powers F_logs W_lostCount W_data W_repairs W_first S_found S_syndromes S_places S_fixes) H := hP
      have hD : va_D A (wd_So_isRightAfter aF aF_powers aF_logs aW aW_bytes aW_lost aW_factors aS aS_syndromes aS_locator aS_helper aS_kept aS_evaluator aS_places aS_fixes cI cZ F_powers F_logs W_lostCount W_data W_repairs W_first S_found S_syndromes S_places S_fixes) := hD
      refine lv_ixor hx hb d_So_isRightAfter_73 ?_
      refine lv_topi (fun x3_74 ex3_74 => ?_)
      have h := h x3_74 ex3_74
      refine lv_istore_n (lv' := [(3, .int x3_74), (5, .int x5_47), (0, .ref aS), (1, .ref aW), (2, .int x2), (4, .int x4)]) hx hb d_So_isRightAfter_74 rfl hl (by decide) rfl (fun ls hl => ?_)
      obtain ⟨x4_75, ex4_75⟩ : ∃ y : Int32, y = (x4 + (1 : Int32)) := ⟨_, rfl⟩
      have h := h x4_75 ex4_75
      refine lv_iinc (v := x4_75) (lv' := [(4, .int x4_75), (3, .int x3_74), (5, .int x5_47), (0, .ref aS), (1, .ref aW), (2, .int x2)]) hx hb d_So_isRightAfter_75 hl (k := 5) rfl (by rw [ex4_75]; rfl) (by decide) rfl (fun ls hl => ?_)
      refine lv_goto (tgt := 20) hx hb d_So_isRightAfter_78 (by decide) ?_
      exact HK20 x2 x3_74 x4_75 H locs ls h hP hD hS (lv_sub hl [3, 4, 5, 1, 0] rfl)
  have L20 : ∀ (K2 : Int32 → Prop) (HK2 : ∀ (x2 : Int32) (H : Heap) (locs : List Loc) (ls : Array Slot), K2 x2 → va_P (dC, dI) vwCl (wd_So_isRightAfter aF aF_powers aF_logs aW aW_bytes aW_lost aW_factors aS aS_syndromes aS_locator aS_helper aS_kept aS_evaluator aS_places aS_fixes cI cZ F_powers F_logs W_lostCount W_data W_repairs W_first S_found S_syndromes S_places S_fixes) H → va_D A (wd_So_isRightAfter aF aF_powers aF_logs aW aW_bytes aW_lost aW_factors aS aS_syndromes aS_locator aS_helper aS_kept aS_evaluator aS_places aS_fixes cI cZ F_powers F_logs W_lostCount W_data W_repairs W_first S_found S_syndromes S_places S_fixes) → va_S A s.heap H locs → lv_has ls 6 [(0, .ref aS), (1, .ref aW), (2, .int x2)] → W p l e rm_So_isRightAfter s m args below meth c H locs 0 0 Q (F0 m 2 ls [])) (n : Nat), ∀ (x2 : Int32) (x3 : Int32) (x4 : Int32) (H : Heap) (locs : List Loc) (ls : Array Slot), wp_So_isRightAfter_L20 F_powers F_logs W_data W_repairs W_first S_found S_syndromes S_places S_fixes post K2 n x2 x3 x4 → va_P (dC, dI) vwCl (wd_So_isRightAfter aF aF_powers aF_logs aW aW_bytes aW_lost aW_factors aS aS_syndromes aS_locator aS_helper aS_kept aS_evaluator aS_places aS_fixes cI cZ F_powers F_logs W_lostCount W_data W_repairs W_first S_found S_syndromes S_places S_fixes) H → va_D A (wd_So_isRightAfter aF aF_powers aF_logs aW aW_bytes aW_lost aW_factors aS aS_syndromes aS_locator aS_helper aS_kept aS_evaluator aS_places aS_fixes cI cZ F_powers F_logs W_lostCount W_data W_repairs W_first S_found S_syndromes S_places S_fixes) → va_S A s.heap H locs → lv_has ls 6 [(0, .ref aS), (1, .ref aW), (2, .int x2), (3, .int x3), (4, .int x4)] → W p l e rm_So_isRightAfter s m args below meth c H locs 0 0 Q (F0 m 20 ls []) := by
    intro K2 HK2 n
    induction n with
    | zero => intro x2 x3 x4 H locs ls h hP hD hS hl; exact False.elim h
    | succ n ih => intro x2 x3 x4 H locs ls h hP hD hS hl; exact B20 K2 HK2 (wp_So_isRightAfter_L20 F_powers F_logs W_data W_repairs W_first S_found S_syndromes S_places S_fixes post K2 n) ih x2 x3 x4 H locs ls h hP hD hS hl
  have B2 : ∀ (K2 : Int32 → Prop) (HK2 : ∀ (x2 : Int32) (H : Heap) (locs : List Loc) (ls : Array Slot), K2 x2 → va_P (dC, dI) vwCl (wd_So_isRightAfter aF aF_powers aF_logs aW aW_bytes aW_lost aW_factors aS aS_syndromes aS_locator aS_helper aS_kept aS_evaluator aS_places aS_fixes cI cZ F_powers F_logs W_lostCount W_data W_repairs W_first S_found S_syndromes S_places S_fixes) H → va_D A (wd_So_isRightAfter aF aF_powers aF_logs aW aW_bytes aW_lost aW_factors aS aS_syndromes aS_locator aS_helper aS_kept aS_evaluator aS_places aS_fixes cI cZ F_powers F_logs W_lostCount W_data W_repairs W_first S_found S_syndromes S_places S_fixes) → va_S A s.heap H locs → lv_has ls 6 [(0, .ref aS), (1, .ref aW), (2, .int x2)] → W p l e rm_So_isRightAfter s m args below meth c H locs 0 0 Q (F0 m 2 ls [])), ∀ (x2 : Int32) (H : Heap) (locs : List Loc) (ls : Array Slot), wp_So_isRightAfter_b2 F_powers F_logs W_data W_repairs W_first S_found S_syndromes S_places S_fixes post K2 x2 → va_P (dC, dI) vwCl (wd_So_isRightAfter aF aF_powers aF_logs aW aW_bytes aW_lost aW_factors aS aS_syndromes aS_locator aS_helper aS_kept aS_evaluator aS_places aS_fixes cI cZ F_powers F_logs W_lostCount W_data W_repairs W_first S_found S_syndromes S_places S_fixes) H → va_D A (wd_So_isRightAfter aF aF_powers aF_logs aW aW_bytes aW_lost aW_factors aS aS_syndromes aS_locator aS_helper aS_kept aS_evaluator aS_places aS_fixes cI cZ F_powers F_logs W_lostCount W_data W_repairs W_first S_found S_syndromes S_places S_fixes) → va_S A s.heap H locs → lv_has ls 6 [(0, .ref aS), (1, .ref aW), (2, .int x2)] → W p l e rm_So_isRightAfter s m args below meth c H locs 0 0 Q (F0 m 2 ls []) := by
    intro K2 HK2 x2 H locs ls h hP hD hS hl
    refine lv_iload_n hx hb d_So_isRightAfter_2 rfl (lv_at hl 2 rfl) ?_
    refine lv_aload_n hx hb d_So_isRightAfter_3 rfl (lv_at hl 1 rfl) ?_
    refine va_get (D := (dC, dI)) (ci := 5) (v := .int W_repairs) (C := "ReedSets$Word") (T := T_Wo) (N := 8) hx hb hts in_Wo hown hK hP 3 rfl rfl 6 (by decide) (hts _ tb_118) (fun _ h9 => h9) rfl d_So_isRightAfter_4 ?_
    refine lv_icmp_ge (tgt := 93) hx hb d_So_isRightAfter_7 (by decide) (fun g7 => ?_) (fun g7 => ?_)
    · have h := h.1 g7
      refine lv_iconst (v := (1 : Int32)) hx hb d_So_isRightAfter_93 (by decide) ?_
      exact RET (1 : Int32) H locs ls 94 d_So_isRightAfter_94 rfl h hP hD hS
    · have h := h.2 g7
      refine lv_aload_n hx hb d_So_isRightAfter_10 rfl (lv_at hl 0 rfl) ?_
      refine va_get (D := (dC, dI)) (ci := 3) (v := .ref aS_syndromes) (C := "ReedSets$Solver") (T := T_So) (N := 9) hx hb hts in_So hown hK hP 4 rfl rfl 1 (by decide) (hts _ tb_148) (fun _ h9 => h9) rfl d_So_isRightAfter_11 ?_
      refine lv_iload_n hx hb d_So_isRightAfter_14 rfl (lv_at hl 2 rfl) ?_
      obtain ⟨hi, h⟩ := h
      refine va_iald hx hb hK hP 5 0 rfl rfl hi d_So_isRightAfter_15 ?_
      refine lv_topi (fun x3_16 ex3_16 => ?_)
      have h := h x3_16 ex3_16
      refine lv_istore_n (lv' := [(3, .int x3_16), (0, .ref aS), (1, .ref aW), (2, .int x2)]) hx hb d_So_isRightAfter_16 rfl hl (by decide) rfl (fun ls hl => ?_)
      refine lv_iconst (v := (0 : Int32)) hx hb d_So_isRightAfter_17 (by decide) ?_
      refine lv_istore (lv' := [(4, .int (0 : Int32)), (3, .int x3_16), (0, .ref aS), (1, .ref aW), (2, .int x2)]) hx hb d_So_isRightAfter_18 hl (by decide) rfl (fun ls hl => ?_)
      obtain ⟨n, h⟩ := h
      exact L20 K2 HK2 n x2 x3_16 (0 : Int32) H locs ls h hP hD hS (lv_sub hl [2, 3, 4, 1, 0] rfl)
  have L2 : ∀  (n : Nat), ∀ (x2 : Int32) (H : Heap) (locs : List Loc) (ls : Array Slot), wp_So_isRightAfter_L2 F_powers F_logs W_data W_repairs W_first S_found S_syndromes S_places S_fixes post  n x2 → va_P (dC, dI) vwCl (wd_So_isRightAfter aF aF_powers aF_logs aW aW_bytes aW_lost aW_factors aS aS_syndromes aS_locator aS_helper aS_kept aS_evaluator aS_places aS_fixes cI cZ F_powers F_logs W_lostCount W_data W_repairs W_first S_found S_syndromes S_places S_fixes) H → va_D A (wd_So_isRightAfter aF aF_powers aF_logs aW aW_bytes aW_lost aW_factors aS aS_syndromes aS_locator aS_helper aS_kept aS_evaluator aS_places aS_fixes cI cZ F_powers F_logs W_lostCount W_data W_repairs W_first S_found S_syndromes S_places S_fixes) → va_S A s.heap H locs → lv_has ls 6 [(0, .ref aS), (1, .ref aW), (2, .int x2)] → W p l e rm_So_isRightAfter s m args below meth c H locs 0 0 Q (F0 m 2 ls []) := by
    intro  n
    induction n with
    | zero => intro x2 H locs ls h hP hD hS hl; exact False.elim h
    | succ n ih => intro x2 H locs ls h hP hD hS hl; exact B2  (wp_So_isRightAfter_L2 F_powers F_logs W_data W_repairs W_first S_found S_syndromes S_places S_fixes post  n) ih x2 H locs ls h hP hD hS hl
  obtain ⟨H, hH⟩ : ∃ H : Heap, H = s.heap := ⟨_, rfl⟩
  obtain ⟨locs, hlo⟩ : ∃ x : List Loc, x = [] := ⟨_, rfl⟩
  have hS : va_S A s.heap H locs := by rw [hH, hlo]; exact hS
  rw [← hH] at hP
  rw [← hlo]
  show W p l e rm_So_isRightAfter s m args below meth c s.heap locs 0 0 Q (F0 m 0 ls [])
  rw [← hH]
  refine lv_iconst (v := (0 : Int32)) hx hb d_So_isRightAfter_0 (by decide) ?_
  refine lv_istore_n (lv' := [(2, .int (0 : Int32)), (0, .ref aS), (1, .ref aW)]) hx hb d_So_isRightAfter_1 rfl hl (by decide) rfl (fun ls hl => ?_)
  obtain ⟨n, h⟩ := h
  exact L2  n (0 : Int32) H locs ls h hP hD hS (lv_sub hl [1, 2, 0] rfl)
abbrev wd_So_countErrors (aW aF aW_bytes aW_lost aW_factors aS aS_syndromes aS_locator aS_helper aS_kept aS_evaluator aS_places aS_fixes : Nat) (cI cZ : ClassId) (W_lostCount : Int32) (W_data : Int32) (W_repairs : Int32) (W_first : Int32) (W_lost : Nat → Int32) (S_found : Int32) (S_places : Nat → Int32) (S_fixes : Nat → Int32) : va_W := [(aW, .inr (5, [.ref aF, .ref aW_bytes, .ref aW_lost, .ref aW_factors, .int W_lostCount, .int W_data, .int W_repairs, .int W_first])), (aW_lost, .inl (cZ, 240, .inl W_lost)), (aS, .inr (3, [.ref aF, .ref aS_syndromes, .ref aS_locator, .ref aS_helper, .ref aS_kept, .ref aS_evaluator, .ref aS_places, .ref aS_fixes, .int S_found])), (aS_places, .inl (cI, 40, .inl S_places)), (aS_fixes, .inl (cI, 40, .inl S_fixes))]
def wp_So_countErrors_b38 (W_lost : Nat → Int32) (S_found : Int32) (S_places : Nat → Int32) (S_fixes : Nat → Int32) (post : Int32 → Prop) (K4 : Int32 → Int32 → Prop) (x2 : Int32) (x3 : Int32) : Prop := ∀ x3_38 : Int32, x3_38 = (x3 + (1 : Int32)) → (K4 x2 x3_38)
def wp_So_countErrors_b4 (W_lost : Nat → Int32) (S_found : Int32) (S_places : Nat → Int32) (S_fixes : Nat → Int32) (post : Int32 → Prop) (K4 : Int32 → Int32 → Prop) (x2 : Int32) (x3 : Int32) : Prop := (S_found ≤ x3 → (post x2)) ∧ (¬ S_found ≤ x3 → (vp_in x3 40 ∧ (vp_in (S_places x3.toNatClampNeg) 240 ∧ ((¬ (W_lost (S_places x3.toNatClampNeg).toNatClampNeg) = 0 → (wp_So_countErrors_b38 W_lost S_found S_places S_fixes post K4 x2 x3)) ∧ ((W_lost (S_places x3.toNatClampNeg).toNatClampNeg) = 0 → (vp_in x3 40 ∧ (((S_fixes x3.toNatClampNeg) = 0 → (wp_So_countErrors_b38 W_lost S_found S_places S_fixes post K4 x2 x3)) ∧ (¬ (S_fixes x3.toNatClampNeg) = 0 → (∀ x2_35 : Int32, x2_35 = (x2 + (1 : Int32)) → (wp_So_countErrors_b38 W_lost S_found S_places S_fixes post K4 x2_35 x3))))))))))
def wp_So_countErrors_L4 (W_lost : Nat → Int32) (S_found : Int32) (S_places : Nat → Int32) (S_fixes : Nat → Int32) (post : Int32 → Prop)  : Nat → Int32 → Int32 → Prop
  | 0 => fun _ _ => False
  | n + 1 => wp_So_countErrors_b4 W_lost S_found S_places S_fixes post (wp_So_countErrors_L4 W_lost S_found S_places S_fixes post n)
def wp_So_countErrors (W_lost : Nat → Int32) (S_found : Int32) (S_places : Nat → Int32) (S_fixes : Nat → Int32) (post : Int32 → Prop) : Prop := ∃ n : Nat, wp_So_countErrors_L4 W_lost S_found S_places S_fixes post  n (0 : Int32) (0 : Int32)
abbrev rm_So_countErrors : Room := { frames := 0, cells := 0, slots := 0, locals := 0 }
set_option maxHeartbeats 4000000 in
set_option maxRecDepth 100000 in
theorem ct_So_countErrors (l : Launch) (dC : Nat → ClassId) (dI : Nat → Nat → Nat) (aW aF aW_bytes aW_lost aW_factors aS aS_syndromes aS_locator aS_helper aS_kept aS_evaluator aS_places aS_fixes : Nat) (cI cZ : ClassId) (W_lostCount : Int32) (W_data : Int32) (W_repairs : Int32) (W_first : Int32) (W_lost : Nat → Int32) (S_found : Int32) (S_places : Nat → Int32) (S_fixes : Nat → Int32)  (post : Int32 → Prop) (h : wp_So_countErrors W_lost S_found S_places S_fixes post) (sz : Nat) : Met l y_So_countErrors (Cond.code y_So_countErrors c_So_countErrors 4 (some .int) :: tb) rm_So_countErrors (mt_P (dC, dI) vwCl [(cI, .int), (cZ, .boolean)] [.ref aS, .ref aW] (wd_So_countErrors aW aF aW_bytes aW_lost aW_factors aS aS_syndromes aS_locator aS_helper aS_kept aS_evaluator aS_places aS_fixes cI cZ W_lostCount W_data W_repairs W_first W_lost S_found S_places S_fixes) sz) (va_Qi (fun (r : Int32) (u : Unit) => post r) (mt_B (dC, dI) vwCl [(cI, .int), (cZ, .boolean)] (wd_So_countErrors aW aF aW_bytes aW_lost aW_factors aS aS_syndromes aS_locator aS_helper aS_kept aS_evaluator aS_places aS_fixes cI cZ W_lostCount W_data W_repairs W_first W_lost S_found S_places S_fixes) sz (fun u : Unit => wd_So_countErrors aW aF aW_bytes aW_lost aW_factors aS aS_syndromes aS_locator aS_helper aS_kept aS_evaluator aS_places aS_fixes cI cZ W_lostCount W_data W_repairs W_first W_lost S_found S_places S_fixes)) (va_A (wd_So_countErrors aW aF aW_bytes aW_lost aW_factors aS aS_syndromes aS_locator aS_helper aS_kept aS_evaluator aS_places aS_fixes cI cZ W_lostCount W_data W_repairs W_first W_lost S_found S_places S_fixes) sz)) 0 0 (va_A (wd_So_countErrors aW aF aW_bytes aW_lost aW_factors aS aS_syndromes aS_locator aS_helper aS_kept aS_evaluator aS_places aS_fixes cI cZ W_lostCount W_data W_repairs W_first W_lost S_found S_places S_fixes) sz) := by
  refine mt_bd (by decide +kernel) (Nat.le_of_ble_eq_true rfl) ?_
  intro p e s m args below meth c hx hb hml hown hts hr hlk hnm hsz hP hK hD hA hS ls hl
  subst hsz
  have hown : s.vm.findClass "ReedSets$Solver" = some m.cls := hown
  have hl : lv_has ls 4 [(0, .ref aS), (1, .ref aW)] := hl
  refine lz_Q (fun Q hQ => ?_)
  obtain ⟨A, hAe⟩ : ∃ A : Nat → Prop, A = va_A (wd_So_countErrors aW aF aW_bytes aW_lost aW_factors aS aS_syndromes aS_locator aS_helper aS_kept aS_evaluator aS_places aS_fixes cI cZ W_lostCount W_data W_repairs W_first W_lost S_found S_places S_fixes) s.heap.size := ⟨_, rfl⟩
  rw [← hAe] at hD hA hS
  have RET : ∀ (v : Int32)  (H : Heap) (locs : List Loc) (ls : Array Slot) (pc : Nat), decode c_So_countErrors pc = .ok (.ireturn, 1) → post v  → va_P (dC, dI) vwCl (wd_So_countErrors aW aF aW_bytes aW_lost aW_factors aS aS_syndromes aS_locator aS_helper aS_kept aS_evaluator aS_places aS_fixes cI cZ W_lostCount W_data W_repairs W_first W_lost S_found S_places S_fixes) H → va_D A (wd_So_countErrors aW aF aW_bytes aW_lost aW_factors aS aS_syndromes aS_locator aS_helper aS_kept aS_evaluator aS_places aS_fixes cI cZ W_lostCount W_data W_repairs W_first W_lost S_found S_places S_fixes) → va_S A s.heap H locs → W p l e rm_So_countErrors s m args below meth c H locs 0 0 Q (F0 m pc ls [.int v]) := by
    intro v  H locs ls pc hd hp h1 h2 h3
    rw [hQ]
    rw [hAe] at h2 h3
    exact mt_reti () hx hb hr hlk hd hK h1 h2 h3 hp
  have B38 : ∀ (K4 : Int32 → Int32 → Prop) (HK4 : ∀ (x2 : Int32) (x3 : Int32) (H : Heap) (locs : List Loc) (ls : Array Slot), K4 x2 x3 → va_P (dC, dI) vwCl (wd_So_countErrors aW aF aW_bytes aW_lost aW_factors aS aS_syndromes aS_locator aS_helper aS_kept aS_evaluator aS_places aS_fixes cI cZ W_lostCount W_data W_repairs W_first W_lost S_found S_places S_fixes) H → va_D A (wd_So_countErrors aW aF aW_bytes aW_lost aW_factors aS aS_syndromes aS_locator aS_helper aS_kept aS_evaluator aS_places aS_fixes cI cZ W_lostCount W_data W_repairs W_first W_lost S_found S_places S_fixes) → va_S A s.heap H locs → lv_has ls 4 [(0, .ref aS), (1, .ref aW), (2, .int x2), (3, .int x3)] → W p l e rm_So_countErrors s m args below meth c H locs 0 0 Q (F0 m 4 ls [])), ∀ (x2 : Int32) (x3 : Int32) (H : Heap) (locs : List Loc) (ls : Array Slot), wp_So_countErrors_b38 W_lost S_found S_places S_fixes post K4 x2 x3 → va_P (dC, dI) vwCl (wd_So_countErrors aW aF aW_bytes aW_lost aW_factors aS aS_syndromes aS_locator aS_helper aS_kept aS_evaluator aS_places aS_fixes cI cZ W_lostCount W_data W_repairs W_first W_lost S_found S_places S_fixes) H → va_D A (wd_So_countErrors aW aF aW_bytes aW_lost aW_factors aS aS_syndromes aS_locator aS_helper aS_kept aS_evaluator aS_places aS_fixes cI cZ W_lostCount W_data W_repairs W_first W_lost S_found S_places S_fixes) → va_S A s.heap H locs → lv_has ls 4 [(0, .ref aS), (1, .ref aW), (2, .int x2), (3, .int x3)] → W p l e rm_So_countErrors s m args below meth c H locs 0 0 Q (F0 m 38 ls []) := by
    intro K4 HK4 x2 x3 H locs ls h hP hD hS hl
    obtain ⟨x3_38, ex3_38⟩ : ∃ y : Int32, y = (x3 + (1 : Int32)) := ⟨_, rfl⟩
    have h := h x3_38 ex3_38
    refine lv_iinc (v := x3_38) (lv' := [(3, .int x3_38), (0, .ref aS), (1, .ref aW), (2, .int x2)]) hx hb d_So_countErrors_38 hl (k := 3) rfl (by rw [ex3_38]; rfl) (by decide) rfl (fun ls hl => ?_)
    refine lv_goto (tgt := 4) hx hb d_So_countErrors_41 (by decide) ?_
    exact HK4 x2 x3_38 H locs ls h hP hD hS (lv_sub hl [1, 2, 3, 0] rfl)
  have B4 : ∀ (K4 : Int32 → Int32 → Prop) (HK4 : ∀ (x2 : Int32) (x3 : Int32) (H : Heap) (locs : List Loc) (ls : Array Slot), K4 x2 x3 → va_P (dC, dI) vwCl (wd_So_countErrors aW aF aW_bytes aW_lost aW_factors aS aS_syndromes aS_locator aS_helper aS_kept aS_evaluator aS_places aS_fixes cI cZ W_lostCount W_data W_repairs W_first W_lost S_found S_places S_fixes) H → va_D A (wd_So_countErrors aW aF aW_bytes aW_lost aW_factors aS aS_syndromes aS_locator aS_helper aS_kept aS_evaluator aS_places aS_fixes cI cZ W_lostCount W_data W_repairs W_first W_lost S_found S_places S_fixes) → va_S A s.heap H locs → lv_has ls 4 [(0, .ref aS), (1, .ref aW), (2, .int x2), (3, .int x3)] → W p l e rm_So_countErrors s m args below meth c H locs 0 0 Q (F0 m 4 ls [])), ∀ (x2 : Int32) (x3 : Int32) (H : Heap) (locs : List Loc) (ls : Array Slot), wp_So_countErrors_b4 W_lost S_found S_places S_fixes post K4 x2 x3 → va_P (dC, dI) vwCl (wd_So_countErrors aW aF aW_bytes aW_lost aW_factors aS aS_syndromes aS_locator aS_helper aS_kept aS_evaluator aS_places aS_fixes cI cZ W_lostCount W_data W_repairs W_first W_lost S_found S_places S_fixes) H → va_D A (wd_So_countErrors aW aF aW_bytes aW_lost aW_factors aS aS_syndromes aS_locator aS_helper aS_kept aS_evaluator aS_places aS_fixes cI cZ W_lostCount W_data W_repairs W_first W_lost S_found S_places S_fixes) → va_S A s.heap H locs → lv_has ls 4 [(0, .ref aS), (1, .ref aW), (2, .int x2), (3, .int x3)] → W p l e rm_So_countErrors s m args below meth c H locs 0 0 Q (F0 m 4 ls []) := by
    intro K4 HK4 x2 x3 H locs ls h hP hD hS hl
    refine lv_iload_n hx hb d_So_countErrors_4 rfl (lv_at hl 3 rfl) ?_
    refine lv_aload_n hx hb d_So_countErrors_5 rfl (lv_at hl 0 rfl) ?_
    refine va_get (D := (dC, dI)) (ci := 3) (v := .int S_found) (C := "ReedSets$Solver") (T := T_So) (N := 9) hx hb hts in_So hown hK hP 2 rfl rfl 8 (by decide) (hts _ tb_156) (fun _ h9 => h9) rfl d_So_countErrors_6 ?_
    refine lv_icmp_ge (tgt := 44) hx hb d_So_countErrors_9 (by decide) (fun g9 => ?_) (fun g9 => ?_)
    · have h := h.1 g9
      refine lv_iload_n hx hb d_So_countErrors_44 rfl (lv_at hl 2 rfl) ?_
      exact RET x2 H locs ls 45 d_So_countErrors_45 h hP hD hS
    · have h := h.2 g9
      refine lv_aload_n hx hb d_So_countErrors_12 rfl (lv_at hl 1 rfl) ?_
      refine va_get (D := (dC, dI)) (ci := 5) (v := .ref aW_lost) (C := "ReedSets$Word") (T := T_Wo) (N := 8) hx hb hts in_Wo hown hK hP 0 rfl rfl 2 (by decide) (hts _ tb_108) (fun _ h9 => h9) rfl d_So_countErrors_13 ?_
      refine lv_aload_n hx hb d_So_countErrors_16 rfl (lv_at hl 0 rfl) ?_
      refine va_get (D := (dC, dI)) (ci := 3) (v := .ref aS_places) (C := "ReedSets$Solver") (T := T_So) (N := 9) hx hb hts in_So hown hK hP 2 rfl rfl 6 (by decide) (hts _ tb_153) (fun _ h9 => h9) rfl d_So_countErrors_17 ?_
      refine lv_iload_n hx hb d_So_countErrors_20 rfl (lv_at hl 3 rfl) ?_
      obtain ⟨hi, h⟩ := h
      refine va_iald hx hb hK hP 3 0 rfl rfl hi d_So_countErrors_21 ?_
      obtain ⟨hi, h⟩ := h
      refine va_zald hx hb hK hP 1 1 rfl rfl hi d_So_countErrors_22 ?_
      refine lv_if_ne (tgt := 38) hx hb d_So_countErrors_23 (by decide) (fun g23 => ?_) (fun g23 => ?_)
      · have h := h.1 g23
        exact B38 K4 HK4 x2 x3 H locs ls h hP hD hS (lv_sub hl [0, 1, 2, 3] rfl)
      · have h := h.2 g23
        refine lv_aload_n hx hb d_So_countErrors_26 rfl (lv_at hl 0 rfl) ?_
        refine va_get (D := (dC, dI)) (ci := 3) (v := .ref aS_fixes) (C := "ReedSets$Solver") (T := T_So) (N := 9) hx hb hts in_So hown hK hP 2 rfl rfl 7 (by decide) (hts _ tb_155) (fun _ h9 => h9) rfl d_So_countErrors_27 ?_
        refine lv_iload_n hx hb d_So_countErrors_30 rfl (lv_at hl 3 rfl) ?_
        obtain ⟨hi, h⟩ := h
        refine va_iald hx hb hK hP 4 0 rfl rfl hi d_So_countErrors_31 ?_
        refine lv_if_eq (tgt := 38) hx hb d_So_countErrors_32 (by decide) (fun g32 => ?_) (fun g32 => ?_)
        · have h := h.1 g32
          exact B38 K4 HK4 x2 x3 H locs ls h hP hD hS (lv_sub hl [0, 1, 2, 3] rfl)
        · have h := h.2 g32
          obtain ⟨x2_35, ex2_35⟩ : ∃ y : Int32, y = (x2 + (1 : Int32)) := ⟨_, rfl⟩
          have h := h x2_35 ex2_35
          refine lv_iinc (v := x2_35) (lv' := [(2, .int x2_35), (0, .ref aS), (1, .ref aW), (3, .int x3)]) hx hb d_So_countErrors_35 hl (k := 2) rfl (by rw [ex2_35]; rfl) (by decide) rfl (fun ls hl => ?_)
          exact B38 K4 HK4 x2_35 x3 H locs ls h hP hD hS (lv_sub hl [1, 2, 0, 3] rfl)
  have L4 : ∀  (n : Nat), ∀ (x2 : Int32) (x3 : Int32) (H : Heap) (locs : List Loc) (ls : Array Slot), wp_So_countErrors_L4 W_lost S_found S_places S_fixes post  n x2 x3 → va_P (dC, dI) vwCl (wd_So_countErrors aW aF aW_bytes aW_lost aW_factors aS aS_syndromes aS_locator aS_helper aS_kept aS_evaluator aS_places aS_fixes cI cZ W_lostCount W_data W_repairs W_first W_lost S_found S_places S_fixes) H → va_D A (wd_So_countErrors aW aF aW_bytes aW_lost aW_factors aS aS_syndromes aS_locator aS_helper aS_kept aS_evaluator aS_places aS_fixes cI cZ W_lostCount W_data W_repairs W_first W_lost S_found S_places S_fixes) → va_S A s.heap H locs → lv_has ls 4 [(0, .ref aS), (1, .ref aW), (2, .int x2), (3, .int x3)] → W p l e rm_So_countErrors s m args below meth c H locs 0 0 Q (F0 m 4 ls []) := by
    intro  n
    induction n with
    | zero => intro x2 x3 H locs ls h hP hD hS hl; exact False.elim h
    | succ n ih => intro x2 x3 H locs ls h hP hD hS hl; exact B4  (wp_So_countErrors_L4 W_lost S_found S_places S_fixes post  n) ih x2 x3 H locs ls h hP hD hS hl
  obtain ⟨H, hH⟩ : ∃ H : Heap, H = s.heap := ⟨_, rfl⟩
  obtain ⟨locs, hlo⟩ : ∃ x : List Loc, x = [] := ⟨_, rfl⟩
  have hS : va_S A s.heap H locs := by rw [hH, hlo]; exact hS
  rw [← hH] at hP
  rw [← hlo]
  show W p l e rm_So_countErrors s m args below meth c s.heap locs 0 0 Q (F0 m 0 ls [])
  rw [← hH]
  refine lv_iconst (v := (0 : Int32)) hx hb d_So_countErrors_0 (by decide) ?_
  refine lv_istore_n (lv' := [(2, .int (0 : Int32)), (0, .ref aS), (1, .ref aW)]) hx hb d_So_countErrors_1 rfl hl (by decide) rfl (fun ls hl => ?_)
  refine lv_iconst (v := (0 : Int32)) hx hb d_So_countErrors_2 (by decide) ?_
  refine lv_istore_n (lv' := [(3, .int (0 : Int32)), (2, .int (0 : Int32)), (0, .ref aS), (1, .ref aW)]) hx hb d_So_countErrors_3 rfl hl (by decide) rfl (fun ls hl => ?_)
  obtain ⟨n, h⟩ := h
  exact L4  n (0 : Int32) (0 : Int32) H locs ls h hP hD hS (lv_sub hl [2, 3, 1, 0] rfl)
abbrev wd_So_solve (aF aF_powers aF_logs aW aW_bytes aW_lost aW_factors aS aS_syndromes aS_locator aS_helper aS_kept aS_evaluator aS_places aS_fixes : Nat) (cI cZ : ClassId) (F_powers : Nat → Int32) (F_logs : Nat → Int32) (W_lostCount : Int32) (W_data : Int32) (W_repairs : Int32) (W_first : Int32) (W_bytes : Nat → Int32) (W_lost : Nat → Int32) (S_found : Int32) (S_syndromes : Nat → Int32) (S_locator : Nat → Int32) (S_helper : Nat → Int32) (S_kept : Nat → Int32) (S_evaluator : Nat → Int32) (S_places : Nat → Int32) (S_fixes : Nat → Int32) : va_W := [(aF, .inr (1, [.ref aF_powers, .ref aF_logs])), (aF_powers, .inl (cI, 512, .inl F_powers)), (aF_logs, .inl (cI, 256, .inl F_logs)), (aW, .inr (5, [.ref aF, .ref aW_bytes, .ref aW_lost, .ref aW_factors, .int W_lostCount, .int W_data, .int W_repairs, .int W_first])), (aW_bytes, .inl (cI, 240, .inl W_bytes)), (aW_lost, .inl (cZ, 240, .inl W_lost)), (aS, .inr (3, [.ref aF, .ref aS_syndromes, .ref aS_locator, .ref aS_helper, .ref aS_kept, .ref aS_evaluator, .ref aS_places, .ref aS_fixes, .int S_found])), (aS_syndromes, .inl (cI, 40, .inl S_syndromes)), (aS_locator, .inl (cI, 41, .inl S_locator)), (aS_helper, .inl (cI, 41, .inl S_helper)), (aS_kept, .inl (cI, 41, .inl S_kept)), (aS_evaluator, .inl (cI, 41, .inl S_evaluator)), (aS_places, .inl (cI, 40, .inl S_places)), (aS_fixes, .inl (cI, 40, .inl S_fixes))]
def wp_So_solve_b65 (F_powers : Nat → Int32) (F_logs : Nat → Int32) (W_lostCount : Int32) (W_data : Int32) (W_repairs : Int32) (W_first : Int32) (W_bytes : Nat → Int32) (W_lost : Nat → Int32) (post : Int32 → Int32 → (Nat → Int32) → (Nat → Int32) → (Nat → Int32) → (Nat → Int32) → (Nat → Int32) → (Nat → Int32) → (Nat → Int32) → Prop)  (S_found : Int32) (S_syndromes : Nat → Int32) (S_locator : Nat → Int32) (S_helper : Nat → Int32) (S_kept : Nat → Int32) (S_evaluator : Nat → Int32) (S_places : Nat → Int32) (S_fixes : Nat → Int32) : Prop := post (-1 : Int32) S_found S_syndromes S_locator S_helper S_kept S_evaluator S_places S_fixes
def wp_So_solve_b89 (F_powers : Nat → Int32) (F_logs : Nat → Int32) (W_lostCount : Int32) (W_data : Int32) (W_repairs : Int32) (W_first : Int32) (W_bytes : Nat → Int32) (W_lost : Nat → Int32) (post : Int32 → Int32 → (Nat → Int32) → (Nat → Int32) → (Nat → Int32) → (Nat → Int32) → (Nat → Int32) → (Nat → Int32) → (Nat → Int32) → Prop)  (S_found : Int32) (S_syndromes : Nat → Int32) (S_locator : Nat → Int32) (S_helper : Nat → Int32) (S_kept : Nat → Int32) (S_evaluator : Nat → Int32) (S_places : Nat → Int32) (S_fixes : Nat → Int32) (t0 : Int32) : Prop := post t0 S_found S_syndromes S_locator S_helper S_kept S_evaluator S_places S_fixes
def wp_So_solve (F_powers : Nat → Int32) (F_logs : Nat → Int32) (W_lostCount : Int32) (W_data : Int32) (W_repairs : Int32) (W_first : Int32) (W_bytes : Nat → Int32) (W_lost : Nat → Int32) (S_found : Int32) (S_syndromes : Nat → Int32) (S_locator : Nat → Int32) (S_helper : Nat → Int32) (S_kept : Nat → Int32) (S_evaluator : Nat → Int32) (S_places : Nat → Int32) (S_fixes : Nat → Int32) (post : Int32 → Int32 → (Nat → Int32) → (Nat → Int32) → (Nat → Int32) → (Nat → Int32) → (Nat → Int32) → (Nat → Int32) → (Nat → Int32) → Prop) : Prop := (W_lostCount ≤ W_repairs → (wp_So_readSyndromes F_powers F_logs W_data W_repairs W_first W_bytes W_lost S_syndromes (fun S_syndromes_20 => (wp_So_locateLost F_powers F_logs W_data W_repairs W_lost S_locator (fun S_locator_25 => (wp_So_locateErrors F_powers F_logs S_syndromes_20 S_locator_25 S_helper S_kept W_repairs W_lostCount (fun r_37 S_locator_37 S_helper_37 S_kept_37 => ((W_repairs < (((2 : Int32) * r_37) - W_lostCount) → (wp_So_solve_b65 F_powers F_logs W_lostCount W_data W_repairs W_first W_bytes W_lost post  (0 : Int32) S_syndromes_20 S_locator_37 S_helper_37 S_kept_37 S_evaluator S_places S_fixes)) ∧ (¬ W_repairs < (((2 : Int32) * r_37) - W_lostCount) → (wp_So_findPlaces F_powers F_logs W_data W_repairs (0 : Int32) S_locator_37 S_places r_37 (fun r_59 S_found_59 S_places_59 => ((¬ r_59 = 0 → (wp_So_findFixes F_powers F_logs W_data W_repairs W_first S_found_59 S_syndromes_20 S_locator_37 S_evaluator S_places_59 S_fixes (fun S_evaluator_69 S_fixes_69 => (wp_So_isRightAfter F_powers F_logs W_data W_repairs W_first S_found_59 S_syndromes_20 S_places_59 S_fixes_69 (fun r_74 => ((r_74 = 0 → (wp_So_solve_b89 F_powers F_logs W_lostCount W_data W_repairs W_first W_bytes W_lost post  S_found_59 S_syndromes_20 S_locator_37 S_helper_37 S_kept_37 S_evaluator_69 S_places_59 S_fixes_69 (-1 : Int32))) ∧ (¬ r_74 = 0 → (wp_So_countErrors W_lost S_found_59 S_places_59 S_fixes_69 (fun r_82 => (wp_So_solve_b89 F_powers F_logs W_lostCount W_data W_repairs W_first W_bytes W_lost post  S_found_59 S_syndromes_20 S_locator_37 S_helper_37 S_kept_37 S_evaluator_69 S_places_59 S_fixes_69 r_82)))))))))) ∧ (r_59 = 0 → (wp_So_solve_b65 F_powers F_logs W_lostCount W_data W_repairs W_first W_bytes W_lost post  S_found_59 S_syndromes_20 S_locator_37 S_helper_37 S_kept_37 S_evaluator S_places_59 S_fixes)))))))))))))) ∧ (¬ W_lostCount ≤ W_repairs → (post (-1 : Int32) (0 : Int32) S_syndromes S_locator S_helper S_kept S_evaluator S_places S_fixes))
abbrev rm_So_solve : Room := { frames := 3, cells := 0, slots := 0, locals := 72 }
set_option maxHeartbeats 4000000 in
set_option maxRecDepth 100000 in
theorem ct_So_solve (l : Launch) (dC : Nat → ClassId) (dI : Nat → Nat → Nat) (aF aF_powers aF_logs aW aW_bytes aW_lost aW_factors aS aS_syndromes aS_locator aS_helper aS_kept aS_evaluator aS_places aS_fixes : Nat) (cI cZ : ClassId) (F_powers : Nat → Int32) (F_logs : Nat → Int32) (W_lostCount : Int32) (W_data : Int32) (W_repairs : Int32) (W_first : Int32) (W_bytes : Nat → Int32) (W_lost : Nat → Int32) (S_found : Int32) (S_syndromes : Nat → Int32) (S_locator : Nat → Int32) (S_helper : Nat → Int32) (S_kept : Nat → Int32) (S_evaluator : Nat → Int32) (S_places : Nat → Int32) (S_fixes : Nat → Int32)  (post : Int32 → Int32 → (Nat → Int32) → (Nat → Int32) → (Nat → Int32) → (Nat → Int32) → (Nat → Int32) → (Nat → Int32) → (Nat → Int32) → Prop) (h : wp_So_solve F_powers F_logs W_lostCount W_data W_repairs W_first W_bytes W_lost S_found S_syndromes S_locator S_helper S_kept S_evaluator S_places S_fixes post) (sz : Nat) : Met l y_So_solve (Cond.code y_So_solve c_So_solve 3 (some .int) :: tb) rm_So_solve (mt_P (dC, dI) vwCl [(cI, .int), (cZ, .boolean)] [.ref aS, .ref aW] (wd_So_solve aF aF_powers aF_logs aW aW_bytes aW_lost aW_factors aS aS_syndromes aS_locator aS_helper aS_kept aS_evaluator aS_places aS_fixes cI cZ F_powers F_logs W_lostCount W_data W_repairs W_first W_bytes W_lost S_found S_syndromes S_locator S_helper S_kept S_evaluator S_places S_fixes) sz) (va_Qi (fun (r : Int32) (u : Int32 × (Nat → Int32) × (Nat → Int32) × (Nat → Int32) × (Nat → Int32) × (Nat → Int32) × (Nat → Int32) × (Nat → Int32)) => post r u.1 u.2.1 u.2.2.1 u.2.2.2.1 u.2.2.2.2.1 u.2.2.2.2.2.1 u.2.2.2.2.2.2.1 u.2.2.2.2.2.2.2) (mt_B (dC, dI) vwCl [(cI, .int), (cZ, .boolean)] (wd_So_solve aF aF_powers aF_logs aW aW_bytes aW_lost aW_factors aS aS_syndromes aS_locator aS_helper aS_kept aS_evaluator aS_places aS_fixes cI cZ F_powers F_logs W_lostCount W_data W_repairs W_first W_bytes W_lost S_found S_syndromes S_locator S_helper S_kept S_evaluator S_places S_fixes) sz (fun u : Int32 × (Nat → Int32) × (Nat → Int32) × (Nat → Int32) × (Nat → Int32) × (Nat → Int32) × (Nat → Int32) × (Nat → Int32) => wd_So_solve aF aF_powers aF_logs aW aW_bytes aW_lost aW_factors aS aS_syndromes aS_locator aS_helper aS_kept aS_evaluator aS_places aS_fixes cI cZ F_powers F_logs W_lostCount W_data W_repairs W_first W_bytes W_lost u.1 u.2.1 u.2.2.1 u.2.2.2.1 u.2.2.2.2.1 u.2.2.2.2.2.1 u.2.2.2.2.2.2.1 u.2.2.2.2.2.2.2)) (va_A (wd_So_solve aF aF_powers aF_logs aW aW_bytes aW_lost aW_factors aS aS_syndromes aS_locator aS_helper aS_kept aS_evaluator aS_places aS_fixes cI cZ F_powers F_logs W_lostCount W_data W_repairs W_first W_bytes W_lost S_found S_syndromes S_locator S_helper S_kept S_evaluator S_places S_fixes) sz)) 0 0 (va_A (wd_So_solve aF aF_powers aF_logs aW aW_bytes aW_lost aW_factors aS aS_syndromes aS_locator aS_helper aS_kept aS_evaluator aS_places aS_fixes cI cZ F_powers F_logs W_lostCount W_data W_repairs W_first W_bytes W_lost S_found S_syndromes S_locator S_helper S_kept S_evaluator S_places S_fixes) sz) := by
  refine mt_bd (by decide +kernel) (Nat.le_of_ble_eq_true rfl) ?_
  intro p e s m args below meth c hx hb hml hown hts hr hlk hnm hsz hP hK hD hA hS ls hl
  subst hsz
  have hown : s.vm.findClass "ReedSets$Solver" = some m.cls := hown
  have hl : lv_has ls 3 [(0, .ref aS), (1, .ref aW)] := hl
  refine lz_Q (fun Q hQ => ?_)
  obtain ⟨A, hAe⟩ : ∃ A : Nat → Prop, A = va_A (wd_So_solve aF aF_powers aF_logs aW aW_bytes aW_lost aW_factors aS aS_syndromes aS_locator aS_helper aS_kept aS_evaluator aS_places aS_fixes cI cZ F_powers F_logs W_lostCount W_data W_repairs W_first W_bytes W_lost S_found S_syndromes S_locator S_helper S_kept S_evaluator S_places S_fixes) s.heap.size := ⟨_, rfl⟩
  rw [← hAe] at hD hA hS
  have RET : ∀ (v : Int32) (S_found : Int32) (S_syndromes : Nat → Int32) (S_locator : Nat → Int32) (S_helper : Nat → Int32) (S_kept : Nat → Int32) (S_evaluator : Nat → Int32) (S_places : Nat → Int32) (S_fixes : Nat → Int32) (H : Heap) (locs : List Loc) (ls : Array Slot) (pc : Nat), decode c_So_solve pc = .ok (.ireturn, 1) → post v S_found S_syndromes S_locator S_helper S_kept S_evaluator S_places S_fixes → va_P (dC, dI) vwCl (wd_So_solve aF aF_powers aF_logs aW aW_bytes aW_lost aW_factors aS aS_syndromes aS_locator aS_helper aS_kept aS_evaluator aS_places aS_fixes cI cZ F_powers F_logs W_lostCount W_data W_repairs W_first W_bytes W_lost S_found S_syndromes S_locator S_helper S_kept S_evaluator S_places S_fixes) H → va_D A (wd_So_solve aF aF_powers aF_logs aW aW_bytes aW_lost aW_factors aS aS_syndromes aS_locator aS_helper aS_kept aS_evaluator aS_places aS_fixes cI cZ F_powers F_logs W_lostCount W_data W_repairs W_first W_bytes W_lost S_found S_syndromes S_locator S_helper S_kept S_evaluator S_places S_fixes) → va_S A s.heap H locs → W p l e rm_So_solve s m args below meth c H locs 0 0 Q (F0 m pc ls [.int v]) := by
    intro v S_found S_syndromes S_locator S_helper S_kept S_evaluator S_places S_fixes H locs ls pc hd hp h1 h2 h3
    rw [hQ]
    rw [hAe] at h2 h3
    exact mt_reti (S_found, S_syndromes, S_locator, S_helper, S_kept, S_evaluator, S_places, S_fixes) hx hb hr hlk hd hK h1 h2 h3 hp
  have B65 : ∀ (S_found : Int32) (S_syndromes : Nat → Int32) (S_locator : Nat → Int32) (S_helper : Nat → Int32) (S_kept : Nat → Int32) (S_evaluator : Nat → Int32) (S_places : Nat → Int32) (S_fixes : Nat → Int32) (H : Heap) (locs : List Loc) (ls : Array Slot), wp_So_solve_b65 F_powers F_logs W_lostCount W_data W_repairs W_first W_bytes W_lost post  S_found S_syndromes S_locator S_helper S_kept S_evaluator S_places S_fixes → va_P (dC, dI) vwCl (wd_So_solve aF aF_powers aF_logs aW aW_bytes aW_lost aW_factors aS aS_syndromes aS_locator aS_helper aS_kept aS_evaluator aS_places aS_fixes cI cZ F_powers F_logs W_lostCount W_data W_repairs W_first W_bytes W_lost S_found S_syndromes S_locator S_helper S_kept S_evaluator S_places S_fixes) H → va_D A (wd_So_solve aF aF_powers aF_logs aW aW_bytes aW_lost aW_factors aS aS_syndromes aS_locator aS_helper aS_kept aS_evaluator aS_places aS_fixes cI cZ F_powers F_logs W_lostCount W_data W_repairs W_first W_bytes W_lost S_found S_syndromes S_locator S_helper S_kept S_evaluator S_places S_fixes) → va_S A s.heap H locs → lv_has ls 3 [] → W p l e rm_So_solve s m args below meth c H locs 0 0 Q (F0 m 65 ls []) := by
    intro  S_found S_syndromes S_locator S_helper S_kept S_evaluator S_places S_fixes H locs ls h hP hD hS hl
    refine lv_iconst (v := (-1 : Int32)) hx hb d_So_solve_65 (by decide) ?_
    exact RET (-1 : Int32) S_found S_syndromes S_locator S_helper S_kept S_evaluator S_places S_fixes H locs ls 66 d_So_solve_66 h hP hD hS
  have B89 : ∀ (S_found : Int32) (S_syndromes : Nat → Int32) (S_locator : Nat → Int32) (S_helper : Nat → Int32) (S_kept : Nat → Int32) (S_evaluator : Nat → Int32) (S_places : Nat → Int32) (S_fixes : Nat → Int32) (t0 : Int32) (H : Heap) (locs : List Loc) (ls : Array Slot), wp_So_solve_b89 F_powers F_logs W_lostCount W_data W_repairs W_first W_bytes W_lost post  S_found S_syndromes S_locator S_helper S_kept S_evaluator S_places S_fixes t0 → va_P (dC, dI) vwCl (wd_So_solve aF aF_powers aF_logs aW aW_bytes aW_lost aW_factors aS aS_syndromes aS_locator aS_helper aS_kept aS_evaluator aS_places aS_fixes cI cZ F_powers F_logs W_lostCount W_data W_repairs W_first W_bytes W_lost S_found S_syndromes S_locator S_helper S_kept S_evaluator S_places S_fixes) H → va_D A (wd_So_solve aF aF_powers aF_logs aW aW_bytes aW_lost aW_factors aS aS_syndromes aS_locator aS_helper aS_kept aS_evaluator aS_places aS_fixes cI cZ F_powers F_logs W_lostCount W_data W_repairs W_first W_bytes W_lost S_found S_syndromes S_locator S_helper S_kept S_evaluator S_places S_fixes) → va_S A s.heap H locs → lv_has ls 3 [] → W p l e rm_So_solve s m args below meth c H locs 0 0 Q (F0 m 89 ls [.int t0]) := by
    intro  S_found S_syndromes S_locator S_helper S_kept S_evaluator S_places S_fixes t0 H locs ls h hP hD hS hl
    exact RET t0 S_found S_syndromes S_locator S_helper S_kept S_evaluator S_places S_fixes H locs ls 89 d_So_solve_89 h hP hD hS
  obtain ⟨H, hH⟩ : ∃ H : Heap, H = s.heap := ⟨_, rfl⟩
  obtain ⟨locs, hlo⟩ : ∃ x : List Loc, x = [] := ⟨_, rfl⟩
  have hS : va_S A s.heap H locs := by rw [hH, hlo]; exact hS
  rw [← hH] at hP
  rw [← hlo]
  show W p l e rm_So_solve s m args below meth c s.heap locs 0 0 Q (F0 m 0 ls [])
  rw [← hH]
  refine lv_aload_n hx hb d_So_solve_0 rfl (lv_at hl 0 rfl) ?_
  refine lv_iconst (v := (0 : Int32)) hx hb d_So_solve_1 (by decide) ?_
  refine va_put (D := (dC, dI)) (ci := 3) (v := .int (0 : Int32)) (ty := .int) (C := "ReedSets$Solver") (T := T_So) (N := 9) hx hb hts in_So ty_So tk_So nm_So hown hK hP hD hS 6 rfl rfl 8 (by decide) (hts _ tb_156) (fun _ h9 => h9) rfl (by decide +kernel) rfl rfl (Nat.le_of_ble_eq_true rfl) d_So_solve_2 (fun H locs hP hD hS => ?_)
  have hP : va_P (dC, dI) vwCl (wd_So_solve aF aF_powers aF_logs aW aW_bytes aW_lost aW_factors aS aS_syndromes aS_locator aS_helper aS_kept aS_evaluator aS_places aS_fixes cI cZ F_powers F_logs W_lostCount W_data W_repairs W_first W_bytes W_lost (0 : Int32) S_syndromes S_locator S_helper S_kept S_evaluator S_places S_fixes) H := hP
  have hD : va_D A (wd_So_solve aF aF_powers aF_logs aW aW_bytes aW_lost aW_factors aS aS_syndromes aS_locator aS_helper aS_kept aS_evaluator aS_places aS_fixes cI cZ F_powers F_logs W_lostCount W_data W_repairs W_first W_bytes W_lost (0 : Int32) S_syndromes S_locator S_helper S_kept S_evaluator S_places S_fixes) := hD
  refine lv_aload_n hx hb d_So_solve_5 rfl (lv_at hl 1 rfl) ?_
  refine va_get (D := (dC, dI)) (ci := 5) (v := .int W_lostCount) (C := "ReedSets$Word") (T := T_Wo) (N := 8) hx hb hts in_Wo hown hK hP 3 rfl rfl 4 (by decide) (hts _ tb_112) (fun _ h9 => h9) rfl d_So_solve_6 ?_
  refine lv_aload_n hx hb d_So_solve_9 rfl (lv_at hl 1 rfl) ?_
  refine va_get (D := (dC, dI)) (ci := 5) (v := .int W_repairs) (C := "ReedSets$Word") (T := T_Wo) (N := 8) hx hb hts in_Wo hown hK hP 3 rfl rfl 6 (by decide) (hts _ tb_118) (fun _ h9 => h9) rfl d_So_solve_10 ?_
  refine lv_icmp_le (tgt := 18) hx hb d_So_solve_13 (by decide) (fun g13 => ?_) (fun g13 => ?_)
  · have h := h.1 g13
    refine lv_aload_n hx hb d_So_solve_18 rfl (lv_at hl 0 rfl) ?_
    refine lv_aload_n hx hb d_So_solve_19 rfl (lv_at hl 1 rfl) ?_
    refine mt_v (va_runV (As := [.ref aW]) (rest := []) ⟨hx, hb, hml, hown, hts⟩ (ct_So_readSyndromes l dC dI aF aF_powers aF_logs aW aW_bytes aW_lost aW_factors aS aS_syndromes aS_locator aS_helper aS_kept aS_evaluator aS_places aS_fixes cI cZ F_powers F_logs W_lostCount W_data W_repairs W_first W_bytes W_lost (0 : Int32) S_syndromes _ h _) (tb_cV hts ok_So_readSyndromes tb_395 rfl rfl ⟨Nat.le_of_ble_eq_true rfl, Nat.le_of_ble_eq_true rfl⟩) (mt_preV hK hP hD [.ref aW] [0, 1, 2, 3, 4, 5, 6, 7] rfl (by decide) (ci := 3) (q0 := 6) rfl rfl) rfl rfl hl.1 rfl (lv_room (Nat.le_of_ble_eq_true rfl)) d_So_solve_20 ⟨Nat.zero_le _, Nat.zero_le _⟩) hP hD hS hA [0, 1, 2, 3, 4, 5, 6, 7] rfl (fun _ => rfl) (fun u H locs h hP hD hS => ?_)
    obtain ⟨S_syndromes_20, rfl⟩ : ∃ z, z = u := ⟨_, rfl⟩
    have hP : va_P (dC, dI) vwCl (wd_So_solve aF aF_powers aF_logs aW aW_bytes aW_lost aW_factors aS aS_syndromes aS_locator aS_helper aS_kept aS_evaluator aS_places aS_fixes cI cZ F_powers F_logs W_lostCount W_data W_repairs W_first W_bytes W_lost (0 : Int32) S_syndromes_20 S_locator S_helper S_kept S_evaluator S_places S_fixes) H := hP
    have hD : va_D A (wd_So_solve aF aF_powers aF_logs aW aW_bytes aW_lost aW_factors aS aS_syndromes aS_locator aS_helper aS_kept aS_evaluator aS_places aS_fixes cI cZ F_powers F_logs W_lostCount W_data W_repairs W_first W_bytes W_lost (0 : Int32) S_syndromes_20 S_locator S_helper S_kept S_evaluator S_places S_fixes) := hD
    refine lv_aload_n hx hb d_So_solve_23 rfl (lv_at hl 0 rfl) ?_
    refine lv_aload_n hx hb d_So_solve_24 rfl (lv_at hl 1 rfl) ?_
    refine mt_v (va_runV (As := [.ref aW]) (rest := []) ⟨hx, hb, hml, hown, hts⟩ (ct_So_locateLost l dC dI aF aF_powers aF_logs aW aW_bytes aW_lost aW_factors aS aS_syndromes aS_locator aS_helper aS_kept aS_evaluator aS_places aS_fixes cI cZ F_powers F_logs W_lostCount W_data W_repairs W_first W_lost (0 : Int32) S_locator _ h _) (tb_cV hts ok_So_locateLost tb_400 rfl rfl ⟨Nat.le_of_ble_eq_true rfl, Nat.le_of_ble_eq_true rfl⟩) (mt_preV hK hP hD [.ref aW] [0, 1, 2, 3, 5, 6, 8] rfl (by decide) (ci := 3) (q0 := 6) rfl rfl) rfl rfl hl.1 rfl (lv_room (Nat.le_of_ble_eq_true rfl)) d_So_solve_25 ⟨Nat.zero_le _, Nat.zero_le _⟩) hP hD hS hA [0, 1, 2, 3, 5, 6, 8] rfl (fun _ => rfl) (fun u H locs h hP hD hS => ?_)
    obtain ⟨S_locator_25, rfl⟩ : ∃ z, z = u := ⟨_, rfl⟩
    have hP : va_P (dC, dI) vwCl (wd_So_solve aF aF_powers aF_logs aW aW_bytes aW_lost aW_factors aS aS_syndromes aS_locator aS_helper aS_kept aS_evaluator aS_places aS_fixes cI cZ F_powers F_logs W_lostCount W_data W_repairs W_first W_bytes W_lost (0 : Int32) S_syndromes_20 S_locator_25 S_helper S_kept S_evaluator S_places S_fixes) H := hP
    have hD : va_D A (wd_So_solve aF aF_powers aF_logs aW aW_bytes aW_lost aW_factors aS aS_syndromes aS_locator aS_helper aS_kept aS_evaluator aS_places aS_fixes cI cZ F_powers F_logs W_lostCount W_data W_repairs W_first W_bytes W_lost (0 : Int32) S_syndromes_20 S_locator_25 S_helper S_kept S_evaluator S_places S_fixes) := hD
    refine lv_aload_n hx hb d_So_solve_28 rfl (lv_at hl 0 rfl) ?_
    refine lv_aload_n hx hb d_So_solve_29 rfl (lv_at hl 1 rfl) ?_
    refine va_get (D := (dC, dI)) (ci := 5) (v := .int W_repairs) (C := "ReedSets$Word") (T := T_Wo) (N := 8) hx hb hts in_Wo hown hK hP 3 rfl rfl 6 (by decide) (hts _ tb_118) (fun _ h9 => h9) rfl d_So_solve_30 ?_
    refine lv_aload_n hx hb d_So_solve_33 rfl (lv_at hl 1 rfl) ?_
    refine va_get (D := (dC, dI)) (ci := 5) (v := .int W_lostCount) (C := "ReedSets$Word") (T := T_Wo) (N := 8) hx hb hts in_Wo hown hK hP 3 rfl rfl 4 (by decide) (hts _ tb_112) (fun _ h9 => h9) rfl d_So_solve_34 ?_
    refine mt_i (va_runV (As := [.int W_repairs, .int W_lostCount]) (rest := []) ⟨hx, hb, hml, hown, hts⟩ (ct_So_locateErrors l dC dI aF aF_powers aF_logs aS aS_syndromes aS_locator aS_helper aS_kept aS_evaluator aS_places aS_fixes cI cZ F_powers F_logs (0 : Int32) S_syndromes_20 S_locator_25 S_helper S_kept W_repairs W_lostCount _ h _) (tb_cV hts ok_So_locateErrors tb_412 rfl rfl ⟨Nat.le_of_ble_eq_true rfl, Nat.le_of_ble_eq_true rfl⟩) (mt_preV hK hP hD [.int W_repairs, .int W_lostCount] [0, 1, 2, 6, 7, 8, 9, 10] rfl (by decide) (ci := 3) (q0 := 6) rfl rfl) rfl rfl hl.1 rfl (lv_room (Nat.le_of_ble_eq_true rfl)) d_So_solve_37 ⟨Nat.zero_le _, Nat.zero_le _⟩) hP hD hS hA [0, 1, 2, 6, 7, 8, 9, 10] rfl (fun _ => rfl) (fun r_37 u H locs h hP hD hS => ?_)
    obtain ⟨S_locator_37, S_helper_37, S_kept_37⟩ := u
    have hP : va_P (dC, dI) vwCl (wd_So_solve aF aF_powers aF_logs aW aW_bytes aW_lost aW_factors aS aS_syndromes aS_locator aS_helper aS_kept aS_evaluator aS_places aS_fixes cI cZ F_powers F_logs W_lostCount W_data W_repairs W_first W_bytes W_lost (0 : Int32) S_syndromes_20 S_locator_37 S_helper_37 S_kept_37 S_evaluator S_places S_fixes) H := hP
    have hD : va_D A (wd_So_solve aF aF_powers aF_logs aW aW_bytes aW_lost aW_factors aS aS_syndromes aS_locator aS_helper aS_kept aS_evaluator aS_places aS_fixes cI cZ F_powers F_logs W_lostCount W_data W_repairs W_first W_bytes W_lost (0 : Int32) S_syndromes_20 S_locator_37 S_helper_37 S_kept_37 S_evaluator S_places S_fixes) := hD
    refine lv_istore_n (lv' := [(2, .int r_37), (0, .ref aS), (1, .ref aW)]) hx hb d_So_solve_40 rfl hl (by decide) rfl (fun ls hl => ?_)
    refine lv_iconst (v := (2 : Int32)) hx hb d_So_solve_41 (by decide) ?_
    refine lv_iload_n hx hb d_So_solve_42 rfl (lv_at hl 0 rfl) ?_
    refine lv_imul hx hb d_So_solve_43 ?_
    refine lv_aload_n hx hb d_So_solve_44 rfl (lv_at hl 2 rfl) ?_
    refine va_get (D := (dC, dI)) (ci := 5) (v := .int W_lostCount) (C := "ReedSets$Word") (T := T_Wo) (N := 8) hx hb hts in_Wo hown hK hP 3 rfl rfl 4 (by decide) (hts _ tb_112) (fun _ h9 => h9) rfl d_So_solve_45 ?_
    refine lv_isub hx hb d_So_solve_48 ?_
    refine lv_aload_n hx hb d_So_solve_49 rfl (lv_at hl 2 rfl) ?_
    refine va_get (D := (dC, dI)) (ci := 5) (v := .int W_repairs) (C := "ReedSets$Word") (T := T_Wo) (N := 8) hx hb hts in_Wo hown hK hP 3 rfl rfl 6 (by decide) (hts _ tb_118) (fun _ h9 => h9) rfl d_So_solve_50 ?_
    refine lv_icmp_gt (tgt := 65) hx hb d_So_solve_53 (by decide) (fun g53 => ?_) (fun g53 => ?_)
    · have h := h.1 g53
      exact B65  (0 : Int32) S_syndromes_20 S_locator_37 S_helper_37 S_kept_37 S_evaluator S_places S_fixes H locs ls h hP hD hS (lv_sub hl [] rfl)
    · have h := h.2 g53
      refine lv_aload_n hx hb d_So_solve_56 rfl (lv_at hl 1 rfl) ?_
      refine lv_aload_n hx hb d_So_solve_57 rfl (lv_at hl 2 rfl) ?_
      refine lv_iload_n hx hb d_So_solve_58 rfl (lv_at hl 0 rfl) ?_
      refine mt_i (va_runV (As := [.ref aW, .int r_37]) (rest := []) ⟨hx, hb, hml, hown, hts⟩ (ct_So_findPlaces l dC dI aF aF_powers aF_logs aW aW_bytes aW_lost aW_factors aS aS_syndromes aS_locator aS_helper aS_kept aS_evaluator aS_places aS_fixes cI cZ F_powers F_logs W_lostCount W_data W_repairs W_first (0 : Int32) S_locator_37 S_places r_37 _ h _) (tb_cV hts ok_So_findPlaces tb_436 rfl rfl ⟨Nat.le_of_ble_eq_true rfl, Nat.le_of_ble_eq_true rfl⟩) (mt_preV hK hP hD [.ref aW, .int r_37] [0, 1, 2, 3, 6, 8, 12] rfl (by decide) (ci := 3) (q0 := 6) rfl rfl) rfl rfl hl.1 rfl (lv_room (Nat.le_of_ble_eq_true rfl)) d_So_solve_59 ⟨Nat.zero_le _, Nat.zero_le _⟩) hP hD hS hA [0, 1, 2, 3, 6, 8, 12] rfl (fun _ => rfl) (fun r_59 u H locs h hP hD hS => ?_)
      obtain ⟨S_found_59, S_places_59⟩ := u
      have hP : va_P (dC, dI) vwCl (wd_So_solve aF aF_powers aF_logs aW aW_bytes aW_lost aW_factors aS aS_syndromes aS_locator aS_helper aS_kept aS_evaluator aS_places aS_fixes cI cZ F_powers F_logs W_lostCount W_data W_repairs W_first W_bytes W_lost S_found_59 S_syndromes_20 S_locator_37 S_helper_37 S_kept_37 S_evaluator S_places_59 S_fixes) H := hP
      have hD : va_D A (wd_So_solve aF aF_powers aF_logs aW aW_bytes aW_lost aW_factors aS aS_syndromes aS_locator aS_helper aS_kept aS_evaluator aS_places aS_fixes cI cZ F_powers F_logs W_lostCount W_data W_repairs W_first W_bytes W_lost S_found_59 S_syndromes_20 S_locator_37 S_helper_37 S_kept_37 S_evaluator S_places_59 S_fixes) := hD
      refine lv_if_ne (tgt := 67) hx hb d_So_solve_62 (by decide) (fun g62 => ?_) (fun g62 => ?_)
      · have h := h.1 g62
        refine lv_aload_n hx hb d_So_solve_67 rfl (lv_at hl 1 rfl) ?_
        refine lv_aload_n hx hb d_So_solve_68 rfl (lv_at hl 2 rfl) ?_
        refine mt_v (va_runV (As := [.ref aW]) (rest := []) ⟨hx, hb, hml, hown, hts⟩ (ct_So_findFixes l dC dI aF aF_powers aF_logs aW aW_bytes aW_lost aW_factors aS aS_syndromes aS_locator aS_helper aS_kept aS_evaluator aS_places aS_fixes cI cZ F_powers F_logs W_lostCount W_data W_repairs W_first S_found_59 S_syndromes_20 S_locator_37 S_evaluator S_places_59 S_fixes _ h _) (tb_cV hts ok_So_findFixes tb_448 rfl rfl ⟨Nat.le_of_ble_eq_true rfl, Nat.le_of_ble_eq_true rfl⟩) (mt_preV hK hP hD [.ref aW] [0, 1, 2, 3, 6, 7, 8, 11, 12, 13] rfl (by decide) (ci := 3) (q0 := 6) rfl rfl) rfl rfl hl.1 rfl (lv_room (Nat.le_of_ble_eq_true rfl)) d_So_solve_69 ⟨Nat.zero_le _, Nat.zero_le _⟩) hP hD hS hA [0, 1, 2, 3, 6, 7, 8, 11, 12, 13] rfl (fun _ => rfl) (fun u H locs h hP hD hS => ?_)
        obtain ⟨S_evaluator_69, S_fixes_69⟩ := u
        have hP : va_P (dC, dI) vwCl (wd_So_solve aF aF_powers aF_logs aW aW_bytes aW_lost aW_factors aS aS_syndromes aS_locator aS_helper aS_kept aS_evaluator aS_places aS_fixes cI cZ F_powers F_logs W_lostCount W_data W_repairs W_first W_bytes W_lost S_found_59 S_syndromes_20 S_locator_37 S_helper_37 S_kept_37 S_evaluator_69 S_places_59 S_fixes_69) H := hP
        have hD : va_D A (wd_So_solve aF aF_powers aF_logs aW aW_bytes aW_lost aW_factors aS aS_syndromes aS_locator aS_helper aS_kept aS_evaluator aS_places aS_fixes cI cZ F_powers F_logs W_lostCount W_data W_repairs W_first W_bytes W_lost S_found_59 S_syndromes_20 S_locator_37 S_helper_37 S_kept_37 S_evaluator_69 S_places_59 S_fixes_69) := hD
        refine lv_aload_n hx hb d_So_solve_72 rfl (lv_at hl 1 rfl) ?_
        refine lv_aload_n hx hb d_So_solve_73 rfl (lv_at hl 2 rfl) ?_
        refine mt_i (va_runV (As := [.ref aW]) (rest := []) ⟨hx, hb, hml, hown, hts⟩ (ct_So_isRightAfter l dC dI aF aF_powers aF_logs aW aW_bytes aW_lost aW_factors aS aS_syndromes aS_locator aS_helper aS_kept aS_evaluator aS_places aS_fixes cI cZ F_powers F_logs W_lostCount W_data W_repairs W_first S_found_59 S_syndromes_20 S_places_59 S_fixes_69 _ h _) (tb_cV hts ok_So_isRightAfter tb_456 rfl rfl ⟨Nat.le_of_ble_eq_true rfl, Nat.le_of_ble_eq_true rfl⟩) (mt_preV hK hP hD [.ref aW] [0, 1, 2, 3, 6, 7, 12, 13] rfl (by decide) (ci := 3) (q0 := 6) rfl rfl) rfl rfl hl.1 rfl (lv_room (Nat.le_of_ble_eq_true rfl)) d_So_solve_74 ⟨Nat.zero_le _, Nat.zero_le _⟩) hP hD hS hA [0, 1, 2, 3, 6, 7, 12, 13] rfl (fun _ => rfl) (fun r_74 u H locs h hP hD hS => ?_)
        have hP : va_P (dC, dI) vwCl (wd_So_solve aF aF_powers aF_logs aW aW_bytes aW_lost aW_factors aS aS_syndromes aS_locator aS_helper aS_kept aS_evaluator aS_places aS_fixes cI cZ F_powers F_logs W_lostCount W_data W_repairs W_first W_bytes W_lost S_found_59 S_syndromes_20 S_locator_37 S_helper_37 S_kept_37 S_evaluator_69 S_places_59 S_fixes_69) H := hP
        have hD : va_D A (wd_So_solve aF aF_powers aF_logs aW aW_bytes aW_lost aW_factors aS aS_syndromes aS_locator aS_helper aS_kept aS_evaluator aS_places aS_fixes cI cZ F_powers F_logs W_lostCount W_data W_repairs W_first W_bytes W_lost S_found_59 S_syndromes_20 S_locator_37 S_helper_37 S_kept_37 S_evaluator_69 S_places_59 S_fixes_69) := hD
        refine lv_if_eq (tgt := 88) hx hb d_So_solve_77 (by decide) (fun g77 => ?_) (fun g77 => ?_)
        · have h := h.1 g77
          refine lv_iconst (v := (-1 : Int32)) hx hb d_So_solve_88 (by decide) ?_
          exact B89  S_found_59 S_syndromes_20 S_locator_37 S_helper_37 S_kept_37 S_evaluator_69 S_places_59 S_fixes_69 (-1 : Int32) H locs ls h hP hD hS (lv_sub hl [] rfl)
        · have h := h.2 g77
          refine lv_aload_n hx hb d_So_solve_80 rfl (lv_at hl 1 rfl) ?_
          refine lv_aload_n hx hb d_So_solve_81 rfl (lv_at hl 2 rfl) ?_
          refine mt_i (va_runV (As := [.ref aW]) (rest := []) ⟨hx, hb, hml, hown, hts⟩ (ct_So_countErrors l dC dI aW aF aW_bytes aW_lost aW_factors aS aS_syndromes aS_locator aS_helper aS_kept aS_evaluator aS_places aS_fixes cI cZ W_lostCount W_data W_repairs W_first W_lost S_found_59 S_places_59 S_fixes_69 _ h _) (tb_cV hts ok_So_countErrors tb_460 rfl rfl ⟨Nat.le_of_ble_eq_true rfl, Nat.le_of_ble_eq_true rfl⟩) (mt_preV hK hP hD [.ref aW] [3, 5, 6, 12, 13] rfl (by decide) (ci := 3) (q0 := 6) rfl rfl) rfl rfl hl.1 rfl (lv_room (Nat.le_of_ble_eq_true rfl)) d_So_solve_82 ⟨Nat.zero_le _, Nat.zero_le _⟩) hP hD hS hA [3, 5, 6, 12, 13] rfl (fun _ => rfl) (fun r_82 u H locs h hP hD hS => ?_)
          have hP : va_P (dC, dI) vwCl (wd_So_solve aF aF_powers aF_logs aW aW_bytes aW_lost aW_factors aS aS_syndromes aS_locator aS_helper aS_kept aS_evaluator aS_places aS_fixes cI cZ F_powers F_logs W_lostCount W_data W_repairs W_first W_bytes W_lost S_found_59 S_syndromes_20 S_locator_37 S_helper_37 S_kept_37 S_evaluator_69 S_places_59 S_fixes_69) H := hP
          have hD : va_D A (wd_So_solve aF aF_powers aF_logs aW aW_bytes aW_lost aW_factors aS aS_syndromes aS_locator aS_helper aS_kept aS_evaluator aS_places aS_fixes cI cZ F_powers F_logs W_lostCount W_data W_repairs W_first W_bytes W_lost S_found_59 S_syndromes_20 S_locator_37 S_helper_37 S_kept_37 S_evaluator_69 S_places_59 S_fixes_69) := hD
          refine lv_goto (tgt := 89) hx hb d_So_solve_85 (by decide) ?_
          exact B89  S_found_59 S_syndromes_20 S_locator_37 S_helper_37 S_kept_37 S_evaluator_69 S_places_59 S_fixes_69 r_82 H locs ls h hP hD hS (lv_sub hl [] rfl)
      · have h := h.2 g62
        exact B65  S_found_59 S_syndromes_20 S_locator_37 S_helper_37 S_kept_37 S_evaluator S_places_59 S_fixes H locs ls h hP hD hS (lv_sub hl [] rfl)
  · have h := h.2 g13
    refine lv_iconst (v := (-1 : Int32)) hx hb d_So_solve_16 (by decide) ?_
    exact RET (-1 : Int32) (0 : Int32) S_syndromes S_locator S_helper S_kept S_evaluator S_places S_fixes H locs ls 17 d_So_solve_17 h hP hD hS
abbrev wd_So_byteAfter (aW aF aW_bytes aW_lost aW_factors aS aS_syndromes aS_locator aS_helper aS_kept aS_evaluator aS_places aS_fixes : Nat) (cI cZ : ClassId) (W_lostCount : Int32) (W_data : Int32) (W_repairs : Int32) (W_first : Int32) (W_bytes : Nat → Int32) (W_lost : Nat → Int32) (S_found : Int32) (S_places : Nat → Int32) (S_fixes : Nat → Int32) : va_W := [(aW, .inr (5, [.ref aF, .ref aW_bytes, .ref aW_lost, .ref aW_factors, .int W_lostCount, .int W_data, .int W_repairs, .int W_first])), (aW_bytes, .inl (cI, 240, .inl W_bytes)), (aW_lost, .inl (cZ, 240, .inl W_lost)), (aS, .inr (3, [.ref aF, .ref aS_syndromes, .ref aS_locator, .ref aS_helper, .ref aS_kept, .ref aS_evaluator, .ref aS_places, .ref aS_fixes, .int S_found])), (aS_places, .inl (cI, 40, .inl S_places)), (aS_fixes, .inl (cI, 40, .inl S_fixes))]
def wp_So_byteAfter_b26 (W_bytes : Nat → Int32) (W_lost : Nat → Int32) (S_places : Nat → Int32) (S_fixes : Nat → Int32) (post : Int32 → Prop)  (x2 : Int32) (t0 : Int32) : Prop := vp_in x2 40 ∧ (post (t0 ^^^ (S_fixes x2.toNatClampNeg)))
def wp_So_byteAfter (W_bytes : Nat → Int32) (W_lost : Nat → Int32) (S_places : Nat → Int32) (S_fixes : Nat → Int32) (p2 : Int32) (post : Int32 → Prop) : Prop := vp_in p2 40 ∧ (∀ x3_6 : Int32, x3_6 = (S_places p2.toNatClampNeg) → (vp_in x3_6 240 ∧ (((W_lost x3_6.toNatClampNeg) = 0 → (vp_in x3_6 240 ∧ (wp_So_byteAfter_b26 W_bytes W_lost S_places S_fixes post  p2 (W_bytes x3_6.toNatClampNeg)))) ∧ (¬ (W_lost x3_6.toNatClampNeg) = 0 → (wp_So_byteAfter_b26 W_bytes W_lost S_places S_fixes post  p2 (0 : Int32))))))
abbrev rm_So_byteAfter : Room := { frames := 0, cells := 0, slots := 0, locals := 0 }
set_option maxHeartbeats 4000000 in
set_option maxRecDepth 100000 in
theorem ct_So_byteAfter (l : Launch) (dC : Nat → ClassId) (dI : Nat → Nat → Nat) (aW aF aW_bytes aW_lost aW_factors aS aS_syndromes aS_locator aS_helper aS_kept aS_evaluator aS_places aS_fixes : Nat) (cI cZ : ClassId) (W_lostCount : Int32) (W_data : Int32) (W_repairs : Int32) (W_first : Int32) (W_bytes : Nat → Int32) (W_lost : Nat → Int32) (S_found : Int32) (S_places : Nat → Int32) (S_fixes : Nat → Int32) (p2 : Int32) (post : Int32 → Prop) (h : wp_So_byteAfter W_bytes W_lost S_places S_fixes p2 post) (sz : Nat) : Met l y_So_byteAfter (Cond.code y_So_byteAfter c_So_byteAfter 4 (some .int) :: tb) rm_So_byteAfter (mt_P (dC, dI) vwCl [(cI, .int), (cZ, .boolean)] [.ref aS, .ref aW, .int p2] (wd_So_byteAfter aW aF aW_bytes aW_lost aW_factors aS aS_syndromes aS_locator aS_helper aS_kept aS_evaluator aS_places aS_fixes cI cZ W_lostCount W_data W_repairs W_first W_bytes W_lost S_found S_places S_fixes) sz) (va_Qi (fun (r : Int32) (u : Unit) => post r) (mt_B (dC, dI) vwCl [(cI, .int), (cZ, .boolean)] (wd_So_byteAfter aW aF aW_bytes aW_lost aW_factors aS aS_syndromes aS_locator aS_helper aS_kept aS_evaluator aS_places aS_fixes cI cZ W_lostCount W_data W_repairs W_first W_bytes W_lost S_found S_places S_fixes) sz (fun u : Unit => wd_So_byteAfter aW aF aW_bytes aW_lost aW_factors aS aS_syndromes aS_locator aS_helper aS_kept aS_evaluator aS_places aS_fixes cI cZ W_lostCount W_data W_repairs W_first W_bytes W_lost S_found S_places S_fixes)) (va_A (wd_So_byteAfter aW aF aW_bytes aW_lost aW_factors aS aS_syndromes aS_locator aS_helper aS_kept aS_evaluator aS_places aS_fixes cI cZ W_lostCount W_data W_repairs W_first W_bytes W_lost S_found S_places S_fixes) sz)) 0 0 (va_A (wd_So_byteAfter aW aF aW_bytes aW_lost aW_factors aS aS_syndromes aS_locator aS_helper aS_kept aS_evaluator aS_places aS_fixes cI cZ W_lostCount W_data W_repairs W_first W_bytes W_lost S_found S_places S_fixes) sz) := by
  refine mt_bd (by decide +kernel) (Nat.le_of_ble_eq_true rfl) ?_
  intro p e s m args below meth c hx hb hml hown hts hr hlk hnm hsz hP hK hD hA hS ls hl
  subst hsz
  have hown : s.vm.findClass "ReedSets$Solver" = some m.cls := hown
  have hl : lv_has ls 4 [(0, .ref aS), (1, .ref aW), (2, .int p2)] := hl
  refine lz_Q (fun Q hQ => ?_)
  obtain ⟨A, hAe⟩ : ∃ A : Nat → Prop, A = va_A (wd_So_byteAfter aW aF aW_bytes aW_lost aW_factors aS aS_syndromes aS_locator aS_helper aS_kept aS_evaluator aS_places aS_fixes cI cZ W_lostCount W_data W_repairs W_first W_bytes W_lost S_found S_places S_fixes) s.heap.size := ⟨_, rfl⟩
  rw [← hAe] at hD hA hS
  have RET : ∀ (v : Int32)  (H : Heap) (locs : List Loc) (ls : Array Slot) (pc : Nat), decode c_So_byteAfter pc = .ok (.ireturn, 1) → post v  → va_P (dC, dI) vwCl (wd_So_byteAfter aW aF aW_bytes aW_lost aW_factors aS aS_syndromes aS_locator aS_helper aS_kept aS_evaluator aS_places aS_fixes cI cZ W_lostCount W_data W_repairs W_first W_bytes W_lost S_found S_places S_fixes) H → va_D A (wd_So_byteAfter aW aF aW_bytes aW_lost aW_factors aS aS_syndromes aS_locator aS_helper aS_kept aS_evaluator aS_places aS_fixes cI cZ W_lostCount W_data W_repairs W_first W_bytes W_lost S_found S_places S_fixes) → va_S A s.heap H locs → W p l e rm_So_byteAfter s m args below meth c H locs 0 0 Q (F0 m pc ls [.int v]) := by
    intro v  H locs ls pc hd hp h1 h2 h3
    rw [hQ]
    rw [hAe] at h2 h3
    exact mt_reti () hx hb hr hlk hd hK h1 h2 h3 hp
  have B26 : ∀ (x2 : Int32) (t0 : Int32) (H : Heap) (locs : List Loc) (ls : Array Slot), wp_So_byteAfter_b26 W_bytes W_lost S_places S_fixes post  x2 t0 → va_P (dC, dI) vwCl (wd_So_byteAfter aW aF aW_bytes aW_lost aW_factors aS aS_syndromes aS_locator aS_helper aS_kept aS_evaluator aS_places aS_fixes cI cZ W_lostCount W_data W_repairs W_first W_bytes W_lost S_found S_places S_fixes) H → va_D A (wd_So_byteAfter aW aF aW_bytes aW_lost aW_factors aS aS_syndromes aS_locator aS_helper aS_kept aS_evaluator aS_places aS_fixes cI cZ W_lostCount W_data W_repairs W_first W_bytes W_lost S_found S_places S_fixes) → va_S A s.heap H locs → lv_has ls 4 [(0, .ref aS), (2, .int x2)] → W p l e rm_So_byteAfter s m args below meth c H locs 0 0 Q (F0 m 26 ls [.int t0]) := by
    intro  x2 t0 H locs ls h hP hD hS hl
    refine lv_aload_n hx hb d_So_byteAfter_26 rfl (lv_at hl 0 rfl) ?_
    refine va_get (D := (dC, dI)) (ci := 3) (v := .ref aS_fixes) (C := "ReedSets$Solver") (T := T_So) (N := 9) hx hb hts in_So hown hK hP 3 rfl rfl 7 (by decide) (hts _ tb_155) (fun _ h9 => h9) rfl d_So_byteAfter_27 ?_
    refine lv_iload_n hx hb d_So_byteAfter_30 rfl (lv_at hl 1 rfl) ?_
    obtain ⟨hi, h⟩ := h
    refine va_iald hx hb hK hP 5 0 rfl rfl hi d_So_byteAfter_31 ?_
    refine lv_ixor hx hb d_So_byteAfter_32 ?_
    exact RET (t0 ^^^ (S_fixes x2.toNatClampNeg)) H locs ls 33 d_So_byteAfter_33 h hP hD hS
  obtain ⟨H, hH⟩ : ∃ H : Heap, H = s.heap := ⟨_, rfl⟩
  obtain ⟨locs, hlo⟩ : ∃ x : List Loc, x = [] := ⟨_, rfl⟩
  have hS : va_S A s.heap H locs := by rw [hH, hlo]; exact hS
  rw [← hH] at hP
  rw [← hlo]
  show W p l e rm_So_byteAfter s m args below meth c s.heap locs 0 0 Q (F0 m 0 ls [])
  rw [← hH]
  refine lv_aload_n hx hb d_So_byteAfter_0 rfl (lv_at hl 0 rfl) ?_
  refine va_get (D := (dC, dI)) (ci := 3) (v := .ref aS_places) (C := "ReedSets$Solver") (T := T_So) (N := 9) hx hb hts in_So hown hK hP 3 rfl rfl 6 (by decide) (hts _ tb_153) (fun _ h9 => h9) rfl d_So_byteAfter_1 ?_
  refine lv_iload_n hx hb d_So_byteAfter_4 rfl (lv_at hl 2 rfl) ?_
  obtain ⟨hi, h⟩ := h
  refine va_iald hx hb hK hP 4 0 rfl rfl hi d_So_byteAfter_5 ?_
  refine lv_topi (fun x3_6 ex3_6 => ?_)
  have h := h x3_6 ex3_6
  refine lv_istore_n (lv' := [(3, .int x3_6), (0, .ref aS), (1, .ref aW), (2, .int p2)]) hx hb d_So_byteAfter_6 rfl hl (by decide) rfl (fun ls hl => ?_)
  refine lv_aload_n hx hb d_So_byteAfter_7 rfl (lv_at hl 2 rfl) ?_
  refine va_get (D := (dC, dI)) (ci := 5) (v := .ref aW_lost) (C := "ReedSets$Word") (T := T_Wo) (N := 8) hx hb hts in_Wo hown hK hP 0 rfl rfl 2 (by decide) (hts _ tb_108) (fun _ h9 => h9) rfl d_So_byteAfter_8 ?_
  refine lv_iload_n hx hb d_So_byteAfter_11 rfl (lv_at hl 0 rfl) ?_
  obtain ⟨hi, h⟩ := h
  refine va_zald hx hb hK hP 2 1 rfl rfl hi d_So_byteAfter_12 ?_
  refine lv_if_eq (tgt := 20) hx hb d_So_byteAfter_13 (by decide) (fun g13 => ?_) (fun g13 => ?_)
  · have h := h.1 g13
    refine lv_aload_n hx hb d_So_byteAfter_20 rfl (lv_at hl 2 rfl) ?_
    refine va_get (D := (dC, dI)) (ci := 5) (v := .ref aW_bytes) (C := "ReedSets$Word") (T := T_Wo) (N := 8) hx hb hts in_Wo hown hK hP 0 rfl rfl 1 (by decide) (hts _ tb_106) (fun _ h9 => h9) rfl d_So_byteAfter_21 ?_
    refine lv_iload_n hx hb d_So_byteAfter_24 rfl (lv_at hl 0 rfl) ?_
    obtain ⟨hi, h⟩ := h
    refine va_iald hx hb hK hP 1 0 rfl rfl hi d_So_byteAfter_25 ?_
    exact B26  p2 (W_bytes x3_6.toNatClampNeg) H locs ls h hP hD hS (lv_sub hl [1, 3] rfl)
  · have h := h.2 g13
    refine lv_iconst (v := (0 : Int32)) hx hb d_So_byteAfter_16 (by decide) ?_
    refine lv_goto (tgt := 26) hx hb d_So_byteAfter_17 (by decide) ?_
    exact B26  p2 (0 : Int32) H locs ls h hP hD hS (lv_sub hl [1, 3] rfl)
abbrev wd_So_settle (aW aF aW_bytes aW_lost aW_factors aS aS_syndromes aS_locator aS_helper aS_kept aS_evaluator aS_places aS_fixes : Nat) (cI cZ : ClassId) (W_lostCount : Int32) (W_data : Int32) (W_repairs : Int32) (W_first : Int32) (W_bytes : Nat → Int32) (W_lost : Nat → Int32) (S_found : Int32) (S_places : Nat → Int32) (S_fixes : Nat → Int32) : va_W := [(aW, .inr (5, [.ref aF, .ref aW_bytes, .ref aW_lost, .ref aW_factors, .int W_lostCount, .int W_data, .int W_repairs, .int W_first])), (aW_bytes, .inl (cI, 240, .inl W_bytes)), (aW_lost, .inl (cZ, 240, .inl W_lost)), (aS, .inr (3, [.ref aF, .ref aS_syndromes, .ref aS_locator, .ref aS_helper, .ref aS_kept, .ref aS_evaluator, .ref aS_places, .ref aS_fixes, .int S_found])), (aS_places, .inl (cI, 40, .inl S_places)), (aS_fixes, .inl (cI, 40, .inl S_fixes))]
def wp_So_settle_b2 (S_found : Int32) (S_places : Nat → Int32) (S_fixes : Nat → Int32) (post : Int32 → (Nat → Int32) → (Nat → Int32) → Prop) (K2 : Int32 → (Nat → Int32) → (Nat → Int32) → Int32 → Prop) (W_lostCount : Int32) (W_bytes : Nat → Int32) (W_lost : Nat → Int32) (x2 : Int32) : Prop := (S_found ≤ x2 → (wp_Wo_findAll W_lostCount W_lost (fun W_lostCount_34 W_lost_34 => (post W_lostCount_34 W_bytes W_lost_34)))) ∧ (¬ S_found ≤ x2 → (vp_in x2 40 ∧ (wp_So_byteAfter W_bytes W_lost S_places S_fixes x2 (fun r_23 => (vp_in (S_places x2.toNatClampNeg) 240 ∧ (∀ x2_27 : Int32, x2_27 = (x2 + (1 : Int32)) → (K2 W_lostCount (upd W_bytes (S_places x2.toNatClampNeg).toNatClampNeg r_23) W_lost x2_27)))))))
def wp_So_settle_L2 (S_found : Int32) (S_places : Nat → Int32) (S_fixes : Nat → Int32) (post : Int32 → (Nat → Int32) → (Nat → Int32) → Prop)  : Nat → Int32 → (Nat → Int32) → (Nat → Int32) → Int32 → Prop
  | 0 => fun _ _ _ _ => False
  | n + 1 => wp_So_settle_b2 S_found S_places S_fixes post (wp_So_settle_L2 S_found S_places S_fixes post n)
def wp_So_settle (W_lostCount : Int32) (W_bytes : Nat → Int32) (W_lost : Nat → Int32) (S_found : Int32) (S_places : Nat → Int32) (S_fixes : Nat → Int32) (post : Int32 → (Nat → Int32) → (Nat → Int32) → Prop) : Prop := ∃ n : Nat, wp_So_settle_L2 S_found S_places S_fixes post  n W_lostCount W_bytes W_lost (0 : Int32)
abbrev rm_So_settle : Room := { frames := 1, cells := 0, slots := 0, locals := 23 }
set_option maxHeartbeats 4000000 in
set_option maxRecDepth 100000 in
theorem ct_So_settle (l : Launch) (dC : Nat → ClassId) (dI : Nat → Nat → Nat) (aW aF aW_bytes aW_lost aW_factors aS aS_syndromes aS_locator aS_helper aS_kept aS_evaluator aS_places aS_fixes : Nat) (cI cZ : ClassId) (W_lostCount : Int32) (W_data : Int32) (W_repairs : Int32) (W_first : Int32) (W_bytes : Nat → Int32) (W_lost : Nat → Int32) (S_found : Int32) (S_places : Nat → Int32) (S_fixes : Nat → Int32)  (post : Int32 → (Nat → Int32) → (Nat → Int32) → Prop) (h : wp_So_settle W_lostCount W_bytes W_lost S_found S_places S_fixes post) (sz : Nat) : Met l y_So_settle (Cond.code y_So_settle c_So_settle 3 none :: tb) rm_So_settle (mt_P (dC, dI) vwCl [(cI, .int), (cZ, .boolean)] [.ref aS, .ref aW] (wd_So_settle aW aF aW_bytes aW_lost aW_factors aS aS_syndromes aS_locator aS_helper aS_kept aS_evaluator aS_places aS_fixes cI cZ W_lostCount W_data W_repairs W_first W_bytes W_lost S_found S_places S_fixes) sz) (va_Qv (fun (u : Int32 × (Nat → Int32) × (Nat → Int32)) => post u.1 u.2.1 u.2.2) (mt_B (dC, dI) vwCl [(cI, .int), (cZ, .boolean)] (wd_So_settle aW aF aW_bytes aW_lost aW_factors aS aS_syndromes aS_locator aS_helper aS_kept aS_evaluator aS_places aS_fixes cI cZ W_lostCount W_data W_repairs W_first W_bytes W_lost S_found S_places S_fixes) sz (fun u : Int32 × (Nat → Int32) × (Nat → Int32) => wd_So_settle aW aF aW_bytes aW_lost aW_factors aS aS_syndromes aS_locator aS_helper aS_kept aS_evaluator aS_places aS_fixes cI cZ u.1 W_data W_repairs W_first u.2.1 u.2.2 S_found S_places S_fixes)) (va_A (wd_So_settle aW aF aW_bytes aW_lost aW_factors aS aS_syndromes aS_locator aS_helper aS_kept aS_evaluator aS_places aS_fixes cI cZ W_lostCount W_data W_repairs W_first W_bytes W_lost S_found S_places S_fixes) sz)) 0 0 (va_A (wd_So_settle aW aF aW_bytes aW_lost aW_factors aS aS_syndromes aS_locator aS_helper aS_kept aS_evaluator aS_places aS_fixes cI cZ W_lostCount W_data W_repairs W_first W_bytes W_lost S_found S_places S_fixes) sz) := by
  refine mt_bd (by decide +kernel) (Nat.le_of_ble_eq_true rfl) ?_
  intro p e s m args below meth c hx hb hml hown hts hr hlk hnm hsz hP hK hD hA hS ls hl
  subst hsz
  have hown : s.vm.findClass "ReedSets$Solver" = some m.cls := hown
  have hl : lv_has ls 3 [(0, .ref aS), (1, .ref aW)] := hl
  refine lz_Q (fun Q hQ => ?_)
  obtain ⟨A, hAe⟩ : ∃ A : Nat → Prop, A = va_A (wd_So_settle aW aF aW_bytes aW_lost aW_factors aS aS_syndromes aS_locator aS_helper aS_kept aS_evaluator aS_places aS_fixes cI cZ W_lostCount W_data W_repairs W_first W_bytes W_lost S_found S_places S_fixes) s.heap.size := ⟨_, rfl⟩
  rw [← hAe] at hD hA hS
  have RET : ∀ (W_lostCount : Int32) (W_bytes : Nat → Int32) (W_lost : Nat → Int32) (H : Heap) (locs : List Loc) (ls : Array Slot) (pc : Nat), decode c_So_settle pc = .ok (.return_, 1) → post W_lostCount W_bytes W_lost → va_P (dC, dI) vwCl (wd_So_settle aW aF aW_bytes aW_lost aW_factors aS aS_syndromes aS_locator aS_helper aS_kept aS_evaluator aS_places aS_fixes cI cZ W_lostCount W_data W_repairs W_first W_bytes W_lost S_found S_places S_fixes) H → va_D A (wd_So_settle aW aF aW_bytes aW_lost aW_factors aS aS_syndromes aS_locator aS_helper aS_kept aS_evaluator aS_places aS_fixes cI cZ W_lostCount W_data W_repairs W_first W_bytes W_lost S_found S_places S_fixes) → va_S A s.heap H locs → W p l e rm_So_settle s m args below meth c H locs 0 0 Q (F0 m pc ls []) := by
    intro W_lostCount W_bytes W_lost H locs ls pc hd hp h1 h2 h3
    rw [hQ]
    rw [hAe] at h2 h3
    exact mt_retv (W_lostCount, W_bytes, W_lost) hx hb hr hlk hd hK h1 h2 h3 hp
  have B2 : ∀ (K2 : Int32 → (Nat → Int32) → (Nat → Int32) → Int32 → Prop) (HK2 : ∀ (W_lostCount : Int32) (W_bytes : Nat → Int32) (W_lost : Nat → Int32) (x2 : Int32) (H : Heap) (locs : List Loc) (ls : Array Slot), K2 W_lostCount W_bytes W_lost x2 → va_P (dC, dI) vwCl (wd_So_settle aW aF aW_bytes aW_lost aW_factors aS aS_syndromes aS_locator aS_helper aS_kept aS_evaluator aS_places aS_fixes cI cZ W_lostCount W_data W_repairs W_first W_bytes W_lost S_found S_places S_fixes) H → va_D A (wd_So_settle aW aF aW_bytes aW_lost aW_factors aS aS_syndromes aS_locator aS_helper aS_kept aS_evaluator aS_places aS_fixes cI cZ W_lostCount W_data W_repairs W_first W_bytes W_lost S_found S_places S_fixes) → va_S A s.heap H locs → lv_has ls 3 [(0, .ref aS), (1, .ref aW), (2, .int x2)] → W p l e rm_So_settle s m args below meth c H locs 0 0 Q (F0 m 2 ls [])), ∀ (W_lostCount : Int32) (W_bytes : Nat → Int32) (W_lost : Nat → Int32) (x2 : Int32) (H : Heap) (locs : List Loc) (ls : Array Slot), wp_So_settle_b2 S_found S_places S_fixes post K2 W_lostCount W_bytes W_lost x2 → va_P (dC, dI) vwCl (wd_So_settle aW aF aW_bytes aW_lost aW_factors aS aS_syndromes aS_locator aS_helper aS_kept aS_evaluator aS_places aS_fixes cI cZ W_lostCount W_data W_repairs W_first W_bytes W_lost S_found S_places S_fixes) H → va_D A (wd_So_settle aW aF aW_bytes aW_lost aW_factors aS aS_syndromes aS_locator aS_helper aS_kept aS_evaluator aS_places aS_fixes cI cZ W_lostCount W_data W_repairs W_first W_bytes W_lost S_found S_places S_fixes) → va_S A s.heap H locs → lv_has ls 3 [(0, .ref aS), (1, .ref aW), (2, .int x2)] → W p l e rm_So_settle s m args below meth c H locs 0 0 Q (F0 m 2 ls []) := by
    intro K2 HK2 W_lostCount W_bytes W_lost x2 H locs ls h hP hD hS hl
    refine lv_iload_n hx hb d_So_settle_2 rfl (lv_at hl 2 rfl) ?_
    refine lv_aload_n hx hb d_So_settle_3 rfl (lv_at hl 0 rfl) ?_
    refine va_get (D := (dC, dI)) (ci := 3) (v := .int S_found) (C := "ReedSets$Solver") (T := T_So) (N := 9) hx hb hts in_So hown hK hP 3 rfl rfl 8 (by decide) (hts _ tb_156) (fun _ h9 => h9) rfl d_So_settle_4 ?_
    refine lv_icmp_ge (tgt := 33) hx hb d_So_settle_7 (by decide) (fun g7 => ?_) (fun g7 => ?_)
    · have h := h.1 g7
      refine lv_aload_n hx hb d_So_settle_33 rfl (lv_at hl 1 rfl) ?_
      refine mt_v (va_runV (As := []) (rest := []) ⟨hx, hb, hml, hown, hts⟩ (ct_Wo_findAll l dC dI aW aF aW_bytes aW_lost aW_factors cI cZ W_lostCount W_data W_repairs W_first W_lost _ h _) (tb_cV hts ok_Wo_findAll tb_481 rfl rfl ⟨Nat.le_of_ble_eq_true rfl, Nat.le_of_ble_eq_true rfl⟩) (mt_preV hK hP hD [] [0, 2] rfl (by decide) (ci := 5) (q0 := 0) rfl rfl) rfl rfl hl.1 rfl (lv_room (Nat.le_of_ble_eq_true rfl)) d_So_settle_34 ⟨Nat.zero_le _, Nat.zero_le _⟩) hP hD hS hA [0, 2] rfl (fun _ => rfl) (fun u H locs h hP hD hS => ?_)
      obtain ⟨W_lostCount_34, W_lost_34⟩ := u
      have hP : va_P (dC, dI) vwCl (wd_So_settle aW aF aW_bytes aW_lost aW_factors aS aS_syndromes aS_locator aS_helper aS_kept aS_evaluator aS_places aS_fixes cI cZ W_lostCount_34 W_data W_repairs W_first W_bytes W_lost_34 S_found S_places S_fixes) H := hP
      have hD : va_D A (wd_So_settle aW aF aW_bytes aW_lost aW_factors aS aS_syndromes aS_locator aS_helper aS_kept aS_evaluator aS_places aS_fixes cI cZ W_lostCount_34 W_data W_repairs W_first W_bytes W_lost_34 S_found S_places S_fixes) := hD
      exact RET W_lostCount_34 W_bytes W_lost_34 H locs ls 37 d_So_settle_37 h hP hD hS
    · have h := h.2 g7
      refine lv_aload_n hx hb d_So_settle_10 rfl (lv_at hl 1 rfl) ?_
      refine va_get (D := (dC, dI)) (ci := 5) (v := .ref aW_bytes) (C := "ReedSets$Word") (T := T_Wo) (N := 8) hx hb hts in_Wo hown hK hP 0 rfl rfl 1 (by decide) (hts _ tb_106) (fun _ h9 => h9) rfl d_So_settle_11 ?_
      refine lv_aload_n hx hb d_So_settle_14 rfl (lv_at hl 0 rfl) ?_
      refine va_get (D := (dC, dI)) (ci := 3) (v := .ref aS_places) (C := "ReedSets$Solver") (T := T_So) (N := 9) hx hb hts in_So hown hK hP 3 rfl rfl 6 (by decide) (hts _ tb_153) (fun _ h9 => h9) rfl d_So_settle_15 ?_
      refine lv_iload_n hx hb d_So_settle_18 rfl (lv_at hl 2 rfl) ?_
      obtain ⟨hi, h⟩ := h
      refine va_iald hx hb hK hP 4 0 rfl rfl hi d_So_settle_19 ?_
      refine lv_aload_n hx hb d_So_settle_20 rfl (lv_at hl 0 rfl) ?_
      refine lv_aload_n hx hb d_So_settle_21 rfl (lv_at hl 1 rfl) ?_
      refine lv_iload_n hx hb d_So_settle_22 rfl (lv_at hl 2 rfl) ?_
      refine mt_i (va_runV (As := [.ref aW, .int x2]) (rest := [.int (S_places x2.toNatClampNeg), .ref aW_bytes]) ⟨hx, hb, hml, hown, hts⟩ (ct_So_byteAfter l dC dI aW aF aW_bytes aW_lost aW_factors aS aS_syndromes aS_locator aS_helper aS_kept aS_evaluator aS_places aS_fixes cI cZ W_lostCount W_data W_repairs W_first W_bytes W_lost S_found S_places S_fixes x2 _ h _) (tb_cV hts ok_So_byteAfter tb_480 rfl rfl ⟨Nat.le_of_ble_eq_true rfl, Nat.le_of_ble_eq_true rfl⟩) (mt_preV hK hP hD [.ref aW, .int x2] [0, 1, 2, 3, 4, 5] rfl (by decide) (ci := 3) (q0 := 3) rfl rfl) rfl rfl hl.1 rfl (lv_room (Nat.le_of_ble_eq_true rfl)) d_So_settle_23 ⟨Nat.zero_le _, Nat.zero_le _⟩) hP hD hS hA [0, 1, 2, 3, 4, 5] rfl (fun _ => rfl) (fun r_23 u H locs h hP hD hS => ?_)
      have hP : va_P (dC, dI) vwCl (wd_So_settle aW aF aW_bytes aW_lost aW_factors aS aS_syndromes aS_locator aS_helper aS_kept aS_evaluator aS_places aS_fixes cI cZ W_lostCount W_data W_repairs W_first W_bytes W_lost S_found S_places S_fixes) H := hP
      have hD : va_D A (wd_So_settle aW aF aW_bytes aW_lost aW_factors aS aS_syndromes aS_locator aS_helper aS_kept aS_evaluator aS_places aS_fixes cI cZ W_lostCount W_data W_repairs W_first W_bytes W_lost S_found S_places S_fixes) := hD
      obtain ⟨hi, h⟩ := h
      refine va_iast hx hb hK hP hD hS 1 0 rfl rfl hi d_So_settle_26 (fun H locs hP hD hS => ?_)
      have hP : va_P (dC, dI) vwCl (wd_So_settle aW aF aW_bytes aW_lost aW_factors aS aS_syndromes aS_locator aS_helper aS_kept aS_evaluator aS_places aS_fixes cI cZ W_lostCount W_data W_repairs W_first (upd W_bytes (S_places x2.toNatClampNeg).toNatClampNeg r_23) W_lost S_found S_places S_fixes) H := hP
      have hD : va_D A (wd_So_settle aW aF aW_bytes aW_lost aW_factors aS aS_syndromes aS_locator aS_helper aS_kept aS_evaluator aS_places aS_fixes cI cZ W_lostCount W_data W_repairs W_first (upd W_bytes (S_places x2.toNatClampNeg).toNatClampNeg r_23) W_lost S_found S_places S_fixes) := hD
      obtain ⟨x2_27, ex2_27⟩ : ∃ y : Int32, y = (x2 + (1 : Int32)) := ⟨_, rfl⟩
      have h := h x2_27 ex2_27
      refine lv_iinc (v := x2_27) (lv' := [(2, .int x2_27), (0, .ref aS), (1, .ref aW)]) hx hb d_So_settle_27 hl (k := 2) rfl (by rw [ex2_27]; rfl) (by decide) rfl (fun ls hl => ?_)
      refine lv_goto (tgt := 2) hx hb d_So_settle_30 (by decide) ?_
      exact HK2 W_lostCount (upd W_bytes (S_places x2.toNatClampNeg).toNatClampNeg r_23) W_lost x2_27 H locs ls h hP hD hS (lv_sub hl [1, 2, 0] rfl)
  have L2 : ∀  (n : Nat), ∀ (W_lostCount : Int32) (W_bytes : Nat → Int32) (W_lost : Nat → Int32) (x2 : Int32) (H : Heap) (locs : List Loc) (ls : Array Slot), wp_So_settle_L2 S_found S_places S_fixes post  n W_lostCount W_bytes W_lost x2 → va_P (dC, dI) vwCl (wd_So_settle aW aF aW_bytes aW_lost aW_factors aS aS_syndromes aS_locator aS_helper aS_kept aS_evaluator aS_places aS_fixes cI cZ W_lostCount W_data W_repairs W_first W_bytes W_lost S_found S_places S_fixes) H → va_D A (wd_So_settle aW aF aW_bytes aW_lost aW_factors aS aS_syndromes aS_locator aS_helper aS_kept aS_evaluator aS_places aS_fixes cI cZ W_lostCount W_data W_repairs W_first W_bytes W_lost S_found S_places S_fixes) → va_S A s.heap H locs → lv_has ls 3 [(0, .ref aS), (1, .ref aW), (2, .int x2)] → W p l e rm_So_settle s m args below meth c H locs 0 0 Q (F0 m 2 ls []) := by
    intro  n
    induction n with
    | zero => intro W_lostCount W_bytes W_lost x2 H locs ls h hP hD hS hl; exact False.elim h
    | succ n ih => intro W_lostCount W_bytes W_lost x2 H locs ls h hP hD hS hl; exact B2  (wp_So_settle_L2 S_found S_places S_fixes post  n) ih W_lostCount W_bytes W_lost x2 H locs ls h hP hD hS hl
  obtain ⟨H, hH⟩ : ∃ H : Heap, H = s.heap := ⟨_, rfl⟩
  obtain ⟨locs, hlo⟩ : ∃ x : List Loc, x = [] := ⟨_, rfl⟩
  have hS : va_S A s.heap H locs := by rw [hH, hlo]; exact hS
  rw [← hH] at hP
  rw [← hlo]
  show W p l e rm_So_settle s m args below meth c s.heap locs 0 0 Q (F0 m 0 ls [])
  rw [← hH]
  refine lv_iconst (v := (0 : Int32)) hx hb d_So_settle_0 (by decide) ?_
  refine lv_istore_n (lv' := [(2, .int (0 : Int32)), (0, .ref aS), (1, .ref aW)]) hx hb d_So_settle_1 rfl hl (by decide) rfl (fun ls hl => ?_)
  obtain ⟨n, h⟩ := h
  exact L2  n W_lostCount W_bytes W_lost (0 : Int32) H locs ls h hP hD hS (lv_sub hl [1, 2, 0] rfl)
abbrev wd_So_alters (aS aF aS_syndromes aS_locator aS_helper aS_kept aS_evaluator aS_places aS_fixes : Nat) (cI cZ : ClassId) (S_found : Int32) (S_places : Nat → Int32) (S_fixes : Nat → Int32) : va_W := [(aS, .inr (3, [.ref aF, .ref aS_syndromes, .ref aS_locator, .ref aS_helper, .ref aS_kept, .ref aS_evaluator, .ref aS_places, .ref aS_fixes, .int S_found])), (aS_places, .inl (cI, 40, .inl S_places)), (aS_fixes, .inl (cI, 40, .inl S_fixes))]
def wp_So_alters_b31 (S_found : Int32) (S_places : Nat → Int32) (S_fixes : Nat → Int32) (post : Int32 → Prop) (K2 : Int32 → Int32 → Prop) (x1 : Int32) (x2 : Int32) : Prop := ∀ x2_31 : Int32, x2_31 = (x2 + (1 : Int32)) → (K2 x1 x2_31)
def wp_So_alters_b2 (S_found : Int32) (S_places : Nat → Int32) (S_fixes : Nat → Int32) (post : Int32 → Prop) (K2 : Int32 → Int32 → Prop) (x1 : Int32) (x2 : Int32) : Prop := (S_found ≤ x2 → (post (0 : Int32))) ∧ (¬ S_found ≤ x2 → (vp_in x2 40 ∧ ((¬ (S_places x2.toNatClampNeg) = x1 → (wp_So_alters_b31 S_found S_places S_fixes post K2 x1 x2)) ∧ ((S_places x2.toNatClampNeg) = x1 → (vp_in x2 40 ∧ (((S_fixes x2.toNatClampNeg) = 0 → (wp_So_alters_b31 S_found S_places S_fixes post K2 x1 x2)) ∧ (¬ (S_fixes x2.toNatClampNeg) = 0 → (post (1 : Int32)))))))))
def wp_So_alters_L2 (S_found : Int32) (S_places : Nat → Int32) (S_fixes : Nat → Int32) (post : Int32 → Prop)  : Nat → Int32 → Int32 → Prop
  | 0 => fun _ _ => False
  | n + 1 => wp_So_alters_b2 S_found S_places S_fixes post (wp_So_alters_L2 S_found S_places S_fixes post n)
def wp_So_alters (S_found : Int32) (S_places : Nat → Int32) (S_fixes : Nat → Int32) (p1 : Int32) (post : Int32 → Prop) : Prop := ∃ n : Nat, wp_So_alters_L2 S_found S_places S_fixes post  n p1 (0 : Int32)
abbrev rm_So_alters : Room := { frames := 0, cells := 0, slots := 0, locals := 0 }
set_option maxHeartbeats 4000000 in
set_option maxRecDepth 100000 in
theorem ct_So_alters (l : Launch) (dC : Nat → ClassId) (dI : Nat → Nat → Nat) (aS aF aS_syndromes aS_locator aS_helper aS_kept aS_evaluator aS_places aS_fixes : Nat) (cI cZ : ClassId) (S_found : Int32) (S_places : Nat → Int32) (S_fixes : Nat → Int32) (p1 : Int32) (post : Int32 → Prop) (h : wp_So_alters S_found S_places S_fixes p1 post) (sz : Nat) : Met l y_So_alters (Cond.code y_So_alters c_So_alters 3 (some .boolean) :: tb) rm_So_alters (mt_P (dC, dI) vwCl [(cI, .int), (cZ, .boolean)] [.ref aS, .int p1] (wd_So_alters aS aF aS_syndromes aS_locator aS_helper aS_kept aS_evaluator aS_places aS_fixes cI cZ S_found S_places S_fixes) sz) (va_Qi (fun (r : Int32) (u : Unit) => post r) (mt_B (dC, dI) vwCl [(cI, .int), (cZ, .boolean)] (wd_So_alters aS aF aS_syndromes aS_locator aS_helper aS_kept aS_evaluator aS_places aS_fixes cI cZ S_found S_places S_fixes) sz (fun u : Unit => wd_So_alters aS aF aS_syndromes aS_locator aS_helper aS_kept aS_evaluator aS_places aS_fixes cI cZ S_found S_places S_fixes)) (va_A (wd_So_alters aS aF aS_syndromes aS_locator aS_helper aS_kept aS_evaluator aS_places aS_fixes cI cZ S_found S_places S_fixes) sz)) 0 0 (va_A (wd_So_alters aS aF aS_syndromes aS_locator aS_helper aS_kept aS_evaluator aS_places aS_fixes cI cZ S_found S_places S_fixes) sz) := by
  refine mt_bd (by decide +kernel) (Nat.le_of_ble_eq_true rfl) ?_
  intro p e s m args below meth c hx hb hml hown hts hr hlk hnm hsz hP hK hD hA hS ls hl
  subst hsz
  have hown : s.vm.findClass "ReedSets$Solver" = some m.cls := hown
  have hl : lv_has ls 3 [(0, .ref aS), (1, .int p1)] := hl
  refine lz_Q (fun Q hQ => ?_)
  obtain ⟨A, hAe⟩ : ∃ A : Nat → Prop, A = va_A (wd_So_alters aS aF aS_syndromes aS_locator aS_helper aS_kept aS_evaluator aS_places aS_fixes cI cZ S_found S_places S_fixes) s.heap.size := ⟨_, rfl⟩
  rw [← hAe] at hD hA hS
  have RET : ∀ (v : Int32)  (H : Heap) (locs : List Loc) (ls : Array Slot) (pc : Nat), decode c_So_alters pc = .ok (.ireturn, 1) → narrow .boolean (.int v) = .int v → post v  → va_P (dC, dI) vwCl (wd_So_alters aS aF aS_syndromes aS_locator aS_helper aS_kept aS_evaluator aS_places aS_fixes cI cZ S_found S_places S_fixes) H → va_D A (wd_So_alters aS aF aS_syndromes aS_locator aS_helper aS_kept aS_evaluator aS_places aS_fixes cI cZ S_found S_places S_fixes) → va_S A s.heap H locs → W p l e rm_So_alters s m args below meth c H locs 0 0 Q (F0 m pc ls [.int v]) := by
    intro v  H locs ls pc hd hz hp h1 h2 h3
    rw [hQ]
    rw [hAe] at h2 h3
    exact mt_retz () hx hb hr hlk hd hK h1 h2 h3 hz hp
  have B31 : ∀ (K2 : Int32 → Int32 → Prop) (HK2 : ∀ (x1 : Int32) (x2 : Int32) (H : Heap) (locs : List Loc) (ls : Array Slot), K2 x1 x2 → va_P (dC, dI) vwCl (wd_So_alters aS aF aS_syndromes aS_locator aS_helper aS_kept aS_evaluator aS_places aS_fixes cI cZ S_found S_places S_fixes) H → va_D A (wd_So_alters aS aF aS_syndromes aS_locator aS_helper aS_kept aS_evaluator aS_places aS_fixes cI cZ S_found S_places S_fixes) → va_S A s.heap H locs → lv_has ls 3 [(0, .ref aS), (1, .int x1), (2, .int x2)] → W p l e rm_So_alters s m args below meth c H locs 0 0 Q (F0 m 2 ls [])), ∀ (x1 : Int32) (x2 : Int32) (H : Heap) (locs : List Loc) (ls : Array Slot), wp_So_alters_b31 S_found S_places S_fixes post K2 x1 x2 → va_P (dC, dI) vwCl (wd_So_alters aS aF aS_syndromes aS_locator aS_helper aS_kept aS_evaluator aS_places aS_fixes cI cZ S_found S_places S_fixes) H → va_D A (wd_So_alters aS aF aS_syndromes aS_locator aS_helper aS_kept aS_evaluator aS_places aS_fixes cI cZ S_found S_places S_fixes) → va_S A s.heap H locs → lv_has ls 3 [(0, .ref aS), (1, .int x1), (2, .int x2)] → W p l e rm_So_alters s m args below meth c H locs 0 0 Q (F0 m 31 ls []) := by
    intro K2 HK2 x1 x2 H locs ls h hP hD hS hl
    obtain ⟨x2_31, ex2_31⟩ : ∃ y : Int32, y = (x2 + (1 : Int32)) := ⟨_, rfl⟩
    have h := h x2_31 ex2_31
    refine lv_iinc (v := x2_31) (lv' := [(2, .int x2_31), (0, .ref aS), (1, .int x1)]) hx hb d_So_alters_31 hl (k := 2) rfl (by rw [ex2_31]; rfl) (by decide) rfl (fun ls hl => ?_)
    refine lv_goto (tgt := 2) hx hb d_So_alters_34 (by decide) ?_
    exact HK2 x1 x2_31 H locs ls h hP hD hS (lv_sub hl [1, 2, 0] rfl)
  have B2 : ∀ (K2 : Int32 → Int32 → Prop) (HK2 : ∀ (x1 : Int32) (x2 : Int32) (H : Heap) (locs : List Loc) (ls : Array Slot), K2 x1 x2 → va_P (dC, dI) vwCl (wd_So_alters aS aF aS_syndromes aS_locator aS_helper aS_kept aS_evaluator aS_places aS_fixes cI cZ S_found S_places S_fixes) H → va_D A (wd_So_alters aS aF aS_syndromes aS_locator aS_helper aS_kept aS_evaluator aS_places aS_fixes cI cZ S_found S_places S_fixes) → va_S A s.heap H locs → lv_has ls 3 [(0, .ref aS), (1, .int x1), (2, .int x2)] → W p l e rm_So_alters s m args below meth c H locs 0 0 Q (F0 m 2 ls [])), ∀ (x1 : Int32) (x2 : Int32) (H : Heap) (locs : List Loc) (ls : Array Slot), wp_So_alters_b2 S_found S_places S_fixes post K2 x1 x2 → va_P (dC, dI) vwCl (wd_So_alters aS aF aS_syndromes aS_locator aS_helper aS_kept aS_evaluator aS_places aS_fixes cI cZ S_found S_places S_fixes) H → va_D A (wd_So_alters aS aF aS_syndromes aS_locator aS_helper aS_kept aS_evaluator aS_places aS_fixes cI cZ S_found S_places S_fixes) → va_S A s.heap H locs → lv_has ls 3 [(0, .ref aS), (1, .int x1), (2, .int x2)] → W p l e rm_So_alters s m args below meth c H locs 0 0 Q (F0 m 2 ls []) := by
    intro K2 HK2 x1 x2 H locs ls h hP hD hS hl
    refine lv_iload_n hx hb d_So_alters_2 rfl (lv_at hl 2 rfl) ?_
    refine lv_aload_n hx hb d_So_alters_3 rfl (lv_at hl 0 rfl) ?_
    refine va_get (D := (dC, dI)) (ci := 3) (v := .int S_found) (C := "ReedSets$Solver") (T := T_So) (N := 9) hx hb hts in_So hown hK hP 0 rfl rfl 8 (by decide) (hts _ tb_156) (fun _ h9 => h9) rfl d_So_alters_4 ?_
    refine lv_icmp_ge (tgt := 37) hx hb d_So_alters_7 (by decide) (fun g7 => ?_) (fun g7 => ?_)
    · have h := h.1 g7
      refine lv_iconst (v := (0 : Int32)) hx hb d_So_alters_37 (by decide) ?_
      exact RET (0 : Int32) H locs ls 38 d_So_alters_38 rfl h hP hD hS
    · have h := h.2 g7
      refine lv_aload_n hx hb d_So_alters_10 rfl (lv_at hl 0 rfl) ?_
      refine va_get (D := (dC, dI)) (ci := 3) (v := .ref aS_places) (C := "ReedSets$Solver") (T := T_So) (N := 9) hx hb hts in_So hown hK hP 0 rfl rfl 6 (by decide) (hts _ tb_153) (fun _ h9 => h9) rfl d_So_alters_11 ?_
      refine lv_iload_n hx hb d_So_alters_14 rfl (lv_at hl 2 rfl) ?_
      obtain ⟨hi, h⟩ := h
      refine va_iald hx hb hK hP 1 0 rfl rfl hi d_So_alters_15 ?_
      refine lv_iload_n hx hb d_So_alters_16 rfl (lv_at hl 1 rfl) ?_
      refine lv_icmp_ne (tgt := 31) hx hb d_So_alters_17 (by decide) (fun g17 => ?_) (fun g17 => ?_)
      · have h := h.1 g17
        exact B31 K2 HK2 x1 x2 H locs ls h hP hD hS (lv_sub hl [0, 1, 2] rfl)
      · have h := h.2 g17
        refine lv_aload_n hx hb d_So_alters_20 rfl (lv_at hl 0 rfl) ?_
        refine va_get (D := (dC, dI)) (ci := 3) (v := .ref aS_fixes) (C := "ReedSets$Solver") (T := T_So) (N := 9) hx hb hts in_So hown hK hP 0 rfl rfl 7 (by decide) (hts _ tb_155) (fun _ h9 => h9) rfl d_So_alters_21 ?_
        refine lv_iload_n hx hb d_So_alters_24 rfl (lv_at hl 2 rfl) ?_
        obtain ⟨hi, h⟩ := h
        refine va_iald hx hb hK hP 2 0 rfl rfl hi d_So_alters_25 ?_
        refine lv_if_eq (tgt := 31) hx hb d_So_alters_26 (by decide) (fun g26 => ?_) (fun g26 => ?_)
        · have h := h.1 g26
          exact B31 K2 HK2 x1 x2 H locs ls h hP hD hS (lv_sub hl [0, 1, 2] rfl)
        · have h := h.2 g26
          refine lv_iconst (v := (1 : Int32)) hx hb d_So_alters_29 (by decide) ?_
          exact RET (1 : Int32) H locs ls 30 d_So_alters_30 rfl h hP hD hS
  have L2 : ∀  (n : Nat), ∀ (x1 : Int32) (x2 : Int32) (H : Heap) (locs : List Loc) (ls : Array Slot), wp_So_alters_L2 S_found S_places S_fixes post  n x1 x2 → va_P (dC, dI) vwCl (wd_So_alters aS aF aS_syndromes aS_locator aS_helper aS_kept aS_evaluator aS_places aS_fixes cI cZ S_found S_places S_fixes) H → va_D A (wd_So_alters aS aF aS_syndromes aS_locator aS_helper aS_kept aS_evaluator aS_places aS_fixes cI cZ S_found S_places S_fixes) → va_S A s.heap H locs → lv_has ls 3 [(0, .ref aS), (1, .int x1), (2, .int x2)] → W p l e rm_So_alters s m args below meth c H locs 0 0 Q (F0 m 2 ls []) := by
    intro  n
    induction n with
    | zero => intro x1 x2 H locs ls h hP hD hS hl; exact False.elim h
    | succ n ih => intro x1 x2 H locs ls h hP hD hS hl; exact B2  (wp_So_alters_L2 S_found S_places S_fixes post  n) ih x1 x2 H locs ls h hP hD hS hl
  obtain ⟨H, hH⟩ : ∃ H : Heap, H = s.heap := ⟨_, rfl⟩
  obtain ⟨locs, hlo⟩ : ∃ x : List Loc, x = [] := ⟨_, rfl⟩
  have hS : va_S A s.heap H locs := by rw [hH, hlo]; exact hS
  rw [← hH] at hP
  rw [← hlo]
  show W p l e rm_So_alters s m args below meth c s.heap locs 0 0 Q (F0 m 0 ls [])
  rw [← hH]
  refine lv_iconst (v := (0 : Int32)) hx hb d_So_alters_0 (by decide) ?_
  refine lv_istore_n (lv' := [(2, .int (0 : Int32)), (0, .ref aS), (1, .int p1)]) hx hb d_So_alters_1 rfl hl (by decide) rfl (fun ls hl => ?_)
  obtain ⟨n, h⟩ := h
  exact L2  n p1 (0 : Int32) H locs ls h hP hD hS (lv_sub hl [1, 2, 0] rfl)
