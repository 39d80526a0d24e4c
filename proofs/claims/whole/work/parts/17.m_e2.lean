abbrev wd_RS_mend (aF aF_powers aF_logs aS aS_syndromes aS_locator aS_helper aS_kept aS_evaluator aS_places aS_fixes aV aV_bytes aV_lost aV_factors aP aP_block aP_original aP_lost aP_current aR aW aC aH : Nat) (cI cZ : ClassId) (F_powers : Nat → Int32) (F_logs : Nat → Int32) (S_found : Int32) (S_syndromes : Nat → Int32) (S_locator : Nat → Int32) (S_helper : Nat → Int32) (S_kept : Nat → Int32) (S_evaluator : Nat → Int32) (S_places : Nat → Int32) (S_fixes : Nat → Int32) (V_lostCount : Int32) (V_data : Int32) (V_repairs : Int32) (V_first : Int32) (V_bytes : Nat → Int32) (V_lost : Nat → Int32) (P_size : Int32) (P_stripes : Int32) (P_sentCount : Int32) (P_lost : Nat → Int32) (P_current : Nat → Int32) : va_W := [(aF, .inr (1, [.ref aF_powers, .ref aF_logs])), (aF_powers, .inl (cI, 512, .inl F_powers)), (aF_logs, .inl (cI, 256, .inl F_logs)), (aS, .inr (3, [.ref aF, .ref aS_syndromes, .ref aS_locator, .ref aS_helper, .ref aS_kept, .ref aS_evaluator, .ref aS_places, .ref aS_fixes, .int S_found])), (aS_syndromes, .inl (cI, 40, .inl S_syndromes)), (aS_locator, .inl (cI, 41, .inl S_locator)), (aS_helper, .inl (cI, 41, .inl S_helper)), (aS_kept, .inl (cI, 41, .inl S_kept)), (aS_evaluator, .inl (cI, 41, .inl S_evaluator)), (aS_places, .inl (cI, 40, .inl S_places)), (aS_fixes, .inl (cI, 40, .inl S_fixes)), (aV, .inr (5, [.ref aF, .ref aV_bytes, .ref aV_lost, .ref aV_factors, .int V_lostCount, .int V_data, .int V_repairs, .int V_first])), (aV_bytes, .inl (cI, 240, .inl V_bytes)), (aV_lost, .inl (cZ, 240, .inl V_lost)), (aP, .inr (4, [.ref aP_block, .ref aP_original, .ref aP_lost, .ref aV, .ref aP_current, .int P_size, .int P_stripes, .int P_sentCount])), (aP_lost, .inl (cZ, 1440, .inl P_lost)), (aP_current, .inl (cI, 1440, .inl P_current)), (aR, .inr (6, [.ref aF, .ref aW, .ref aS, .ref aC, .ref aP, .ref aH]))]
def wp_RS_mend_b25 (F_powers : Nat → Int32) (F_logs : Nat → Int32) (V_data : Int32) (V_repairs : Int32) (V_first : Int32) (P_size : Int32) (P_stripes : Int32) (post : Int32 → Int32 → (Nat → Int32) → (Nat → Int32) → (Nat → Int32) → (Nat → Int32) → (Nat → Int32) → (Nat → Int32) → (Nat → Int32) → Int32 → (Nat → Int32) → (Nat → Int32) → (Nat → Int32) → (Nat → Int32) → Prop)  (S_found : Int32) (S_syndromes : Nat → Int32) (S_locator : Nat → Int32) (S_helper : Nat → Int32) (S_kept : Nat → Int32) (S_evaluator : Nat → Int32) (S_places : Nat → Int32) (S_fixes : Nat → Int32) (V_lostCount : Int32) (V_bytes : Nat → Int32) (V_lost : Nat → Int32) (P_lost : Nat → Int32) (P_current : Nat → Int32) (t0 : Int32) : Prop := post t0 S_found S_syndromes S_locator S_helper S_kept S_evaluator S_places S_fixes V_lostCount V_bytes V_lost P_lost P_current
def wp_RS_mend (F_powers : Nat → Int32) (F_logs : Nat → Int32) (S_found : Int32) (S_syndromes : Nat → Int32) (S_locator : Nat → Int32) (S_helper : Nat → Int32) (S_kept : Nat → Int32) (S_evaluator : Nat → Int32) (S_places : Nat → Int32) (S_fixes : Nat → Int32) (V_lostCount : Int32) (V_data : Int32) (V_repairs : Int32) (V_first : Int32) (V_bytes : Nat → Int32) (V_lost : Nat → Int32) (P_size : Int32) (P_stripes : Int32) (P_lost : Nat → Int32) (P_current : Nat → Int32) (post : Int32 → Int32 → (Nat → Int32) → (Nat → Int32) → (Nat → Int32) → (Nat → Int32) → (Nat → Int32) → (Nat → Int32) → (Nat → Int32) → Int32 → (Nat → Int32) → (Nat → Int32) → (Nat → Int32) → (Nat → Int32) → Prop) : Prop := wp_St_isLaid P_stripes (fun r_4 => ((r_4 = 0 → (wp_RS_mend_b25 F_powers F_logs V_data V_repairs V_first P_size P_stripes post  S_found S_syndromes S_locator S_helper S_kept S_evaluator S_places S_fixes V_lostCount V_bytes V_lost P_lost P_current (-1 : Int32))) ∧ (¬ r_4 = 0 → (wp_St_mendAll F_powers F_logs S_found S_syndromes S_locator S_helper S_kept S_evaluator S_places S_fixes V_lostCount V_data V_repairs V_first V_bytes V_lost P_size P_stripes P_lost P_current (fun r_18 S_found_18 S_syndromes_18 S_locator_18 S_helper_18 S_kept_18 S_evaluator_18 S_places_18 S_fixes_18 V_lostCount_18 V_bytes_18 V_lost_18 P_lost_18 P_current_18 => (wp_RS_mend_b25 F_powers F_logs V_data V_repairs V_first P_size P_stripes post  S_found_18 S_syndromes_18 S_locator_18 S_helper_18 S_kept_18 S_evaluator_18 S_places_18 S_fixes_18 V_lostCount_18 V_bytes_18 V_lost_18 P_lost_18 P_current_18 r_18))))))
abbrev rm_RS_mend : Room := { frames := 6, cells := 0, slots := 0, locals := 143 }
set_option maxHeartbeats 4000000 in
set_option maxRecDepth 100000 in
theorem ct_RS_mend (l : Launch) (dC : Nat → ClassId) (dI : Nat → Nat → Nat) (aF aF_powers aF_logs aS aS_syndromes aS_locator aS_helper aS_kept aS_evaluator aS_places aS_fixes aV aV_bytes aV_lost aV_factors aP aP_block aP_original aP_lost aP_current aR aW aC aH : Nat) (cI cZ : ClassId) (F_powers : Nat → Int32) (F_logs : Nat → Int32) (S_found : Int32) (S_syndromes : Nat → Int32) (S_locator : Nat → Int32) (S_helper : Nat → Int32) (S_kept : Nat → Int32) (S_evaluator : Nat → Int32) (S_places : Nat → Int32) (S_fixes : Nat → Int32) (V_lostCount : Int32) (V_data : Int32) (V_repairs : Int32) (V_first : Int32) (V_bytes : Nat → Int32) (V_lost : Nat → Int32) (P_size : Int32) (P_stripes : Int32) (P_sentCount : Int32) (P_lost : Nat → Int32) (P_current : Nat → Int32)  (post : Int32 → Int32 → (Nat → Int32) → (Nat → Int32) → (Nat → Int32) → (Nat → Int32) → (Nat → Int32) → (Nat → Int32) → (Nat → Int32) → Int32 → (Nat → Int32) → (Nat → Int32) → (Nat → Int32) → (Nat → Int32) → Prop) (h : wp_RS_mend F_powers F_logs S_found S_syndromes S_locator S_helper S_kept S_evaluator S_places S_fixes V_lostCount V_data V_repairs V_first V_bytes V_lost P_size P_stripes P_lost P_current post) (sz : Nat) : Met l y_RS_mend (Cond.code y_RS_mend c_RS_mend 1 (some .int) :: tb) rm_RS_mend (mt_P (dC, dI) vwCl [(cI, .int), (cZ, .boolean)] [.ref aR] (wd_RS_mend aF aF_powers aF_logs aS aS_syndromes aS_locator aS_helper aS_kept aS_evaluator aS_places aS_fixes aV aV_bytes aV_lost aV_factors aP aP_block aP_original aP_lost aP_current aR aW aC aH cI cZ F_powers F_logs S_found S_syndromes S_locator S_helper S_kept S_evaluator S_places S_fixes V_lostCount V_data V_repairs V_first V_bytes V_lost P_size P_stripes P_sentCount P_lost P_current) sz) (va_Qi (fun (r : Int32) (u : Int32 × (Nat → Int32) × (Nat → Int32) × (Nat → Int32) × (Nat → Int32) × (Nat → Int32) × (Nat → Int32) × (Nat → Int32) × Int32 × (Nat → Int32) × (Nat → Int32) × (Nat → Int32) × (Nat → Int32)) => post r u.1 u.2.1 u.2.2.1 u.2.2.2.1 u.2.2.2.2.1 u.2.2.2.2.2.1 u.2.2.2.2.2.2.1 u.2.2.2.2.2.2.2.1 u.2.2.2.2.2.2.2.2.1 u.2.2.2.2.2.2.2.2.2.1 u.2.2.2.2.2.2.2.2.2.2.1 u.2.2.2.2.2.2.2.2.2.2.2.1 u.2.2.2.2.2.2.2.2.2.2.2.2) (mt_B (dC, dI) vwCl [(cI, .int), (cZ, .boolean)] (wd_RS_mend aF aF_powers aF_logs aS aS_syndromes aS_locator aS_helper aS_kept aS_evaluator aS_places aS_fixes aV aV_bytes aV_lost aV_factors aP aP_block aP_original aP_lost aP_current aR aW aC aH cI cZ F_powers F_logs S_found S_syndromes S_locator S_helper S_kept S_evaluator S_places S_fixes V_lostCount V_data V_repairs V_first V_bytes V_lost P_size P_stripes P_sentCount P_lost P_current) sz (fun u : Int32 × (Nat → Int32) × (Nat → Int32) × (Nat → Int32) × (Nat → Int32) × (Nat → Int32) × (Nat → Int32) × (Nat → Int32) × Int32 × (Nat → Int32) × (Nat → Int32) × (Nat → Int32) × (Nat → Int32) => wd_RS_mend aF aF_powers aF_logs aS aS_syndromes aS_locator aS_helper aS_kept aS_evaluator aS_places aS_fixes aV aV_bytes aV_lost aV_factors aP aP_block aP_original aP_lost aP_current aR aW aC aH cI cZ F_powers F_logs u.1 u.2.1 u.2.2.1 u.2.2.2.1 u.2.2.2.2.1 u.2.2.2.2.2.1 u.2.2.2.2.2.2.1 u.2.2.2.2.2.2.2.1 u.2.2.2.2.2.2.2.2.1 V_data V_repairs V_first u.2.2.2.2.2.2.2.2.2.1 u.2.2.2.2.2.2.2.2.2.2.1 P_size P_stripes P_sentCount u.2.2.2.2.2.2.2.2.2.2.2.1 u.2.2.2.2.2.2.2.2.2.2.2.2)) (va_A (wd_RS_mend aF aF_powers aF_logs aS aS_syndromes aS_locator aS_helper aS_kept aS_evaluator aS_places aS_fixes aV aV_bytes aV_lost aV_factors aP aP_block aP_original aP_lost aP_current aR aW aC aH cI cZ F_powers F_logs S_found S_syndromes S_locator S_helper S_kept S_evaluator S_places S_fixes V_lostCount V_data V_repairs V_first V_bytes V_lost P_size P_stripes P_sentCount P_lost P_current) sz)) 0 0 (va_A (wd_RS_mend aF aF_powers aF_logs aS aS_syndromes aS_locator aS_helper aS_kept aS_evaluator aS_places aS_fixes aV aV_bytes aV_lost aV_factors aP aP_block aP_original aP_lost aP_current aR aW aC aH cI cZ F_powers F_logs S_found S_syndromes S_locator S_helper S_kept S_evaluator S_places S_fixes V_lostCount V_data V_repairs V_first V_bytes V_lost P_size P_stripes P_sentCount P_lost P_current) sz) := by
  refine mt_bd (by decide +kernel) (Nat.le_of_ble_eq_true rfl) ?_
  intro p e s m args below meth c hx hb hml hown hts hr hlk hnm hsz hP hK hD hA hS ls hl
  subst hsz
  have hown : s.vm.findClass "ReedSets" = some m.cls := hown
  have hl : lv_has ls 1 [(0, .ref aR)] := hl
  refine lz_Q (fun Q hQ => ?_)
  obtain ⟨A, hAe⟩ : ∃ A : Nat → Prop, A = va_A (wd_RS_mend aF aF_powers aF_logs aS aS_syndromes aS_locator aS_helper aS_kept aS_evaluator aS_places aS_fixes aV aV_bytes aV_lost aV_factors aP aP_block aP_original aP_lost aP_current aR aW aC aH cI cZ F_powers F_logs S_found S_syndromes S_locator S_helper S_kept S_evaluator S_places S_fixes V_lostCount V_data V_repairs V_first V_bytes V_lost P_size P_stripes P_sentCount P_lost P_current) s.heap.size := ⟨_, rfl⟩
  rw [← hAe] at hD hA hS
  have RET : ∀ (v : Int32) (S_found : Int32) (S_syndromes : Nat → Int32) (S_locator : Nat → Int32) (S_helper : Nat → Int32) (S_kept : Nat → Int32) (S_evaluator : Nat → Int32) (S_places : Nat → Int32) (S_fixes : Nat → Int32) (V_lostCount : Int32) (V_bytes : Nat → Int32) (V_lost : Nat → Int32) (P_lost : Nat → Int32) (P_current : Nat → Int32) (H : Heap) (locs : List Loc) (ls : Array Slot) (pc : Nat), decode c_RS_mend pc = .ok (.ireturn, 1) → post v S_found S_syndromes S_locator S_helper S_kept S_evaluator S_places S_fixes V_lostCount V_bytes V_lost P_lost P_current → va_P (dC, dI) vwCl (wd_RS_mend aF aF_powers aF_logs aS aS_syndromes aS_locator aS_helper aS_kept aS_evaluator aS_places aS_fixes aV aV_bytes aV_lost aV_factors aP aP_block aP_original aP_lost aP_current aR aW aC aH cI cZ F_powers F_logs S_found S_syndromes S_locator S_helper S_kept S_evaluator S_places S_fixes V_lostCount V_data V_repairs V_first V_bytes V_lost P_size P_stripes P_sentCount P_lost P_current) H → va_D A (wd_RS_mend aF aF_powers aF_logs aS aS_syndromes aS_locator aS_helper aS_kept aS_evaluator aS_places aS_fixes aV aV_bytes aV_lost aV_factors aP aP_block aP_original aP_lost aP_current aR aW aC aH cI cZ F_powers F_logs S_found S_syndromes S_locator S_helper S_kept S_evaluator S_places S_fixes V_lostCount V_data V_repairs V_first V_bytes V_lost P_size P_stripes P_sentCount P_lost P_current) → va_S A s.heap H locs → W p l e rm_RS_mend s m args below meth c H locs 0 0 Q (F0 m pc ls [.int v]) := by
    intro v S_found S_syndromes S_locator S_helper S_kept S_evaluator S_places S_fixes V_lostCount V_bytes V_lost P_lost P_current H locs ls pc hd hp h1 h2 h3
    rw [hQ]
    rw [hAe] at h2 h3
    exact mt_reti (S_found, S_syndromes, S_locator, S_helper, S_kept, S_evaluator, S_places, S_fixes, V_lostCount, V_bytes, V_lost, P_lost, P_current) hx hb hr hlk hd hK h1 h2 h3 hp
  have B25 : ∀ (S_found : Int32) (S_syndromes : Nat → Int32) (S_locator : Nat → Int32) (S_helper : Nat → Int32) (S_kept : Nat → Int32) (S_evaluator : Nat → Int32) (S_places : Nat → Int32) (S_fixes : Nat → Int32) (V_lostCount : Int32) (V_bytes : Nat → Int32) (V_lost : Nat → Int32) (P_lost : Nat → Int32) (P_current : Nat → Int32) (t0 : Int32) (H : Heap) (locs : List Loc) (ls : Array Slot), wp_RS_mend_b25 F_powers F_logs V_data V_repairs V_first P_size P_stripes post  S_found S_syndromes S_locator S_helper S_kept S_evaluator S_places S_fixes V_lostCount V_bytes V_lost P_lost P_current t0 → va_P (dC, dI) vwCl (wd_RS_mend aF aF_powers aF_logs aS aS_syndromes aS_locator aS_helper aS_kept aS_evaluator aS_places aS_fixes aV aV_bytes aV_lost aV_factors aP aP_block aP_original aP_lost aP_current aR aW aC aH cI cZ F_powers F_logs S_found S_syndromes S_locator S_helper S_kept S_evaluator S_places S_fixes V_lostCount V_data V_repairs V_first V_bytes V_lost P_size P_stripes P_sentCount P_lost P_current) H → va_D A (wd_RS_mend aF aF_powers aF_logs aS aS_syndromes aS_locator aS_helper aS_kept aS_evaluator aS_places aS_fixes aV aV_bytes aV_lost aV_factors aP aP_block aP_original aP_lost aP_current aR aW aC aH cI cZ F_powers F_logs S_found S_syndromes S_locator S_helper S_kept S_evaluator S_places S_fixes V_lostCount V_data V_repairs V_first V_bytes V_lost P_size P_stripes P_sentCount P_lost P_current) → va_S A s.heap H locs → lv_has ls 1 [] → W p l e rm_RS_mend s m args below meth c H locs 0 0 Q (F0 m 25 ls [.int t0]) := by
    intro  S_found S_syndromes S_locator S_helper S_kept S_evaluator S_places S_fixes V_lostCount V_bytes V_lost P_lost P_current t0 H locs ls h hP hD hS hl
    exact RET t0 S_found S_syndromes S_locator S_helper S_kept S_evaluator S_places S_fixes V_lostCount V_bytes V_lost P_lost P_current H locs ls 25 d_RS_mend_25 h hP hD hS
  obtain ⟨H, hH⟩ : ∃ H : Heap, H = s.heap := ⟨_, rfl⟩
  obtain ⟨locs, hlo⟩ : ∃ x : List Loc, x = [] := ⟨_, rfl⟩
  have hS : va_S A s.heap H locs := by rw [hH, hlo]; exact hS
  rw [← hH] at hP
  rw [← hlo]
  show W p l e rm_RS_mend s m args below meth c s.heap locs 0 0 Q (F0 m 0 ls [])
  rw [← hH]
  refine lv_aload_n hx hb d_RS_mend_0 rfl (lv_at hl 0 rfl) ?_
  refine va_get (D := (dC, dI)) (ci := 6) (v := .ref aP) (C := "ReedSets") (T := T_RS) (N := 6) hx hb hts in_RS hown hK hP 17 rfl rfl 4 (by decide) (hts _ tb_279) (fun _ h9 => h9) rfl d_RS_mend_1 ?_
  refine mt_i (va_runV (As := []) (rest := []) ⟨hx, hb, hml, hown, hts⟩ (ct_St_isLaid l dC dI aP aP_block aP_original aP_lost aV aP_current cI cZ P_size P_stripes P_sentCount _ h _) (tb_cV hts ok_St_isLaid tb_551 rfl rfl ⟨Nat.le_of_ble_eq_true rfl, Nat.le_of_ble_eq_true rfl⟩) (mt_preV hK hP hD [] [14] rfl (by decide) (ci := 4) (q0 := 14) rfl rfl) rfl rfl hl.1 rfl (lv_room (Nat.le_of_ble_eq_true rfl)) d_RS_mend_4 ⟨Nat.zero_le _, Nat.zero_le _⟩) hP hD hS hA [14] rfl (fun _ => rfl) (fun r_4 u H locs h hP hD hS => ?_)
  have hP : va_P (dC, dI) vwCl (wd_RS_mend aF aF_powers aF_logs aS aS_syndromes aS_locator aS_helper aS_kept aS_evaluator aS_places aS_fixes aV aV_bytes aV_lost aV_factors aP aP_block aP_original aP_lost aP_current aR aW aC aH cI cZ F_powers F_logs S_found S_syndromes S_locator S_helper S_kept S_evaluator S_places S_fixes V_lostCount V_data V_repairs V_first V_bytes V_lost P_size P_stripes P_sentCount P_lost P_current) H := hP
  have hD : va_D A (wd_RS_mend aF aF_powers aF_logs aS aS_syndromes aS_locator aS_helper aS_kept aS_evaluator aS_places aS_fixes aV aV_bytes aV_lost aV_factors aP aP_block aP_original aP_lost aP_current aR aW aC aH cI cZ F_powers F_logs S_found S_syndromes S_locator S_helper S_kept S_evaluator S_places S_fixes V_lostCount V_data V_repairs V_first V_bytes V_lost P_size P_stripes P_sentCount P_lost P_current) := hD
  refine lv_if_eq (tgt := 24) hx hb d_RS_mend_7 (by decide) (fun g7 => ?_) (fun g7 => ?_)
  · have h := h.1 g7
    refine lv_iconst (v := (-1 : Int32)) hx hb d_RS_mend_24 (by decide) ?_
    exact B25  S_found S_syndromes S_locator S_helper S_kept S_evaluator S_places S_fixes V_lostCount V_bytes V_lost P_lost P_current (-1 : Int32) H locs ls h hP hD hS (lv_sub hl [] rfl)
  · have h := h.2 g7
    refine lv_aload_n hx hb d_RS_mend_10 rfl (lv_at hl 0 rfl) ?_
    refine va_get (D := (dC, dI)) (ci := 6) (v := .ref aP) (C := "ReedSets") (T := T_RS) (N := 6) hx hb hts in_RS hown hK hP 17 rfl rfl 4 (by decide) (hts _ tb_279) (fun _ h9 => h9) rfl d_RS_mend_11 ?_
    refine lv_aload_n hx hb d_RS_mend_14 rfl (lv_at hl 0 rfl) ?_
    refine va_get (D := (dC, dI)) (ci := 6) (v := .ref aS) (C := "ReedSets") (T := T_RS) (N := 6) hx hb hts in_RS hown hK hP 17 rfl rfl 2 (by decide) (hts _ tb_277) (fun _ h9 => h9) rfl d_RS_mend_15 ?_
    refine mt_i (va_runV (As := [.ref aS]) (rest := []) ⟨hx, hb, hml, hown, hts⟩ (ct_St_mendAll l dC dI aF aF_powers aF_logs aS aS_syndromes aS_locator aS_helper aS_kept aS_evaluator aS_places aS_fixes aV aV_bytes aV_lost aV_factors aP aP_block aP_original aP_lost aP_current cI cZ F_powers F_logs S_found S_syndromes S_locator S_helper S_kept S_evaluator S_places S_fixes V_lostCount V_data V_repairs V_first V_bytes V_lost P_size P_stripes P_sentCount P_lost P_current _ h _) (tb_cV hts ok_St_mendAll tb_555 rfl rfl ⟨Nat.le_of_ble_eq_true rfl, Nat.le_of_ble_eq_true rfl⟩) (mt_preV hK hP hD [.ref aS] [0, 1, 2, 3, 4, 5, 6, 7, 8, 9, 10, 11, 12, 13, 14, 15, 16] rfl (by decide) (ci := 4) (q0 := 14) rfl rfl) rfl rfl hl.1 rfl (lv_room (Nat.le_of_ble_eq_true rfl)) d_RS_mend_18 ⟨Nat.zero_le _, Nat.zero_le _⟩) hP hD hS hA [0, 1, 2, 3, 4, 5, 6, 7, 8, 9, 10, 11, 12, 13, 14, 15, 16] rfl (fun _ => rfl) (fun r_18 u H locs h hP hD hS => ?_)
    obtain ⟨S_found_18, S_syndromes_18, S_locator_18, S_helper_18, S_kept_18, S_evaluator_18, S_places_18, S_fixes_18, V_lostCount_18, V_bytes_18, V_lost_18, P_lost_18, P_current_18⟩ := u
    have hP : va_P (dC, dI) vwCl (wd_RS_mend aF aF_powers aF_logs aS aS_syndromes aS_locator aS_helper aS_kept aS_evaluator aS_places aS_fixes aV aV_bytes aV_lost aV_factors aP aP_block aP_original aP_lost aP_current aR aW aC aH cI cZ F_powers F_logs S_found_18 S_syndromes_18 S_locator_18 S_helper_18 S_kept_18 S_evaluator_18 S_places_18 S_fixes_18 V_lostCount_18 V_data V_repairs V_first V_bytes_18 V_lost_18 P_size P_stripes P_sentCount P_lost_18 P_current_18) H := hP
    have hD : va_D A (wd_RS_mend aF aF_powers aF_logs aS aS_syndromes aS_locator aS_helper aS_kept aS_evaluator aS_places aS_fixes aV aV_bytes aV_lost aV_factors aP aP_block aP_original aP_lost aP_current aR aW aC aH cI cZ F_powers F_logs S_found_18 S_syndromes_18 S_locator_18 S_helper_18 S_kept_18 S_evaluator_18 S_places_18 S_fixes_18 V_lostCount_18 V_data V_repairs V_first V_bytes_18 V_lost_18 P_size P_stripes P_sentCount P_lost_18 P_current_18) := hD
    refine lv_goto (tgt := 25) hx hb d_RS_mend_21 (by decide) ?_
    exact B25  S_found_18 S_syndromes_18 S_locator_18 S_helper_18 S_kept_18 S_evaluator_18 S_places_18 S_fixes_18 V_lostCount_18 V_bytes_18 V_lost_18 P_lost_18 P_current_18 r_18 H locs ls h hP hD hS (lv_sub hl [] rfl)
abbrev wd_RS_wrong (aP aP_block aP_original aP_lost aV aP_current aR aF aW aS aC aH : Nat) (cI cZ : ClassId) (P_size : Int32) (P_stripes : Int32) (P_sentCount : Int32) (P_original : Nat → Int32) (P_lost : Nat → Int32) (P_current : Nat → Int32) : va_W := [(aP, .inr (4, [.ref aP_block, .ref aP_original, .ref aP_lost, .ref aV, .ref aP_current, .int P_size, .int P_stripes, .int P_sentCount])), (aP_original, .inl (cI, 1440, .inl P_original)), (aP_lost, .inl (cZ, 1440, .inl P_lost)), (aP_current, .inl (cI, 1440, .inl P_current)), (aR, .inr (6, [.ref aF, .ref aW, .ref aS, .ref aC, .ref aP, .ref aH]))]
def wp_RS_wrong_b21 (P_stripes : Int32) (P_sentCount : Int32) (P_original : Nat → Int32) (P_lost : Nat → Int32) (P_current : Nat → Int32) (post : Int32 → Prop)  (t0 : Int32) : Prop := post t0
def wp_RS_wrong (P_stripes : Int32) (P_sentCount : Int32) (P_original : Nat → Int32) (P_lost : Nat → Int32) (P_current : Nat → Int32) (post : Int32 → Prop) : Prop := wp_St_isLaid P_stripes (fun r_4 => ((r_4 = 0 → (wp_RS_wrong_b21 P_stripes P_sentCount P_original P_lost P_current post  (-1 : Int32))) ∧ (¬ r_4 = 0 → (wp_St_countWrong P_sentCount P_original P_lost P_current (fun r_14 => (wp_RS_wrong_b21 P_stripes P_sentCount P_original P_lost P_current post  r_14))))))
abbrev rm_RS_wrong : Room := { frames := 1, cells := 0, slots := 0, locals := 22 }
set_option maxHeartbeats 4000000 in
set_option maxRecDepth 100000 in
theorem ct_RS_wrong (l : Launch) (dC : Nat → ClassId) (dI : Nat → Nat → Nat) (aP aP_block aP_original aP_lost aV aP_current aR aF aW aS aC aH : Nat) (cI cZ : ClassId) (P_size : Int32) (P_stripes : Int32) (P_sentCount : Int32) (P_original : Nat → Int32) (P_lost : Nat → Int32) (P_current : Nat → Int32)  (post : Int32 → Prop) (h : wp_RS_wrong P_stripes P_sentCount P_original P_lost P_current post) (sz : Nat) : Met l y_RS_wrong (Cond.code y_RS_wrong c_RS_wrong 1 (some .int) :: tb) rm_RS_wrong (mt_P (dC, dI) vwCl [(cI, .int), (cZ, .boolean)] [.ref aR] (wd_RS_wrong aP aP_block aP_original aP_lost aV aP_current aR aF aW aS aC aH cI cZ P_size P_stripes P_sentCount P_original P_lost P_current) sz) (va_Qi (fun (r : Int32) (u : Unit) => post r) (mt_B (dC, dI) vwCl [(cI, .int), (cZ, .boolean)] (wd_RS_wrong aP aP_block aP_original aP_lost aV aP_current aR aF aW aS aC aH cI cZ P_size P_stripes P_sentCount P_original P_lost P_current) sz (fun u : Unit => wd_RS_wrong aP aP_block aP_original aP_lost aV aP_current aR aF aW aS aC aH cI cZ P_size P_stripes P_sentCount P_original P_lost P_current)) (va_A (wd_RS_wrong aP aP_block aP_original aP_lost aV aP_current aR aF aW aS aC aH cI cZ P_size P_stripes P_sentCount P_original P_lost P_current) sz)) 0 0 (va_A (wd_RS_wrong aP aP_block aP_original aP_lost aV aP_current aR aF aW aS aC aH cI cZ P_size P_stripes P_sentCount P_original P_lost P_current) sz) := by
  refine mt_bd (by decide +kernel) (Nat.le_of_ble_eq_true rfl) ?_
  intro p e s m args below meth c hx hb hml hown hts hr hlk hnm hsz hP hK hD hA hS ls hl
  subst hsz
  have hown : s.vm.findClass "ReedSets" = some m.cls := hown
  have hl : lv_has ls 1 [(0, .ref aR)] := hl
  refine lz_Q (fun Q hQ => ?_)
  obtain ⟨A, hAe⟩ : ∃ A : Nat → Prop, A = va_A (wd_RS_wrong aP aP_block aP_original aP_lost aV aP_current aR aF aW aS aC aH cI cZ P_size P_stripes P_sentCount P_original P_lost P_current) s.heap.size := ⟨_, rfl⟩
  rw [← hAe] at hD hA hS
  have RET : ∀ (v : Int32)  (H : Heap) (locs : List Loc) (ls : Array Slot) (pc : Nat), decode c_RS_wrong pc = .ok (.ireturn, 1) → post v  → va_P (dC, dI) vwCl (wd_RS_wrong aP aP_block aP_original aP_lost aV aP_current aR aF aW aS aC aH cI cZ P_size P_stripes P_sentCount P_original P_lost P_current) H → va_D A (wd_RS_wrong aP aP_block aP_original aP_lost aV aP_current aR aF aW aS aC aH cI cZ P_size P_stripes P_sentCount P_original P_lost P_current) → va_S A s.heap H locs → W p l e rm_RS_wrong s m args below meth c H locs 0 0 Q (F0 m pc ls [.int v]) := by
    intro v  H locs ls pc hd hp h1 h2 h3
    rw [hQ]
    rw [hAe] at h2 h3
    exact mt_reti () hx hb hr hlk hd hK h1 h2 h3 hp
  have B21 : ∀ (t0 : Int32) (H : Heap) (locs : List Loc) (ls : Array Slot), wp_RS_wrong_b21 P_stripes P_sentCount P_original P_lost P_current post  t0 → va_P (dC, dI) vwCl (wd_RS_wrong aP aP_block aP_original aP_lost aV aP_current aR aF aW aS aC aH cI cZ P_size P_stripes P_sentCount P_original P_lost P_current) H → va_D A (wd_RS_wrong aP aP_block aP_original aP_lost aV aP_current aR aF aW aS aC aH cI cZ P_size P_stripes P_sentCount P_original P_lost P_current) → va_S A s.heap H locs → lv_has ls 1 [] → W p l e rm_RS_wrong s m args below meth c H locs 0 0 Q (F0 m 21 ls [.int t0]) := by
    intro  t0 H locs ls h hP hD hS hl
    exact RET t0 H locs ls 21 d_RS_wrong_21 h hP hD hS
  obtain ⟨H, hH⟩ : ∃ H : Heap, H = s.heap := ⟨_, rfl⟩
  obtain ⟨locs, hlo⟩ : ∃ x : List Loc, x = [] := ⟨_, rfl⟩
  have hS : va_S A s.heap H locs := by rw [hH, hlo]; exact hS
  rw [← hH] at hP
  rw [← hlo]
  show W p l e rm_RS_wrong s m args below meth c s.heap locs 0 0 Q (F0 m 0 ls [])
  rw [← hH]
  refine lv_aload_n hx hb d_RS_wrong_0 rfl (lv_at hl 0 rfl) ?_
  refine va_get (D := (dC, dI)) (ci := 6) (v := .ref aP) (C := "ReedSets") (T := T_RS) (N := 6) hx hb hts in_RS hown hK hP 4 rfl rfl 4 (by decide) (hts _ tb_279) (fun _ h9 => h9) rfl d_RS_wrong_1 ?_
  refine mt_i (va_runV (As := []) (rest := []) ⟨hx, hb, hml, hown, hts⟩ (ct_St_isLaid l dC dI aP aP_block aP_original aP_lost aV aP_current cI cZ P_size P_stripes P_sentCount _ h _) (tb_cV hts ok_St_isLaid tb_551 rfl rfl ⟨Nat.le_of_ble_eq_true rfl, Nat.le_of_ble_eq_true rfl⟩) (mt_preV hK hP hD [] [0] rfl (by decide) (ci := 4) (q0 := 0) rfl rfl) rfl rfl hl.1 rfl (lv_room (Nat.le_of_ble_eq_true rfl)) d_RS_wrong_4 ⟨Nat.zero_le _, Nat.zero_le _⟩) hP hD hS hA [0] rfl (fun _ => rfl) (fun r_4 u H locs h hP hD hS => ?_)
  have hP : va_P (dC, dI) vwCl (wd_RS_wrong aP aP_block aP_original aP_lost aV aP_current aR aF aW aS aC aH cI cZ P_size P_stripes P_sentCount P_original P_lost P_current) H := hP
  have hD : va_D A (wd_RS_wrong aP aP_block aP_original aP_lost aV aP_current aR aF aW aS aC aH cI cZ P_size P_stripes P_sentCount P_original P_lost P_current) := hD
  refine lv_if_eq (tgt := 20) hx hb d_RS_wrong_7 (by decide) (fun g7 => ?_) (fun g7 => ?_)
  · have h := h.1 g7
    refine lv_iconst (v := (-1 : Int32)) hx hb d_RS_wrong_20 (by decide) ?_
    exact B21  (-1 : Int32) H locs ls h hP hD hS (lv_sub hl [] rfl)
  · have h := h.2 g7
    refine lv_aload_n hx hb d_RS_wrong_10 rfl (lv_at hl 0 rfl) ?_
    refine va_get (D := (dC, dI)) (ci := 6) (v := .ref aP) (C := "ReedSets") (T := T_RS) (N := 6) hx hb hts in_RS hown hK hP 4 rfl rfl 4 (by decide) (hts _ tb_279) (fun _ h9 => h9) rfl d_RS_wrong_11 ?_
    refine mt_i (va_runV (As := []) (rest := []) ⟨hx, hb, hml, hown, hts⟩ (ct_St_countWrong l dC dI aP aP_block aP_original aP_lost aV aP_current cI cZ P_size P_stripes P_sentCount P_original P_lost P_current _ h _) (tb_cV hts ok_St_countWrong tb_582 rfl rfl ⟨Nat.le_of_ble_eq_true rfl, Nat.le_of_ble_eq_true rfl⟩) (mt_preV hK hP hD [] [0, 1, 2, 3] rfl (by decide) (ci := 4) (q0 := 0) rfl rfl) rfl rfl hl.1 rfl (lv_room (Nat.le_of_ble_eq_true rfl)) d_RS_wrong_14 ⟨Nat.zero_le _, Nat.zero_le _⟩) hP hD hS hA [0, 1, 2, 3] rfl (fun _ => rfl) (fun r_14 u H locs h hP hD hS => ?_)
    have hP : va_P (dC, dI) vwCl (wd_RS_wrong aP aP_block aP_original aP_lost aV aP_current aR aF aW aS aC aH cI cZ P_size P_stripes P_sentCount P_original P_lost P_current) H := hP
    have hD : va_D A (wd_RS_wrong aP aP_block aP_original aP_lost aV aP_current aR aF aW aS aC aH cI cZ P_size P_stripes P_sentCount P_original P_lost P_current) := hD
    refine lv_goto (tgt := 21) hx hb d_RS_wrong_17 (by decide) ?_
    exact B21  r_14 H locs ls h hP hD hS (lv_sub hl [] rfl)
abbrev wd_RS_shares (aH aF aH_values aH_base aH_weights aH_parts aH_told aR aW aS aC aP : Nat) (cI cZ : ClassId) (H_lastApart : Int32) (H_needed : Int32) (H_width : Int32) (H_count : Int32) (H_told : Nat → Int32) : va_W := [(aH, .inr (2, [.ref aF, .ref aH_values, .ref aH_base, .ref aH_weights, .ref aH_parts, .int H_lastApart, .int H_needed, .int H_width, .ref aH_told, .int H_count])), (aH_told, .inl (cZ, 256, .inl H_told)), (aR, .inr (6, [.ref aF, .ref aW, .ref aS, .ref aC, .ref aP, .ref aH]))]
def wp_RS_shares_b22  (post : Int32 → Int32 → Int32 → Int32 → (Nat → Int32) → Prop)  (H_needed : Int32) (H_width : Int32) (H_count : Int32) (H_told : Nat → Int32) : Prop := post (-1 : Int32) H_needed H_width H_count H_told
def wp_RS_shares (H_needed : Int32) (H_width : Int32) (H_count : Int32) (H_told : Nat → Int32) (p1 : Int32) (p2 : Int32) (post : Int32 → Int32 → Int32 → Int32 → (Nat → Int32) → Prop) : Prop := (p1 < (1 : Int32) → (wp_RS_shares_b22 post  H_needed H_width H_count H_told)) ∧ (¬ p1 < (1 : Int32) → (((20 : Int32) < p1 → (wp_RS_shares_b22 post  H_needed H_width H_count H_told)) ∧ (¬ (20 : Int32) < p1 → ((p2 < (1 : Int32) → (wp_RS_shares_b22 post  H_needed H_width H_count H_told)) ∧ (¬ p2 < (1 : Int32) → ((p2 ≤ (16 : Int32) → (wp_Sh_start H_needed H_width H_count H_told p1 p2 (fun H_needed_30 H_width_30 H_count_30 H_told_30 => (post (1 : Int32) H_needed_30 H_width_30 H_count_30 H_told_30)))) ∧ (¬ p2 ≤ (16 : Int32) → (wp_RS_shares_b22 post  H_needed H_width H_count H_told))))))))
abbrev rm_RS_shares : Room := { frames := 1, cells := 0, slots := 0, locals := 23 }
set_option maxHeartbeats 4000000 in
set_option maxRecDepth 100000 in
theorem ct_RS_shares (l : Launch) (dC : Nat → ClassId) (dI : Nat → Nat → Nat) (aH aF aH_values aH_base aH_weights aH_parts aH_told aR aW aS aC aP : Nat) (cI cZ : ClassId) (H_lastApart : Int32) (H_needed : Int32) (H_width : Int32) (H_count : Int32) (H_told : Nat → Int32) (p1 : Int32) (p2 : Int32) (post : Int32 → Int32 → Int32 → Int32 → (Nat → Int32) → Prop) (h : wp_RS_shares H_needed H_width H_count H_told p1 p2 post) (sz : Nat) : Met l y_RS_shares (Cond.code y_RS_shares c_RS_shares 3 (some .int) :: tb) rm_RS_shares (mt_P (dC, dI) vwCl [(cI, .int), (cZ, .boolean)] [.ref aR, .int p1, .int p2] (wd_RS_shares aH aF aH_values aH_base aH_weights aH_parts aH_told aR aW aS aC aP cI cZ H_lastApart H_needed H_width H_count H_told) sz) (va_Qi (fun (r : Int32) (u : Int32 × Int32 × Int32 × (Nat → Int32)) => post r u.1 u.2.1 u.2.2.1 u.2.2.2) (mt_B (dC, dI) vwCl [(cI, .int), (cZ, .boolean)] (wd_RS_shares aH aF aH_values aH_base aH_weights aH_parts aH_told aR aW aS aC aP cI cZ H_lastApart H_needed H_width H_count H_told) sz (fun u : Int32 × Int32 × Int32 × (Nat → Int32) => wd_RS_shares aH aF aH_values aH_base aH_weights aH_parts aH_told aR aW aS aC aP cI cZ H_lastApart u.1 u.2.1 u.2.2.1 u.2.2.2)) (va_A (wd_RS_shares aH aF aH_values aH_base aH_weights aH_parts aH_told aR aW aS aC aP cI cZ H_lastApart H_needed H_width H_count H_told) sz)) 0 0 (va_A (wd_RS_shares aH aF aH_values aH_base aH_weights aH_parts aH_told aR aW aS aC aP cI cZ H_lastApart H_needed H_width H_count H_told) sz) := by
  refine mt_bd (by decide +kernel) (Nat.le_of_ble_eq_true rfl) ?_
  intro p e s m args below meth c hx hb hml hown hts hr hlk hnm hsz hP hK hD hA hS ls hl
  subst hsz
  have hown : s.vm.findClass "ReedSets" = some m.cls := hown
  have hl : lv_has ls 3 [(0, .ref aR), (1, .int p1), (2, .int p2)] := hl
  refine lz_Q (fun Q hQ => ?_)
  obtain ⟨A, hAe⟩ : ∃ A : Nat → Prop, A = va_A (wd_RS_shares aH aF aH_values aH_base aH_weights aH_parts aH_told aR aW aS aC aP cI cZ H_lastApart H_needed H_width H_count H_told) s.heap.size := ⟨_, rfl⟩
  rw [← hAe] at hD hA hS
  have RET : ∀ (v : Int32) (H_needed : Int32) (H_width : Int32) (H_count : Int32) (H_told : Nat → Int32) (H : Heap) (locs : List Loc) (ls : Array Slot) (pc : Nat), decode c_RS_shares pc = .ok (.ireturn, 1) → post v H_needed H_width H_count H_told → va_P (dC, dI) vwCl (wd_RS_shares aH aF aH_values aH_base aH_weights aH_parts aH_told aR aW aS aC aP cI cZ H_lastApart H_needed H_width H_count H_told) H → va_D A (wd_RS_shares aH aF aH_values aH_base aH_weights aH_parts aH_told aR aW aS aC aP cI cZ H_lastApart H_needed H_width H_count H_told) → va_S A s.heap H locs → W p l e rm_RS_shares s m args below meth c H locs 0 0 Q (F0 m pc ls [.int v]) := by
    intro v H_needed H_width H_count H_told H locs ls pc hd hp h1 h2 h3
    rw [hQ]
    rw [hAe] at h2 h3
    exact mt_reti (H_needed, H_width, H_count, H_told) hx hb hr hlk hd hK h1 h2 h3 hp
  have B22 : ∀ (H_needed : Int32) (H_width : Int32) (H_count : Int32) (H_told : Nat → Int32) (H : Heap) (locs : List Loc) (ls : Array Slot), wp_RS_shares_b22 post  H_needed H_width H_count H_told → va_P (dC, dI) vwCl (wd_RS_shares aH aF aH_values aH_base aH_weights aH_parts aH_told aR aW aS aC aP cI cZ H_lastApart H_needed H_width H_count H_told) H → va_D A (wd_RS_shares aH aF aH_values aH_base aH_weights aH_parts aH_told aR aW aS aC aP cI cZ H_lastApart H_needed H_width H_count H_told) → va_S A s.heap H locs → lv_has ls 3 [] → W p l e rm_RS_shares s m args below meth c H locs 0 0 Q (F0 m 22 ls []) := by
    intro  H_needed H_width H_count H_told H locs ls h hP hD hS hl
    refine lv_iconst (v := (-1 : Int32)) hx hb d_RS_shares_22 (by decide) ?_
    exact RET (-1 : Int32) H_needed H_width H_count H_told H locs ls 23 d_RS_shares_23 h hP hD hS
  obtain ⟨H, hH⟩ : ∃ H : Heap, H = s.heap := ⟨_, rfl⟩
  obtain ⟨locs, hlo⟩ : ∃ x : List Loc, x = [] := ⟨_, rfl⟩
  have hS : va_S A s.heap H locs := by rw [hH, hlo]; exact hS
  rw [← hH] at hP
  rw [← hlo]
  show W p l e rm_RS_shares s m args below meth c s.heap locs 0 0 Q (F0 m 0 ls [])
  rw [← hH]
  refine lv_iload_n hx hb d_RS_shares_0 rfl (lv_at hl 1 rfl) ?_
  refine lv_iconst (v := (1 : Int32)) hx hb d_RS_shares_1 (by decide) ?_
  refine lv_icmp_lt (tgt := 22) hx hb d_RS_shares_2 (by decide) (fun g2 => ?_) (fun g2 => ?_)
  · have h := h.1 g2
    exact B22  H_needed H_width H_count H_told H locs ls h hP hD hS (lv_sub hl [] rfl)
  · have h := h.2 g2
    refine lv_iload_n hx hb d_RS_shares_5 rfl (lv_at hl 1 rfl) ?_
    refine lv_bipush (v := (20 : Int32)) hx hb d_RS_shares_6 (by decide) ?_
    refine lv_icmp_gt (tgt := 22) hx hb d_RS_shares_8 (by decide) (fun g8 => ?_) (fun g8 => ?_)
    · have h := h.1 g8
      exact B22  H_needed H_width H_count H_told H locs ls h hP hD hS (lv_sub hl [] rfl)
    · have h := h.2 g8
      refine lv_iload_n hx hb d_RS_shares_11 rfl (lv_at hl 2 rfl) ?_
      refine lv_iconst (v := (1 : Int32)) hx hb d_RS_shares_12 (by decide) ?_
      refine lv_icmp_lt (tgt := 22) hx hb d_RS_shares_13 (by decide) (fun g13 => ?_) (fun g13 => ?_)
      · have h := h.1 g13
        exact B22  H_needed H_width H_count H_told H locs ls h hP hD hS (lv_sub hl [] rfl)
      · have h := h.2 g13
        refine lv_iload_n hx hb d_RS_shares_16 rfl (lv_at hl 2 rfl) ?_
        refine lv_bipush (v := (16 : Int32)) hx hb d_RS_shares_17 (by decide) ?_
        refine lv_icmp_le (tgt := 24) hx hb d_RS_shares_19 (by decide) (fun g19 => ?_) (fun g19 => ?_)
        · have h := h.1 g19
          refine lv_aload_n hx hb d_RS_shares_24 rfl (lv_at hl 0 rfl) ?_
          refine va_get (D := (dC, dI)) (ci := 6) (v := .ref aH) (C := "ReedSets") (T := T_RS) (N := 6) hx hb hts in_RS hown hK hP 2 rfl rfl 5 (by decide) (hts _ tb_280) (fun _ h9 => h9) rfl d_RS_shares_25 ?_
          refine lv_iload_n hx hb d_RS_shares_28 rfl (lv_at hl 1 rfl) ?_
          refine lv_iload_n hx hb d_RS_shares_29 rfl (lv_at hl 2 rfl) ?_
          refine mt_v (va_runV (As := [.int p1, .int p2]) (rest := []) ⟨hx, hb, hml, hown, hts⟩ (ct_Sh_start l dC dI aH aF aH_values aH_base aH_weights aH_parts aH_told cI cZ H_lastApart H_needed H_width H_count H_told p1 p2 _ h _) (tb_cV hts ok_Sh_start tb_590 rfl rfl ⟨Nat.le_of_ble_eq_true rfl, Nat.le_of_ble_eq_true rfl⟩) (mt_preV hK hP hD [.int p1, .int p2] [0, 1] rfl (by decide) (ci := 2) (q0 := 0) rfl rfl) rfl rfl hl.1 rfl (lv_room (Nat.le_of_ble_eq_true rfl)) d_RS_shares_30 ⟨Nat.zero_le _, Nat.zero_le _⟩) hP hD hS hA [0, 1] rfl (fun _ => rfl) (fun u H locs h hP hD hS => ?_)
          obtain ⟨H_needed_30, H_width_30, H_count_30, H_told_30⟩ := u
          have hP : va_P (dC, dI) vwCl (wd_RS_shares aH aF aH_values aH_base aH_weights aH_parts aH_told aR aW aS aC aP cI cZ H_lastApart H_needed_30 H_width_30 H_count_30 H_told_30) H := hP
          have hD : va_D A (wd_RS_shares aH aF aH_values aH_base aH_weights aH_parts aH_told aR aW aS aC aP cI cZ H_lastApart H_needed_30 H_width_30 H_count_30 H_told_30) := hD
          refine lv_iconst (v := (1 : Int32)) hx hb d_RS_shares_33 (by decide) ?_
          exact RET (1 : Int32) H_needed_30 H_width_30 H_count_30 H_told_30 H locs ls 34 d_RS_shares_34 h hP hD hS
        · have h := h.2 g19
          exact B22  H_needed H_width H_count H_told H locs ls h hP hD hS (lv_sub hl [] rfl)
abbrev wd_RS_share (aH aF aH_values aH_base aH_weights aH_parts aH_told aR aW aS aC aP : Nat) (cI cZ : ClassId) (H_lastApart : Int32) (H_needed : Int32) (H_width : Int32) (H_count : Int32) (H_values : Nat → Int32) (H_told : Nat → Int32) : va_W := [(aH, .inr (2, [.ref aF, .ref aH_values, .ref aH_base, .ref aH_weights, .ref aH_parts, .int H_lastApart, .int H_needed, .int H_width, .ref aH_told, .int H_count])), (aH_values, .inl (cI, 4096, .inl H_values)), (aH_told, .inl (cZ, 256, .inl H_told)), (aR, .inr (6, [.ref aF, .ref aW, .ref aS, .ref aC, .ref aP, .ref aH]))]
def wp_RS_share_b25 (H_width : Int32) (post : Int32 → Int32 → (Nat → Int32) → (Nat → Int32) → Prop)  (H_count : Int32) (H_values : Nat → Int32) (H_told : Nat → Int32) : Prop := post (-1 : Int32) H_count H_values H_told
def wp_RS_share (H_width : Int32) (H_count : Int32) (H_values : Nat → Int32) (H_told : Nat → Int32) (p1 : Int32) (p2 : Int32) (p3 : Int32) (post : Int32 → Int32 → (Nat → Int32) → (Nat → Int32) → Prop) : Prop := wp_Fi_isByte p1 (fun r_1 => ((r_1 = 0 → (wp_RS_share_b25 H_width post  H_count H_values H_told)) ∧ (¬ r_1 = 0 → (wp_Sh_hasPlace H_width p2 (fun r_12 => ((r_12 = 0 → (wp_RS_share_b25 H_width post  H_count H_values H_told)) ∧ (¬ r_12 = 0 → (wp_Fi_isByte p3 (fun r_19 => ((¬ r_19 = 0 → (wp_Sh_tell H_count H_values H_told p1 p2 p3 (fun H_count_34 H_values_34 H_told_34 => (post H_count_34 H_count_34 H_values_34 H_told_34)))) ∧ (r_19 = 0 → (wp_RS_share_b25 H_width post  H_count H_values H_told))))))))))))
abbrev rm_RS_share : Room := { frames := 3, cells := 0, slots := 0, locals := 70 }
set_option maxHeartbeats 4000000 in
set_option maxRecDepth 100000 in
theorem ct_RS_share (l : Launch) (dC : Nat → ClassId) (dI : Nat → Nat → Nat) (aH aF aH_values aH_base aH_weights aH_parts aH_told aR aW aS aC aP : Nat) (cI cZ : ClassId) (H_lastApart : Int32) (H_needed : Int32) (H_width : Int32) (H_count : Int32) (H_values : Nat → Int32) (H_told : Nat → Int32) (p1 : Int32) (p2 : Int32) (p3 : Int32) (post : Int32 → Int32 → (Nat → Int32) → (Nat → Int32) → Prop) (h : wp_RS_share H_width H_count H_values H_told p1 p2 p3 post) (sz : Nat) : Met l y_RS_share (Cond.code y_RS_share c_RS_share 4 (some .int) :: tb) rm_RS_share (mt_P (dC, dI) vwCl [(cI, .int), (cZ, .boolean)] [.ref aR, .int p1, .int p2, .int p3] (wd_RS_share aH aF aH_values aH_base aH_weights aH_parts aH_told aR aW aS aC aP cI cZ H_lastApart H_needed H_width H_count H_values H_told) sz) (va_Qi (fun (r : Int32) (u : Int32 × (Nat → Int32) × (Nat → Int32)) => post r u.1 u.2.1 u.2.2) (mt_B (dC, dI) vwCl [(cI, .int), (cZ, .boolean)] (wd_RS_share aH aF aH_values aH_base aH_weights aH_parts aH_told aR aW aS aC aP cI cZ H_lastApart H_needed H_width H_count H_values H_told) sz (fun u : Int32 × (Nat → Int32) × (Nat → Int32) => wd_RS_share aH aF aH_values aH_base aH_weights aH_parts aH_told aR aW aS aC aP cI cZ H_lastApart H_needed H_width u.1 u.2.1 u.2.2)) (va_A (wd_RS_share aH aF aH_values aH_base aH_weights aH_parts aH_told aR aW aS aC aP cI cZ H_lastApart H_needed H_width H_count H_values H_told) sz)) 0 0 (va_A (wd_RS_share aH aF aH_values aH_base aH_weights aH_parts aH_told aR aW aS aC aP cI cZ H_lastApart H_needed H_width H_count H_values H_told) sz) := by
  refine mt_bd (by decide +kernel) (Nat.le_of_ble_eq_true rfl) ?_
  intro p e s m args below meth c hx hb hml hown hts hr hlk hnm hsz hP hK hD hA hS ls hl
  subst hsz
  have hown : s.vm.findClass "ReedSets" = some m.cls := hown
  have hl : lv_has ls 4 [(0, .ref aR), (1, .int p1), (2, .int p2), (3, .int p3)] := hl
  refine lz_Q (fun Q hQ => ?_)
  obtain ⟨A, hAe⟩ : ∃ A : Nat → Prop, A = va_A (wd_RS_share aH aF aH_values aH_base aH_weights aH_parts aH_told aR aW aS aC aP cI cZ H_lastApart H_needed H_width H_count H_values H_told) s.heap.size := ⟨_, rfl⟩
  rw [← hAe] at hD hA hS
  have RET : ∀ (v : Int32) (H_count : Int32) (H_values : Nat → Int32) (H_told : Nat → Int32) (H : Heap) (locs : List Loc) (ls : Array Slot) (pc : Nat), decode c_RS_share pc = .ok (.ireturn, 1) → post v H_count H_values H_told → va_P (dC, dI) vwCl (wd_RS_share aH aF aH_values aH_base aH_weights aH_parts aH_told aR aW aS aC aP cI cZ H_lastApart H_needed H_width H_count H_values H_told) H → va_D A (wd_RS_share aH aF aH_values aH_base aH_weights aH_parts aH_told aR aW aS aC aP cI cZ H_lastApart H_needed H_width H_count H_values H_told) → va_S A s.heap H locs → W p l e rm_RS_share s m args below meth c H locs 0 0 Q (F0 m pc ls [.int v]) := by
    intro v H_count H_values H_told H locs ls pc hd hp h1 h2 h3
    rw [hQ]
    rw [hAe] at h2 h3
    exact mt_reti (H_count, H_values, H_told) hx hb hr hlk hd hK h1 h2 h3 hp
  have B25 : ∀ (H_count : Int32) (H_values : Nat → Int32) (H_told : Nat → Int32) (H : Heap) (locs : List Loc) (ls : Array Slot), wp_RS_share_b25 H_width post  H_count H_values H_told → va_P (dC, dI) vwCl (wd_RS_share aH aF aH_values aH_base aH_weights aH_parts aH_told aR aW aS aC aP cI cZ H_lastApart H_needed H_width H_count H_values H_told) H → va_D A (wd_RS_share aH aF aH_values aH_base aH_weights aH_parts aH_told aR aW aS aC aP cI cZ H_lastApart H_needed H_width H_count H_values H_told) → va_S A s.heap H locs → lv_has ls 4 [] → W p l e rm_RS_share s m args below meth c H locs 0 0 Q (F0 m 25 ls []) := by
    intro  H_count H_values H_told H locs ls h hP hD hS hl
    refine lv_iconst (v := (-1 : Int32)) hx hb d_RS_share_25 (by decide) ?_
    exact RET (-1 : Int32) H_count H_values H_told H locs ls 26 d_RS_share_26 h hP hD hS
  obtain ⟨H, hH⟩ : ∃ H : Heap, H = s.heap := ⟨_, rfl⟩
  obtain ⟨locs, hlo⟩ : ∃ x : List Loc, x = [] := ⟨_, rfl⟩
  have hS : va_S A s.heap H locs := by rw [hH, hlo]; exact hS
  rw [← hH] at hP
  rw [← hlo]
  show W p l e rm_RS_share s m args below meth c s.heap locs 0 0 Q (F0 m 0 ls [])
  rw [← hH]
  refine lv_iload_n hx hb d_RS_share_0 rfl (lv_at hl 1 rfl) ?_
  refine mt_i (va_runS (As := [.int p1]) (rest := []) ⟨hx, hb, hml, hown, hts⟩ (ct_Fi_isByte l dC dI  cI cZ p1 _ h _) (tb_cS hts ok_Fi_isByte tb_298 rfl rfl ⟨Nat.le_of_ble_eq_true rfl, Nat.le_of_ble_eq_true rfl⟩) (mt_preS hK hP hD [.int p1] [] rfl (by decide)) rfl rfl hl.1 rfl (lv_room (Nat.le_of_ble_eq_true rfl)) d_RS_share_1 ⟨Nat.zero_le _, Nat.zero_le _⟩) hP hD hS hA [] rfl (fun _ => rfl) (fun r_1 u H locs h hP hD hS => ?_)
  have hP : va_P (dC, dI) vwCl (wd_RS_share aH aF aH_values aH_base aH_weights aH_parts aH_told aR aW aS aC aP cI cZ H_lastApart H_needed H_width H_count H_values H_told) H := hP
  have hD : va_D A (wd_RS_share aH aF aH_values aH_base aH_weights aH_parts aH_told aR aW aS aC aP cI cZ H_lastApart H_needed H_width H_count H_values H_told) := hD
  refine lv_if_eq (tgt := 25) hx hb d_RS_share_4 (by decide) (fun g4 => ?_) (fun g4 => ?_)
  · have h := h.1 g4
    exact B25  H_count H_values H_told H locs ls h hP hD hS (lv_sub hl [] rfl)
  · have h := h.2 g4
    refine lv_aload_n hx hb d_RS_share_7 rfl (lv_at hl 0 rfl) ?_
    refine va_get (D := (dC, dI)) (ci := 6) (v := .ref aH) (C := "ReedSets") (T := T_RS) (N := 6) hx hb hts in_RS hown hK hP 3 rfl rfl 5 (by decide) (hts _ tb_280) (fun _ h9 => h9) rfl d_RS_share_8 ?_
    refine lv_iload_n hx hb d_RS_share_11 rfl (lv_at hl 2 rfl) ?_
    refine mt_i (va_runV (As := [.int p2]) (rest := []) ⟨hx, hb, hml, hown, hts⟩ (ct_Sh_hasPlace l dC dI aH aF aH_values aH_base aH_weights aH_parts aH_told cI cZ H_lastApart H_needed H_width H_count p2 _ h _) (tb_cV hts ok_Sh_hasPlace tb_595 rfl rfl ⟨Nat.le_of_ble_eq_true rfl, Nat.le_of_ble_eq_true rfl⟩) (mt_preV hK hP hD [.int p2] [0] rfl (by decide) (ci := 2) (q0 := 0) rfl rfl) rfl rfl hl.1 rfl (lv_room (Nat.le_of_ble_eq_true rfl)) d_RS_share_12 ⟨Nat.zero_le _, Nat.zero_le _⟩) hP hD hS hA [0] rfl (fun _ => rfl) (fun r_12 u H locs h hP hD hS => ?_)
    have hP : va_P (dC, dI) vwCl (wd_RS_share aH aF aH_values aH_base aH_weights aH_parts aH_told aR aW aS aC aP cI cZ H_lastApart H_needed H_width H_count H_values H_told) H := hP
    have hD : va_D A (wd_RS_share aH aF aH_values aH_base aH_weights aH_parts aH_told aR aW aS aC aP cI cZ H_lastApart H_needed H_width H_count H_values H_told) := hD
    refine lv_if_eq (tgt := 25) hx hb d_RS_share_15 (by decide) (fun g15 => ?_) (fun g15 => ?_)
    · have h := h.1 g15
      exact B25  H_count H_values H_told H locs ls h hP hD hS (lv_sub hl [] rfl)
    · have h := h.2 g15
      refine lv_iload_n hx hb d_RS_share_18 rfl (lv_at hl 3 rfl) ?_
      refine mt_i (va_runS (As := [.int p3]) (rest := []) ⟨hx, hb, hml, hown, hts⟩ (ct_Fi_isByte l dC dI  cI cZ p3 _ h _) (tb_cS hts ok_Fi_isByte tb_298 rfl rfl ⟨Nat.le_of_ble_eq_true rfl, Nat.le_of_ble_eq_true rfl⟩) (mt_preS hK hP hD [.int p3] [] rfl (by decide)) rfl rfl hl.1 rfl (lv_room (Nat.le_of_ble_eq_true rfl)) d_RS_share_19 ⟨Nat.zero_le _, Nat.zero_le _⟩) hP hD hS hA [] rfl (fun _ => rfl) (fun r_19 u H locs h hP hD hS => ?_)
      have hP : va_P (dC, dI) vwCl (wd_RS_share aH aF aH_values aH_base aH_weights aH_parts aH_told aR aW aS aC aP cI cZ H_lastApart H_needed H_width H_count H_values H_told) H := hP
      have hD : va_D A (wd_RS_share aH aF aH_values aH_base aH_weights aH_parts aH_told aR aW aS aC aP cI cZ H_lastApart H_needed H_width H_count H_values H_told) := hD
      refine lv_if_ne (tgt := 27) hx hb d_RS_share_22 (by decide) (fun g22 => ?_) (fun g22 => ?_)
      · have h := h.1 g22
        refine lv_aload_n hx hb d_RS_share_27 rfl (lv_at hl 0 rfl) ?_
        refine va_get (D := (dC, dI)) (ci := 6) (v := .ref aH) (C := "ReedSets") (T := T_RS) (N := 6) hx hb hts in_RS hown hK hP 3 rfl rfl 5 (by decide) (hts _ tb_280) (fun _ h9 => h9) rfl d_RS_share_28 ?_
        refine lv_iload_n hx hb d_RS_share_31 rfl (lv_at hl 1 rfl) ?_
        refine lv_iload_n hx hb d_RS_share_32 rfl (lv_at hl 2 rfl) ?_
        refine lv_iload_n hx hb d_RS_share_33 rfl (lv_at hl 3 rfl) ?_
        refine mt_v (va_runV (As := [.int p1, .int p2, .int p3]) (rest := []) ⟨hx, hb, hml, hown, hts⟩ (ct_Sh_tell l dC dI aH aF aH_values aH_base aH_weights aH_parts aH_told cI cZ H_lastApart H_needed H_width H_count H_values H_told p1 p2 p3 _ h _) (tb_cV hts ok_Sh_tell tb_599 rfl rfl ⟨Nat.le_of_ble_eq_true rfl, Nat.le_of_ble_eq_true rfl⟩) (mt_preV hK hP hD [.int p1, .int p2, .int p3] [0, 1, 2] rfl (by decide) (ci := 2) (q0 := 0) rfl rfl) rfl rfl hl.1 rfl (lv_room (Nat.le_of_ble_eq_true rfl)) d_RS_share_34 ⟨Nat.zero_le _, Nat.zero_le _⟩) hP hD hS hA [0, 1, 2] rfl (fun _ => rfl) (fun u H locs h hP hD hS => ?_)
        obtain ⟨H_count_34, H_values_34, H_told_34⟩ := u
        have hP : va_P (dC, dI) vwCl (wd_RS_share aH aF aH_values aH_base aH_weights aH_parts aH_told aR aW aS aC aP cI cZ H_lastApart H_needed H_width H_count_34 H_values_34 H_told_34) H := hP
        have hD : va_D A (wd_RS_share aH aF aH_values aH_base aH_weights aH_parts aH_told aR aW aS aC aP cI cZ H_lastApart H_needed H_width H_count_34 H_values_34 H_told_34) := hD
        refine lv_aload_n hx hb d_RS_share_37 rfl (lv_at hl 0 rfl) ?_
        refine va_get (D := (dC, dI)) (ci := 6) (v := .ref aH) (C := "ReedSets") (T := T_RS) (N := 6) hx hb hts in_RS hown hK hP 3 rfl rfl 5 (by decide) (hts _ tb_280) (fun _ h9 => h9) rfl d_RS_share_38 ?_
        refine va_get (D := (dC, dI)) (ci := 2) (v := .int H_count_34) (C := "ReedSets$Sharing") (T := T_Sh) (N := 10) hx hb hts in_Sh hown hK hP 0 rfl rfl 9 (by decide) (hts _ tb_253) (fun _ h9 => h9) rfl d_RS_share_41 ?_
        exact RET H_count_34 H_count_34 H_values_34 H_told_34 H locs ls 44 d_RS_share_44 h hP hD hS
      · have h := h.2 g22
        exact B25  H_count H_values H_told H locs ls h hP hD hS (lv_sub hl [] rfl)
abbrev wd_RS_drop (aH aF aH_values aH_base aH_weights aH_parts aH_told aR aW aS aC aP : Nat) (cI cZ : ClassId) (H_lastApart : Int32) (H_needed : Int32) (H_width : Int32) (H_count : Int32) (H_told : Nat → Int32) : va_W := [(aH, .inr (2, [.ref aF, .ref aH_values, .ref aH_base, .ref aH_weights, .ref aH_parts, .int H_lastApart, .int H_needed, .int H_width, .ref aH_told, .int H_count])), (aH_told, .inl (cZ, 256, .inl H_told)), (aR, .inr (6, [.ref aF, .ref aW, .ref aS, .ref aC, .ref aP, .ref aH]))]
def wp_RS_drop_b19  (post : Int32 → Int32 → (Nat → Int32) → Prop)  (H_count : Int32) (H_told : Nat → Int32) : Prop := post (-1 : Int32) H_count H_told
def wp_RS_drop (H_count : Int32) (H_told : Nat → Int32) (p1 : Int32) (post : Int32 → Int32 → (Nat → Int32) → Prop) : Prop := wp_Fi_isByte p1 (fun r_1 => ((r_1 = 0 → (wp_RS_drop_b19 post  H_count H_told)) ∧ (¬ r_1 = 0 → (vp_in p1 256 ∧ ((¬ (H_told p1.toNatClampNeg) = 0 → (vp_in p1 256 ∧ (∀ y_41 : Int32, y_41 = (H_count - (1 : Int32)) → (post y_41 y_41 (upd H_told p1.toNatClampNeg (0 : Int32)))))) ∧ ((H_told p1.toNatClampNeg) = 0 → (wp_RS_drop_b19 post  H_count H_told)))))))
abbrev rm_RS_drop : Room := { frames := 1, cells := 0, slots := 0, locals := 20 }
set_option maxHeartbeats 4000000 in
set_option maxRecDepth 100000 in
theorem ct_RS_drop (l : Launch) (dC : Nat → ClassId) (dI : Nat → Nat → Nat) (aH aF aH_values aH_base aH_weights aH_parts aH_told aR aW aS aC aP : Nat) (cI cZ : ClassId) (H_lastApart : Int32) (H_needed : Int32) (H_width : Int32) (H_count : Int32) (H_told : Nat → Int32) (p1 : Int32) (post : Int32 → Int32 → (Nat → Int32) → Prop) (h : wp_RS_drop H_count H_told p1 post) (sz : Nat) : Met l y_RS_drop (Cond.code y_RS_drop c_RS_drop 2 (some .int) :: tb) rm_RS_drop (mt_P (dC, dI) vwCl [(cI, .int), (cZ, .boolean)] [.ref aR, .int p1] (wd_RS_drop aH aF aH_values aH_base aH_weights aH_parts aH_told aR aW aS aC aP cI cZ H_lastApart H_needed H_width H_count H_told) sz) (va_Qi (fun (r : Int32) (u : Int32 × (Nat → Int32)) => post r u.1 u.2) (mt_B (dC, dI) vwCl [(cI, .int), (cZ, .boolean)] (wd_RS_drop aH aF aH_values aH_base aH_weights aH_parts aH_told aR aW aS aC aP cI cZ H_lastApart H_needed H_width H_count H_told) sz (fun u : Int32 × (Nat → Int32) => wd_RS_drop aH aF aH_values aH_base aH_weights aH_parts aH_told aR aW aS aC aP cI cZ H_lastApart H_needed H_width u.1 u.2)) (va_A (wd_RS_drop aH aF aH_values aH_base aH_weights aH_parts aH_told aR aW aS aC aP cI cZ H_lastApart H_needed H_width H_count H_told) sz)) 0 0 (va_A (wd_RS_drop aH aF aH_values aH_base aH_weights aH_parts aH_told aR aW aS aC aP cI cZ H_lastApart H_needed H_width H_count H_told) sz) := by
  refine mt_bd (by decide +kernel) (Nat.le_of_ble_eq_true rfl) ?_
  intro p e s m args below meth c hx hb hml hown hts hr hlk hnm hsz hP hK hD hA hS ls hl
  subst hsz
  have hown : s.vm.findClass "ReedSets" = some m.cls := hown
  have hl : lv_has ls 2 [(0, .ref aR), (1, .int p1)] := hl
  refine lz_Q (fun Q hQ => ?_)
  obtain ⟨A, hAe⟩ : ∃ A : Nat → Prop, A = va_A (wd_RS_drop aH aF aH_values aH_base aH_weights aH_parts aH_told aR aW aS aC aP cI cZ H_lastApart H_needed H_width H_count H_told) s.heap.size := ⟨_, rfl⟩
  rw [← hAe] at hD hA hS
  have RET : ∀ (v : Int32) (H_count : Int32) (H_told : Nat → Int32) (H : Heap) (locs : List Loc) (ls : Array Slot) (pc : Nat), decode c_RS_drop pc = .ok (.ireturn, 1) → post v H_count H_told → va_P (dC, dI) vwCl (wd_RS_drop aH aF aH_values aH_base aH_weights aH_parts aH_told aR aW aS aC aP cI cZ H_lastApart H_needed H_width H_count H_told) H → va_D A (wd_RS_drop aH aF aH_values aH_base aH_weights aH_parts aH_told aR aW aS aC aP cI cZ H_lastApart H_needed H_width H_count H_told) → va_S A s.heap H locs → W p l e rm_RS_drop s m args below meth c H locs 0 0 Q (F0 m pc ls [.int v]) := by
    intro v H_count H_told H locs ls pc hd hp h1 h2 h3
    rw [hQ]
    rw [hAe] at h2 h3
    exact mt_reti (H_count, H_told) hx hb hr hlk hd hK h1 h2 h3 hp
  have B19 : ∀ (H_count : Int32) (H_told : Nat → Int32) (H : Heap) (locs : List Loc) (ls : Array Slot), wp_RS_drop_b19 post  H_count H_told → va_P (dC, dI) vwCl (wd_RS_drop aH aF aH_values aH_base aH_weights aH_parts aH_told aR aW aS aC aP cI cZ H_lastApart H_needed H_width H_count H_told) H → va_D A (wd_RS_drop aH aF aH_values aH_base aH_weights aH_parts aH_told aR aW aS aC aP cI cZ H_lastApart H_needed H_width H_count H_told) → va_S A s.heap H locs → lv_has ls 2 [] → W p l e rm_RS_drop s m args below meth c H locs 0 0 Q (F0 m 19 ls []) := by
    intro  H_count H_told H locs ls h hP hD hS hl
    refine lv_iconst (v := (-1 : Int32)) hx hb d_RS_drop_19 (by decide) ?_
    exact RET (-1 : Int32) H_count H_told H locs ls 20 d_RS_drop_20 h hP hD hS
  obtain ⟨H, hH⟩ : ∃ H : Heap, H = s.heap := ⟨_, rfl⟩
  obtain ⟨locs, hlo⟩ : ∃ x : List Loc, x = [] := ⟨_, rfl⟩
  have hS : va_S A s.heap H locs := by rw [hH, hlo]; exact hS
  rw [← hH] at hP
  rw [← hlo]
  show W p l e rm_RS_drop s m args below meth c s.heap locs 0 0 Q (F0 m 0 ls [])
  rw [← hH]
  refine lv_iload_n hx hb d_RS_drop_0 rfl (lv_at hl 1 rfl) ?_
  refine mt_i (va_runS (As := [.int p1]) (rest := []) ⟨hx, hb, hml, hown, hts⟩ (ct_Fi_isByte l dC dI  cI cZ p1 _ h _) (tb_cS hts ok_Fi_isByte tb_298 rfl rfl ⟨Nat.le_of_ble_eq_true rfl, Nat.le_of_ble_eq_true rfl⟩) (mt_preS hK hP hD [.int p1] [] rfl (by decide)) rfl rfl hl.1 rfl (lv_room (Nat.le_of_ble_eq_true rfl)) d_RS_drop_1 ⟨Nat.zero_le _, Nat.zero_le _⟩) hP hD hS hA [] rfl (fun _ => rfl) (fun r_1 u H locs h hP hD hS => ?_)
  have hP : va_P (dC, dI) vwCl (wd_RS_drop aH aF aH_values aH_base aH_weights aH_parts aH_told aR aW aS aC aP cI cZ H_lastApart H_needed H_width H_count H_told) H := hP
  have hD : va_D A (wd_RS_drop aH aF aH_values aH_base aH_weights aH_parts aH_told aR aW aS aC aP cI cZ H_lastApart H_needed H_width H_count H_told) := hD
  refine lv_if_eq (tgt := 19) hx hb d_RS_drop_4 (by decide) (fun g4 => ?_) (fun g4 => ?_)
  · have h := h.1 g4
    exact B19  H_count H_told H locs ls h hP hD hS (lv_sub hl [] rfl)
  · have h := h.2 g4
    refine lv_aload_n hx hb d_RS_drop_7 rfl (lv_at hl 0 rfl) ?_
    refine va_get (D := (dC, dI)) (ci := 6) (v := .ref aH) (C := "ReedSets") (T := T_RS) (N := 6) hx hb hts in_RS hown hK hP 2 rfl rfl 5 (by decide) (hts _ tb_280) (fun _ h9 => h9) rfl d_RS_drop_8 ?_
    refine va_get (D := (dC, dI)) (ci := 2) (v := .ref aH_told) (C := "ReedSets$Sharing") (T := T_Sh) (N := 10) hx hb hts in_Sh hown hK hP 0 rfl rfl 8 (by decide) (hts _ tb_251) (fun _ h9 => h9) rfl d_RS_drop_11 ?_
    refine lv_iload_n hx hb d_RS_drop_14 rfl (lv_at hl 1 rfl) ?_
    obtain ⟨hi, h⟩ := h
    refine va_zald hx hb hK hP 1 1 rfl rfl hi d_RS_drop_15 ?_
    refine lv_if_ne (tgt := 21) hx hb d_RS_drop_16 (by decide) (fun g16 => ?_) (fun g16 => ?_)
    · have h := h.1 g16
      refine lv_aload_n hx hb d_RS_drop_21 rfl (lv_at hl 0 rfl) ?_
      refine va_get (D := (dC, dI)) (ci := 6) (v := .ref aH) (C := "ReedSets") (T := T_RS) (N := 6) hx hb hts in_RS hown hK hP 2 rfl rfl 5 (by decide) (hts _ tb_280) (fun _ h9 => h9) rfl d_RS_drop_22 ?_
      refine va_get (D := (dC, dI)) (ci := 2) (v := .ref aH_told) (C := "ReedSets$Sharing") (T := T_Sh) (N := 10) hx hb hts in_Sh hown hK hP 0 rfl rfl 8 (by decide) (hts _ tb_251) (fun _ h9 => h9) rfl d_RS_drop_25 ?_
      refine lv_iload_n hx hb d_RS_drop_28 rfl (lv_at hl 1 rfl) ?_
      refine lv_iconst (v := (0 : Int32)) hx hb d_RS_drop_29 (by decide) ?_
      obtain ⟨hi, h⟩ := h
      refine va_zast hx hb hK hP hD hS 1 1 rfl rfl hi d_RS_drop_30 (fun H locs hP hD hS => ?_)
      have hP : va_P (dC, dI) vwCl (wd_RS_drop aH aF aH_values aH_base aH_weights aH_parts aH_told aR aW aS aC aP cI cZ H_lastApart H_needed H_width H_count (upd H_told p1.toNatClampNeg (0 : Int32))) H := hP
      have hD : va_D A (wd_RS_drop aH aF aH_values aH_base aH_weights aH_parts aH_told aR aW aS aC aP cI cZ H_lastApart H_needed H_width H_count (upd H_told p1.toNatClampNeg (0 : Int32))) := hD
      refine lv_aload_n hx hb d_RS_drop_31 rfl (lv_at hl 0 rfl) ?_
      refine va_get (D := (dC, dI)) (ci := 6) (v := .ref aH) (C := "ReedSets") (T := T_RS) (N := 6) hx hb hts in_RS hown hK hP 2 rfl rfl 5 (by decide) (hts _ tb_280) (fun _ h9 => h9) rfl d_RS_drop_32 ?_
      refine lv_dup hx hb d_RS_drop_35 rfl ?_
      refine va_get (D := (dC, dI)) (ci := 2) (v := .int H_count) (C := "ReedSets$Sharing") (T := T_Sh) (N := 10) hx hb hts in_Sh hown hK hP 0 rfl rfl 9 (by decide) (hts _ tb_253) (fun _ h9 => h9) rfl d_RS_drop_36 ?_
      refine lv_iconst (v := (1 : Int32)) hx hb d_RS_drop_39 (by decide) ?_
      refine lv_isub hx hb d_RS_drop_40 ?_
      refine lv_topi (fun y_41 ey_41 => ?_)
      have h := h y_41 ey_41
      refine va_put (D := (dC, dI)) (ci := 2) (v := .int y_41) (ty := .int) (C := "ReedSets$Sharing") (T := T_Sh) (N := 10) hx hb hts in_Sh ty_Sh tk_Sh nm_Sh hown hK hP hD hS 0 rfl rfl 9 (by decide) (hts _ tb_253) (fun _ h9 => h9) rfl (by decide +kernel) rfl rfl (Nat.le_of_ble_eq_true rfl) d_RS_drop_41 (fun H locs hP hD hS => ?_)
      have hP : va_P (dC, dI) vwCl (wd_RS_drop aH aF aH_values aH_base aH_weights aH_parts aH_told aR aW aS aC aP cI cZ H_lastApart H_needed H_width y_41 (upd H_told p1.toNatClampNeg (0 : Int32))) H := hP
      have hD : va_D A (wd_RS_drop aH aF aH_values aH_base aH_weights aH_parts aH_told aR aW aS aC aP cI cZ H_lastApart H_needed H_width y_41 (upd H_told p1.toNatClampNeg (0 : Int32))) := hD
      refine lv_aload_n hx hb d_RS_drop_44 rfl (lv_at hl 0 rfl) ?_
      refine va_get (D := (dC, dI)) (ci := 6) (v := .ref aH) (C := "ReedSets") (T := T_RS) (N := 6) hx hb hts in_RS hown hK hP 2 rfl rfl 5 (by decide) (hts _ tb_280) (fun _ h9 => h9) rfl d_RS_drop_45 ?_
      refine va_get (D := (dC, dI)) (ci := 2) (v := .int y_41) (C := "ReedSets$Sharing") (T := T_Sh) (N := 10) hx hb hts in_Sh hown hK hP 0 rfl rfl 9 (by decide) (hts _ tb_253) (fun _ h9 => h9) rfl d_RS_drop_48 ?_
      exact RET y_41 y_41 (upd H_told p1.toNatClampNeg (0 : Int32)) H locs ls 51 d_RS_drop_51 h hP hD hS
    · have h := h.2 g16
      exact B19  H_count H_told H locs ls h hP hD hS (lv_sub hl [] rfl)
abbrev wd_RS_made (aF aF_powers aF_logs aH aH_values aH_base aH_weights aH_parts aH_told aR aW aS aC aP : Nat) (cI cZ : ClassId) (F_powers : Nat → Int32) (F_logs : Nat → Int32) (H_lastApart : Int32) (H_needed : Int32) (H_width : Int32) (H_count : Int32) (H_values : Nat → Int32) (H_base : Nat → Int32) (H_weights : Nat → Int32) (H_parts : Nat → Int32) (H_told : Nat → Int32) : va_W := [(aF, .inr (1, [.ref aF_powers, .ref aF_logs])), (aF_powers, .inl (cI, 512, .inl F_powers)), (aF_logs, .inl (cI, 256, .inl F_logs)), (aH, .inr (2, [.ref aF, .ref aH_values, .ref aH_base, .ref aH_weights, .ref aH_parts, .int H_lastApart, .int H_needed, .int H_width, .ref aH_told, .int H_count])), (aH_values, .inl (cI, 4096, .inl H_values)), (aH_base, .inl (cI, 20, .inl H_base)), (aH_weights, .inl (cI, 20, .inl H_weights)), (aH_parts, .inl (cI, 20, .inl H_parts)), (aH_told, .inl (cZ, 256, .inl H_told)), (aR, .inr (6, [.ref aF, .ref aW, .ref aS, .ref aC, .ref aP, .ref aH]))]
def wp_RS_made_b29 (F_powers : Nat → Int32) (F_logs : Nat → Int32) (H_needed : Int32) (H_width : Int32) (H_values : Nat → Int32) (H_told : Nat → Int32) (post : Int32 → (Nat → Int32) → (Nat → Int32) → (Nat → Int32) → Prop)  (H_base : Nat → Int32) (H_weights : Nat → Int32) (H_parts : Nat → Int32) : Prop := post (-1 : Int32) H_base H_weights H_parts
def wp_RS_made (F_powers : Nat → Int32) (F_logs : Nat → Int32) (H_needed : Int32) (H_width : Int32) (H_values : Nat → Int32) (H_base : Nat → Int32) (H_weights : Nat → Int32) (H_parts : Nat → Int32) (H_told : Nat → Int32) (p1 : Int32) (p2 : Int32) (post : Int32 → (Nat → Int32) → (Nat → Int32) → (Nat → Int32) → Prop) : Prop := wp_Fi_isByte p1 (fun r_1 => ((r_1 = 0 → (wp_RS_made_b29 F_powers F_logs H_needed H_width H_values H_told post  H_base H_weights H_parts)) ∧ (¬ r_1 = 0 → (wp_Sh_hasPlace H_width p2 (fun r_12 => ((r_12 = 0 → (wp_RS_made_b29 F_powers F_logs H_needed H_width H_values H_told post  H_base H_weights H_parts)) ∧ (¬ r_12 = 0 → (wp_Sh_chooseBase F_powers F_logs H_needed H_base H_weights H_told (-1 : Int32) (fun r_23 H_base_23 H_weights_23 => ((¬ r_23 = 0 → (wp_Sh_aimAt F_powers F_logs H_needed H_base_23 H_weights_23 H_parts p1 (fun H_parts_36 => (wp_Sh_valueOf F_powers F_logs H_needed H_values H_base_23 H_parts_36 p2 (fun r_44 => (post r_44 H_base_23 H_weights_23 H_parts_36)))))) ∧ (r_23 = 0 → (wp_RS_made_b29 F_powers F_logs H_needed H_width H_values H_told post  H_base_23 H_weights_23 H_parts))))))))))))
abbrev rm_RS_made : Room := { frames := 3, cells := 0, slots := 0, locals := 68 }
set_option maxHeartbeats 4000000 in
set_option maxRecDepth 100000 in
theorem ct_RS_made (l : Launch) (dC : Nat → ClassId) (dI : Nat → Nat → Nat) (aF aF_powers aF_logs aH aH_values aH_base aH_weights aH_parts aH_told aR aW aS aC aP : Nat) (cI cZ : ClassId) (F_powers : Nat → Int32) (F_logs : Nat → Int32) (H_lastApart : Int32) (H_needed : Int32) (H_width : Int32) (H_count : Int32) (H_values : Nat → Int32) (H_base : Nat → Int32) (H_weights : Nat → Int32) (H_parts : Nat → Int32) (H_told : Nat → Int32) (p1 : Int32) (p2 : Int32) (post : Int32 → (Nat → Int32) → (Nat → Int32) → (Nat → Int32) → Prop) (h : wp_RS_made F_powers F_logs H_needed H_width H_values H_base H_weights H_parts H_told p1 p2 post) (sz : Nat) : Met l y_RS_made (Cond.code y_RS_made c_RS_made 3 (some .int) :: tb) rm_RS_made (mt_P (dC, dI) vwCl [(cI, .int), (cZ, .boolean)] [.ref aR, .int p1, .int p2] (wd_RS_made aF aF_powers aF_logs aH aH_values aH_base aH_weights aH_parts aH_told aR aW aS aC aP cI cZ F_powers F_logs H_lastApart H_needed H_width H_count H_values H_base H_weights H_parts H_told) sz) (va_Qi (fun (r : Int32) (u : (Nat → Int32) × (Nat → Int32) × (Nat → Int32)) => post r u.1 u.2.1 u.2.2) (mt_B (dC, dI) vwCl [(cI, .int), (cZ, .boolean)] (wd_RS_made aF aF_powers aF_logs aH aH_values aH_base aH_weights aH_parts aH_told aR aW aS aC aP cI cZ F_powers F_logs H_lastApart H_needed H_width H_count H_values H_base H_weights H_parts H_told) sz (fun u : (Nat → Int32) × (Nat → Int32) × (Nat → Int32) => wd_RS_made aF aF_powers aF_logs aH aH_values aH_base aH_weights aH_parts aH_told aR aW aS aC aP cI cZ F_powers F_logs H_lastApart H_needed H_width H_count H_values u.1 u.2.1 u.2.2 H_told)) (va_A (wd_RS_made aF aF_powers aF_logs aH aH_values aH_base aH_weights aH_parts aH_told aR aW aS aC aP cI cZ F_powers F_logs H_lastApart H_needed H_width H_count H_values H_base H_weights H_parts H_told) sz)) 0 0 (va_A (wd_RS_made aF aF_powers aF_logs aH aH_values aH_base aH_weights aH_parts aH_told aR aW aS aC aP cI cZ F_powers F_logs H_lastApart H_needed H_width H_count H_values H_base H_weights H_parts H_told) sz) := by
  refine mt_bd (by decide +kernel) (Nat.le_of_ble_eq_true rfl) ?_
  intro p e s m args below meth c hx hb hml hown hts hr hlk hnm hsz hP hK hD hA hS ls hl
  subst hsz
  have hown : s.vm.findClass "ReedSets" = some m.cls := hown
  have hl : lv_has ls 3 [(0, .ref aR), (1, .int p1), (2, .int p2)] := hl
  refine lz_Q (fun Q hQ => ?_)
  obtain ⟨A, hAe⟩ : ∃ A : Nat → Prop, A = va_A (wd_RS_made aF aF_powers aF_logs aH aH_values aH_base aH_weights aH_parts aH_told aR aW aS aC aP cI cZ F_powers F_logs H_lastApart H_needed H_width H_count H_values H_base H_weights H_parts H_told) s.heap.size := ⟨_, rfl⟩
  rw [← hAe] at hD hA hS
  have RET : ∀ (v : Int32) (H_base : Nat → Int32) (H_weights : Nat → Int32) (H_parts : Nat → Int32) (H : Heap) (locs : List Loc) (ls : Array Slot) (pc : Nat), decode c_RS_made pc = .ok (.ireturn, 1) → post v H_base H_weights H_parts → va_P (dC, dI) vwCl (wd_RS_made aF aF_powers aF_logs aH aH_values aH_base aH_weights aH_parts aH_told aR aW aS aC aP cI cZ F_powers F_logs H_lastApart H_needed H_width H_count H_values H_base H_weights H_parts H_told) H → va_D A (wd_RS_made aF aF_powers aF_logs aH aH_values aH_base aH_weights aH_parts aH_told aR aW aS aC aP cI cZ F_powers F_logs H_lastApart H_needed H_width H_count H_values H_base H_weights H_parts H_told) → va_S A s.heap H locs → W p l e rm_RS_made s m args below meth c H locs 0 0 Q (F0 m pc ls [.int v]) := by
    intro v H_base H_weights H_parts H locs ls pc hd hp h1 h2 h3
    rw [hQ]
    rw [hAe] at h2 h3
    exact mt_reti (H_base, H_weights, H_parts) hx hb hr hlk hd hK h1 h2 h3 hp
  have B29 : ∀ (H_base : Nat → Int32) (H_weights : Nat → Int32) (H_parts : Nat → Int32) (H : Heap) (locs : List Loc) (ls : Array Slot), wp_RS_made_b29 F_powers F_logs H_needed H_width H_values H_told post  H_base H_weights H_parts → va_P (dC, dI) vwCl (wd_RS_made aF aF_powers aF_logs aH aH_values aH_base aH_weights aH_parts aH_told aR aW aS aC aP cI cZ F_powers F_logs H_lastApart H_needed H_width H_count H_values H_base H_weights H_parts H_told) H → va_D A (wd_RS_made aF aF_powers aF_logs aH aH_values aH_base aH_weights aH_parts aH_told aR aW aS aC aP cI cZ F_powers F_logs H_lastApart H_needed H_width H_count H_values H_base H_weights H_parts H_told) → va_S A s.heap H locs → lv_has ls 3 [] → W p l e rm_RS_made s m args below meth c H locs 0 0 Q (F0 m 29 ls []) := by
    intro  H_base H_weights H_parts H locs ls h hP hD hS hl
    refine lv_iconst (v := (-1 : Int32)) hx hb d_RS_made_29 (by decide) ?_
    exact RET (-1 : Int32) H_base H_weights H_parts H locs ls 30 d_RS_made_30 h hP hD hS
  obtain ⟨H, hH⟩ : ∃ H : Heap, H = s.heap := ⟨_, rfl⟩
  obtain ⟨locs, hlo⟩ : ∃ x : List Loc, x = [] := ⟨_, rfl⟩
  have hS : va_S A s.heap H locs := by rw [hH, hlo]; exact hS
  rw [← hH] at hP
  rw [← hlo]
  show W p l e rm_RS_made s m args below meth c s.heap locs 0 0 Q (F0 m 0 ls [])
  rw [← hH]
  refine lv_iload_n hx hb d_RS_made_0 rfl (lv_at hl 1 rfl) ?_
  refine mt_i (va_runS (As := [.int p1]) (rest := []) ⟨hx, hb, hml, hown, hts⟩ (ct_Fi_isByte l dC dI  cI cZ p1 _ h _) (tb_cS hts ok_Fi_isByte tb_298 rfl rfl ⟨Nat.le_of_ble_eq_true rfl, Nat.le_of_ble_eq_true rfl⟩) (mt_preS hK hP hD [.int p1] [] rfl (by decide)) rfl rfl hl.1 rfl (lv_room (Nat.le_of_ble_eq_true rfl)) d_RS_made_1 ⟨Nat.zero_le _, Nat.zero_le _⟩) hP hD hS hA [] rfl (fun _ => rfl) (fun r_1 u H locs h hP hD hS => ?_)
  have hP : va_P (dC, dI) vwCl (wd_RS_made aF aF_powers aF_logs aH aH_values aH_base aH_weights aH_parts aH_told aR aW aS aC aP cI cZ F_powers F_logs H_lastApart H_needed H_width H_count H_values H_base H_weights H_parts H_told) H := hP
  have hD : va_D A (wd_RS_made aF aF_powers aF_logs aH aH_values aH_base aH_weights aH_parts aH_told aR aW aS aC aP cI cZ F_powers F_logs H_lastApart H_needed H_width H_count H_values H_base H_weights H_parts H_told) := hD
  refine lv_if_eq (tgt := 29) hx hb d_RS_made_4 (by decide) (fun g4 => ?_) (fun g4 => ?_)
  · have h := h.1 g4
    exact B29  H_base H_weights H_parts H locs ls h hP hD hS (lv_sub hl [] rfl)
  · have h := h.2 g4
    refine lv_aload_n hx hb d_RS_made_7 rfl (lv_at hl 0 rfl) ?_
    refine va_get (D := (dC, dI)) (ci := 6) (v := .ref aH) (C := "ReedSets") (T := T_RS) (N := 6) hx hb hts in_RS hown hK hP 9 rfl rfl 5 (by decide) (hts _ tb_280) (fun _ h9 => h9) rfl d_RS_made_8 ?_
    refine lv_iload_n hx hb d_RS_made_11 rfl (lv_at hl 2 rfl) ?_
    refine mt_i (va_runV (As := [.int p2]) (rest := []) ⟨hx, hb, hml, hown, hts⟩ (ct_Sh_hasPlace l dC dI aH aF aH_values aH_base aH_weights aH_parts aH_told cI cZ H_lastApart H_needed H_width H_count p2 _ h _) (tb_cV hts ok_Sh_hasPlace tb_595 rfl rfl ⟨Nat.le_of_ble_eq_true rfl, Nat.le_of_ble_eq_true rfl⟩) (mt_preV hK hP hD [.int p2] [3] rfl (by decide) (ci := 2) (q0 := 3) rfl rfl) rfl rfl hl.1 rfl (lv_room (Nat.le_of_ble_eq_true rfl)) d_RS_made_12 ⟨Nat.zero_le _, Nat.zero_le _⟩) hP hD hS hA [3] rfl (fun _ => rfl) (fun r_12 u H locs h hP hD hS => ?_)
    have hP : va_P (dC, dI) vwCl (wd_RS_made aF aF_powers aF_logs aH aH_values aH_base aH_weights aH_parts aH_told aR aW aS aC aP cI cZ F_powers F_logs H_lastApart H_needed H_width H_count H_values H_base H_weights H_parts H_told) H := hP
    have hD : va_D A (wd_RS_made aF aF_powers aF_logs aH aH_values aH_base aH_weights aH_parts aH_told aR aW aS aC aP cI cZ F_powers F_logs H_lastApart H_needed H_width H_count H_values H_base H_weights H_parts H_told) := hD
    refine lv_if_eq (tgt := 29) hx hb d_RS_made_15 (by decide) (fun g15 => ?_) (fun g15 => ?_)
    · have h := h.1 g15
      exact B29  H_base H_weights H_parts H locs ls h hP hD hS (lv_sub hl [] rfl)
    · have h := h.2 g15
      refine lv_aload_n hx hb d_RS_made_18 rfl (lv_at hl 0 rfl) ?_
      refine va_get (D := (dC, dI)) (ci := 6) (v := .ref aH) (C := "ReedSets") (T := T_RS) (N := 6) hx hb hts in_RS hown hK hP 9 rfl rfl 5 (by decide) (hts _ tb_280) (fun _ h9 => h9) rfl d_RS_made_19 ?_
      refine lv_iconst (v := (-1 : Int32)) hx hb d_RS_made_22 (by decide) ?_
      refine mt_i (va_runV (As := [.int (-1 : Int32)]) (rest := []) ⟨hx, hb, hml, hown, hts⟩ (ct_Sh_chooseBase l dC dI aF aF_powers aF_logs aH aH_values aH_base aH_weights aH_parts aH_told cI cZ F_powers F_logs H_lastApart H_needed H_width H_count H_base H_weights H_told (-1 : Int32) _ h _) (tb_cV hts ok_Sh_chooseBase tb_612 rfl rfl ⟨Nat.le_of_ble_eq_true rfl, Nat.le_of_ble_eq_true rfl⟩) (mt_preV hK hP hD [.int (-1 : Int32)] [0, 1, 2, 3, 5, 6, 8] rfl (by decide) (ci := 2) (q0 := 3) rfl rfl) rfl rfl hl.1 rfl (lv_room (Nat.le_of_ble_eq_true rfl)) d_RS_made_23 ⟨Nat.zero_le _, Nat.zero_le _⟩) hP hD hS hA [0, 1, 2, 3, 5, 6, 8] rfl (fun _ => rfl) (fun r_23 u H locs h hP hD hS => ?_)
      obtain ⟨H_base_23, H_weights_23⟩ := u
      have hP : va_P (dC, dI) vwCl (wd_RS_made aF aF_powers aF_logs aH aH_values aH_base aH_weights aH_parts aH_told aR aW aS aC aP cI cZ F_powers F_logs H_lastApart H_needed H_width H_count H_values H_base_23 H_weights_23 H_parts H_told) H := hP
      have hD : va_D A (wd_RS_made aF aF_powers aF_logs aH aH_values aH_base aH_weights aH_parts aH_told aR aW aS aC aP cI cZ F_powers F_logs H_lastApart H_needed H_width H_count H_values H_base_23 H_weights_23 H_parts H_told) := hD
      refine lv_if_ne (tgt := 31) hx hb d_RS_made_26 (by decide) (fun g26 => ?_) (fun g26 => ?_)
      · have h := h.1 g26
        refine lv_aload_n hx hb d_RS_made_31 rfl (lv_at hl 0 rfl) ?_
        refine va_get (D := (dC, dI)) (ci := 6) (v := .ref aH) (C := "ReedSets") (T := T_RS) (N := 6) hx hb hts in_RS hown hK hP 9 rfl rfl 5 (by decide) (hts _ tb_280) (fun _ h9 => h9) rfl d_RS_made_32 ?_
        refine lv_iload_n hx hb d_RS_made_35 rfl (lv_at hl 1 rfl) ?_
        refine mt_v (va_runV (As := [.int p1]) (rest := []) ⟨hx, hb, hml, hown, hts⟩ (ct_Sh_aimAt l dC dI aF aF_powers aF_logs aH aH_values aH_base aH_weights aH_parts aH_told cI cZ F_powers F_logs H_lastApart H_needed H_width H_count H_base_23 H_weights_23 H_parts p1 _ h _) (tb_cV hts ok_Sh_aimAt tb_622 rfl rfl ⟨Nat.le_of_ble_eq_true rfl, Nat.le_of_ble_eq_true rfl⟩) (mt_preV hK hP hD [.int p1] [0, 1, 2, 3, 5, 6, 7] rfl (by decide) (ci := 2) (q0 := 3) rfl rfl) rfl rfl hl.1 rfl (lv_room (Nat.le_of_ble_eq_true rfl)) d_RS_made_36 ⟨Nat.zero_le _, Nat.zero_le _⟩) hP hD hS hA [0, 1, 2, 3, 5, 6, 7] rfl (fun _ => rfl) (fun u H locs h hP hD hS => ?_)
        obtain ⟨H_parts_36, rfl⟩ : ∃ z, z = u := ⟨_, rfl⟩
        have hP : va_P (dC, dI) vwCl (wd_RS_made aF aF_powers aF_logs aH aH_values aH_base aH_weights aH_parts aH_told aR aW aS aC aP cI cZ F_powers F_logs H_lastApart H_needed H_width H_count H_values H_base_23 H_weights_23 H_parts_36 H_told) H := hP
        have hD : va_D A (wd_RS_made aF aF_powers aF_logs aH aH_values aH_base aH_weights aH_parts aH_told aR aW aS aC aP cI cZ F_powers F_logs H_lastApart H_needed H_width H_count H_values H_base_23 H_weights_23 H_parts_36 H_told) := hD
        refine lv_aload_n hx hb d_RS_made_39 rfl (lv_at hl 0 rfl) ?_
        refine va_get (D := (dC, dI)) (ci := 6) (v := .ref aH) (C := "ReedSets") (T := T_RS) (N := 6) hx hb hts in_RS hown hK hP 9 rfl rfl 5 (by decide) (hts _ tb_280) (fun _ h9 => h9) rfl d_RS_made_40 ?_
        refine lv_iload_n hx hb d_RS_made_43 rfl (lv_at hl 2 rfl) ?_
        refine mt_i (va_runV (As := [.int p2]) (rest := []) ⟨hx, hb, hml, hown, hts⟩ (ct_Sh_valueOf l dC dI aF aF_powers aF_logs aH aH_values aH_base aH_weights aH_parts aH_told cI cZ F_powers F_logs H_lastApart H_needed H_width H_count H_values H_base_23 H_parts_36 p2 _ h _) (tb_cV hts ok_Sh_valueOf tb_626 rfl rfl ⟨Nat.le_of_ble_eq_true rfl, Nat.le_of_ble_eq_true rfl⟩) (mt_preV hK hP hD [.int p2] [0, 1, 2, 3, 4, 5, 7] rfl (by decide) (ci := 2) (q0 := 3) rfl rfl) rfl rfl hl.1 rfl (lv_room (Nat.le_of_ble_eq_true rfl)) d_RS_made_44 ⟨Nat.zero_le _, Nat.zero_le _⟩) hP hD hS hA [0, 1, 2, 3, 4, 5, 7] rfl (fun _ => rfl) (fun r_44 u H locs h hP hD hS => ?_)
        have hP : va_P (dC, dI) vwCl (wd_RS_made aF aF_powers aF_logs aH aH_values aH_base aH_weights aH_parts aH_told aR aW aS aC aP cI cZ F_powers F_logs H_lastApart H_needed H_width H_count H_values H_base_23 H_weights_23 H_parts_36 H_told) H := hP
        have hD : va_D A (wd_RS_made aF aF_powers aF_logs aH aH_values aH_base aH_weights aH_parts aH_told aR aW aS aC aP cI cZ F_powers F_logs H_lastApart H_needed H_width H_count H_values H_base_23 H_weights_23 H_parts_36 H_told) := hD
        exact RET r_44 H_base_23 H_weights_23 H_parts_36 H locs ls 47 d_RS_made_47 h hP hD hS
      · have h := h.2 g26
        exact B29  H_base_23 H_weights_23 H_parts H locs ls h hP hD hS (lv_sub hl [] rfl)
abbrev wd_RS_apart (aF aF_powers aF_logs aH aH_values aH_base aH_weights aH_parts aH_told aR aW aS aC aP : Nat) (cI cZ : ClassId) (F_powers : Nat → Int32) (F_logs : Nat → Int32) (H_lastApart : Int32) (H_needed : Int32) (H_width : Int32) (H_count : Int32) (H_values : Nat → Int32) (H_base : Nat → Int32) (H_weights : Nat → Int32) (H_parts : Nat → Int32) (H_told : Nat → Int32) : va_W := [(aF, .inr (1, [.ref aF_powers, .ref aF_logs])), (aF_powers, .inl (cI, 512, .inl F_powers)), (aF_logs, .inl (cI, 256, .inl F_logs)), (aH, .inr (2, [.ref aF, .ref aH_values, .ref aH_base, .ref aH_weights, .ref aH_parts, .int H_lastApart, .int H_needed, .int H_width, .ref aH_told, .int H_count])), (aH_values, .inl (cI, 4096, .inl H_values)), (aH_base, .inl (cI, 20, .inl H_base)), (aH_weights, .inl (cI, 20, .inl H_weights)), (aH_parts, .inl (cI, 20, .inl H_parts)), (aH_told, .inl (cZ, 256, .inl H_told)), (aR, .inr (6, [.ref aF, .ref aW, .ref aS, .ref aC, .ref aP, .ref aH]))]
def wp_RS_apart_b22 (F_powers : Nat → Int32) (F_logs : Nat → Int32) (H_needed : Int32) (H_width : Int32) (H_values : Nat → Int32) (H_told : Nat → Int32) (post : Int32 → Int32 → (Nat → Int32) → (Nat → Int32) → (Nat → Int32) → Prop)  (H_lastApart : Int32) (H_base : Nat → Int32) (H_weights : Nat → Int32) (H_parts : Nat → Int32) (t0 : Int32) : Prop := post t0 H_lastApart H_base H_weights H_parts
def wp_RS_apart (F_powers : Nat → Int32) (F_logs : Nat → Int32) (H_lastApart : Int32) (H_needed : Int32) (H_width : Int32) (H_values : Nat → Int32) (H_base : Nat → Int32) (H_weights : Nat → Int32) (H_parts : Nat → Int32) (H_told : Nat → Int32) (post : Int32 → Int32 → (Nat → Int32) → (Nat → Int32) → (Nat → Int32) → Prop) : Prop := wp_Sh_chooseBase F_powers F_logs H_needed H_base H_weights H_told (-1 : Int32) (fun r_5 H_base_5 H_weights_5 => ((r_5 = 0 → (wp_RS_apart_b22 F_powers F_logs H_needed H_width H_values H_told post  H_lastApart H_base_5 H_weights_5 H_parts (-1 : Int32))) ∧ (¬ r_5 = 0 → (wp_Sh_countApart F_powers F_logs H_lastApart H_needed H_width H_values H_base_5 H_weights_5 H_parts H_told (fun r_15 H_lastApart_15 H_parts_15 => (wp_RS_apart_b22 F_powers F_logs H_needed H_width H_values H_told post  H_lastApart_15 H_base_5 H_weights_5 H_parts_15 r_15))))))
abbrev rm_RS_apart : Room := { frames := 4, cells := 0, slots := 0, locals := 89 }
set_option maxHeartbeats 4000000 in
set_option maxRecDepth 100000 in
theorem ct_RS_apart (l : Launch) (dC : Nat → ClassId) (dI : Nat → Nat → Nat) (aF aF_powers aF_logs aH aH_values aH_base aH_weights aH_parts aH_told aR aW aS aC aP : Nat) (cI cZ : ClassId) (F_powers : Nat → Int32) (F_logs : Nat → Int32) (H_lastApart : Int32) (H_needed : Int32) (H_width : Int32) (H_count : Int32) (H_values : Nat → Int32) (H_base : Nat → Int32) (H_weights : Nat → Int32) (H_parts : Nat → Int32) (H_told : Nat → Int32)  (post : Int32 → Int32 → (Nat → Int32) → (Nat → Int32) → (Nat → Int32) → Prop) (h : wp_RS_apart F_powers F_logs H_lastApart H_needed H_width H_values H_base H_weights H_parts H_told post) (sz : Nat) : Met l y_RS_apart (Cond.code y_RS_apart c_RS_apart 1 (some .int) :: tb) rm_RS_apart (mt_P (dC, dI) vwCl [(cI, .int), (cZ, .boolean)] [.ref aR] (wd_RS_apart aF aF_powers aF_logs aH aH_values aH_base aH_weights aH_parts aH_told aR aW aS aC aP cI cZ F_powers F_logs H_lastApart H_needed H_width H_count H_values H_base H_weights H_parts H_told) sz) (va_Qi (fun (r : Int32) (u : Int32 × (Nat → Int32) × (Nat → Int32) × (Nat → Int32)) => post r u.1 u.2.1 u.2.2.1 u.2.2.2) (mt_B (dC, dI) vwCl [(cI, .int), (cZ, .boolean)] (wd_RS_apart aF aF_powers aF_logs aH aH_values aH_base aH_weights aH_parts aH_told aR aW aS aC aP cI cZ F_powers F_logs H_lastApart H_needed H_width H_count H_values H_base H_weights H_parts H_told) sz (fun u : Int32 × (Nat → Int32) × (Nat → Int32) × (Nat → Int32) => wd_RS_apart aF aF_powers aF_logs aH aH_values aH_base aH_weights aH_parts aH_told aR aW aS aC aP cI cZ F_powers F_logs u.1 H_needed H_width H_count H_values u.2.1 u.2.2.1 u.2.2.2 H_told)) (va_A (wd_RS_apart aF aF_powers aF_logs aH aH_values aH_base aH_weights aH_parts aH_told aR aW aS aC aP cI cZ F_powers F_logs H_lastApart H_needed H_width H_count H_values H_base H_weights H_parts H_told) sz)) 0 0 (va_A (wd_RS_apart aF aF_powers aF_logs aH aH_values aH_base aH_weights aH_parts aH_told aR aW aS aC aP cI cZ F_powers F_logs H_lastApart H_needed H_width H_count H_values H_base H_weights H_parts H_told) sz) := by
  refine mt_bd (by decide +kernel) (Nat.le_of_ble_eq_true rfl) ?_
  intro p e s m args below meth c hx hb hml hown hts hr hlk hnm hsz hP hK hD hA hS ls hl
  subst hsz
  have hown : s.vm.findClass "ReedSets" = some m.cls := hown
  have hl : lv_has ls 1 [(0, .ref aR)] := hl
  refine lz_Q (fun Q hQ => ?_)
  obtain ⟨A, hAe⟩ : ∃ A : Nat → Prop, A = va_A (wd_RS_apart aF aF_powers aF_logs aH aH_values aH_base aH_weights aH_parts aH_told aR aW aS aC aP cI cZ F_powers F_logs H_lastApart H_needed H_width H_count H_values H_base H_weights H_parts H_told) s.heap.size := ⟨_, rfl⟩
  rw [← hAe] at hD hA hS
  have RET : ∀ (v : Int32) (H_lastApart : Int32) (H_base : Nat → Int32) (H_weights : Nat → Int32) (H_parts : Nat → Int32) (H : Heap) (locs : List Loc) (ls : Array Slot) (pc : Nat), decode c_RS_apart pc = .ok (.ireturn, 1) → post v H_lastApart H_base H_weights H_parts → va_P (dC, dI) vwCl (wd_RS_apart aF aF_powers aF_logs aH aH_values aH_base aH_weights aH_parts aH_told aR aW aS aC aP cI cZ F_powers F_logs H_lastApart H_needed H_width H_count H_values H_base H_weights H_parts H_told) H → va_D A (wd_RS_apart aF aF_powers aF_logs aH aH_values aH_base aH_weights aH_parts aH_told aR aW aS aC aP cI cZ F_powers F_logs H_lastApart H_needed H_width H_count H_values H_base H_weights H_parts H_told) → va_S A s.heap H locs → W p l e rm_RS_apart s m args below meth c H locs 0 0 Q (F0 m pc ls [.int v]) := by
    intro v H_lastApart H_base H_weights H_parts H locs ls pc hd hp h1 h2 h3
    rw [hQ]
    rw [hAe] at h2 h3
    exact mt_reti (H_lastApart, H_base, H_weights, H_parts) hx hb hr hlk hd hK h1 h2 h3 hp
  have B22 : ∀ (H_lastApart : Int32) (H_base : Nat → Int32) (H_weights : Nat → Int32) (H_parts : Nat → Int32) (t0 : Int32) (H : Heap) (locs : List Loc) (ls : Array Slot), wp_RS_apart_b22 F_powers F_logs H_needed H_width H_values H_told post  H_lastApart H_base H_weights H_parts t0 → va_P (dC, dI) vwCl (wd_RS_apart aF aF_powers aF_logs aH aH_values aH_base aH_weights aH_parts aH_told aR aW aS aC aP cI cZ F_powers F_logs H_lastApart H_needed H_width H_count H_values H_base H_weights H_parts H_told) H → va_D A (wd_RS_apart aF aF_powers aF_logs aH aH_values aH_base aH_weights aH_parts aH_told aR aW aS aC aP cI cZ F_powers F_logs H_lastApart H_needed H_width H_count H_values H_base H_weights H_parts H_told) → va_S A s.heap H locs → lv_has ls 1 [] → W p l e rm_RS_apart s m args below meth c H locs 0 0 Q (F0 m 22 ls [.int t0]) := by
    intro  H_lastApart H_base H_weights H_parts t0 H locs ls h hP hD hS hl
    exact RET t0 H_lastApart H_base H_weights H_parts H locs ls 22 d_RS_apart_22 h hP hD hS
  obtain ⟨H, hH⟩ : ∃ H : Heap, H = s.heap := ⟨_, rfl⟩
  obtain ⟨locs, hlo⟩ : ∃ x : List Loc, x = [] := ⟨_, rfl⟩
  have hS : va_S A s.heap H locs := by rw [hH, hlo]; exact hS
  rw [← hH] at hP
  rw [← hlo]
  show W p l e rm_RS_apart s m args below meth c s.heap locs 0 0 Q (F0 m 0 ls [])
  rw [← hH]
  refine lv_aload_n hx hb d_RS_apart_0 rfl (lv_at hl 0 rfl) ?_
  refine va_get (D := (dC, dI)) (ci := 6) (v := .ref aH) (C := "ReedSets") (T := T_RS) (N := 6) hx hb hts in_RS hown hK hP 9 rfl rfl 5 (by decide) (hts _ tb_280) (fun _ h9 => h9) rfl d_RS_apart_1 ?_
  refine lv_iconst (v := (-1 : Int32)) hx hb d_RS_apart_4 (by decide) ?_
  refine mt_i (va_runV (As := [.int (-1 : Int32)]) (rest := []) ⟨hx, hb, hml, hown, hts⟩ (ct_Sh_chooseBase l dC dI aF aF_powers aF_logs aH aH_values aH_base aH_weights aH_parts aH_told cI cZ F_powers F_logs H_lastApart H_needed H_width H_count H_base H_weights H_told (-1 : Int32) _ h _) (tb_cV hts ok_Sh_chooseBase tb_612 rfl rfl ⟨Nat.le_of_ble_eq_true rfl, Nat.le_of_ble_eq_true rfl⟩) (mt_preV hK hP hD [.int (-1 : Int32)] [0, 1, 2, 3, 5, 6, 8] rfl (by decide) (ci := 2) (q0 := 3) rfl rfl) rfl rfl hl.1 rfl (lv_room (Nat.le_of_ble_eq_true rfl)) d_RS_apart_5 ⟨Nat.zero_le _, Nat.zero_le _⟩) hP hD hS hA [0, 1, 2, 3, 5, 6, 8] rfl (fun _ => rfl) (fun r_5 u H locs h hP hD hS => ?_)
  obtain ⟨H_base_5, H_weights_5⟩ := u
  have hP : va_P (dC, dI) vwCl (wd_RS_apart aF aF_powers aF_logs aH aH_values aH_base aH_weights aH_parts aH_told aR aW aS aC aP cI cZ F_powers F_logs H_lastApart H_needed H_width H_count H_values H_base_5 H_weights_5 H_parts H_told) H := hP
  have hD : va_D A (wd_RS_apart aF aF_powers aF_logs aH aH_values aH_base aH_weights aH_parts aH_told aR aW aS aC aP cI cZ F_powers F_logs H_lastApart H_needed H_width H_count H_values H_base_5 H_weights_5 H_parts H_told) := hD
  refine lv_if_eq (tgt := 21) hx hb d_RS_apart_8 (by decide) (fun g8 => ?_) (fun g8 => ?_)
  · have h := h.1 g8
    refine lv_iconst (v := (-1 : Int32)) hx hb d_RS_apart_21 (by decide) ?_
    exact B22  H_lastApart H_base_5 H_weights_5 H_parts (-1 : Int32) H locs ls h hP hD hS (lv_sub hl [] rfl)
  · have h := h.2 g8
    refine lv_aload_n hx hb d_RS_apart_11 rfl (lv_at hl 0 rfl) ?_
    refine va_get (D := (dC, dI)) (ci := 6) (v := .ref aH) (C := "ReedSets") (T := T_RS) (N := 6) hx hb hts in_RS hown hK hP 9 rfl rfl 5 (by decide) (hts _ tb_280) (fun _ h9 => h9) rfl d_RS_apart_12 ?_
    refine mt_i (va_runV (As := []) (rest := []) ⟨hx, hb, hml, hown, hts⟩ (ct_Sh_countApart l dC dI aF aF_powers aF_logs aH aH_values aH_base aH_weights aH_parts aH_told cI cZ F_powers F_logs H_lastApart H_needed H_width H_count H_values H_base_5 H_weights_5 H_parts H_told _ h _) (tb_cV hts ok_Sh_countApart tb_634 rfl rfl ⟨Nat.le_of_ble_eq_true rfl, Nat.le_of_ble_eq_true rfl⟩) (mt_preV hK hP hD [] [0, 1, 2, 3, 4, 5, 6, 7, 8] rfl (by decide) (ci := 2) (q0 := 3) rfl rfl) rfl rfl hl.1 rfl (lv_room (Nat.le_of_ble_eq_true rfl)) d_RS_apart_15 ⟨Nat.zero_le _, Nat.zero_le _⟩) hP hD hS hA [0, 1, 2, 3, 4, 5, 6, 7, 8] rfl (fun _ => rfl) (fun r_15 u H locs h hP hD hS => ?_)
    obtain ⟨H_lastApart_15, H_parts_15⟩ := u
    have hP : va_P (dC, dI) vwCl (wd_RS_apart aF aF_powers aF_logs aH aH_values aH_base aH_weights aH_parts aH_told aR aW aS aC aP cI cZ F_powers F_logs H_lastApart_15 H_needed H_width H_count H_values H_base_5 H_weights_5 H_parts_15 H_told) H := hP
    have hD : va_D A (wd_RS_apart aF aF_powers aF_logs aH aH_values aH_base aH_weights aH_parts aH_told aR aW aS aC aP cI cZ F_powers F_logs H_lastApart_15 H_needed H_width H_count H_values H_base_5 H_weights_5 H_parts_15 H_told) := hD
    refine lv_goto (tgt := 22) hx hb d_RS_apart_18 (by decide) ?_
    exact B22  H_lastApart_15 H_base_5 H_weights_5 H_parts_15 r_15 H locs ls h hP hD hS (lv_sub hl [] rfl)
abbrev wd_RS_odd (aF aF_powers aF_logs aH aH_values aH_base aH_weights aH_parts aH_told aR aW aS aC aP : Nat) (cI cZ : ClassId) (F_powers : Nat → Int32) (F_logs : Nat → Int32) (H_lastApart : Int32) (H_needed : Int32) (H_width : Int32) (H_count : Int32) (H_values : Nat → Int32) (H_base : Nat → Int32) (H_weights : Nat → Int32) (H_parts : Nat → Int32) (H_told : Nat → Int32) : va_W := [(aF, .inr (1, [.ref aF_powers, .ref aF_logs])), (aF_powers, .inl (cI, 512, .inl F_powers)), (aF_logs, .inl (cI, 256, .inl F_logs)), (aH, .inr (2, [.ref aF, .ref aH_values, .ref aH_base, .ref aH_weights, .ref aH_parts, .int H_lastApart, .int H_needed, .int H_width, .ref aH_told, .int H_count])), (aH_values, .inl (cI, 4096, .inl H_values)), (aH_base, .inl (cI, 20, .inl H_base)), (aH_weights, .inl (cI, 20, .inl H_weights)), (aH_parts, .inl (cI, 20, .inl H_parts)), (aH_told, .inl (cZ, 256, .inl H_told)), (aR, .inr (6, [.ref aF, .ref aW, .ref aS, .ref aC, .ref aP, .ref aH]))]
def wp_RS_odd_b22 (F_powers : Nat → Int32) (F_logs : Nat → Int32) (H_needed : Int32) (H_width : Int32) (H_values : Nat → Int32) (H_told : Nat → Int32) (post : Int32 → Int32 → (Nat → Int32) → (Nat → Int32) → (Nat → Int32) → Prop)  (H_lastApart : Int32) (H_base : Nat → Int32) (H_weights : Nat → Int32) (H_parts : Nat → Int32) (t0 : Int32) : Prop := post t0 H_lastApart H_base H_weights H_parts
def wp_RS_odd (F_powers : Nat → Int32) (F_logs : Nat → Int32) (H_lastApart : Int32) (H_needed : Int32) (H_width : Int32) (H_values : Nat → Int32) (H_base : Nat → Int32) (H_weights : Nat → Int32) (H_parts : Nat → Int32) (H_told : Nat → Int32) (post : Int32 → Int32 → (Nat → Int32) → (Nat → Int32) → (Nat → Int32) → Prop) : Prop := wp_Sh_chooseBase F_powers F_logs H_needed H_base H_weights H_told (-1 : Int32) (fun r_5 H_base_5 H_weights_5 => ((r_5 = 0 → (wp_RS_odd_b22 F_powers F_logs H_needed H_width H_values H_told post  H_lastApart H_base_5 H_weights_5 H_parts (-1 : Int32))) ∧ (¬ r_5 = 0 → (wp_Sh_findOdd F_powers F_logs H_lastApart H_needed H_width H_values H_base_5 H_weights_5 H_parts H_told (fun r_15 H_lastApart_15 H_base_15 H_weights_15 H_parts_15 => (wp_RS_odd_b22 F_powers F_logs H_needed H_width H_values H_told post  H_lastApart_15 H_base_15 H_weights_15 H_parts_15 r_15))))))
abbrev rm_RS_odd : Room := { frames := 5, cells := 0, slots := 0, locals := 113 }
set_option maxHeartbeats 4000000 in
set_option maxRecDepth 100000 in
theorem ct_RS_odd (l : Launch) (dC : Nat → ClassId) (dI : Nat → Nat → Nat) (aF aF_powers aF_logs aH aH_values aH_base aH_weights aH_parts aH_told aR aW aS aC aP : Nat) (cI cZ : ClassId) (F_powers : Nat → Int32) (F_logs : Nat → Int32) (H_lastApart : Int32) (H_needed : Int32) (H_width : Int32) (H_count : Int32) (H_values : Nat → Int32) (H_base : Nat → Int32) (H_weights : Nat → Int32) (H_parts : Nat → Int32) (H_told : Nat → Int32)  (post : Int32 → Int32 → (Nat → Int32) → (Nat → Int32) → (Nat → Int32) → Prop) (h : wp_RS_odd F_powers F_logs H_lastApart H_needed H_width H_values H_base H_weights H_parts H_told post) (sz : Nat) : Met l y_RS_odd (Cond.code y_RS_odd c_RS_odd 1 (some .int) :: tb) rm_RS_odd (mt_P (dC, dI) vwCl [(cI, .int), (cZ, .boolean)] [.ref aR] (wd_RS_odd aF aF_powers aF_logs aH aH_values aH_base aH_weights aH_parts aH_told aR aW aS aC aP cI cZ F_powers F_logs H_lastApart H_needed H_width H_count H_values H_base H_weights H_parts H_told) sz) (va_Qi (fun (r : Int32) (u : Int32 × (Nat → Int32) × (Nat → Int32) × (Nat → Int32)) => post r u.1 u.2.1 u.2.2.1 u.2.2.2) (mt_B (dC, dI) vwCl [(cI, .int), (cZ, .boolean)] (wd_RS_odd aF aF_powers aF_logs aH aH_values aH_base aH_weights aH_parts aH_told aR aW aS aC aP cI cZ F_powers F_logs H_lastApart H_needed H_width H_count H_values H_base H_weights H_parts H_told) sz (fun u : Int32 × (Nat → Int32) × (Nat → Int32) × (Nat → Int32) => wd_RS_odd aF aF_powers aF_logs aH aH_values aH_base aH_weights aH_parts aH_told aR aW aS aC aP cI cZ F_powers F_logs u.1 H_needed H_width H_count H_values u.2.1 u.2.2.1 u.2.2.2 H_told)) (va_A (wd_RS_odd aF aF_powers aF_logs aH aH_values aH_base aH_weights aH_parts aH_told aR aW aS aC aP cI cZ F_powers F_logs H_lastApart H_needed H_width H_count H_values H_base H_weights H_parts H_told) sz)) 0 0 (va_A (wd_RS_odd aF aF_powers aF_logs aH aH_values aH_base aH_weights aH_parts aH_told aR aW aS aC aP cI cZ F_powers F_logs H_lastApart H_needed H_width H_count H_values H_base H_weights H_parts H_told) sz) := by
  refine mt_bd (by decide +kernel) (Nat.le_of_ble_eq_true rfl) ?_
  intro p e s m args below meth c hx hb hml hown hts hr hlk hnm hsz hP hK hD hA hS ls hl
  subst hsz
  have hown : s.vm.findClass "ReedSets" = some m.cls := hown
  have hl : lv_has ls 1 [(0, .ref aR)] := hl
  refine lz_Q (fun Q hQ => ?_)
  obtain ⟨A, hAe⟩ : ∃ A : Nat → Prop, A = va_A (wd_RS_odd aF aF_powers aF_logs aH aH_values aH_base aH_weights aH_parts aH_told aR aW aS aC aP cI cZ F_powers F_logs H_lastApart H_needed H_width H_count H_values H_base H_weights H_parts H_told) s.heap.size := ⟨_, rfl⟩
  rw [← hAe] at hD hA hS
  have RET : ∀ (v : Int32) (H_lastApart : Int32) (H_base : Nat → Int32) (H_weights : Nat → Int32) (H_parts : Nat → Int32) (H : Heap) (locs : List Loc) (ls : Array Slot) (pc : Nat), decode c_RS_odd pc = .ok (.ireturn, 1) → post v H_lastApart H_base H_weights H_parts → va_P (dC, dI) vwCl (wd_RS_odd aF aF_powers aF_logs aH aH_values aH_base aH_weights aH_parts aH_told aR aW aS aC aP cI cZ F_powers F_logs H_lastApart H_needed H_width H_count H_values H_base H_weights H_parts H_told) H → va_D A (wd_RS_odd aF aF_powers aF_logs aH aH_values aH_base aH_weights aH_parts aH_told aR aW aS aC aP cI cZ F_powers F_logs H_lastApart H_needed H_width H_count H_values H_base H_weights H_parts H_told) → va_S A s.heap H locs → W p l e rm_RS_odd s m args below meth c H locs 0 0 Q (F0 m pc ls [.int v]) := by
    intro v H_lastApart H_base H_weights H_parts H locs ls pc hd hp h1 h2 h3
    rw [hQ]
    rw [hAe] at h2 h3
    exact mt_reti (H_lastApart, H_base, H_weights, H_parts) hx hb hr hlk hd hK h1 h2 h3 hp
  have B22 : ∀ (H_lastApart : Int32) (H_base : Nat → Int32) (H_weights : Nat → Int32) (H_parts : Nat → Int32) (t0 : Int32) (H : Heap) (locs : List Loc) (ls : Array Slot), wp_RS_odd_b22 F_powers F_logs H_needed H_width H_values H_told post  H_lastApart H_base H_weights H_parts t0 → va_P (dC, dI) vwCl (wd_RS_odd aF aF_powers aF_logs aH aH_values aH_base aH_weights aH_parts aH_told aR aW aS aC aP cI cZ F_powers F_logs H_lastApart H_needed H_width H_count H_values H_base H_weights H_parts H_told) H → va_D A (wd_RS_odd aF aF_powers aF_logs aH aH_values aH_base aH_weights aH_parts aH_told aR aW aS aC aP cI cZ F_powers F_logs H_lastApart H_needed H_width H_count H_values H_base H_weights H_parts H_told) → va_S A s.heap H locs → lv_has ls 1 [] → W p l e rm_RS_odd s m args below meth c H locs 0 0 Q (F0 m 22 ls [.int t0]) := by
    intro  H_lastApart H_base H_weights H_parts t0 H locs ls h hP hD hS hl
    exact RET t0 H_lastApart H_base H_weights H_parts H locs ls 22 d_RS_odd_22 h hP hD hS
  obtain ⟨H, hH⟩ : ∃ H : Heap, H = s.heap := ⟨_, rfl⟩
  obtain ⟨locs, hlo⟩ : ∃ x : List Loc, x = [] := ⟨_, rfl⟩
  have hS : va_S A s.heap H locs := by rw [hH, hlo]; exact hS
  rw [← hH] at hP
  rw [← hlo]
  show W p l e rm_RS_odd s m args below meth c s.heap locs 0 0 Q (F0 m 0 ls [])
  rw [← hH]
  refine lv_aload_n hx hb d_RS_odd_0 rfl (lv_at hl 0 rfl) ?_
  refine va_get (D := (dC, dI)) (ci := 6) (v := .ref aH) (C := "ReedSets") (T := T_RS) (N := 6) hx hb hts in_RS hown hK hP 9 rfl rfl 5 (by decide) (hts _ tb_280) (fun _ h9 => h9) rfl d_RS_odd_1 ?_
  refine lv_iconst (v := (-1 : Int32)) hx hb d_RS_odd_4 (by decide) ?_
  refine mt_i (va_runV (As := [.int (-1 : Int32)]) (rest := []) ⟨hx, hb, hml, hown, hts⟩ (ct_Sh_chooseBase l dC dI aF aF_powers aF_logs aH aH_values aH_base aH_weights aH_parts aH_told cI cZ F_powers F_logs H_lastApart H_needed H_width H_count H_base H_weights H_told (-1 : Int32) _ h _) (tb_cV hts ok_Sh_chooseBase tb_612 rfl rfl ⟨Nat.le_of_ble_eq_true rfl, Nat.le_of_ble_eq_true rfl⟩) (mt_preV hK hP hD [.int (-1 : Int32)] [0, 1, 2, 3, 5, 6, 8] rfl (by decide) (ci := 2) (q0 := 3) rfl rfl) rfl rfl hl.1 rfl (lv_room (Nat.le_of_ble_eq_true rfl)) d_RS_odd_5 ⟨Nat.zero_le _, Nat.zero_le _⟩) hP hD hS hA [0, 1, 2, 3, 5, 6, 8] rfl (fun _ => rfl) (fun r_5 u H locs h hP hD hS => ?_)
  obtain ⟨H_base_5, H_weights_5⟩ := u
  have hP : va_P (dC, dI) vwCl (wd_RS_odd aF aF_powers aF_logs aH aH_values aH_base aH_weights aH_parts aH_told aR aW aS aC aP cI cZ F_powers F_logs H_lastApart H_needed H_width H_count H_values H_base_5 H_weights_5 H_parts H_told) H := hP
  have hD : va_D A (wd_RS_odd aF aF_powers aF_logs aH aH_values aH_base aH_weights aH_parts aH_told aR aW aS aC aP cI cZ F_powers F_logs H_lastApart H_needed H_width H_count H_values H_base_5 H_weights_5 H_parts H_told) := hD
  refine lv_if_eq (tgt := 21) hx hb d_RS_odd_8 (by decide) (fun g8 => ?_) (fun g8 => ?_)
  · have h := h.1 g8
    refine lv_iconst (v := (-1 : Int32)) hx hb d_RS_odd_21 (by decide) ?_
    exact B22  H_lastApart H_base_5 H_weights_5 H_parts (-1 : Int32) H locs ls h hP hD hS (lv_sub hl [] rfl)
  · have h := h.2 g8
    refine lv_aload_n hx hb d_RS_odd_11 rfl (lv_at hl 0 rfl) ?_
    refine va_get (D := (dC, dI)) (ci := 6) (v := .ref aH) (C := "ReedSets") (T := T_RS) (N := 6) hx hb hts in_RS hown hK hP 9 rfl rfl 5 (by decide) (hts _ tb_280) (fun _ h9 => h9) rfl d_RS_odd_12 ?_
    refine mt_i (va_runV (As := []) (rest := []) ⟨hx, hb, hml, hown, hts⟩ (ct_Sh_findOdd l dC dI aF aF_powers aF_logs aH aH_values aH_base aH_weights aH_parts aH_told cI cZ F_powers F_logs H_lastApart H_needed H_width H_count H_values H_base_5 H_weights_5 H_parts H_told _ h _) (tb_cV hts ok_Sh_findOdd tb_648 rfl rfl ⟨Nat.le_of_ble_eq_true rfl, Nat.le_of_ble_eq_true rfl⟩) (mt_preV hK hP hD [] [0, 1, 2, 3, 4, 5, 6, 7, 8] rfl (by decide) (ci := 2) (q0 := 3) rfl rfl) rfl rfl hl.1 rfl (lv_room (Nat.le_of_ble_eq_true rfl)) d_RS_odd_15 ⟨Nat.zero_le _, Nat.zero_le _⟩) hP hD hS hA [0, 1, 2, 3, 4, 5, 6, 7, 8] rfl (fun _ => rfl) (fun r_15 u H locs h hP hD hS => ?_)
    obtain ⟨H_lastApart_15, H_base_15, H_weights_15, H_parts_15⟩ := u
    have hP : va_P (dC, dI) vwCl (wd_RS_odd aF aF_powers aF_logs aH aH_values aH_base aH_weights aH_parts aH_told aR aW aS aC aP cI cZ F_powers F_logs H_lastApart_15 H_needed H_width H_count H_values H_base_15 H_weights_15 H_parts_15 H_told) H := hP
    have hD : va_D A (wd_RS_odd aF aF_powers aF_logs aH aH_values aH_base aH_weights aH_parts aH_told aR aW aS aC aP cI cZ F_powers F_logs H_lastApart_15 H_needed H_width H_count H_values H_base_15 H_weights_15 H_parts_15 H_told) := hD
    refine lv_goto (tgt := 22) hx hb d_RS_odd_18 (by decide) ?_
    exact B22  H_lastApart_15 H_base_15 H_weights_15 H_parts_15 r_15 H locs ls h hP hD hS (lv_sub hl [] rfl)
