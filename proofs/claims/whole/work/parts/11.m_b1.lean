abbrev wd_So_readSyndromes (aF aF_powers aF_logs aW aW_bytes aW_lost aW_factors aS aS_syndromes aS_locator aS_helper aS_kept aS_evaluator aS_places aS_fixes : Nat) (cI cZ : ClassId) (F_powers : Nat → Int32) (F_logs : Nat → Int32) (W_lostCount : Int32) (W_data : Int32) (W_repairs : Int32) (W_first : Int32) (W_bytes : Nat → Int32) (W_lost : Nat → Int32) (S_found : Int32) (S_syndromes : Nat → Int32) : va_W := [(aF, .inr (1, [.ref aF_powers, .ref aF_logs])), (aF_powers, .inl (cI, 512, .inl F_powers)), (aF_logs, .inl (cI, 256, .inl F_logs)), (aW, .inr (5, [.ref aF, .ref aW_bytes, .ref aW_lost, .ref aW_factors, .int W_lostCount, .int W_data, .int W_repairs, .int W_first])), (aW_bytes, .inl (cI, 240, .inl W_bytes)), (aW_lost, .inl (cZ, 240, .inl W_lost)), (aS, .inr (3, [.ref aF, .ref aS_syndromes, .ref aS_locator, .ref aS_helper, .ref aS_kept, .ref aS_evaluator, .ref aS_places, .ref aS_fixes, .int S_found])), (aS_syndromes, .inl (cI, 40, .inl S_syndromes))]
def wp_So_readSyndromes_b2 (F_powers : Nat → Int32) (F_logs : Nat → Int32) (W_data : Int32) (W_repairs : Int32) (W_first : Int32) (W_bytes : Nat → Int32) (W_lost : Nat → Int32) (post : (Nat → Int32) → Prop) (K2 : (Nat → Int32) → Int32 → Prop) (S_syndromes : Nat → Int32) (x2 : Int32) : Prop := (W_repairs ≤ x2 → (post S_syndromes)) ∧ (¬ W_repairs ≤ x2 → (wp_Wo_valueFor F_powers F_logs W_data W_repairs W_bytes W_lost (W_first + x2) (fun r_22 => (vp_in x2 40 ∧ (∀ x2_26 : Int32, x2_26 = (x2 + (1 : Int32)) → (K2 (upd S_syndromes x2.toNatClampNeg r_22) x2_26))))))
def wp_So_readSyndromes_L2 (F_powers : Nat → Int32) (F_logs : Nat → Int32) (W_data : Int32) (W_repairs : Int32) (W_first : Int32) (W_bytes : Nat → Int32) (W_lost : Nat → Int32) (post : (Nat → Int32) → Prop)  : Nat → (Nat → Int32) → Int32 → Prop
  | 0 => fun _ _ => False
  | n + 1 => wp_So_readSyndromes_b2 F_powers F_logs W_data W_repairs W_first W_bytes W_lost post (wp_So_readSyndromes_L2 F_powers F_logs W_data W_repairs W_first W_bytes W_lost post n)
def wp_So_readSyndromes (F_powers : Nat → Int32) (F_logs : Nat → Int32) (W_data : Int32) (W_repairs : Int32) (W_first : Int32) (W_bytes : Nat → Int32) (W_lost : Nat → Int32) (S_syndromes : Nat → Int32) (post : (Nat → Int32) → Prop) : Prop := ∃ n : Nat, wp_So_readSyndromes_L2 F_powers F_logs W_data W_repairs W_first W_bytes W_lost post  n S_syndromes (0 : Int32)
abbrev rm_So_readSyndromes : Room := { frames := 2, cells := 0, slots := 0, locals := 46 }
set_option maxHeartbeats 4000000 in
set_option maxRecDepth 100000 in
theorem ct_So_readSyndromes (l : Launch) (dC : Nat → ClassId) (dI : Nat → Nat → Nat) (aF aF_powers aF_logs aW aW_bytes aW_lost aW_factors aS aS_syndromes aS_locator aS_helper aS_kept aS_evaluator aS_places aS_fixes : Nat) (cI cZ : ClassId) (F_powers : Nat → Int32) (F_logs : Nat → Int32) (W_lostCount : Int32) (W_data : Int32) (W_repairs : Int32) (W_first : Int32) (W_bytes : Nat → Int32) (W_lost : Nat → Int32) (S_found : Int32) (S_syndromes : Nat → Int32)  (post : (Nat → Int32) → Prop) (h : wp_So_readSyndromes F_powers F_logs W_data W_repairs W_first W_bytes W_lost S_syndromes post) (sz : Nat) : Met l y_So_readSyndromes (Cond.code y_So_readSyndromes c_So_readSyndromes 3 none :: tb) rm_So_readSyndromes (mt_P (dC, dI) vwCl [(cI, .int), (cZ, .boolean)] [.ref aS, .ref aW] (wd_So_readSyndromes aF aF_powers aF_logs aW aW_bytes aW_lost aW_factors aS aS_syndromes aS_locator aS_helper aS_kept aS_evaluator aS_places aS_fixes cI cZ F_powers F_logs W_lostCount W_data W_repairs W_first W_bytes W_lost S_found S_syndromes) sz) (va_Qv (fun (u : (Nat → Int32)) => post u) (mt_B (dC, dI) vwCl [(cI, .int), (cZ, .boolean)] (wd_So_readSyndromes aF aF_powers aF_logs aW aW_bytes aW_lost aW_factors aS aS_syndromes aS_locator aS_helper aS_kept aS_evaluator aS_places aS_fixes cI cZ F_powers F_logs W_lostCount W_data W_repairs W_first W_bytes W_lost S_found S_syndromes) sz (fun u : (Nat → Int32) => wd_So_readSyndromes aF aF_powers aF_logs aW aW_bytes aW_lost aW_factors aS aS_syndromes aS_locator aS_helper aS_kept aS_evaluator aS_places aS_fixes cI cZ F_powers F_logs W_lostCount W_data W_repairs W_first W_bytes W_lost S_found u)) (va_A (wd_So_readSyndromes aF aF_powers aF_logs aW aW_bytes aW_lost aW_factors aS aS_syndromes aS_locator aS_helper aS_kept aS_evaluator aS_places aS_fixes cI cZ F_powers F_logs W_lostCount W_data W_repairs W_first W_bytes W_lost S_found S_syndromes) sz)) 0 0 (va_A (wd_So_readSyndromes aF aF_powers aF_logs aW aW_bytes aW_lost aW_factors aS aS_syndromes aS_locator aS_helper aS_kept aS_evaluator aS_places aS_fixes cI cZ F_powers F_logs W_lostCount W_data W_repairs W_first W_bytes W_lost S_found S_syndromes) sz) := by
  refine mt_bd (by decide +kernel) (Nat.le_of_ble_eq_true rfl) ?_
  intro p e s m args below meth c hx hb hml hown hts hr hlk hnm hsz hP hK hD hA hS ls hl
  subst hsz
  have hown : s.vm.findClass "ReedSets$Solver" = some m.cls := hown
  have hl : lv_has ls 3 [(0, .ref aS), (1, .ref aW)] := hl
  refine lz_Q (fun Q hQ => ?_)
  obtain ⟨A, hAe⟩ : ∃ A : Nat → Prop, A = va_A (wd_So_readSyndromes aF aF_powers aF_logs aW aW_bytes aW_lost aW_factors aS aS_syndromes aS_locator aS_helper aS_kept aS_evaluator aS_places aS_fixes cI cZ F_powers F_logs W_lostCount W_data W_repairs W_first W_bytes W_lost S_found S_syndromes) s.heap.size := ⟨_, rfl⟩
  rw [← hAe] at hD hA hS
  have RET : ∀ (S_syndromes : Nat → Int32) (H : Heap) (locs : List Loc) (ls : Array Slot) (pc : Nat), decode c_So_readSyndromes pc = .ok (.return_, 1) → post S_syndromes → va_P (dC, dI) vwCl (wd_So_readSyndromes aF aF_powers aF_logs aW aW_bytes aW_lost aW_factors aS aS_syndromes aS_locator aS_helper aS_kept aS_evaluator aS_places aS_fixes cI cZ F_powers F_logs W_lostCount W_data W_repairs W_first W_bytes W_lost S_found S_syndromes) H → va_D A (wd_So_readSyndromes aF aF_powers aF_logs aW aW_bytes aW_lost aW_factors aS aS_syndromes aS_locator aS_helper aS_kept aS_evaluator aS_places aS_fixes cI cZ F_powers F_logs W_lostCount W_data W_repairs W_first W_bytes W_lost S_found S_syndromes) → va_S A s.heap H locs → W p l e rm_So_readSyndromes s m args below meth c H locs 0 0 Q (F0 m pc ls []) := by
    intro S_syndromes H locs ls pc hd hp h1 h2 h3
    rw [hQ]
    rw [hAe] at h2 h3
    exact mt_retv (S_syndromes) hx hb hr hlk hd hK h1 h2 h3 hp
  have B2 : ∀ (K2 : (Nat → Int32) → Int32 → Prop) (HK2 : ∀ (S_syndromes : Nat → Int32) (x2 : Int32) (H : Heap) (locs : List Loc) (ls : Array Slot), K2 S_syndromes x2 → va_P (dC, dI) vwCl (wd_So_readSyndromes aF aF_powers aF_logs aW aW_bytes aW_lost aW_factors aS aS_syndromes aS_locator aS_helper aS_kept aS_evaluator aS_places aS_fixes cI cZ F_powers F_logs W_lostCount W_data W_repairs W_first W_bytes W_lost S_found S_syndromes) H → va_D A (wd_So_readSyndromes aF aF_powers aF_logs aW aW_bytes aW_lost aW_factors aS aS_syndromes aS_locator aS_helper aS_kept aS_evaluator aS_places aS_fixes cI cZ F_powers F_logs W_lostCount W_data W_repairs W_first W_bytes W_lost S_found S_syndromes) → va_S A s.heap H locs → lv_has ls 3 [(0, .ref aS), (1, .ref aW), (2, .int x2)] → W p l e rm_So_readSyndromes s m args below meth c H locs 0 0 Q (F0 m 2 ls [])), ∀ (S_syndromes : Nat → Int32) (x2 : Int32) (H : Heap) (locs : List Loc) (ls : Array Slot), wp_So_readSyndromes_b2 F_powers F_logs W_data W_repairs W_first W_bytes W_lost post K2 S_syndromes x2 → va_P (dC, dI) vwCl (wd_So_readSyndromes aF aF_powers aF_logs aW aW_bytes aW_lost aW_factors aS aS_syndromes aS_locator aS_helper aS_kept aS_evaluator aS_places aS_fixes cI cZ F_powers F_logs W_lostCount W_data W_repairs W_first W_bytes W_lost S_found S_syndromes) H → va_D A (wd_So_readSyndromes aF aF_powers aF_logs aW aW_bytes aW_lost aW_factors aS aS_syndromes aS_locator aS_helper aS_kept aS_evaluator aS_places aS_fixes cI cZ F_powers F_logs W_lostCount W_data W_repairs W_first W_bytes W_lost S_found S_syndromes) → va_S A s.heap H locs → lv_has ls 3 [(0, .ref aS), (1, .ref aW), (2, .int x2)] → W p l e rm_So_readSyndromes s m args below meth c H locs 0 0 Q (F0 m 2 ls []) := by
    intro K2 HK2 S_syndromes x2 H locs ls h hP hD hS hl
    refine lv_iload_n hx hb d_So_readSyndromes_2 rfl (lv_at hl 2 rfl) ?_
    refine lv_aload_n hx hb d_So_readSyndromes_3 rfl (lv_at hl 1 rfl) ?_
    refine va_get (D := (dC, dI)) (ci := 5) (v := .int W_repairs) (C := "ReedSets$Word") (T := T_Wo) (N := 8) hx hb hts in_Wo hown hK hP 3 rfl rfl 6 (by decide) (hts _ tb_118) (fun _ h9 => h9) rfl d_So_readSyndromes_4 ?_
    refine lv_icmp_ge (tgt := 32) hx hb d_So_readSyndromes_7 (by decide) (fun g7 => ?_) (fun g7 => ?_)
    · have h := h.1 g7
      exact RET S_syndromes H locs ls 32 d_So_readSyndromes_32 h hP hD hS
    · have h := h.2 g7
      refine lv_aload_n hx hb d_So_readSyndromes_10 rfl (lv_at hl 0 rfl) ?_
      refine va_get (D := (dC, dI)) (ci := 3) (v := .ref aS_syndromes) (C := "ReedSets$Solver") (T := T_So) (N := 9) hx hb hts in_So hown hK hP 6 rfl rfl 1 (by decide) (hts _ tb_148) (fun _ h9 => h9) rfl d_So_readSyndromes_11 ?_
      refine lv_iload_n hx hb d_So_readSyndromes_14 rfl (lv_at hl 2 rfl) ?_
      refine lv_aload_n hx hb d_So_readSyndromes_15 rfl (lv_at hl 1 rfl) ?_
      refine lv_aload_n hx hb d_So_readSyndromes_16 rfl (lv_at hl 1 rfl) ?_
      refine va_get (D := (dC, dI)) (ci := 5) (v := .int W_first) (C := "ReedSets$Word") (T := T_Wo) (N := 8) hx hb hts in_Wo hown hK hP 3 rfl rfl 7 (by decide) (hts _ tb_121) (fun _ h9 => h9) rfl d_So_readSyndromes_17 ?_
      refine lv_iload_n hx hb d_So_readSyndromes_20 rfl (lv_at hl 2 rfl) ?_
      refine lv_iadd hx hb d_So_readSyndromes_21 ?_
      refine mt_i (va_runV (As := [.int (W_first + x2)]) (rest := [.int x2, .ref aS_syndromes]) ⟨hx, hb, hml, hown, hts⟩ (ct_Wo_valueFor l dC dI aF aF_powers aF_logs aW aW_bytes aW_lost aW_factors cI cZ F_powers F_logs W_lostCount W_data W_repairs W_first W_bytes W_lost (W_first + x2) _ h _) (tb_cV hts ok_Wo_valueFor tb_399 rfl rfl ⟨Nat.le_of_ble_eq_true rfl, Nat.le_of_ble_eq_true rfl⟩) (mt_preV hK hP hD [.int (W_first + x2)] [0, 1, 2, 3, 4, 5] rfl (by decide) (ci := 5) (q0 := 3) rfl rfl) rfl rfl hl.1 rfl (lv_room (Nat.le_of_ble_eq_true rfl)) d_So_readSyndromes_22 ⟨Nat.zero_le _, Nat.zero_le _⟩) hP hD hS hA [0, 1, 2, 3, 4, 5] rfl (fun _ => rfl) (fun r_22 u H locs h hP hD hS => ?_)
      have hP : va_P (dC, dI) vwCl (wd_So_readSyndromes aF aF_powers aF_logs aW aW_bytes aW_lost aW_factors aS aS_syndromes aS_locator aS_helper aS_kept aS_evaluator aS_places aS_fixes cI cZ F_powers F_logs W_lostCount W_data W_repairs W_first W_bytes W_lost S_found S_syndromes) H := hP
      have hD : va_D A (wd_So_readSyndromes aF aF_powers aF_logs aW aW_bytes aW_lost aW_factors aS aS_syndromes aS_locator aS_helper aS_kept aS_evaluator aS_places aS_fixes cI cZ F_powers F_logs W_lostCount W_data W_repairs W_first W_bytes W_lost S_found S_syndromes) := hD
      obtain ⟨hi, h⟩ := h
      refine va_iast hx hb hK hP hD hS 7 0 rfl rfl hi d_So_readSyndromes_25 (fun H locs hP hD hS => ?_)
      have hP : va_P (dC, dI) vwCl (wd_So_readSyndromes aF aF_powers aF_logs aW aW_bytes aW_lost aW_factors aS aS_syndromes aS_locator aS_helper aS_kept aS_evaluator aS_places aS_fixes cI cZ F_powers F_logs W_lostCount W_data W_repairs W_first W_bytes W_lost S_found (upd S_syndromes x2.toNatClampNeg r_22)) H := hP
      have hD : va_D A (wd_So_readSyndromes aF aF_powers aF_logs aW aW_bytes aW_lost aW_factors aS aS_syndromes aS_locator aS_helper aS_kept aS_evaluator aS_places aS_fixes cI cZ F_powers F_logs W_lostCount W_data W_repairs W_first W_bytes W_lost S_found (upd S_syndromes x2.toNatClampNeg r_22)) := hD
      obtain ⟨x2_26, ex2_26⟩ : ∃ y : Int32, y = (x2 + (1 : Int32)) := ⟨_, rfl⟩
      have h := h x2_26 ex2_26
      refine lv_iinc (v := x2_26) (lv' := [(2, .int x2_26), (0, .ref aS), (1, .ref aW)]) hx hb d_So_readSyndromes_26 hl (k := 2) rfl (by rw [ex2_26]; rfl) (by decide) rfl (fun ls hl => ?_)
      refine lv_goto (tgt := 2) hx hb d_So_readSyndromes_29 (by decide) ?_
      exact HK2 (upd S_syndromes x2.toNatClampNeg r_22) x2_26 H locs ls h hP hD hS (lv_sub hl [1, 2, 0] rfl)
  have L2 : ∀  (n : Nat), ∀ (S_syndromes : Nat → Int32) (x2 : Int32) (H : Heap) (locs : List Loc) (ls : Array Slot), wp_So_readSyndromes_L2 F_powers F_logs W_data W_repairs W_first W_bytes W_lost post  n S_syndromes x2 → va_P (dC, dI) vwCl (wd_So_readSyndromes aF aF_powers aF_logs aW aW_bytes aW_lost aW_factors aS aS_syndromes aS_locator aS_helper aS_kept aS_evaluator aS_places aS_fixes cI cZ F_powers F_logs W_lostCount W_data W_repairs W_first W_bytes W_lost S_found S_syndromes) H → va_D A (wd_So_readSyndromes aF aF_powers aF_logs aW aW_bytes aW_lost aW_factors aS aS_syndromes aS_locator aS_helper aS_kept aS_evaluator aS_places aS_fixes cI cZ F_powers F_logs W_lostCount W_data W_repairs W_first W_bytes W_lost S_found S_syndromes) → va_S A s.heap H locs → lv_has ls 3 [(0, .ref aS), (1, .ref aW), (2, .int x2)] → W p l e rm_So_readSyndromes s m args below meth c H locs 0 0 Q (F0 m 2 ls []) := by
    intro  n
    induction n with
    | zero => intro S_syndromes x2 H locs ls h hP hD hS hl; exact False.elim h
    | succ n ih => intro S_syndromes x2 H locs ls h hP hD hS hl; exact B2  (wp_So_readSyndromes_L2 F_powers F_logs W_data W_repairs W_first W_bytes W_lost post  n) ih S_syndromes x2 H locs ls h hP hD hS hl
  obtain ⟨H, hH⟩ : ∃ H : Heap, H = s.heap := ⟨_, rfl⟩
  obtain ⟨locs, hlo⟩ : ∃ x : List Loc, x = [] := ⟨_, rfl⟩
  have hS : va_S A s.heap H locs := by rw [hH, hlo]; exact hS
  rw [← hH] at hP
  rw [← hlo]
  show W p l e rm_So_readSyndromes s m args below meth c s.heap locs 0 0 Q (F0 m 0 ls [])
  rw [← hH]
  refine lv_iconst (v := (0 : Int32)) hx hb d_So_readSyndromes_0 (by decide) ?_
  refine lv_istore_n (lv' := [(2, .int (0 : Int32)), (0, .ref aS), (1, .ref aW)]) hx hb d_So_readSyndromes_1 rfl hl (by decide) rfl (fun ls hl => ?_)
  obtain ⟨n, h⟩ := h
  exact L2  n S_syndromes (0 : Int32) H locs ls h hP hD hS (lv_sub hl [1, 2, 0] rfl)
abbrev wd_So_locateLost (aF aF_powers aF_logs aW aW_bytes aW_lost aW_factors aS aS_syndromes aS_locator aS_helper aS_kept aS_evaluator aS_places aS_fixes : Nat) (cI cZ : ClassId) (F_powers : Nat → Int32) (F_logs : Nat → Int32) (W_lostCount : Int32) (W_data : Int32) (W_repairs : Int32) (W_first : Int32) (W_lost : Nat → Int32) (S_found : Int32) (S_locator : Nat → Int32) : va_W := [(aF, .inr (1, [.ref aF_powers, .ref aF_logs])), (aF_powers, .inl (cI, 512, .inl F_powers)), (aF_logs, .inl (cI, 256, .inl F_logs)), (aW, .inr (5, [.ref aF, .ref aW_bytes, .ref aW_lost, .ref aW_factors, .int W_lostCount, .int W_data, .int W_repairs, .int W_first])), (aW_lost, .inl (cZ, 240, .inl W_lost)), (aS, .inr (3, [.ref aF, .ref aS_syndromes, .ref aS_locator, .ref aS_helper, .ref aS_kept, .ref aS_evaluator, .ref aS_places, .ref aS_fixes, .int S_found])), (aS_locator, .inl (cI, 41, .inl S_locator))]
def wp_So_locateLost_b107 (F_powers : Nat → Int32) (F_logs : Nat → Int32) (W_data : Int32) (W_repairs : Int32) (W_lost : Nat → Int32) (post : (Nat → Int32) → Prop) (K19 : (Nat → Int32) → Int32 → Int32 → Prop) (S_locator : Nat → Int32) (x2 : Int32) (x3 : Int32) : Prop := ∀ x3_107 : Int32, x3_107 = (x3 + (1 : Int32)) → (K19 S_locator x2 x3_107)
def wp_So_locateLost_b62 (F_powers : Nat → Int32) (F_logs : Nat → Int32) (W_data : Int32) (W_repairs : Int32) (W_lost : Nat → Int32) (post : (Nat → Int32) → Prop) (K19 : (Nat → Int32) → Int32 → Int32 → Prop) (K62 : (Nat → Int32) → Int32 → Int32 → Int32 → Int32 → Prop) (S_locator : Nat → Int32) (x2 : Int32) (x3 : Int32) (x4 : Int32) (x5 : Int32) : Prop := (x5 < (1 : Int32) → (wp_So_locateLost_b107 F_powers F_logs W_data W_repairs W_lost post K19 S_locator x2 x3)) ∧ (¬ x5 < (1 : Int32) → (vp_in x5 41 ∧ (vp_in (x5 - (1 : Int32)) 41 ∧ (wp_Fi_product F_powers F_logs (S_locator (x5 - (1 : Int32)).toNatClampNeg) x4 (fun r_96 => (vp_in x5 41 ∧ (∀ x5_101 : Int32, x5_101 = (x5 + (-1 : Int32)) → (K62 (upd S_locator x5.toNatClampNeg ((S_locator x5.toNatClampNeg) ^^^ r_96)) x2 x3 x4 x5_101))))))))
def wp_So_locateLost_L62 (F_powers : Nat → Int32) (F_logs : Nat → Int32) (W_data : Int32) (W_repairs : Int32) (W_lost : Nat → Int32) (post : (Nat → Int32) → Prop) (K19 : (Nat → Int32) → Int32 → Int32 → Prop) : Nat → (Nat → Int32) → Int32 → Int32 → Int32 → Int32 → Prop
  | 0 => fun _ _ _ _ _ => False
  | n + 1 => wp_So_locateLost_b62 F_powers F_logs W_data W_repairs W_lost post K19 (wp_So_locateLost_L62 F_powers F_logs W_data W_repairs W_lost post K19 n)
def wp_So_locateLost_b113 (F_powers : Nat → Int32) (F_logs : Nat → Int32) (W_data : Int32) (W_repairs : Int32) (W_lost : Nat → Int32) (post : (Nat → Int32) → Prop)  (S_locator : Nat → Int32) : Prop := post S_locator
def wp_So_locateLost_b19 (F_powers : Nat → Int32) (F_logs : Nat → Int32) (W_data : Int32) (W_repairs : Int32) (W_lost : Nat → Int32) (post : (Nat → Int32) → Prop) (K19 : (Nat → Int32) → Int32 → Int32 → Prop) (S_locator : Nat → Int32) (x2 : Int32) (x3 : Int32) : Prop := wp_Wo_size W_data W_repairs (fun r_21 => ((r_21 ≤ x3 → (wp_So_locateLost_b113 F_powers F_logs W_data W_repairs W_lost post  S_locator)) ∧ (¬ r_21 ≤ x3 → (((40 : Int32) ≤ x2 → (wp_So_locateLost_b113 F_powers F_logs W_data W_repairs W_lost post  S_locator)) ∧ (¬ (40 : Int32) ≤ x2 → (vp_in x3 240 ∧ (((W_lost x3.toNatClampNeg) = 0 → (wp_So_locateLost_b107 F_powers F_logs W_data W_repairs W_lost post K19 S_locator x2 x3)) ∧ (¬ (W_lost x3.toNatClampNeg) = 0 → (∀ x2_42 : Int32, x2_42 = (x2 + (1 : Int32)) → (wp_Wo_powerAt W_data W_repairs x3 (fun r_51 => (wp_Fi_powerOfTwo F_powers r_51 (fun r_54 => (∃ n : Nat, wp_So_locateLost_L62 F_powers F_logs W_data W_repairs W_lost post K19 n S_locator x2_42 x3 r_54 x2_42))))))))))))))
def wp_So_locateLost_L19 (F_powers : Nat → Int32) (F_logs : Nat → Int32) (W_data : Int32) (W_repairs : Int32) (W_lost : Nat → Int32) (post : (Nat → Int32) → Prop)  : Nat → (Nat → Int32) → Int32 → Int32 → Prop
  | 0 => fun _ _ _ => False
  | n + 1 => wp_So_locateLost_b19 F_powers F_logs W_data W_repairs W_lost post (wp_So_locateLost_L19 F_powers F_logs W_data W_repairs W_lost post n)
def wp_So_locateLost (F_powers : Nat → Int32) (F_logs : Nat → Int32) (W_data : Int32) (W_repairs : Int32) (W_lost : Nat → Int32) (S_locator : Nat → Int32) (post : (Nat → Int32) → Prop) : Prop := wp_Arr_fill2 41 S_locator (0 : Int32) (fun S_locator_5 => (vp_in (0 : Int32) 41 ∧ (∃ n : Nat, wp_So_locateLost_L19 F_powers F_logs W_data W_repairs W_lost post  n (upd S_locator_5 (0 : Int32).toNatClampNeg (1 : Int32)) (0 : Int32) (0 : Int32))))
abbrev rm_So_locateLost : Room := { frames := 2, cells := 0, slots := 0, locals := 41 }
set_option maxHeartbeats 4000000 in
set_option maxRecDepth 100000 in
theorem ct_So_locateLost (l : Launch) (dC : Nat → ClassId) (dI : Nat → Nat → Nat) (aF aF_powers aF_logs aW aW_bytes aW_lost aW_factors aS aS_syndromes aS_locator aS_helper aS_kept aS_evaluator aS_places aS_fixes : Nat) (cI cZ : ClassId) (F_powers : Nat → Int32) (F_logs : Nat → Int32) (W_lostCount : Int32) (W_data : Int32) (W_repairs : Int32) (W_first : Int32) (W_lost : Nat → Int32) (S_found : Int32) (S_locator : Nat → Int32)  (post : (Nat → Int32) → Prop) (h : wp_So_locateLost F_powers F_logs W_data W_repairs W_lost S_locator post) (sz : Nat) : Met l y_So_locateLost (Cond.code y_So_locateLost c_So_locateLost 6 none :: tb) rm_So_locateLost (mt_P (dC, dI) vwCl [(cI, .int), (cZ, .boolean)] [.ref aS, .ref aW] (wd_So_locateLost aF aF_powers aF_logs aW aW_bytes aW_lost aW_factors aS aS_syndromes aS_locator aS_helper aS_kept aS_evaluator aS_places aS_fixes cI cZ F_powers F_logs W_lostCount W_data W_repairs W_first W_lost S_found S_locator) sz) (va_Qv (fun (u : (Nat → Int32)) => post u) (mt_B (dC, dI) vwCl [(cI, .int), (cZ, .boolean)] (wd_So_locateLost aF aF_powers aF_logs aW aW_bytes aW_lost aW_factors aS aS_syndromes aS_locator aS_helper aS_kept aS_evaluator aS_places aS_fixes cI cZ F_powers F_logs W_lostCount W_data W_repairs W_first W_lost S_found S_locator) sz (fun u : (Nat → Int32) => wd_So_locateLost aF aF_powers aF_logs aW aW_bytes aW_lost aW_factors aS aS_syndromes aS_locator aS_helper aS_kept aS_evaluator aS_places aS_fixes cI cZ F_powers F_logs W_lostCount W_data W_repairs W_first W_lost S_found u)) (va_A (wd_So_locateLost aF aF_powers aF_logs aW aW_bytes aW_lost aW_factors aS aS_syndromes aS_locator aS_helper aS_kept aS_evaluator aS_places aS_fixes cI cZ F_powers F_logs W_lostCount W_data W_repairs W_first W_lost S_found S_locator) sz)) 0 0 (va_A (wd_So_locateLost aF aF_powers aF_logs aW aW_bytes aW_lost aW_factors aS aS_syndromes aS_locator aS_helper aS_kept aS_evaluator aS_places aS_fixes cI cZ F_powers F_logs W_lostCount W_data W_repairs W_first W_lost S_found S_locator) sz) := by
  refine mt_bd (by decide +kernel) (Nat.le_of_ble_eq_true rfl) ?_
  intro p e s m args below meth c hx hb hml hown hts hr hlk hnm hsz hP hK hD hA hS ls hl
  subst hsz
  have hown : s.vm.findClass "ReedSets$Solver" = some m.cls := hown
  have hl : lv_has ls 6 [(0, .ref aS), (1, .ref aW)] := hl
  refine lz_Q (fun Q hQ => ?_)
  obtain ⟨A, hAe⟩ : ∃ A : Nat → Prop, A = va_A (wd_So_locateLost aF aF_powers aF_logs aW aW_bytes aW_lost aW_factors aS aS_syndromes aS_locator aS_helper aS_kept aS_evaluator aS_places aS_fixes cI cZ F_powers F_logs W_lostCount W_data W_repairs W_first W_lost S_found S_locator) s.heap.size := ⟨_, rfl⟩
  rw [← hAe] at hD hA hS
  have RET : ∀ (S_locator : Nat → Int32) (H : Heap) (locs : List Loc) (ls : Array Slot) (pc : Nat), decode c_So_locateLost pc = .ok (.return_, 1) → post S_locator → va_P (dC, dI) vwCl (wd_So_locateLost aF aF_powers aF_logs aW aW_bytes aW_lost aW_factors aS aS_syndromes aS_locator aS_helper aS_kept aS_evaluator aS_places aS_fixes cI cZ F_powers F_logs W_lostCount W_data W_repairs W_first W_lost S_found S_locator) H → va_D A (wd_So_locateLost aF aF_powers aF_logs aW aW_bytes aW_lost aW_factors aS aS_syndromes aS_locator aS_helper aS_kept aS_evaluator aS_places aS_fixes cI cZ F_powers F_logs W_lostCount W_data W_repairs W_first W_lost S_found S_locator) → va_S A s.heap H locs → W p l e rm_So_locateLost s m args below meth c H locs 0 0 Q (F0 m pc ls []) := by
    intro S_locator H locs ls pc hd hp h1 h2 h3
    rw [hQ]
    rw [hAe] at h2 h3
    exact mt_retv (S_locator) hx hb hr hlk hd hK h1 h2 h3 hp
  have B107 : ∀ (K19 : (Nat → Int32) → Int32 → Int32 → Prop) (HK19 : ∀ (S_locator : Nat → Int32) (x2 : Int32) (x3 : Int32) (H : Heap) (locs : List Loc) (ls : Array Slot), K19 S_locator x2 x3 → va_P (dC, dI) vwCl (wd_So_locateLost aF aF_powers aF_logs aW aW_bytes aW_lost aW_factors aS aS_syndromes aS_locator aS_helper aS_kept aS_evaluator aS_places aS_fixes cI cZ F_powers F_logs W_lostCount W_data W_repairs W_first W_lost S_found S_locator) H → va_D A (wd_So_locateLost aF aF_powers aF_logs aW aW_bytes aW_lost aW_factors aS aS_syndromes aS_locator aS_helper aS_kept aS_evaluator aS_places aS_fixes cI cZ F_powers F_logs W_lostCount W_data W_repairs W_first W_lost S_found S_locator) → va_S A s.heap H locs → lv_has ls 6 [(0, .ref aS), (1, .ref aW), (2, .int x2), (3, .int x3)] → W p l e rm_So_locateLost s m args below meth c H locs 0 0 Q (F0 m 19 ls [])), ∀ (S_locator : Nat → Int32) (x2 : Int32) (x3 : Int32) (H : Heap) (locs : List Loc) (ls : Array Slot), wp_So_locateLost_b107 F_powers F_logs W_data W_repairs W_lost post K19 S_locator x2 x3 → va_P (dC, dI) vwCl (wd_So_locateLost aF aF_powers aF_logs aW aW_bytes aW_lost aW_factors aS aS_syndromes aS_locator aS_helper aS_kept aS_evaluator aS_places aS_fixes cI cZ F_powers F_logs W_lostCount W_data W_repairs W_first W_lost S_found S_locator) H → va_D A (wd_So_locateLost aF aF_powers aF_logs aW aW_bytes aW_lost aW_factors aS aS_syndromes aS_locator aS_helper aS_kept aS_evaluator aS_places aS_fixes cI cZ F_powers F_logs W_lostCount W_data W_repairs W_first W_lost S_found S_locator) → va_S A s.heap H locs → lv_has ls 6 [(0, .ref aS), (1, .ref aW), (2, .int x2), (3, .int x3)] → W p l e rm_So_locateLost s m args below meth c H locs 0 0 Q (F0 m 107 ls []) := by
    intro K19 HK19 S_locator x2 x3 H locs ls h hP hD hS hl
    obtain ⟨x3_107, ex3_107⟩ : ∃ y : Int32, y = (x3 + (1 : Int32)) := ⟨_, rfl⟩
    have h := h x3_107 ex3_107
    refine lv_iinc (v := x3_107) (lv' := [(3, .int x3_107), (0, .ref aS), (1, .ref aW), (2, .int x2)]) hx hb d_So_locateLost_107 hl (k := 3) rfl (by rw [ex3_107]; rfl) (by decide) rfl (fun ls hl => ?_)
    refine lv_goto (tgt := 19) hx hb d_So_locateLost_110 (by decide) ?_
    exact HK19 S_locator x2 x3_107 H locs ls h hP hD hS (lv_sub hl [1, 2, 3, 0] rfl)
  have B62 : ∀ (K19 : (Nat → Int32) → Int32 → Int32 → Prop) (HK19 : ∀ (S_locator : Nat → Int32) (x2 : Int32) (x3 : Int32) (H : Heap) (locs : List Loc) (ls : Array Slot), K19 S_locator x2 x3 → va_P (dC, dI) vwCl (wd_So_locateLost aF aF_powers aF_logs aW aW_bytes aW_lost aW_factors aS aS_syndromes aS_locator aS_helper aS_kept aS_evaluator aS_places aS_fixes cI cZ F_powers F_logs W_lostCount W_data W_repairs W_first W_lost S_found S_locator) H → va_D A (wd_So_locateLost aF aF_powers aF_logs aW aW_bytes aW_lost aW_factors aS aS_syndromes aS_locator aS_helper aS_kept aS_evaluator aS_places aS_fixes cI cZ F_powers F_logs W_lostCount W_data W_repairs W_first W_lost S_found S_locator) → va_S A s.heap H locs → lv_has ls 6 [(0, .ref aS), (1, .ref aW), (2, .int x2), (3, .int x3)] → W p l e rm_So_locateLost s m args below meth c H locs 0 0 Q (F0 m 19 ls [])) (K62 : (Nat → Int32) → Int32 → Int32 → Int32 → Int32 → Prop) (HK62 : ∀ (S_locator : Nat → Int32) (x2 : Int32) (x3 : Int32) (x4 : Int32) (x5 : Int32) (H : Heap) (locs : List Loc) (ls : Array Slot), K62 S_locator x2 x3 x4 x5 → va_P (dC, dI) vwCl (wd_So_locateLost aF aF_powers aF_logs aW aW_bytes aW_lost aW_factors aS aS_syndromes aS_locator aS_helper aS_kept aS_evaluator aS_places aS_fixes cI cZ F_powers F_logs W_lostCount W_data W_repairs W_first W_lost S_found S_locator) H → va_D A (wd_So_locateLost aF aF_powers aF_logs aW aW_bytes aW_lost aW_factors aS aS_syndromes aS_locator aS_helper aS_kept aS_evaluator aS_places aS_fixes cI cZ F_powers F_logs W_lostCount W_data W_repairs W_first W_lost S_found S_locator) → va_S A s.heap H locs → lv_has ls 6 [(0, .ref aS), (1, .ref aW), (2, .int x2), (3, .int x3), (4, .int x4), (5, .int x5)] → W p l e rm_So_locateLost s m args below meth c H locs 0 0 Q (F0 m 62 ls [])), ∀ (S_locator : Nat → Int32) (x2 : Int32) (x3 : Int32) (x4 : Int32) (x5 : Int32) (H : Heap) (locs : List Loc) (ls : Array Slot), wp_So_locateLost_b62 F_powers F_logs W_data W_repairs W_lost post K19 K62 S_locator x2 x3 x4 x5 → va_P (dC, dI) vwCl (wd_So_locateLost aF aF_powers aF_logs aW aW_bytes aW_lost aW_factors aS aS_syndromes aS_locator aS_helper aS_kept aS_evaluator aS_places aS_fixes cI cZ F_powers F_logs W_lostCount W_data W_repairs W_first W_lost S_found S_locator) H → va_D A (wd_So_locateLost aF aF_powers aF_logs aW aW_bytes aW_lost aW_factors aS aS_syndromes aS_locator aS_helper aS_kept aS_evaluator aS_places aS_fixes cI cZ F_powers F_logs W_lostCount W_data W_repairs W_first W_lost S_found S_locator) → va_S A s.heap H locs → lv_has ls 6 [(0, .ref aS), (1, .ref aW), (2, .int x2), (3, .int x3), (4, .int x4), (5, .int x5)] → W p l e rm_So_locateLost s m args below meth c H locs 0 0 Q (F0 m 62 ls []) := by
    intro K19 HK19 K62 HK62 S_locator x2 x3 x4 x5 H locs ls h hP hD hS hl
    refine lv_iload hx hb d_So_locateLost_62 (lv_at hl 5 rfl) ?_
    refine lv_iconst (v := (1 : Int32)) hx hb d_So_locateLost_64 (by decide) ?_
    refine lv_icmp_lt (tgt := 107) hx hb d_So_locateLost_65 (by decide) (fun g65 => ?_) (fun g65 => ?_)
    · have h := h.1 g65
      exact B107 K19 HK19 S_locator x2 x3 H locs ls h hP hD hS (lv_sub hl [0, 1, 2, 3] rfl)
    · have h := h.2 g65
      refine lv_aload_n hx hb d_So_locateLost_68 rfl (lv_at hl 0 rfl) ?_
      refine va_get (D := (dC, dI)) (ci := 3) (v := .ref aS_locator) (C := "ReedSets$Solver") (T := T_So) (N := 9) hx hb hts in_So hown hK hP 5 rfl rfl 2 (by decide) (hts _ tb_149) (fun _ h9 => h9) rfl d_So_locateLost_69 ?_
      refine lv_iload hx hb d_So_locateLost_72 (lv_at hl 5 rfl) ?_
      refine lv_aload_n hx hb d_So_locateLost_74 rfl (lv_at hl 0 rfl) ?_
      refine va_get (D := (dC, dI)) (ci := 3) (v := .ref aS_locator) (C := "ReedSets$Solver") (T := T_So) (N := 9) hx hb hts in_So hown hK hP 5 rfl rfl 2 (by decide) (hts _ tb_149) (fun _ h9 => h9) rfl d_So_locateLost_75 ?_
      refine lv_iload hx hb d_So_locateLost_78 (lv_at hl 5 rfl) ?_
      obtain ⟨hi, h⟩ := h
      refine va_iald hx hb hK hP 6 0 rfl rfl hi d_So_locateLost_80 ?_
      refine lv_aload_n hx hb d_So_locateLost_81 rfl (lv_at hl 0 rfl) ?_
      refine va_get (D := (dC, dI)) (ci := 3) (v := .ref aF) (C := "ReedSets$Solver") (T := T_So) (N := 9) hx hb hts in_So hown hK hP 5 rfl rfl 0 (by decide) (hts _ tb_147) (fun _ h9 => h9) rfl d_So_locateLost_82 ?_
      refine lv_aload_n hx hb d_So_locateLost_85 rfl (lv_at hl 0 rfl) ?_
      refine va_get (D := (dC, dI)) (ci := 3) (v := .ref aS_locator) (C := "ReedSets$Solver") (T := T_So) (N := 9) hx hb hts in_So hown hK hP 5 rfl rfl 2 (by decide) (hts _ tb_149) (fun _ h9 => h9) rfl d_So_locateLost_86 ?_
      refine lv_iload hx hb d_So_locateLost_89 (lv_at hl 5 rfl) ?_
      refine lv_iconst (v := (1 : Int32)) hx hb d_So_locateLost_91 (by decide) ?_
      refine lv_isub hx hb d_So_locateLost_92 ?_
      obtain ⟨hi, h⟩ := h
      refine va_iald hx hb hK hP 6 0 rfl rfl hi d_So_locateLost_93 ?_
      refine lv_iload hx hb d_So_locateLost_94 (lv_at hl 4 rfl) ?_
      refine mt_i (va_runV (As := [.int (S_locator (x5 - (1 : Int32)).toNatClampNeg), .int x4]) (rest := [.int (S_locator x5.toNatClampNeg), .int x5, .ref aS_locator]) ⟨hx, hb, hml, hown, hts⟩ (ct_Fi_product l dC dI aF aF_powers aF_logs cI cZ F_powers F_logs (S_locator (x5 - (1 : Int32)).toNatClampNeg) x4 _ h _) (tb_cV hts ok_Fi_product tb_411 rfl rfl ⟨Nat.le_of_ble_eq_true rfl, Nat.le_of_ble_eq_true rfl⟩) (mt_preV hK hP hD [.int (S_locator (x5 - (1 : Int32)).toNatClampNeg), .int x4] [0, 1, 2] rfl (by decide) (ci := 1) (q0 := 0) rfl rfl) rfl rfl hl.1 rfl (lv_room (Nat.le_of_ble_eq_true rfl)) d_So_locateLost_96 ⟨Nat.zero_le _, Nat.zero_le _⟩) hP hD hS hA [0, 1, 2] rfl (fun _ => rfl) (fun r_96 u H locs h hP hD hS => ?_)
      have hP : va_P (dC, dI) vwCl (wd_So_locateLost aF aF_powers aF_logs aW aW_bytes aW_lost aW_factors aS aS_syndromes aS_locator aS_helper aS_kept aS_evaluator aS_places aS_fixes cI cZ F_powers F_logs W_lostCount W_data W_repairs W_first W_lost S_found S_locator) H := hP
      have hD : va_D A (wd_So_locateLost aF aF_powers aF_logs aW aW_bytes aW_lost aW_factors aS aS_syndromes aS_locator aS_helper aS_kept aS_evaluator aS_places aS_fixes cI cZ F_powers F_logs W_lostCount W_data W_repairs W_first W_lost S_found S_locator) := hD
      refine lv_ixor hx hb d_So_locateLost_99 ?_
      obtain ⟨hi, h⟩ := h
      refine va_iast hx hb hK hP hD hS 6 0 rfl rfl hi d_So_locateLost_100 (fun H locs hP hD hS => ?_)
      have hP : va_P (dC, dI) vwCl (wd_So_locateLost aF aF_powers aF_logs aW aW_bytes aW_lost aW_factors aS aS_syndromes aS_locator aS_helper aS_kept aS_evaluator aS_places aS_fixes cI cZ F_powers F_logs W_lostCount W_data W_repairs W_first W_lost S_found (upd S_locator x5.toNatClampNeg ((S_locator x5.toNatClampNeg) ^^^ r_96))) H := hP
      have hD : va_D A (wd_So_locateLost aF aF_powers aF_logs aW aW_bytes aW_lost aW_factors aS aS_syndromes aS_locator aS_helper aS_kept aS_evaluator aS_places aS_fixes cI cZ F_powers F_logs W_lostCount W_data W_repairs W_first W_lost S_found (upd S_locator x5.toNatClampNeg ((S_locator x5.toNatClampNeg) ^^^ r_96))) := hD
      obtain ⟨x5_101, ex5_101⟩ : ∃ y : Int32, y = (x5 + (-1 : Int32)) := ⟨_, rfl⟩
      have h := h x5_101 ex5_101
      refine lv_iinc (v := x5_101) (lv' := [(5, .int x5_101), (0, .ref aS), (1, .ref aW), (2, .int x2), (3, .int x3), (4, .int x4)]) hx hb d_So_locateLost_101 hl (k := 5) rfl (by rw [ex5_101]; rfl) (by decide) rfl (fun ls hl => ?_)
      refine lv_goto (tgt := 62) hx hb d_So_locateLost_104 (by decide) ?_
      exact HK62 (upd S_locator x5.toNatClampNeg ((S_locator x5.toNatClampNeg) ^^^ r_96)) x2 x3 x4 x5_101 H locs ls h hP hD hS (lv_sub hl [1, 2, 3, 4, 5, 0] rfl)
  have L62 : ∀ (K19 : (Nat → Int32) → Int32 → Int32 → Prop) (HK19 : ∀ (S_locator : Nat → Int32) (x2 : Int32) (x3 : Int32) (H : Heap) (locs : List Loc) (ls : Array Slot), K19 S_locator x2 x3 → va_P (dC, dI) vwCl (wd_So_locateLost aF aF_powers aF_logs aW aW_bytes aW_lost aW_factors aS aS_syndromes aS_locator aS_helper aS_kept aS_evaluator aS_places aS_fixes cI cZ F_powers F_logs W_lostCount W_data W_repairs W_first W_lost S_found S_locator) H → va_D A (wd_So_locateLost aF aF_powers aF_logs aW aW_bytes aW_lost aW_factors aS aS_syndromes aS_locator aS_helper aS_kept aS_evaluator aS_places aS_fixes cI cZ F_powers F_logs W_lostCount W_data W_repairs W_first W_lost S_found S_locator) → va_S A s.heap H locs → lv_has ls 6 [(0, .ref aS), (1, .ref aW), (2, .int x2), (3, .int x3)] → W p l e rm_So_locateLost s m args below meth c H locs 0 0 Q (F0 m 19 ls [])) (n : Nat), ∀ (S_locator : Nat → Int32) (x2 : Int32) (x3 : Int32) (x4 : Int32) (x5 : Int32) (H : Heap) (locs : List Loc) (ls : Array Slot), wp_So_locateLost_L62 F_powers F_logs W_data W_repairs W_lost post K19 n S_locator x2 x3 x4 x5 → va_P (dC, dI) vwCl (wd_So_locateLost aF aF_powers aF_logs aW aW_bytes aW_lost aW_factors aS aS_syndromes aS_locator aS_helper aS_kept aS_evaluator aS_places aS_fixes cI cZ F_powers F_logs W_lostCount W_data W_repairs W_first W_lost S_found S_locator) H → va_D A (wd_So_locateLost aF aF_powers aF_logs aW aW_bytes aW_lost aW_factors aS aS_syndromes aS_locator aS_helper aS_kept aS_evaluator aS_places aS_fixes cI cZ F_powers F_logs W_lostCount W_data W_repairs W_first W_lost S_found S_locator) → va_S A s.heap H locs → lv_has ls 6 [(0, .ref aS), (1, .ref aW), (2, .int x2), (3, .int x3), (4, .int x4), (5, .int x5)] → W p l e rm_So_locateLost s m args below meth c H locs 0 0 Q (F0 m 62 ls []) := by
    intro K19 HK19 n
    induction n with
    | zero => intro S_locator x2 x3 x4 x5 H locs ls h hP hD hS hl; exact False.elim h
    | succ n ih => intro S_locator x2 x3 x4 x5 H locs ls h hP hD hS hl; exact B62 K19 HK19 (wp_So_locateLost_L62 F_powers F_logs W_data W_repairs W_lost post K19 n) ih S_locator x2 x3 x4 x5 H locs ls h hP hD hS hl
  have B113 : ∀ (S_locator : Nat → Int32) (H : Heap) (locs : List Loc) (ls : Array Slot), wp_So_locateLost_b113 F_powers F_logs W_data W_repairs W_lost post  S_locator → va_P (dC, dI) vwCl (wd_So_locateLost aF aF_powers aF_logs aW aW_bytes aW_lost aW_factors aS aS_syndromes aS_locator aS_helper aS_kept aS_evaluator aS_places aS_fixes cI cZ F_powers F_logs W_lostCount W_data W_repairs W_first W_lost S_found S_locator) H → va_D A (wd_So_locateLost aF aF_powers aF_logs aW aW_bytes aW_lost aW_factors aS aS_syndromes aS_locator aS_helper aS_kept aS_evaluator aS_places aS_fixes cI cZ F_powers F_logs W_lostCount W_data W_repairs W_first W_lost S_found S_locator) → va_S A s.heap H locs → lv_has ls 6 [] → W p l e rm_So_locateLost s m args below meth c H locs 0 0 Q (F0 m 113 ls []) := by
    intro  S_locator H locs ls h hP hD hS hl
    exact RET S_locator H locs ls 113 d_So_locateLost_113 h hP hD hS
  have B19 : ∀ (K19 : (Nat → Int32) → Int32 → Int32 → Prop) (HK19 : ∀ (S_locator : Nat → Int32) (x2 : Int32) (x3 : Int32) (H : Heap) (locs : List Loc) (ls : Array Slot), K19 S_locator x2 x3 → va_P (dC, dI) vwCl (wd_So_locateLost aF aF_powers aF_logs aW aW_bytes aW_lost aW_factors aS aS_syndromes aS_locator aS_helper aS_kept aS_evaluator aS_places aS_fixes cI cZ F_powers F_logs W_lostCount W_data W_repairs W_first W_lost S_found S_locator) H → va_D A (wd_So_locateLost aF aF_powers aF_logs aW aW_bytes aW_lost aW_factors aS aS_syndromes aS_locator aS_helper aS_kept aS_evaluator aS_places aS_fixes cI cZ F_powers F_logs W_lostCount W_data W_repairs W_first W_lost S_found S_locator) → va_S A s.heap H locs → lv_has ls 6 [(0, .ref aS), (1, .ref aW), (2, .int x2), (3, .int x3)] → W p l e rm_So_locateLost s m args below meth c H locs 0 0 Q (F0 m 19 ls [])), ∀ (S_locator : Nat → Int32) (x2 : Int32) (x3 : Int32) (H : Heap) (locs : List Loc) (ls : Array Slot), wp_So_locateLost_b19 F_powers F_logs W_data W_repairs W_lost post K19 S_locator x2 x3 → va_P (dC, dI) vwCl (wd_So_locateLost aF aF_powers aF_logs aW aW_bytes aW_lost aW_factors aS aS_syndromes aS_locator aS_helper aS_kept aS_evaluator aS_places aS_fixes cI cZ F_powers F_logs W_lostCount W_data W_repairs W_first W_lost S_found S_locator) H → va_D A (wd_So_locateLost aF aF_powers aF_logs aW aW_bytes aW_lost aW_factors aS aS_syndromes aS_locator aS_helper aS_kept aS_evaluator aS_places aS_fixes cI cZ F_powers F_logs W_lostCount W_data W_repairs W_first W_lost S_found S_locator) → va_S A s.heap H locs → lv_has ls 6 [(0, .ref aS), (1, .ref aW), (2, .int x2), (3, .int x3)] → W p l e rm_So_locateLost s m args below meth c H locs 0 0 Q (F0 m 19 ls []) := by
    intro K19 HK19 S_locator x2 x3 H locs ls h hP hD hS hl
    refine lv_iload_n hx hb d_So_locateLost_19 rfl (lv_at hl 3 rfl) ?_
    refine lv_aload_n hx hb d_So_locateLost_20 rfl (lv_at hl 1 rfl) ?_
    refine mt_i (va_runV (As := []) (rest := [.int x3]) ⟨hx, hb, hml, hown, hts⟩ (ct_Wo_size l dC dI aW aF aW_bytes aW_lost aW_factors cI cZ W_lostCount W_data W_repairs W_first _ h _) (tb_cV hts ok_Wo_size tb_405 rfl rfl ⟨Nat.le_of_ble_eq_true rfl, Nat.le_of_ble_eq_true rfl⟩) (mt_preV hK hP hD [] [3] rfl (by decide) (ci := 5) (q0 := 3) rfl rfl) rfl rfl hl.1 rfl (lv_room (Nat.le_of_ble_eq_true rfl)) d_So_locateLost_21 ⟨Nat.zero_le _, Nat.zero_le _⟩) hP hD hS hA [3] rfl (fun _ => rfl) (fun r_21 u H locs h hP hD hS => ?_)
    have hP : va_P (dC, dI) vwCl (wd_So_locateLost aF aF_powers aF_logs aW aW_bytes aW_lost aW_factors aS aS_syndromes aS_locator aS_helper aS_kept aS_evaluator aS_places aS_fixes cI cZ F_powers F_logs W_lostCount W_data W_repairs W_first W_lost S_found S_locator) H := hP
    have hD : va_D A (wd_So_locateLost aF aF_powers aF_logs aW aW_bytes aW_lost aW_factors aS aS_syndromes aS_locator aS_helper aS_kept aS_evaluator aS_places aS_fixes cI cZ F_powers F_logs W_lostCount W_data W_repairs W_first W_lost S_found S_locator) := hD
    refine lv_icmp_ge (tgt := 113) hx hb d_So_locateLost_24 (by decide) (fun g24 => ?_) (fun g24 => ?_)
    · have h := h.1 g24
      exact B113  S_locator H locs ls h hP hD hS (lv_sub hl [] rfl)
    · have h := h.2 g24
      refine lv_iload_n hx hb d_So_locateLost_27 rfl (lv_at hl 2 rfl) ?_
      refine lv_bipush (v := (40 : Int32)) hx hb d_So_locateLost_28 (by decide) ?_
      refine lv_icmp_ge (tgt := 113) hx hb d_So_locateLost_30 (by decide) (fun g30 => ?_) (fun g30 => ?_)
      · have h := h.1 g30
        exact B113  S_locator H locs ls h hP hD hS (lv_sub hl [] rfl)
      · have h := h.2 g30
        refine lv_aload_n hx hb d_So_locateLost_33 rfl (lv_at hl 1 rfl) ?_
        refine va_get (D := (dC, dI)) (ci := 5) (v := .ref aW_lost) (C := "ReedSets$Word") (T := T_Wo) (N := 8) hx hb hts in_Wo hown hK hP 3 rfl rfl 2 (by decide) (hts _ tb_108) (fun _ h9 => h9) rfl d_So_locateLost_34 ?_
        refine lv_iload_n hx hb d_So_locateLost_37 rfl (lv_at hl 3 rfl) ?_
        obtain ⟨hi, h⟩ := h
        refine va_zald hx hb hK hP 4 1 rfl rfl hi d_So_locateLost_38 ?_
        refine lv_if_eq (tgt := 107) hx hb d_So_locateLost_39 (by decide) (fun g39 => ?_) (fun g39 => ?_)
        · have h := h.1 g39
          exact B107 K19 HK19 S_locator x2 x3 H locs ls h hP hD hS (lv_sub hl [0, 1, 2, 3] rfl)
        · have h := h.2 g39
          obtain ⟨x2_42, ex2_42⟩ : ∃ y : Int32, y = (x2 + (1 : Int32)) := ⟨_, rfl⟩
          have h := h x2_42 ex2_42
          refine lv_iinc (v := x2_42) (lv' := [(2, .int x2_42), (0, .ref aS), (1, .ref aW), (3, .int x3)]) hx hb d_So_locateLost_42 hl (k := 2) rfl (by rw [ex2_42]; rfl) (by decide) rfl (fun ls hl => ?_)
          refine lv_aload_n hx hb d_So_locateLost_45 rfl (lv_at hl 1 rfl) ?_
          refine va_get (D := (dC, dI)) (ci := 3) (v := .ref aF) (C := "ReedSets$Solver") (T := T_So) (N := 9) hx hb hts in_So hown hK hP 5 rfl rfl 0 (by decide) (hts _ tb_147) (fun _ h9 => h9) rfl d_So_locateLost_46 ?_
          refine lv_aload_n hx hb d_So_locateLost_49 rfl (lv_at hl 2 rfl) ?_
          refine lv_iload_n hx hb d_So_locateLost_50 rfl (lv_at hl 3 rfl) ?_
          refine mt_i (va_runV (As := [.int x3]) (rest := [.ref aF]) ⟨hx, hb, hml, hown, hts⟩ (ct_Wo_powerAt l dC dI aW aF aW_bytes aW_lost aW_factors cI cZ W_lostCount W_data W_repairs W_first x3 _ h _) (tb_cV hts ok_Wo_powerAt tb_406 rfl rfl ⟨Nat.le_of_ble_eq_true rfl, Nat.le_of_ble_eq_true rfl⟩) (mt_preV hK hP hD [.int x3] [3] rfl (by decide) (ci := 5) (q0 := 3) rfl rfl) rfl rfl hl.1 rfl (lv_room (Nat.le_of_ble_eq_true rfl)) d_So_locateLost_51 ⟨Nat.zero_le _, Nat.zero_le _⟩) hP hD hS hA [3] rfl (fun _ => rfl) (fun r_51 u H locs h hP hD hS => ?_)
          have hP : va_P (dC, dI) vwCl (wd_So_locateLost aF aF_powers aF_logs aW aW_bytes aW_lost aW_factors aS aS_syndromes aS_locator aS_helper aS_kept aS_evaluator aS_places aS_fixes cI cZ F_powers F_logs W_lostCount W_data W_repairs W_first W_lost S_found S_locator) H := hP
          have hD : va_D A (wd_So_locateLost aF aF_powers aF_logs aW aW_bytes aW_lost aW_factors aS aS_syndromes aS_locator aS_helper aS_kept aS_evaluator aS_places aS_fixes cI cZ F_powers F_logs W_lostCount W_data W_repairs W_first W_lost S_found S_locator) := hD
          refine mt_i (va_runV (As := [.int r_51]) (rest := []) ⟨hx, hb, hml, hown, hts⟩ (ct_Fi_powerOfTwo l dC dI aF aF_powers aF_logs cI cZ F_powers r_51 _ h _) (tb_cV hts ok_Fi_powerOfTwo tb_410 rfl rfl ⟨Nat.le_of_ble_eq_true rfl, Nat.le_of_ble_eq_true rfl⟩) (mt_preV hK hP hD [.int r_51] [0, 1] rfl (by decide) (ci := 1) (q0 := 0) rfl rfl) rfl rfl hl.1 rfl (lv_room (Nat.le_of_ble_eq_true rfl)) d_So_locateLost_54 ⟨Nat.zero_le _, Nat.zero_le _⟩) hP hD hS hA [0, 1] rfl (fun _ => rfl) (fun r_54 u H locs h hP hD hS => ?_)
          have hP : va_P (dC, dI) vwCl (wd_So_locateLost aF aF_powers aF_logs aW aW_bytes aW_lost aW_factors aS aS_syndromes aS_locator aS_helper aS_kept aS_evaluator aS_places aS_fixes cI cZ F_powers F_logs W_lostCount W_data W_repairs W_first W_lost S_found S_locator) H := hP
          have hD : va_D A (wd_So_locateLost aF aF_powers aF_logs aW aW_bytes aW_lost aW_factors aS aS_syndromes aS_locator aS_helper aS_kept aS_evaluator aS_places aS_fixes cI cZ F_powers F_logs W_lostCount W_data W_repairs W_first W_lost S_found S_locator) := hD
          refine lv_istore (lv' := [(4, .int r_54), (2, .int x2_42), (0, .ref aS), (1, .ref aW), (3, .int x3)]) hx hb d_So_locateLost_57 hl (by decide) rfl (fun ls hl => ?_)
          refine lv_iload_n hx hb d_So_locateLost_59 rfl (lv_at hl 1 rfl) ?_
          refine lv_istore (lv' := [(5, .int x2_42), (4, .int r_54), (2, .int x2_42), (0, .ref aS), (1, .ref aW), (3, .int x3)]) hx hb d_So_locateLost_60 hl (by decide) rfl (fun ls hl => ?_)
          obtain ⟨n, h⟩ := h
          exact L62 K19 HK19 n S_locator x2_42 x3 r_54 x2_42 H locs ls h hP hD hS (lv_sub hl [3, 4, 2, 5, 1, 0] rfl)
  have L19 : ∀  (n : Nat), ∀ (S_locator : Nat → Int32) (x2 : Int32) (x3 : Int32) (H : Heap) (locs : List Loc) (ls : Array Slot), wp_So_locateLost_L19 F_powers F_logs W_data W_repairs W_lost post  n S_locator x2 x3 → va_P (dC, dI) vwCl (wd_So_locateLost aF aF_powers aF_logs aW aW_bytes aW_lost aW_factors aS aS_syndromes aS_locator aS_helper aS_kept aS_evaluator aS_places aS_fixes cI cZ F_powers F_logs W_lostCount W_data W_repairs W_first W_lost S_found S_locator) H → va_D A (wd_So_locateLost aF aF_powers aF_logs aW aW_bytes aW_lost aW_factors aS aS_syndromes aS_locator aS_helper aS_kept aS_evaluator aS_places aS_fixes cI cZ F_powers F_logs W_lostCount W_data W_repairs W_first W_lost S_found S_locator) → va_S A s.heap H locs → lv_has ls 6 [(0, .ref aS), (1, .ref aW), (2, .int x2), (3, .int x3)] → W p l e rm_So_locateLost s m args below meth c H locs 0 0 Q (F0 m 19 ls []) := by
    intro  n
    induction n with
    | zero => intro S_locator x2 x3 H locs ls h hP hD hS hl; exact False.elim h
    | succ n ih => intro S_locator x2 x3 H locs ls h hP hD hS hl; exact B19  (wp_So_locateLost_L19 F_powers F_logs W_data W_repairs W_lost post  n) ih S_locator x2 x3 H locs ls h hP hD hS hl
  obtain ⟨H, hH⟩ : ∃ H : Heap, H = s.heap := ⟨_, rfl⟩
  obtain ⟨locs, hlo⟩ : ∃ x : List Loc, x = [] := ⟨_, rfl⟩
  have hS : va_S A s.heap H locs := by rw [hH, hlo]; exact hS
  rw [← hH] at hP
  rw [← hlo]
  show W p l e rm_So_locateLost s m args below meth c s.heap locs 0 0 Q (F0 m 0 ls [])
  rw [← hH]
  refine lv_aload_n hx hb d_So_locateLost_0 rfl (lv_at hl 0 rfl) ?_
  refine va_get (D := (dC, dI)) (ci := 3) (v := .ref aS_locator) (C := "ReedSets$Solver") (T := T_So) (N := 9) hx hb hts in_So hown hK hP 5 rfl rfl 2 (by decide) (hts _ tb_149) (fun _ h9 => h9) rfl d_So_locateLost_1 ?_
  refine lv_iconst (v := (0 : Int32)) hx hb d_So_locateLost_4 (by decide) ?_
  refine mt_v (va_runS (As := [.ref aS_locator, .int (0 : Int32)]) (rest := []) ⟨hx, hb, hml, hown, hts⟩ (ct_Arr_fill2 l dC dI aS_locator cI cZ 41 S_locator (0 : Int32) _ h _) (tb_cS hts ok_Arr_fill2 tb_404 rfl rfl ⟨Nat.le_of_ble_eq_true rfl, Nat.le_of_ble_eq_true rfl⟩) (mt_preS hK hP hD [.ref aS_locator, .int (0 : Int32)] [6] rfl (by decide)) rfl rfl hl.1 rfl (lv_room (Nat.le_of_ble_eq_true rfl)) d_So_locateLost_5 ⟨Nat.zero_le _, Nat.zero_le _⟩) hP hD hS hA [6] rfl (fun _ => rfl) (fun u H locs h hP hD hS => ?_)
  obtain ⟨S_locator_5, rfl⟩ : ∃ z, z = u := ⟨_, rfl⟩
  have hP : va_P (dC, dI) vwCl (wd_So_locateLost aF aF_powers aF_logs aW aW_bytes aW_lost aW_factors aS aS_syndromes aS_locator aS_helper aS_kept aS_evaluator aS_places aS_fixes cI cZ F_powers F_logs W_lostCount W_data W_repairs W_first W_lost S_found S_locator_5) H := hP
  have hD : va_D A (wd_So_locateLost aF aF_powers aF_logs aW aW_bytes aW_lost aW_factors aS aS_syndromes aS_locator aS_helper aS_kept aS_evaluator aS_places aS_fixes cI cZ F_powers F_logs W_lostCount W_data W_repairs W_first W_lost S_found S_locator_5) := hD
  refine lv_aload_n hx hb d_So_locateLost_8 rfl (lv_at hl 0 rfl) ?_
  refine va_get (D := (dC, dI)) (ci := 3) (v := .ref aS_locator) (C := "ReedSets$Solver") (T := T_So) (N := 9) hx hb hts in_So hown hK hP 5 rfl rfl 2 (by decide) (hts _ tb_149) (fun _ h9 => h9) rfl d_So_locateLost_9 ?_
  refine lv_iconst (v := (0 : Int32)) hx hb d_So_locateLost_12 (by decide) ?_
  refine lv_iconst (v := (1 : Int32)) hx hb d_So_locateLost_13 (by decide) ?_
  obtain ⟨hi, h⟩ := h
  refine va_iast hx hb hK hP hD hS 6 0 rfl rfl hi d_So_locateLost_14 (fun H locs hP hD hS => ?_)
  have hP : va_P (dC, dI) vwCl (wd_So_locateLost aF aF_powers aF_logs aW aW_bytes aW_lost aW_factors aS aS_syndromes aS_locator aS_helper aS_kept aS_evaluator aS_places aS_fixes cI cZ F_powers F_logs W_lostCount W_data W_repairs W_first W_lost S_found (upd S_locator_5 (0 : Int32).toNatClampNeg (1 : Int32))) H := hP
  have hD : va_D A (wd_So_locateLost aF aF_powers aF_logs aW aW_bytes aW_lost aW_factors aS aS_syndromes aS_locator aS_helper aS_kept aS_evaluator aS_places aS_fixes cI cZ F_powers F_logs W_lostCount W_data W_repairs W_first W_lost S_found (upd S_locator_5 (0 : Int32).toNatClampNeg (1 : Int32))) := hD
  refine lv_iconst (v := (0 : Int32)) hx hb d_So_locateLost_15 (by decide) ?_
  refine lv_istore_n (lv' := [(2, .int (0 : Int32)), (0, .ref aS), (1, .ref aW)]) hx hb d_So_locateLost_16 rfl hl (by decide) rfl (fun ls hl => ?_)
  refine lv_iconst (v := (0 : Int32)) hx hb d_So_locateLost_17 (by decide) ?_
  refine lv_istore_n (lv' := [(3, .int (0 : Int32)), (2, .int (0 : Int32)), (0, .ref aS), (1, .ref aW)]) hx hb d_So_locateLost_18 rfl hl (by decide) rfl (fun ls hl => ?_)
  obtain ⟨n, h⟩ := h
  exact L19  n (upd S_locator_5 (0 : Int32).toNatClampNeg (1 : Int32)) (0 : Int32) (0 : Int32) H locs ls h hP hD hS (lv_sub hl [2, 3, 1, 0] rfl)
abbrev wd_So_discrepancy (aF aF_powers aF_logs aS aS_syndromes aS_locator aS_helper aS_kept aS_evaluator aS_places aS_fixes : Nat) (cI cZ : ClassId) (F_powers : Nat → Int32) (F_logs : Nat → Int32) (S_found : Int32) (S_syndromes : Nat → Int32) (S_locator : Nat → Int32) : va_W := [(aF, .inr (1, [.ref aF_powers, .ref aF_logs])), (aF_powers, .inl (cI, 512, .inl F_powers)), (aF_logs, .inl (cI, 256, .inl F_logs)), (aS, .inr (3, [.ref aF, .ref aS_syndromes, .ref aS_locator, .ref aS_helper, .ref aS_kept, .ref aS_evaluator, .ref aS_places, .ref aS_fixes, .int S_found])), (aS_syndromes, .inl (cI, 40, .inl S_syndromes)), (aS_locator, .inl (cI, 41, .inl S_locator))]
def wp_So_discrepancy_b51 (F_powers : Nat → Int32) (F_logs : Nat → Int32) (S_syndromes : Nat → Int32) (S_locator : Nat → Int32) (post : Int32 → Prop)  (x3 : Int32) : Prop := post x3
def wp_So_discrepancy_b5 (F_powers : Nat → Int32) (F_logs : Nat → Int32) (S_syndromes : Nat → Int32) (S_locator : Nat → Int32) (post : Int32 → Prop) (K5 : Int32 → Int32 → Int32 → Int32 → Prop) (x1 : Int32) (x2 : Int32) (x3 : Int32) (x4 : Int32) : Prop := (x2 < x4 → (wp_So_discrepancy_b51 F_powers F_logs S_syndromes S_locator post  x3)) ∧ (¬ x2 < x4 → ((x1 ≤ x4 → (wp_So_discrepancy_b51 F_powers F_logs S_syndromes S_locator post  x3)) ∧ (¬ x1 ≤ x4 → (vp_in x4 41 ∧ (vp_in ((x1 - (1 : Int32)) - x4) 40 ∧ (wp_Fi_product F_powers F_logs (S_locator x4.toNatClampNeg) (S_syndromes ((x1 - (1 : Int32)) - x4).toNatClampNeg) (fun r_40 => (∀ x3_44 : Int32, x3_44 = (x3 ^^^ r_40) → (∀ x4_45 : Int32, x4_45 = (x4 + (1 : Int32)) → (K5 x1 x2 x3_44 x4_45))))))))))
def wp_So_discrepancy_L5 (F_powers : Nat → Int32) (F_logs : Nat → Int32) (S_syndromes : Nat → Int32) (S_locator : Nat → Int32) (post : Int32 → Prop)  : Nat → Int32 → Int32 → Int32 → Int32 → Prop
  | 0 => fun _ _ _ _ => False
  | n + 1 => wp_So_discrepancy_b5 F_powers F_logs S_syndromes S_locator post (wp_So_discrepancy_L5 F_powers F_logs S_syndromes S_locator post n)
def wp_So_discrepancy (F_powers : Nat → Int32) (F_logs : Nat → Int32) (S_syndromes : Nat → Int32) (S_locator : Nat → Int32) (p1 : Int32) (p2 : Int32) (post : Int32 → Prop) : Prop := ∃ n : Nat, wp_So_discrepancy_L5 F_powers F_logs S_syndromes S_locator post  n p1 p2 (0 : Int32) (0 : Int32)
abbrev rm_So_discrepancy : Room := { frames := 1, cells := 0, slots := 0, locals := 22 }
set_option maxHeartbeats 4000000 in
set_option maxRecDepth 100000 in
theorem ct_So_discrepancy (l : Launch) (dC : Nat → ClassId) (dI : Nat → Nat → Nat) (aF aF_powers aF_logs aS aS_syndromes aS_locator aS_helper aS_kept aS_evaluator aS_places aS_fixes : Nat) (cI cZ : ClassId) (F_powers : Nat → Int32) (F_logs : Nat → Int32) (S_found : Int32) (S_syndromes : Nat → Int32) (S_locator : Nat → Int32) (p1 : Int32) (p2 : Int32) (post : Int32 → Prop) (h : wp_So_discrepancy F_powers F_logs S_syndromes S_locator p1 p2 post) (sz : Nat) : Met l y_So_discrepancy (Cond.code y_So_discrepancy c_So_discrepancy 5 (some .int) :: tb) rm_So_discrepancy (mt_P (dC, dI) vwCl [(cI, .int), (cZ, .boolean)] [.ref aS, .int p1, .int p2] (wd_So_discrepancy aF aF_powers aF_logs aS aS_syndromes aS_locator aS_helper aS_kept aS_evaluator aS_places aS_fixes cI cZ F_powers F_logs S_found S_syndromes S_locator) sz) (va_Qi (fun (r : Int32) (u : Unit) => post r) (mt_B (dC, dI) vwCl [(cI, .int), (cZ, .boolean)] (wd_So_discrepancy aF aF_powers aF_logs aS aS_syndromes aS_locator aS_helper aS_kept aS_evaluator aS_places aS_fixes cI cZ F_powers F_logs S_found S_syndromes S_locator) sz (fun u : Unit => wd_So_discrepancy aF aF_powers aF_logs aS aS_syndromes aS_locator aS_helper aS_kept aS_evaluator aS_places aS_fixes cI cZ F_powers F_logs S_found S_syndromes S_locator)) (va_A (wd_So_discrepancy aF aF_powers aF_logs aS aS_syndromes aS_locator aS_helper aS_kept aS_evaluator aS_places aS_fixes cI cZ F_powers F_logs S_found S_syndromes S_locator) sz)) 0 0 (va_A (wd_So_discrepancy aF aF_powers aF_logs aS aS_syndromes aS_locator aS_helper aS_kept aS_evaluator aS_places aS_fixes cI cZ F_powers F_logs S_found S_syndromes S_locator) sz) := by
  refine mt_bd (by decide +kernel) (Nat.le_of_ble_eq_true rfl) ?_
  intro p e s m args below meth c hx hb hml hown hts hr hlk hnm hsz hP hK hD hA hS ls hl
  subst hsz
  have hown : s.vm.findClass "ReedSets$Solver" = some m.cls := hown
  have hl : lv_has ls 5 [(0, .ref aS), (1, .int p1), (2, .int p2)] := hl
  refine lz_Q (fun Q hQ => ?_)
  obtain ⟨A, hAe⟩ : ∃ A : Nat → Prop, A = va_A (wd_So_discrepancy aF aF_powers aF_logs aS aS_syndromes aS_locator aS_helper aS_kept aS_evaluator aS_places aS_fixes cI cZ F_powers F_logs S_found S_syndromes S_locator) s.heap.size := ⟨_, rfl⟩
  rw [← hAe] at hD hA hS
  have RET : ∀ (v : Int32)  (H : Heap) (locs : List Loc) (ls : Array Slot) (pc : Nat), decode c_So_discrepancy pc = .ok (.ireturn, 1) → post v  → va_P (dC, dI) vwCl (wd_So_discrepancy aF aF_powers aF_logs aS aS_syndromes aS_locator aS_helper aS_kept aS_evaluator aS_places aS_fixes cI cZ F_powers F_logs S_found S_syndromes S_locator) H → va_D A (wd_So_discrepancy aF aF_powers aF_logs aS aS_syndromes aS_locator aS_helper aS_kept aS_evaluator aS_places aS_fixes cI cZ F_powers F_logs S_found S_syndromes S_locator) → va_S A s.heap H locs → W p l e rm_So_discrepancy s m args below meth c H locs 0 0 Q (F0 m pc ls [.int v]) := by
    intro v  H locs ls pc hd hp h1 h2 h3
    rw [hQ]
    rw [hAe] at h2 h3
    exact mt_reti () hx hb hr hlk hd hK h1 h2 h3 hp
  have B51 : ∀ (x3 : Int32) (H : Heap) (locs : List Loc) (ls : Array Slot), wp_So_discrepancy_b51 F_powers F_logs S_syndromes S_locator post  x3 → va_P (dC, dI) vwCl (wd_So_discrepancy aF aF_powers aF_logs aS aS_syndromes aS_locator aS_helper aS_kept aS_evaluator aS_places aS_fixes cI cZ F_powers F_logs S_found S_syndromes S_locator) H → va_D A (wd_So_discrepancy aF aF_powers aF_logs aS aS_syndromes aS_locator aS_helper aS_kept aS_evaluator aS_places aS_fixes cI cZ F_powers F_logs S_found S_syndromes S_locator) → va_S A s.heap H locs → lv_has ls 5 [(3, .int x3)] → W p l e rm_So_discrepancy s m args below meth c H locs 0 0 Q (F0 m 51 ls []) := by
    intro  x3 H locs ls h hP hD hS hl
    refine lv_iload_n hx hb d_So_discrepancy_51 rfl (lv_at hl 0 rfl) ?_
    exact RET x3 H locs ls 52 d_So_discrepancy_52 h hP hD hS
  have B5 : ∀ (K5 : Int32 → Int32 → Int32 → Int32 → Prop) (HK5 : ∀ (x1 : Int32) (x2 : Int32) (x3 : Int32) (x4 : Int32) (H : Heap) (locs : List Loc) (ls : Array Slot), K5 x1 x2 x3 x4 → va_P (dC, dI) vwCl (wd_So_discrepancy aF aF_powers aF_logs aS aS_syndromes aS_locator aS_helper aS_kept aS_evaluator aS_places aS_fixes cI cZ F_powers F_logs S_found S_syndromes S_locator) H → va_D A (wd_So_discrepancy aF aF_powers aF_logs aS aS_syndromes aS_locator aS_helper aS_kept aS_evaluator aS_places aS_fixes cI cZ F_powers F_logs S_found S_syndromes S_locator) → va_S A s.heap H locs → lv_has ls 5 [(0, .ref aS), (1, .int x1), (2, .int x2), (3, .int x3), (4, .int x4)] → W p l e rm_So_discrepancy s m args below meth c H locs 0 0 Q (F0 m 5 ls [])), ∀ (x1 : Int32) (x2 : Int32) (x3 : Int32) (x4 : Int32) (H : Heap) (locs : List Loc) (ls : Array Slot), wp_So_discrepancy_b5 F_powers F_logs S_syndromes S_locator post K5 x1 x2 x3 x4 → va_P (dC, dI) vwCl (wd_So_discrepancy aF aF_powers aF_logs aS aS_syndromes aS_locator aS_helper aS_kept aS_evaluator aS_places aS_fixes cI cZ F_powers F_logs S_found S_syndromes S_locator) H → va_D A (wd_So_discrepancy aF aF_powers aF_logs aS aS_syndromes aS_locator aS_helper aS_kept aS_evaluator aS_places aS_fixes cI cZ F_powers F_logs S_found S_syndromes S_locator) → va_S A s.heap H locs → lv_has ls 5 [(0, .ref aS), (1, .int x1), (2, .int x2), (3, .int x3), (4, .int x4)] → W p l e rm_So_discrepancy s m args below meth c H locs 0 0 Q (F0 m 5 ls []) := by
    intro K5 HK5 x1 x2 x3 x4 H locs ls h hP hD hS hl
    refine lv_iload hx hb d_So_discrepancy_5 (lv_at hl 4 rfl) ?_
    refine lv_iload_n hx hb d_So_discrepancy_7 rfl (lv_at hl 2 rfl) ?_
    refine lv_icmp_gt (tgt := 51) hx hb d_So_discrepancy_8 (by decide) (fun g8 => ?_) (fun g8 => ?_)
    · have h := h.1 g8
      exact B51  x3 H locs ls h hP hD hS (lv_sub hl [3] rfl)
    · have h := h.2 g8
      refine lv_iload hx hb d_So_discrepancy_11 (lv_at hl 4 rfl) ?_
      refine lv_iload_n hx hb d_So_discrepancy_13 rfl (lv_at hl 1 rfl) ?_
      refine lv_icmp_ge (tgt := 51) hx hb d_So_discrepancy_14 (by decide) (fun g14 => ?_) (fun g14 => ?_)
      · have h := h.1 g14
        exact B51  x3 H locs ls h hP hD hS (lv_sub hl [3] rfl)
      · have h := h.2 g14
        refine lv_iload_n hx hb d_So_discrepancy_17 rfl (lv_at hl 3 rfl) ?_
        refine lv_aload_n hx hb d_So_discrepancy_18 rfl (lv_at hl 0 rfl) ?_
        refine va_get (D := (dC, dI)) (ci := 3) (v := .ref aF) (C := "ReedSets$Solver") (T := T_So) (N := 9) hx hb hts in_So hown hK hP 3 rfl rfl 0 (by decide) (hts _ tb_147) (fun _ h9 => h9) rfl d_So_discrepancy_19 ?_
        refine lv_aload_n hx hb d_So_discrepancy_22 rfl (lv_at hl 0 rfl) ?_
        refine va_get (D := (dC, dI)) (ci := 3) (v := .ref aS_locator) (C := "ReedSets$Solver") (T := T_So) (N := 9) hx hb hts in_So hown hK hP 3 rfl rfl 2 (by decide) (hts _ tb_149) (fun _ h9 => h9) rfl d_So_discrepancy_23 ?_
        refine lv_iload hx hb d_So_discrepancy_26 (lv_at hl 4 rfl) ?_
        obtain ⟨hi, h⟩ := h
        refine va_iald hx hb hK hP 5 0 rfl rfl hi d_So_discrepancy_28 ?_
        refine lv_aload_n hx hb d_So_discrepancy_29 rfl (lv_at hl 0 rfl) ?_
        refine va_get (D := (dC, dI)) (ci := 3) (v := .ref aS_syndromes) (C := "ReedSets$Solver") (T := T_So) (N := 9) hx hb hts in_So hown hK hP 3 rfl rfl 1 (by decide) (hts _ tb_148) (fun _ h9 => h9) rfl d_So_discrepancy_30 ?_
        refine lv_iload_n hx hb d_So_discrepancy_33 rfl (lv_at hl 1 rfl) ?_
        refine lv_iconst (v := (1 : Int32)) hx hb d_So_discrepancy_34 (by decide) ?_
        refine lv_isub hx hb d_So_discrepancy_35 ?_
        refine lv_iload hx hb d_So_discrepancy_36 (lv_at hl 4 rfl) ?_
        refine lv_isub hx hb d_So_discrepancy_38 ?_
        obtain ⟨hi, h⟩ := h
        refine va_iald hx hb hK hP 4 0 rfl rfl hi d_So_discrepancy_39 ?_
        refine mt_i (va_runV (As := [.int (S_locator x4.toNatClampNeg), .int (S_syndromes ((x1 - (1 : Int32)) - x4).toNatClampNeg)]) (rest := [.int x3]) ⟨hx, hb, hml, hown, hts⟩ (ct_Fi_product l dC dI aF aF_powers aF_logs cI cZ F_powers F_logs (S_locator x4.toNatClampNeg) (S_syndromes ((x1 - (1 : Int32)) - x4).toNatClampNeg) _ h _) (tb_cV hts ok_Fi_product tb_411 rfl rfl ⟨Nat.le_of_ble_eq_true rfl, Nat.le_of_ble_eq_true rfl⟩) (mt_preV hK hP hD [.int (S_locator x4.toNatClampNeg), .int (S_syndromes ((x1 - (1 : Int32)) - x4).toNatClampNeg)] [0, 1, 2] rfl (by decide) (ci := 1) (q0 := 0) rfl rfl) rfl rfl hl.1 rfl (lv_room (Nat.le_of_ble_eq_true rfl)) d_So_discrepancy_40 ⟨Nat.zero_le _, Nat.zero_le _⟩) hP hD hS hA [0, 1, 2] rfl (fun _ => rfl) (fun r_40 u H locs h hP hD hS => ?_)
        have hP : va_P (dC, dI) vwCl (wd_So_discrepancy aF aF_powers aF_logs aS aS_syndromes aS_locator aS_helper aS_kept aS_evaluator aS_places aS_fixes cI cZ F_powers F_logs S_found S_syndromes S_locator) H := hP
        have hD : va_D A (wd_So_discrepancy aF aF_powers aF_logs aS aS_syndromes aS_locator aS_helper aS_kept aS_evaluator aS_places aS_fixes cI cZ F_powers F_logs S_found S_syndromes S_locator) := hD
        refine lv_ixor hx hb d_So_discrepancy_43 ?_
        refine lv_topi (fun x3_44 ex3_44 => ?_)
        have h := h x3_44 ex3_44
        refine lv_istore_n (lv' := [(3, .int x3_44), (0, .ref aS), (1, .int x1), (2, .int x2), (4, .int x4)]) hx hb d_So_discrepancy_44 rfl hl (by decide) rfl (fun ls hl => ?_)
        obtain ⟨x4_45, ex4_45⟩ : ∃ y : Int32, y = (x4 + (1 : Int32)) := ⟨_, rfl⟩
        have h := h x4_45 ex4_45
        refine lv_iinc (v := x4_45) (lv' := [(4, .int x4_45), (3, .int x3_44), (0, .ref aS), (1, .int x1), (2, .int x2)]) hx hb d_So_discrepancy_45 hl (k := 4) rfl (by rw [ex4_45]; rfl) (by decide) rfl (fun ls hl => ?_)
        refine lv_goto (tgt := 5) hx hb d_So_discrepancy_48 (by decide) ?_
        exact HK5 x1 x2 x3_44 x4_45 H locs ls h hP hD hS (lv_sub hl [2, 3, 4, 1, 0] rfl)
  have L5 : ∀  (n : Nat), ∀ (x1 : Int32) (x2 : Int32) (x3 : Int32) (x4 : Int32) (H : Heap) (locs : List Loc) (ls : Array Slot), wp_So_discrepancy_L5 F_powers F_logs S_syndromes S_locator post  n x1 x2 x3 x4 → va_P (dC, dI) vwCl (wd_So_discrepancy aF aF_powers aF_logs aS aS_syndromes aS_locator aS_helper aS_kept aS_evaluator aS_places aS_fixes cI cZ F_powers F_logs S_found S_syndromes S_locator) H → va_D A (wd_So_discrepancy aF aF_powers aF_logs aS aS_syndromes aS_locator aS_helper aS_kept aS_evaluator aS_places aS_fixes cI cZ F_powers F_logs S_found S_syndromes S_locator) → va_S A s.heap H locs → lv_has ls 5 [(0, .ref aS), (1, .int x1), (2, .int x2), (3, .int x3), (4, .int x4)] → W p l e rm_So_discrepancy s m args below meth c H locs 0 0 Q (F0 m 5 ls []) := by
    intro  n
    induction n with
    | zero => intro x1 x2 x3 x4 H locs ls h hP hD hS hl; exact False.elim h
    | succ n ih => intro x1 x2 x3 x4 H locs ls h hP hD hS hl; exact B5  (wp_So_discrepancy_L5 F_powers F_logs S_syndromes S_locator post  n) ih x1 x2 x3 x4 H locs ls h hP hD hS hl
  obtain ⟨H, hH⟩ : ∃ H : Heap, H = s.heap := ⟨_, rfl⟩
  obtain ⟨locs, hlo⟩ : ∃ x : List Loc, x = [] := ⟨_, rfl⟩
  have hS : va_S A s.heap H locs := by rw [hH, hlo]; exact hS
  rw [← hH] at hP
  rw [← hlo]
  show W p l e rm_So_discrepancy s m args below meth c s.heap locs 0 0 Q (F0 m 0 ls [])
  rw [← hH]
  refine lv_iconst (v := (0 : Int32)) hx hb d_So_discrepancy_0 (by decide) ?_
  refine lv_istore_n (lv' := [(3, .int (0 : Int32)), (0, .ref aS), (1, .int p1), (2, .int p2)]) hx hb d_So_discrepancy_1 rfl hl (by decide) rfl (fun ls hl => ?_)
  refine lv_iconst (v := (0 : Int32)) hx hb d_So_discrepancy_2 (by decide) ?_
  refine lv_istore (lv' := [(4, .int (0 : Int32)), (3, .int (0 : Int32)), (0, .ref aS), (1, .int p1), (2, .int p2)]) hx hb d_So_discrepancy_3 hl (by decide) rfl (fun ls hl => ?_)
  obtain ⟨n, h⟩ := h
  exact L5  n p1 p2 (0 : Int32) (0 : Int32) H locs ls h hP hD hS (lv_sub hl [2, 3, 4, 1, 0] rfl)
abbrev wd_So_shiftHelper (aS aF aS_syndromes aS_locator aS_helper aS_kept aS_evaluator aS_places aS_fixes : Nat) (cI cZ : ClassId) (S_found : Int32) (S_helper : Nat → Int32) : va_W := [(aS, .inr (3, [.ref aF, .ref aS_syndromes, .ref aS_locator, .ref aS_helper, .ref aS_kept, .ref aS_evaluator, .ref aS_places, .ref aS_fixes, .int S_found])), (aS_helper, .inl (cI, 41, .inl S_helper))]
def wp_So_shiftHelper_b3  (post : (Nat → Int32) → Prop) (K3 : (Nat → Int32) → Int32 → Prop) (S_helper : Nat → Int32) (x1 : Int32) : Prop := (x1 < (1 : Int32) → (vp_in (0 : Int32) 41 ∧ (post (upd S_helper (0 : Int32).toNatClampNeg (0 : Int32))))) ∧ (¬ x1 < (1 : Int32) → (vp_in (x1 - (1 : Int32)) 41 ∧ (vp_in x1 41 ∧ (∀ x1_22 : Int32, x1_22 = (x1 + (-1 : Int32)) → (K3 (upd S_helper x1.toNatClampNeg (S_helper (x1 - (1 : Int32)).toNatClampNeg)) x1_22)))))
def wp_So_shiftHelper_L3  (post : (Nat → Int32) → Prop)  : Nat → (Nat → Int32) → Int32 → Prop
  | 0 => fun _ _ => False
  | n + 1 => wp_So_shiftHelper_b3 post (wp_So_shiftHelper_L3 post n)
def wp_So_shiftHelper (S_helper : Nat → Int32) (post : (Nat → Int32) → Prop) : Prop := ∃ n : Nat, wp_So_shiftHelper_L3 post  n S_helper (40 : Int32)
abbrev rm_So_shiftHelper : Room := { frames := 0, cells := 0, slots := 0, locals := 0 }
set_option maxHeartbeats 4000000 in
set_option maxRecDepth 100000 in
theorem ct_So_shiftHelper (l : Launch) (dC : Nat → ClassId) (dI : Nat → Nat → Nat) (aS aF aS_syndromes aS_locator aS_helper aS_kept aS_evaluator aS_places aS_fixes : Nat) (cI cZ : ClassId) (S_found : Int32) (S_helper : Nat → Int32)  (post : (Nat → Int32) → Prop) (h : wp_So_shiftHelper S_helper post) (sz : Nat) : Met l y_So_shiftHelper (Cond.code y_So_shiftHelper c_So_shiftHelper 2 none :: tb) rm_So_shiftHelper (mt_P (dC, dI) vwCl [(cI, .int), (cZ, .boolean)] [.ref aS] (wd_So_shiftHelper aS aF aS_syndromes aS_locator aS_helper aS_kept aS_evaluator aS_places aS_fixes cI cZ S_found S_helper) sz) (va_Qv (fun (u : (Nat → Int32)) => post u) (mt_B (dC, dI) vwCl [(cI, .int), (cZ, .boolean)] (wd_So_shiftHelper aS aF aS_syndromes aS_locator aS_helper aS_kept aS_evaluator aS_places aS_fixes cI cZ S_found S_helper) sz (fun u : (Nat → Int32) => wd_So_shiftHelper aS aF aS_syndromes aS_locator aS_helper aS_kept aS_evaluator aS_places aS_fixes cI cZ S_found u)) (va_A (wd_So_shiftHelper aS aF aS_syndromes aS_locator aS_helper aS_kept aS_evaluator aS_places aS_fixes cI cZ S_found S_helper) sz)) 0 0 (va_A (wd_So_shiftHelper aS aF aS_syndromes aS_locator aS_helper aS_kept aS_evaluator aS_places aS_fixes cI cZ S_found S_helper) sz) := by
  refine mt_bd (by decide +kernel) (Nat.le_of_ble_eq_true rfl) ?_
  intro p e s m args below meth c hx hb hml hown hts hr hlk hnm hsz hP hK hD hA hS ls hl
  subst hsz
  have hown : s.vm.findClass "ReedSets$Solver" = some m.cls := hown
  have hl : lv_has ls 2 [(0, .ref aS)] := hl
  refine lz_Q (fun Q hQ => ?_)
  obtain ⟨A, hAe⟩ : ∃ A : Nat → Prop, A = va_A (wd_So_shiftHelper aS aF aS_syndromes aS_locator aS_helper aS_kept aS_evaluator aS_places aS_fixes cI cZ S_found S_helper) s.heap.size := ⟨_, rfl⟩
  rw [← hAe] at hD hA hS
  have RET : ∀ (S_helper : Nat → Int32) (H : Heap) (locs : List Loc) (ls : Array Slot) (pc : Nat), decode c_So_shiftHelper pc = .ok (.return_, 1) → post S_helper → va_P (dC, dI) vwCl (wd_So_shiftHelper aS aF aS_syndromes aS_locator aS_helper aS_kept aS_evaluator aS_places aS_fixes cI cZ S_found S_helper) H → va_D A (wd_So_shiftHelper aS aF aS_syndromes aS_locator aS_helper aS_kept aS_evaluator aS_places aS_fixes cI cZ S_found S_helper) → va_S A s.heap H locs → W p l e rm_So_shiftHelper s m args below meth c H locs 0 0 Q (F0 m pc ls []) := by
    intro S_helper H locs ls pc hd hp h1 h2 h3
    rw [hQ]
    rw [hAe] at h2 h3
    exact mt_retv (S_helper) hx hb hr hlk hd hK h1 h2 h3 hp
  have B3 : ∀ (K3 : (Nat → Int32) → Int32 → Prop) (HK3 : ∀ (S_helper : Nat → Int32) (x1 : Int32) (H : Heap) (locs : List Loc) (ls : Array Slot), K3 S_helper x1 → va_P (dC, dI) vwCl (wd_So_shiftHelper aS aF aS_syndromes aS_locator aS_helper aS_kept aS_evaluator aS_places aS_fixes cI cZ S_found S_helper) H → va_D A (wd_So_shiftHelper aS aF aS_syndromes aS_locator aS_helper aS_kept aS_evaluator aS_places aS_fixes cI cZ S_found S_helper) → va_S A s.heap H locs → lv_has ls 2 [(0, .ref aS), (1, .int x1)] → W p l e rm_So_shiftHelper s m args below meth c H locs 0 0 Q (F0 m 3 ls [])), ∀ (S_helper : Nat → Int32) (x1 : Int32) (H : Heap) (locs : List Loc) (ls : Array Slot), wp_So_shiftHelper_b3 post K3 S_helper x1 → va_P (dC, dI) vwCl (wd_So_shiftHelper aS aF aS_syndromes aS_locator aS_helper aS_kept aS_evaluator aS_places aS_fixes cI cZ S_found S_helper) H → va_D A (wd_So_shiftHelper aS aF aS_syndromes aS_locator aS_helper aS_kept aS_evaluator aS_places aS_fixes cI cZ S_found S_helper) → va_S A s.heap H locs → lv_has ls 2 [(0, .ref aS), (1, .int x1)] → W p l e rm_So_shiftHelper s m args below meth c H locs 0 0 Q (F0 m 3 ls []) := by
    intro K3 HK3 S_helper x1 H locs ls h hP hD hS hl
    refine lv_iload_n hx hb d_So_shiftHelper_3 rfl (lv_at hl 1 rfl) ?_
    refine lv_iconst (v := (1 : Int32)) hx hb d_So_shiftHelper_4 (by decide) ?_
    refine lv_icmp_lt (tgt := 28) hx hb d_So_shiftHelper_5 (by decide) (fun g5 => ?_) (fun g5 => ?_)
    · have h := h.1 g5
      refine lv_aload_n hx hb d_So_shiftHelper_28 rfl (lv_at hl 0 rfl) ?_
      refine va_get (D := (dC, dI)) (ci := 3) (v := .ref aS_helper) (C := "ReedSets$Solver") (T := T_So) (N := 9) hx hb hts in_So hown hK hP 0 rfl rfl 3 (by decide) (hts _ tb_150) (fun _ h9 => h9) rfl d_So_shiftHelper_29 ?_
      refine lv_iconst (v := (0 : Int32)) hx hb d_So_shiftHelper_32 (by decide) ?_
      refine lv_iconst (v := (0 : Int32)) hx hb d_So_shiftHelper_33 (by decide) ?_
      obtain ⟨hi, h⟩ := h
      refine va_iast hx hb hK hP hD hS 1 0 rfl rfl hi d_So_shiftHelper_34 (fun H locs hP hD hS => ?_)
      have hP : va_P (dC, dI) vwCl (wd_So_shiftHelper aS aF aS_syndromes aS_locator aS_helper aS_kept aS_evaluator aS_places aS_fixes cI cZ S_found (upd S_helper (0 : Int32).toNatClampNeg (0 : Int32))) H := hP
      have hD : va_D A (wd_So_shiftHelper aS aF aS_syndromes aS_locator aS_helper aS_kept aS_evaluator aS_places aS_fixes cI cZ S_found (upd S_helper (0 : Int32).toNatClampNeg (0 : Int32))) := hD
      exact RET (upd S_helper (0 : Int32).toNatClampNeg (0 : Int32)) H locs ls 35 d_So_shiftHelper_35 h hP hD hS
    · have h := h.2 g5
      refine lv_aload_n hx hb d_So_shiftHelper_8 rfl (lv_at hl 0 rfl) ?_
      refine va_get (D := (dC, dI)) (ci := 3) (v := .ref aS_helper) (C := "ReedSets$Solver") (T := T_So) (N := 9) hx hb hts in_So hown hK hP 0 rfl rfl 3 (by decide) (hts _ tb_150) (fun _ h9 => h9) rfl d_So_shiftHelper_9 ?_
      refine lv_iload_n hx hb d_So_shiftHelper_12 rfl (lv_at hl 1 rfl) ?_
      refine lv_aload_n hx hb d_So_shiftHelper_13 rfl (lv_at hl 0 rfl) ?_
      refine va_get (D := (dC, dI)) (ci := 3) (v := .ref aS_helper) (C := "ReedSets$Solver") (T := T_So) (N := 9) hx hb hts in_So hown hK hP 0 rfl rfl 3 (by decide) (hts _ tb_150) (fun _ h9 => h9) rfl d_So_shiftHelper_14 ?_
      refine lv_iload_n hx hb d_So_shiftHelper_17 rfl (lv_at hl 1 rfl) ?_
      refine lv_iconst (v := (1 : Int32)) hx hb d_So_shiftHelper_18 (by decide) ?_
      refine lv_isub hx hb d_So_shiftHelper_19 ?_
      obtain ⟨hi, h⟩ := h
      refine va_iald hx hb hK hP 1 0 rfl rfl hi d_So_shiftHelper_20 ?_
      obtain ⟨hi, h⟩ := h
      refine va_iast hx hb hK hP hD hS 1 0 rfl rfl hi d_So_shiftHelper_21 (fun H locs hP hD hS => ?_)
      have hP : va_P (dC, dI) vwCl (wd_So_shiftHelper aS aF aS_syndromes aS_locator aS_helper aS_kept aS_evaluator aS_places aS_fixes cI cZ S_found (upd S_helper x1.toNatClampNeg (S_helper (x1 - (1 : Int32)).toNatClampNeg))) H := hP
      have hD : va_D A (wd_So_shiftHelper aS aF aS_syndromes aS_locator aS_helper aS_kept aS_evaluator aS_places aS_fixes cI cZ S_found (upd S_helper x1.toNatClampNeg (S_helper (x1 - (1 : Int32)).toNatClampNeg))) := hD
      obtain ⟨x1_22, ex1_22⟩ : ∃ y : Int32, y = (x1 + (-1 : Int32)) := ⟨_, rfl⟩
      have h := h x1_22 ex1_22
      refine lv_iinc (v := x1_22) (lv' := [(1, .int x1_22), (0, .ref aS)]) hx hb d_So_shiftHelper_22 hl (k := 1) rfl (by rw [ex1_22]; rfl) (by decide) rfl (fun ls hl => ?_)
      refine lv_goto (tgt := 3) hx hb d_So_shiftHelper_25 (by decide) ?_
      exact HK3 (upd S_helper x1.toNatClampNeg (S_helper (x1 - (1 : Int32)).toNatClampNeg)) x1_22 H locs ls h hP hD hS (lv_sub hl [1, 0] rfl)
  have L3 : ∀  (n : Nat), ∀ (S_helper : Nat → Int32) (x1 : Int32) (H : Heap) (locs : List Loc) (ls : Array Slot), wp_So_shiftHelper_L3 post  n S_helper x1 → va_P (dC, dI) vwCl (wd_So_shiftHelper aS aF aS_syndromes aS_locator aS_helper aS_kept aS_evaluator aS_places aS_fixes cI cZ S_found S_helper) H → va_D A (wd_So_shiftHelper aS aF aS_syndromes aS_locator aS_helper aS_kept aS_evaluator aS_places aS_fixes cI cZ S_found S_helper) → va_S A s.heap H locs → lv_has ls 2 [(0, .ref aS), (1, .int x1)] → W p l e rm_So_shiftHelper s m args below meth c H locs 0 0 Q (F0 m 3 ls []) := by
    intro  n
    induction n with
    | zero => intro S_helper x1 H locs ls h hP hD hS hl; exact False.elim h
    | succ n ih => intro S_helper x1 H locs ls h hP hD hS hl; exact B3  (wp_So_shiftHelper_L3 post  n) ih S_helper x1 H locs ls h hP hD hS hl
  obtain ⟨H, hH⟩ : ∃ H : Heap, H = s.heap := ⟨_, rfl⟩
  obtain ⟨locs, hlo⟩ : ∃ x : List Loc, x = [] := ⟨_, rfl⟩
  have hS : va_S A s.heap H locs := by rw [hH, hlo]; exact hS
  rw [← hH] at hP
  rw [← hlo]
  show W p l e rm_So_shiftHelper s m args below meth c s.heap locs 0 0 Q (F0 m 0 ls [])
  rw [← hH]
  refine lv_bipush (v := (40 : Int32)) hx hb d_So_shiftHelper_0 (by decide) ?_
  refine lv_istore_n (lv' := [(1, .int (40 : Int32)), (0, .ref aS)]) hx hb d_So_shiftHelper_2 rfl hl (by decide) rfl (fun ls hl => ?_)
  obtain ⟨n, h⟩ := h
  exact L3  n S_helper (40 : Int32) H locs ls h hP hD hS (lv_sub hl [1, 0] rfl)
abbrev wd_So_addHelper (aF aF_powers aF_logs aS aS_syndromes aS_locator aS_helper aS_kept aS_evaluator aS_places aS_fixes : Nat) (cI cZ : ClassId) (F_powers : Nat → Int32) (F_logs : Nat → Int32) (S_found : Int32) (S_locator : Nat → Int32) (S_helper : Nat → Int32) : va_W := [(aF, .inr (1, [.ref aF_powers, .ref aF_logs])), (aF_powers, .inl (cI, 512, .inl F_powers)), (aF_logs, .inl (cI, 256, .inl F_logs)), (aS, .inr (3, [.ref aF, .ref aS_syndromes, .ref aS_locator, .ref aS_helper, .ref aS_kept, .ref aS_evaluator, .ref aS_places, .ref aS_fixes, .int S_found])), (aS_locator, .inl (cI, 41, .inl S_locator)), (aS_helper, .inl (cI, 41, .inl S_helper))]
def wp_So_addHelper_b2 (F_powers : Nat → Int32) (F_logs : Nat → Int32) (S_helper : Nat → Int32) (post : (Nat → Int32) → Prop) (K2 : (Nat → Int32) → Int32 → Int32 → Prop) (S_locator : Nat → Int32) (x1 : Int32) (x2 : Int32) : Prop := ((40 : Int32) < x2 → (post S_locator)) ∧ (¬ (40 : Int32) < x2 → (vp_in x2 41 ∧ (vp_in x2 41 ∧ (wp_Fi_product F_powers F_logs x1 (S_helper x2.toNatClampNeg) (fun r_30 => (vp_in x2 41 ∧ (∀ x2_35 : Int32, x2_35 = (x2 + (1 : Int32)) → (K2 (upd S_locator x2.toNatClampNeg ((S_locator x2.toNatClampNeg) ^^^ r_30)) x1 x2_35))))))))
def wp_So_addHelper_L2 (F_powers : Nat → Int32) (F_logs : Nat → Int32) (S_helper : Nat → Int32) (post : (Nat → Int32) → Prop)  : Nat → (Nat → Int32) → Int32 → Int32 → Prop
  | 0 => fun _ _ _ => False
  | n + 1 => wp_So_addHelper_b2 F_powers F_logs S_helper post (wp_So_addHelper_L2 F_powers F_logs S_helper post n)
def wp_So_addHelper (F_powers : Nat → Int32) (F_logs : Nat → Int32) (S_locator : Nat → Int32) (S_helper : Nat → Int32) (p1 : Int32) (post : (Nat → Int32) → Prop) : Prop := ∃ n : Nat, wp_So_addHelper_L2 F_powers F_logs S_helper post  n S_locator p1 (0 : Int32)
abbrev rm_So_addHelper : Room := { frames := 1, cells := 0, slots := 0, locals := 22 }
set_option maxHeartbeats 4000000 in
set_option maxRecDepth 100000 in
theorem ct_So_addHelper (l : Launch) (dC : Nat → ClassId) (dI : Nat → Nat → Nat) (aF aF_powers aF_logs aS aS_syndromes aS_locator aS_helper aS_kept aS_evaluator aS_places aS_fixes : Nat) (cI cZ : ClassId) (F_powers : Nat → Int32) (F_logs : Nat → Int32) (S_found : Int32) (S_locator : Nat → Int32) (S_helper : Nat → Int32) (p1 : Int32) (post : (Nat → Int32) → Prop) (h : wp_So_addHelper F_powers F_logs S_locator S_helper p1 post) (sz : Nat) : Met l y_So_addHelper (Cond.code y_So_addHelper c_So_addHelper 3 none :: tb) rm_So_addHelper (mt_P (dC, dI) vwCl [(cI, .int), (cZ, .boolean)] [.ref aS, .int p1] (wd_So_addHelper aF aF_powers aF_logs aS aS_syndromes aS_locator aS_helper aS_kept aS_evaluator aS_places aS_fixes cI cZ F_powers F_logs S_found S_locator S_helper) sz) (va_Qv (fun (u : (Nat → Int32)) => post u) (mt_B (dC, dI) vwCl [(cI, .int), (cZ, .boolean)] (wd_So_addHelper aF aF_powers aF_logs aS aS_syndromes aS_locator aS_helper aS_kept aS_evaluator aS_places aS_fixes cI cZ F_powers F_logs S_found S_locator S_helper) sz (fun u : (Nat → Int32) => wd_So_addHelper aF aF_powers aF_logs aS aS_syndromes aS_locator aS_helper aS_kept aS_evaluator aS_places aS_fixes cI cZ F_powers F_logs S_found u S_helper)) (va_A (wd_So_addHelper aF aF_powers aF_logs aS aS_syndromes aS_locator aS_helper aS_kept aS_evaluator aS_places aS_fixes cI cZ F_powers F_logs S_found S_locator S_helper) sz)) 0 0 (va_A (wd_So_addHelper aF aF_powers aF_logs aS aS_syndromes aS_locator aS_helper aS_kept aS_evaluator aS_places aS_fixes cI cZ F_powers F_logs S_found S_locator S_helper) sz) := by
  refine mt_bd (by decide +kernel) (Nat.le_of_ble_eq_true rfl) ?_
  intro p e s m args below meth c hx hb hml hown hts hr hlk hnm hsz hP hK hD hA hS ls hl
  subst hsz
  have hown : s.vm.findClass "ReedSets$Solver" = some m.cls := hown
  have hl : lv_has ls 3 [(0, .ref aS), (1, .int p1)] := hl
  refine lz_Q (fun Q hQ => ?_)
  obtain ⟨A, hAe⟩ : ∃ A : Nat → Prop, A = va_A (wd_So_addHelper aF aF_powers aF_logs aS aS_syndromes aS_locator aS_helper aS_kept aS_evaluator aS_places aS_fixes cI cZ F_powers F_logs S_found S_locator S_helper) s.heap.size := ⟨_, rfl⟩
  rw [← hAe] at hD hA hS
  have RET : ∀ (S_locator : Nat → Int32) (H : Heap) (locs : List Loc) (ls : Array Slot) (pc : Nat), decode c_So_addHelper pc = .ok (.return_, 1) → post S_locator → va_P (dC, dI) vwCl (wd_So_addHelper aF aF_powers aF_logs aS aS_syndromes aS_locator aS_helper aS_kept aS_evaluator aS_places aS_fixes cI cZ F_powers F_logs S_found S_locator S_helper) H → va_D A (wd_So_addHelper aF aF_powers aF_logs aS aS_syndromes aS_locator aS_helper aS_kept aS_evaluator aS_places aS_fixes cI cZ F_powers F_logs S_found S_locator S_helper) → va_S A s.heap H locs → W p l e rm_So_addHelper s m args below meth c H locs 0 0 Q (F0 m pc ls []) := by
    intro S_locator H locs ls pc hd hp h1 h2 h3
    rw [hQ]
    rw [hAe] at h2 h3
    exact mt_retv (S_locator) hx hb hr hlk hd hK h1 h2 h3 hp
  have B2 : ∀ (K2 : (Nat → Int32) → Int32 → Int32 → Prop) (HK2 : ∀ (S_locator : Nat → Int32) (x1 : Int32) (x2 : Int32) (H : Heap) (locs : List Loc) (ls : Array Slot), K2 S_locator x1 x2 → va_P (dC, dI) vwCl (wd_So_addHelper aF aF_powers aF_logs aS aS_syndromes aS_locator aS_helper aS_kept aS_evaluator aS_places aS_fixes cI cZ F_powers F_logs S_found S_locator S_helper) H → va_D A (wd_So_addHelper aF aF_powers aF_logs aS aS_syndromes aS_locator aS_helper aS_kept aS_evaluator aS_places aS_fixes cI cZ F_powers F_logs S_found S_locator S_helper) → va_S A s.heap H locs → lv_has ls 3 [(0, .ref aS), (1, .int x1), (2, .int x2)] → W p l e rm_So_addHelper s m args below meth c H locs 0 0 Q (F0 m 2 ls [])), ∀ (S_locator : Nat → Int32) (x1 : Int32) (x2 : Int32) (H : Heap) (locs : List Loc) (ls : Array Slot), wp_So_addHelper_b2 F_powers F_logs S_helper post K2 S_locator x1 x2 → va_P (dC, dI) vwCl (wd_So_addHelper aF aF_powers aF_logs aS aS_syndromes aS_locator aS_helper aS_kept aS_evaluator aS_places aS_fixes cI cZ F_powers F_logs S_found S_locator S_helper) H → va_D A (wd_So_addHelper aF aF_powers aF_logs aS aS_syndromes aS_locator aS_helper aS_kept aS_evaluator aS_places aS_fixes cI cZ F_powers F_logs S_found S_locator S_helper) → va_S A s.heap H locs → lv_has ls 3 [(0, .ref aS), (1, .int x1), (2, .int x2)] → W p l e rm_So_addHelper s m args below meth c H locs 0 0 Q (F0 m 2 ls []) := by
    intro K2 HK2 S_locator x1 x2 H locs ls h hP hD hS hl
    refine lv_iload_n hx hb d_So_addHelper_2 rfl (lv_at hl 2 rfl) ?_
    refine lv_bipush (v := (40 : Int32)) hx hb d_So_addHelper_3 (by decide) ?_
    refine lv_icmp_gt (tgt := 41) hx hb d_So_addHelper_5 (by decide) (fun g5 => ?_) (fun g5 => ?_)
    · have h := h.1 g5
      exact RET S_locator H locs ls 41 d_So_addHelper_41 h hP hD hS
    · have h := h.2 g5
      refine lv_aload_n hx hb d_So_addHelper_8 rfl (lv_at hl 0 rfl) ?_
      refine va_get (D := (dC, dI)) (ci := 3) (v := .ref aS_locator) (C := "ReedSets$Solver") (T := T_So) (N := 9) hx hb hts in_So hown hK hP 3 rfl rfl 2 (by decide) (hts _ tb_149) (fun _ h9 => h9) rfl d_So_addHelper_9 ?_
      refine lv_iload_n hx hb d_So_addHelper_12 rfl (lv_at hl 2 rfl) ?_
      refine lv_aload_n hx hb d_So_addHelper_13 rfl (lv_at hl 0 rfl) ?_
      refine va_get (D := (dC, dI)) (ci := 3) (v := .ref aS_locator) (C := "ReedSets$Solver") (T := T_So) (N := 9) hx hb hts in_So hown hK hP 3 rfl rfl 2 (by decide) (hts _ tb_149) (fun _ h9 => h9) rfl d_So_addHelper_14 ?_
      refine lv_iload_n hx hb d_So_addHelper_17 rfl (lv_at hl 2 rfl) ?_
      obtain ⟨hi, h⟩ := h
      refine va_iald hx hb hK hP 4 0 rfl rfl hi d_So_addHelper_18 ?_
      refine lv_aload_n hx hb d_So_addHelper_19 rfl (lv_at hl 0 rfl) ?_
      refine va_get (D := (dC, dI)) (ci := 3) (v := .ref aF) (C := "ReedSets$Solver") (T := T_So) (N := 9) hx hb hts in_So hown hK hP 3 rfl rfl 0 (by decide) (hts _ tb_147) (fun _ h9 => h9) rfl d_So_addHelper_20 ?_
      refine lv_iload_n hx hb d_So_addHelper_23 rfl (lv_at hl 1 rfl) ?_
      refine lv_aload_n hx hb d_So_addHelper_24 rfl (lv_at hl 0 rfl) ?_
      refine va_get (D := (dC, dI)) (ci := 3) (v := .ref aS_helper) (C := "ReedSets$Solver") (T := T_So) (N := 9) hx hb hts in_So hown hK hP 3 rfl rfl 3 (by decide) (hts _ tb_150) (fun _ h9 => h9) rfl d_So_addHelper_25 ?_
      refine lv_iload_n hx hb d_So_addHelper_28 rfl (lv_at hl 2 rfl) ?_
      obtain ⟨hi, h⟩ := h
      refine va_iald hx hb hK hP 5 0 rfl rfl hi d_So_addHelper_29 ?_
      refine mt_i (va_runV (As := [.int x1, .int (S_helper x2.toNatClampNeg)]) (rest := [.int (S_locator x2.toNatClampNeg), .int x2, .ref aS_locator]) ⟨hx, hb, hml, hown, hts⟩ (ct_Fi_product l dC dI aF aF_powers aF_logs cI cZ F_powers F_logs x1 (S_helper x2.toNatClampNeg) _ h _) (tb_cV hts ok_Fi_product tb_411 rfl rfl ⟨Nat.le_of_ble_eq_true rfl, Nat.le_of_ble_eq_true rfl⟩) (mt_preV hK hP hD [.int x1, .int (S_helper x2.toNatClampNeg)] [0, 1, 2] rfl (by decide) (ci := 1) (q0 := 0) rfl rfl) rfl rfl hl.1 rfl (lv_room (Nat.le_of_ble_eq_true rfl)) d_So_addHelper_30 ⟨Nat.zero_le _, Nat.zero_le _⟩) hP hD hS hA [0, 1, 2] rfl (fun _ => rfl) (fun r_30 u H locs h hP hD hS => ?_)
      have hP : va_P (dC, dI) vwCl (wd_So_addHelper aF aF_powers aF_logs aS aS_syndromes aS_locator aS_helper aS_kept aS_evaluator aS_places aS_fixes cI cZ F_powers F_logs S_found S_locator S_helper) H := hP
      have hD : va_D A (wd_So_addHelper aF aF_powers aF_logs aS aS_syndromes aS_locator aS_helper aS_kept aS_evaluator aS_places aS_fixes cI cZ F_powers F_logs S_found S_locator S_helper) := hD
      refine lv_ixor hx hb d_So_addHelper_33 ?_
      obtain ⟨hi, h⟩ := h
      refine va_iast hx hb hK hP hD hS 4 0 rfl rfl hi d_So_addHelper_34 (fun H locs hP hD hS => ?_)
      have hP : va_P (dC, dI) vwCl (wd_So_addHelper aF aF_powers aF_logs aS aS_syndromes aS_locator aS_helper aS_kept aS_evaluator aS_places aS_fixes cI cZ F_powers F_logs S_found (upd S_locator x2.toNatClampNeg ((S_locator x2.toNatClampNeg) ^^^ r_30)) S_helper) H := hP
      have hD : va_D A (wd_So_addHelper aF aF_powers aF_logs aS aS_syndromes aS_locator aS_helper aS_kept aS_evaluator aS_places aS_fixes cI cZ F_powers F_logs S_found (upd S_locator x2.toNatClampNeg ((S_locator x2.toNatClampNeg) ^^^ r_30)) S_helper) := hD
      obtain ⟨x2_35, ex2_35⟩ : ∃ y : Int32, y = (x2 + (1 : Int32)) := ⟨_, rfl⟩
      have h := h x2_35 ex2_35
      refine lv_iinc (v := x2_35) (lv' := [(2, .int x2_35), (0, .ref aS), (1, .int x1)]) hx hb d_So_addHelper_35 hl (k := 2) rfl (by rw [ex2_35]; rfl) (by decide) rfl (fun ls hl => ?_)
      refine lv_goto (tgt := 2) hx hb d_So_addHelper_38 (by decide) ?_
      exact HK2 (upd S_locator x2.toNatClampNeg ((S_locator x2.toNatClampNeg) ^^^ r_30)) x1 x2_35 H locs ls h hP hD hS (lv_sub hl [1, 2, 0] rfl)
  have L2 : ∀  (n : Nat), ∀ (S_locator : Nat → Int32) (x1 : Int32) (x2 : Int32) (H : Heap) (locs : List Loc) (ls : Array Slot), wp_So_addHelper_L2 F_powers F_logs S_helper post  n S_locator x1 x2 → va_P (dC, dI) vwCl (wd_So_addHelper aF aF_powers aF_logs aS aS_syndromes aS_locator aS_helper aS_kept aS_evaluator aS_places aS_fixes cI cZ F_powers F_logs S_found S_locator S_helper) H → va_D A (wd_So_addHelper aF aF_powers aF_logs aS aS_syndromes aS_locator aS_helper aS_kept aS_evaluator aS_places aS_fixes cI cZ F_powers F_logs S_found S_locator S_helper) → va_S A s.heap H locs → lv_has ls 3 [(0, .ref aS), (1, .int x1), (2, .int x2)] → W p l e rm_So_addHelper s m args below meth c H locs 0 0 Q (F0 m 2 ls []) := by
    intro  n
    induction n with
    | zero => intro S_locator x1 x2 H locs ls h hP hD hS hl; exact False.elim h
    | succ n ih => intro S_locator x1 x2 H locs ls h hP hD hS hl; exact B2  (wp_So_addHelper_L2 F_powers F_logs S_helper post  n) ih S_locator x1 x2 H locs ls h hP hD hS hl
  obtain ⟨H, hH⟩ : ∃ H : Heap, H = s.heap := ⟨_, rfl⟩
  obtain ⟨locs, hlo⟩ : ∃ x : List Loc, x = [] := ⟨_, rfl⟩
  have hS : va_S A s.heap H locs := by rw [hH, hlo]; exact hS
  rw [← hH] at hP
  rw [← hlo]
  show W p l e rm_So_addHelper s m args below meth c s.heap locs 0 0 Q (F0 m 0 ls [])
  rw [← hH]
  refine lv_iconst (v := (0 : Int32)) hx hb d_So_addHelper_0 (by decide) ?_
  refine lv_istore_n (lv' := [(2, .int (0 : Int32)), (0, .ref aS), (1, .int p1)]) hx hb d_So_addHelper_1 rfl hl (by decide) rfl (fun ls hl => ?_)
  obtain ⟨n, h⟩ := h
  exact L2  n S_locator p1 (0 : Int32) H locs ls h hP hD hS (lv_sub hl [1, 2, 0] rfl)
abbrev wd_So_keepForLater (aF aF_powers aF_logs aS aS_syndromes aS_locator aS_helper aS_kept aS_evaluator aS_places aS_fixes : Nat) (cI cZ : ClassId) (F_powers : Nat → Int32) (F_logs : Nat → Int32) (S_found : Int32) (S_helper : Nat → Int32) (S_kept : Nat → Int32) : va_W := [(aF, .inr (1, [.ref aF_powers, .ref aF_logs])), (aF_powers, .inl (cI, 512, .inl F_powers)), (aF_logs, .inl (cI, 256, .inl F_logs)), (aS, .inr (3, [.ref aF, .ref aS_syndromes, .ref aS_locator, .ref aS_helper, .ref aS_kept, .ref aS_evaluator, .ref aS_places, .ref aS_fixes, .int S_found])), (aS_helper, .inl (cI, 41, .inl S_helper)), (aS_kept, .inl (cI, 41, .inl S_kept))]
def wp_So_keepForLater_b2 (F_powers : Nat → Int32) (F_logs : Nat → Int32) (S_kept : Nat → Int32) (post : (Nat → Int32) → Prop) (K2 : (Nat → Int32) → Int32 → Int32 → Prop) (S_helper : Nat → Int32) (x1 : Int32) (x2 : Int32) : Prop := ((40 : Int32) < x2 → (post S_helper)) ∧ (¬ (40 : Int32) < x2 → (vp_in x2 41 ∧ (wp_Fi_quotient F_powers F_logs (S_kept x2.toNatClampNeg) x1 (fun r_24 => (vp_in x2 41 ∧ (∀ x2_28 : Int32, x2_28 = (x2 + (1 : Int32)) → (K2 (upd S_helper x2.toNatClampNeg r_24) x1 x2_28)))))))
def wp_So_keepForLater_L2 (F_powers : Nat → Int32) (F_logs : Nat → Int32) (S_kept : Nat → Int32) (post : (Nat → Int32) → Prop)  : Nat → (Nat → Int32) → Int32 → Int32 → Prop
  | 0 => fun _ _ _ => False
  | n + 1 => wp_So_keepForLater_b2 F_powers F_logs S_kept post (wp_So_keepForLater_L2 F_powers F_logs S_kept post n)
def wp_So_keepForLater (F_powers : Nat → Int32) (F_logs : Nat → Int32) (S_helper : Nat → Int32) (S_kept : Nat → Int32) (p1 : Int32) (post : (Nat → Int32) → Prop) : Prop := ∃ n : Nat, wp_So_keepForLater_L2 F_powers F_logs S_kept post  n S_helper p1 (0 : Int32)
abbrev rm_So_keepForLater : Room := { frames := 1, cells := 0, slots := 0, locals := 22 }
set_option maxHeartbeats 4000000 in
set_option maxRecDepth 100000 in
theorem ct_So_keepForLater (l : Launch) (dC : Nat → ClassId) (dI : Nat → Nat → Nat) (aF aF_powers aF_logs aS aS_syndromes aS_locator aS_helper aS_kept aS_evaluator aS_places aS_fixes : Nat) (cI cZ : ClassId) (F_powers : Nat → Int32) (F_logs : Nat → Int32) (S_found : Int32) (S_helper : Nat → Int32) (S_kept : Nat → Int32) (p1 : Int32) (post : (Nat → Int32) → Prop) (h : wp_So_keepForLater F_powers F_logs S_helper S_kept p1 post) (sz : Nat) : Met l y_So_keepForLater (Cond.code y_So_keepForLater c_So_keepForLater 3 none :: tb) rm_So_keepForLater (mt_P (dC, dI) vwCl [(cI, .int), (cZ, .boolean)] [.ref aS, .int p1] (wd_So_keepForLater aF aF_powers aF_logs aS aS_syndromes aS_locator aS_helper aS_kept aS_evaluator aS_places aS_fixes cI cZ F_powers F_logs S_found S_helper S_kept) sz) (va_Qv (fun (u : (Nat → Int32)) => post u) (mt_B (dC, dI) vwCl [(cI, .int), (cZ, .boolean)] (wd_So_keepForLater aF aF_powers aF_logs aS aS_syndromes aS_locator aS_helper aS_kept aS_evaluator aS_places aS_fixes cI cZ F_powers F_logs S_found S_helper S_kept) sz (fun u : (Nat → Int32) => wd_So_keepForLater aF aF_powers aF_logs aS aS_syndromes aS_locator aS_helper aS_kept aS_evaluator aS_places aS_fixes cI cZ F_powers F_logs S_found u S_kept)) (va_A (wd_So_keepForLater aF aF_powers aF_logs aS aS_syndromes aS_locator aS_helper aS_kept aS_evaluator aS_places aS_fixes cI cZ F_powers F_logs S_found S_helper S_kept) sz)) 0 0 (va_A (wd_So_keepForLater aF aF_powers aF_logs aS aS_syndromes aS_locator aS_helper aS_kept aS_evaluator aS_places aS_fixes cI cZ F_powers F_logs S_found S_helper S_kept) sz) := by
  refine mt_bd (by decide +kernel) (Nat.le_of_ble_eq_true rfl) ?_
  intro p e s m args below meth c hx hb hml hown hts hr hlk hnm hsz hP hK hD hA hS ls hl
  subst hsz
  have hown : s.vm.findClass "ReedSets$Solver" = some m.cls := hown
  have hl : lv_has ls 3 [(0, .ref aS), (1, .int p1)] := hl
  refine lz_Q (fun Q hQ => ?_)
  obtain ⟨A, hAe⟩ : ∃ A : Nat → Prop, A = va_A (wd_So_keepForLater aF aF_powers aF_logs aS aS_syndromes aS_locator aS_helper aS_kept aS_evaluator aS_places aS_fixes cI cZ F_powers F_logs S_found S_helper S_kept) s.heap.size := ⟨_, rfl⟩
  rw [← hAe] at hD hA hS
  have RET : ∀ (S_helper : Nat → Int32) (H : Heap) (locs : List Loc) (ls : Array Slot) (pc : Nat), decode c_So_keepForLater pc = .ok (.return_, 1) → post S_helper → va_P (dC, dI) vwCl (wd_So_keepForLater aF aF_powers aF_logs aS aS_syndromes aS_locator aS_helper aS_kept aS_evaluator aS_places aS_fixes cI cZ F_powers F_logs S_found S_helper S_kept) H → va_D A (wd_So_keepForLater aF aF_powers aF_logs aS aS_syndromes aS_locator aS_helper aS_kept aS_evaluator aS_places aS_fixes cI cZ F_powers F_logs S_found S_helper S_kept) → va_S A s.heap H locs → W p l e rm_So_keepForLater s m args below meth c H locs 0 0 Q (F0 m pc ls []) := by
    intro S_helper H locs ls pc hd hp h1 h2 h3
    rw [hQ]
    rw [hAe] at h2 h3
    exact mt_retv (S_helper) hx hb hr hlk hd hK h1 h2 h3 hp
  have B2 : ∀ (K2 : (Nat → Int32) → Int32 → Int32 → Prop) (HK2 : ∀ (S_helper : Nat → Int32) (x1 : Int32) (x2 : Int32) (H : Heap) (locs : List Loc) (ls : Array Slot), K2 S_helper x1 x2 → va_P (dC, dI) vwCl (wd_So_keepForLater aF aF_powers aF_logs aS aS_syndromes aS_locator aS_helper aS_kept aS_evaluator aS_places aS_fixes cI cZ F_powers F_logs S_found S_helper S_kept) H → va_D A (wd_So_keepForLater aF aF_powers aF_logs aS aS_syndromes aS_locator aS_helper aS_kept aS_evaluator aS_places aS_fixes cI cZ F_powers F_logs S_found S_helper S_kept) → va_S A s.heap H locs → lv_has ls 3 [(0, .ref aS), (1, .int x1), (2, .int x2)] → W p l e rm_So_keepForLater s m args below meth c H locs 0 0 Q (F0 m 2 ls [])), ∀ (S_helper : Nat → Int32) (x1 : Int32) (x2 : Int32) (H : Heap) (locs : List Loc) (ls : Array Slot), wp_So_keepForLater_b2 F_powers F_logs S_kept post K2 S_helper x1 x2 → va_P (dC, dI) vwCl (wd_So_keepForLater aF aF_powers aF_logs aS aS_syndromes aS_locator aS_helper aS_kept aS_evaluator aS_places aS_fixes cI cZ F_powers F_logs S_found S_helper S_kept) H → va_D A (wd_So_keepForLater aF aF_powers aF_logs aS aS_syndromes aS_locator aS_helper aS_kept aS_evaluator aS_places aS_fixes cI cZ F_powers F_logs S_found S_helper S_kept) → va_S A s.heap H locs → lv_has ls 3 [(0, .ref aS), (1, .int x1), (2, .int x2)] → W p l e rm_So_keepForLater s m args below meth c H locs 0 0 Q (F0 m 2 ls []) := by
    intro K2 HK2 S_helper x1 x2 H locs ls h hP hD hS hl
    refine lv_iload_n hx hb d_So_keepForLater_2 rfl (lv_at hl 2 rfl) ?_
    refine lv_bipush (v := (40 : Int32)) hx hb d_So_keepForLater_3 (by decide) ?_
    refine lv_icmp_gt (tgt := 34) hx hb d_So_keepForLater_5 (by decide) (fun g5 => ?_) (fun g5 => ?_)
    · have h := h.1 g5
      exact RET S_helper H locs ls 34 d_So_keepForLater_34 h hP hD hS
    · have h := h.2 g5
      refine lv_aload_n hx hb d_So_keepForLater_8 rfl (lv_at hl 0 rfl) ?_
      refine va_get (D := (dC, dI)) (ci := 3) (v := .ref aS_helper) (C := "ReedSets$Solver") (T := T_So) (N := 9) hx hb hts in_So hown hK hP 3 rfl rfl 3 (by decide) (hts _ tb_150) (fun _ h9 => h9) rfl d_So_keepForLater_9 ?_
      refine lv_iload_n hx hb d_So_keepForLater_12 rfl (lv_at hl 2 rfl) ?_
      refine lv_aload_n hx hb d_So_keepForLater_13 rfl (lv_at hl 0 rfl) ?_
      refine va_get (D := (dC, dI)) (ci := 3) (v := .ref aF) (C := "ReedSets$Solver") (T := T_So) (N := 9) hx hb hts in_So hown hK hP 3 rfl rfl 0 (by decide) (hts _ tb_147) (fun _ h9 => h9) rfl d_So_keepForLater_14 ?_
      refine lv_aload_n hx hb d_So_keepForLater_17 rfl (lv_at hl 0 rfl) ?_
      refine va_get (D := (dC, dI)) (ci := 3) (v := .ref aS_kept) (C := "ReedSets$Solver") (T := T_So) (N := 9) hx hb hts in_So hown hK hP 3 rfl rfl 4 (by decide) (hts _ tb_151) (fun _ h9 => h9) rfl d_So_keepForLater_18 ?_
      refine lv_iload_n hx hb d_So_keepForLater_21 rfl (lv_at hl 2 rfl) ?_
      obtain ⟨hi, h⟩ := h
      refine va_iald hx hb hK hP 5 0 rfl rfl hi d_So_keepForLater_22 ?_
      refine lv_iload_n hx hb d_So_keepForLater_23 rfl (lv_at hl 1 rfl) ?_
      refine mt_i (va_runV (As := [.int (S_kept x2.toNatClampNeg), .int x1]) (rest := [.int x2, .ref aS_helper]) ⟨hx, hb, hml, hown, hts⟩ (ct_Fi_quotient l dC dI aF aF_powers aF_logs cI cZ F_powers F_logs (S_kept x2.toNatClampNeg) x1 _ h _) (tb_cV hts ok_Fi_quotient tb_435 rfl rfl ⟨Nat.le_of_ble_eq_true rfl, Nat.le_of_ble_eq_true rfl⟩) (mt_preV hK hP hD [.int (S_kept x2.toNatClampNeg), .int x1] [0, 1, 2] rfl (by decide) (ci := 1) (q0 := 0) rfl rfl) rfl rfl hl.1 rfl (lv_room (Nat.le_of_ble_eq_true rfl)) d_So_keepForLater_24 ⟨Nat.zero_le _, Nat.zero_le _⟩) hP hD hS hA [0, 1, 2] rfl (fun _ => rfl) (fun r_24 u H locs h hP hD hS => ?_)
      have hP : va_P (dC, dI) vwCl (wd_So_keepForLater aF aF_powers aF_logs aS aS_syndromes aS_locator aS_helper aS_kept aS_evaluator aS_places aS_fixes cI cZ F_powers F_logs S_found S_helper S_kept) H := hP
      have hD : va_D A (wd_So_keepForLater aF aF_powers aF_logs aS aS_syndromes aS_locator aS_helper aS_kept aS_evaluator aS_places aS_fixes cI cZ F_powers F_logs S_found S_helper S_kept) := hD
      obtain ⟨hi, h⟩ := h
      refine va_iast hx hb hK hP hD hS 4 0 rfl rfl hi d_So_keepForLater_27 (fun H locs hP hD hS => ?_)
      have hP : va_P (dC, dI) vwCl (wd_So_keepForLater aF aF_powers aF_logs aS aS_syndromes aS_locator aS_helper aS_kept aS_evaluator aS_places aS_fixes cI cZ F_powers F_logs S_found (upd S_helper x2.toNatClampNeg r_24) S_kept) H := hP
      have hD : va_D A (wd_So_keepForLater aF aF_powers aF_logs aS aS_syndromes aS_locator aS_helper aS_kept aS_evaluator aS_places aS_fixes cI cZ F_powers F_logs S_found (upd S_helper x2.toNatClampNeg r_24) S_kept) := hD
      obtain ⟨x2_28, ex2_28⟩ : ∃ y : Int32, y = (x2 + (1 : Int32)) := ⟨_, rfl⟩
      have h := h x2_28 ex2_28
      refine lv_iinc (v := x2_28) (lv' := [(2, .int x2_28), (0, .ref aS), (1, .int x1)]) hx hb d_So_keepForLater_28 hl (k := 2) rfl (by rw [ex2_28]; rfl) (by decide) rfl (fun ls hl => ?_)
      refine lv_goto (tgt := 2) hx hb d_So_keepForLater_31 (by decide) ?_
      exact HK2 (upd S_helper x2.toNatClampNeg r_24) x1 x2_28 H locs ls h hP hD hS (lv_sub hl [1, 2, 0] rfl)
  have L2 : ∀  (n : Nat), ∀ (S_helper : Nat → Int32) (x1 : Int32) (x2 : Int32) (H : Heap) (locs : List Loc) (ls : Array Slot), wp_So_keepForLater_L2 F_powers F_logs S_kept post  n S_helper x1 x2 → va_P (dC, dI) vwCl (wd_So_keepForLater aF aF_powers aF_logs aS aS_syndromes aS_locator aS_helper aS_kept aS_evaluator aS_places aS_fixes cI cZ F_powers F_logs S_found S_helper S_kept) H → va_D A (wd_So_keepForLater aF aF_powers aF_logs aS aS_syndromes aS_locator aS_helper aS_kept aS_evaluator aS_places aS_fixes cI cZ F_powers F_logs S_found S_helper S_kept) → va_S A s.heap H locs → lv_has ls 3 [(0, .ref aS), (1, .int x1), (2, .int x2)] → W p l e rm_So_keepForLater s m args below meth c H locs 0 0 Q (F0 m 2 ls []) := by
    intro  n
    induction n with
    | zero => intro S_helper x1 x2 H locs ls h hP hD hS hl; exact False.elim h
    | succ n ih => intro S_helper x1 x2 H locs ls h hP hD hS hl; exact B2  (wp_So_keepForLater_L2 F_powers F_logs S_kept post  n) ih S_helper x1 x2 H locs ls h hP hD hS hl
  obtain ⟨H, hH⟩ : ∃ H : Heap, H = s.heap := ⟨_, rfl⟩
  obtain ⟨locs, hlo⟩ : ∃ x : List Loc, x = [] := ⟨_, rfl⟩
  have hS : va_S A s.heap H locs := by rw [hH, hlo]; exact hS
  rw [← hH] at hP
  rw [← hlo]
  show W p l e rm_So_keepForLater s m args below meth c s.heap locs 0 0 Q (F0 m 0 ls [])
  rw [← hH]
  refine lv_iconst (v := (0 : Int32)) hx hb d_So_keepForLater_0 (by decide) ?_
  refine lv_istore_n (lv' := [(2, .int (0 : Int32)), (0, .ref aS), (1, .int p1)]) hx hb d_So_keepForLater_1 rfl hl (by decide) rfl (fun ls hl => ?_)
  obtain ⟨n, h⟩ := h
  exact L2  n S_helper p1 (0 : Int32) H locs ls h hP hD hS (lv_sub hl [1, 2, 0] rfl)
abbrev wd_So_locateErrors (aF aF_powers aF_logs aS aS_syndromes aS_locator aS_helper aS_kept aS_evaluator aS_places aS_fixes : Nat) (cI cZ : ClassId) (F_powers : Nat → Int32) (F_logs : Nat → Int32) (S_found : Int32) (S_syndromes : Nat → Int32) (S_locator : Nat → Int32) (S_helper : Nat → Int32) (S_kept : Nat → Int32) : va_W := [(aF, .inr (1, [.ref aF_powers, .ref aF_logs])), (aF_powers, .inl (cI, 512, .inl F_powers)), (aF_logs, .inl (cI, 256, .inl F_logs)), (aS, .inr (3, [.ref aF, .ref aS_syndromes, .ref aS_locator, .ref aS_helper, .ref aS_kept, .ref aS_evaluator, .ref aS_places, .ref aS_fixes, .int S_found])), (aS_syndromes, .inl (cI, 40, .inl S_syndromes)), (aS_locator, .inl (cI, 41, .inl S_locator)), (aS_helper, .inl (cI, 41, .inl S_helper)), (aS_kept, .inl (cI, 41, .inl S_kept))]
def wp_So_locateErrors_b118 (F_powers : Nat → Int32) (F_logs : Nat → Int32) (S_syndromes : Nat → Int32) (post : Int32 → (Nat → Int32) → (Nat → Int32) → (Nat → Int32) → Prop) (K25 : (Nat → Int32) → (Nat → Int32) → (Nat → Int32) → Int32 → Int32 → Int32 → Int32 → Prop) (S_locator : Nat → Int32) (S_helper : Nat → Int32) (S_kept : Nat → Int32) (x1 : Int32) (x2 : Int32) (x3 : Int32) (x4 : Int32) : Prop := ∀ x4_118 : Int32, x4_118 = (x4 + (1 : Int32)) → (K25 S_locator S_helper S_kept x1 x2 x3 x4_118)
def wp_So_locateErrors_b94 (F_powers : Nat → Int32) (F_logs : Nat → Int32) (S_syndromes : Nat → Int32) (post : Int32 → (Nat → Int32) → (Nat → Int32) → (Nat → Int32) → Prop) (K25 : (Nat → Int32) → (Nat → Int32) → (Nat → Int32) → Int32 → Int32 → Int32 → Int32 → Prop) (S_locator : Nat → Int32) (S_helper : Nat → Int32) (S_kept : Nat → Int32) (x1 : Int32) (x2 : Int32) (x3 : Int32) (x4 : Int32) (x5 : Int32) (x6 : Int32) : Prop := wp_So_addHelper F_powers F_logs S_locator S_helper x5 (fun S_locator_97 => ((x6 = 0 → (wp_So_locateErrors_b118 F_powers F_logs S_syndromes post K25 S_locator_97 S_helper S_kept x1 x2 x3 x4)) ∧ (¬ x6 = 0 → (∀ x3_111 : Int32, x3_111 = ((x4 - x3) + x2) → (wp_So_keepForLater F_powers F_logs S_helper S_kept x5 (fun S_helper_115 => (wp_So_locateErrors_b118 F_powers F_logs S_syndromes post K25 S_locator_97 S_helper_115 S_kept x1 x2 x3_111 x4)))))))
def wp_So_locateErrors_b69 (F_powers : Nat → Int32) (F_logs : Nat → Int32) (S_syndromes : Nat → Int32) (post : Int32 → (Nat → Int32) → (Nat → Int32) → (Nat → Int32) → Prop) (K25 : (Nat → Int32) → (Nat → Int32) → (Nat → Int32) → Int32 → Int32 → Int32 → Int32 → Prop) (S_locator : Nat → Int32) (S_helper : Nat → Int32) (S_kept : Nat → Int32) (x1 : Int32) (x2 : Int32) (x3 : Int32) (x4 : Int32) (x5 : Int32) (t0 : Int32) : Prop := (t0 = 0 → (wp_So_locateErrors_b94 F_powers F_logs S_syndromes post K25 S_locator S_helper S_kept x1 x2 x3 x4 x5 t0)) ∧ (¬ t0 = 0 → (wp_So_locateErrors_b94 F_powers F_logs S_syndromes post K25 S_locator S_helper (va_cpy S_locator S_kept (0 : Int32).toNatClampNeg (0 : Int32).toNatClampNeg (41 : Int32).toNatClampNeg) x1 x2 x3 x4 x5 t0))
def wp_So_locateErrors_b25 (F_powers : Nat → Int32) (F_logs : Nat → Int32) (S_syndromes : Nat → Int32) (post : Int32 → (Nat → Int32) → (Nat → Int32) → (Nat → Int32) → Prop) (K25 : (Nat → Int32) → (Nat → Int32) → (Nat → Int32) → Int32 → Int32 → Int32 → Int32 → Prop) (S_locator : Nat → Int32) (S_helper : Nat → Int32) (S_kept : Nat → Int32) (x1 : Int32) (x2 : Int32) (x3 : Int32) (x4 : Int32) : Prop := (x1 < x4 → (post x3 S_locator S_helper S_kept)) ∧ (¬ x1 < x4 → (wp_So_discrepancy F_powers F_logs S_syndromes S_locator x4 x3 (fun r_35 => (wp_So_shiftHelper S_helper (fun S_helper_41 => ((¬ r_35 = 0 → ((((x4 + x2) - (1 : Int32)) < ((2 : Int32) * x3) → (wp_So_locateErrors_b69 F_powers F_logs S_syndromes post K25 S_locator S_helper_41 S_kept x1 x2 x3 x4 r_35 (0 : Int32))) ∧ (¬ ((x4 + x2) - (1 : Int32)) < ((2 : Int32) * x3) → (wp_So_locateErrors_b69 F_powers F_logs S_syndromes post K25 S_locator S_helper_41 S_kept x1 x2 x3 x4 r_35 (1 : Int32))))) ∧ (r_35 = 0 → (wp_So_locateErrors_b118 F_powers F_logs S_syndromes post K25 S_locator S_helper_41 S_kept x1 x2 x3 x4))))))))
def wp_So_locateErrors_L25 (F_powers : Nat → Int32) (F_logs : Nat → Int32) (S_syndromes : Nat → Int32) (post : Int32 → (Nat → Int32) → (Nat → Int32) → (Nat → Int32) → Prop)  : Nat → (Nat → Int32) → (Nat → Int32) → (Nat → Int32) → Int32 → Int32 → Int32 → Int32 → Prop
  | 0 => fun _ _ _ _ _ _ _ => False
  | n + 1 => wp_So_locateErrors_b25 F_powers F_logs S_syndromes post (wp_So_locateErrors_L25 F_powers F_logs S_syndromes post n)
def wp_So_locateErrors (F_powers : Nat → Int32) (F_logs : Nat → Int32) (S_syndromes : Nat → Int32) (S_locator : Nat → Int32) (S_helper : Nat → Int32) (S_kept : Nat → Int32) (p1 : Int32) (p2 : Int32) (post : Int32 → (Nat → Int32) → (Nat → Int32) → (Nat → Int32) → Prop) : Prop := ∀ x4_23 : Int32, x4_23 = (p2 + (1 : Int32)) → (∃ n : Nat, wp_So_locateErrors_L25 F_powers F_logs S_syndromes post  n S_locator (va_cpy S_locator S_helper (0 : Int32).toNatClampNeg (0 : Int32).toNatClampNeg (41 : Int32).toNatClampNeg) S_kept p1 p2 p2 x4_23)
abbrev rm_So_locateErrors : Room := { frames := 2, cells := 0, slots := 0, locals := 46 }
set_option maxHeartbeats 4000000 in
set_option maxRecDepth 100000 in
theorem ct_So_locateErrors (l : Launch) (dC : Nat → ClassId) (dI : Nat → Nat → Nat) (aF aF_powers aF_logs aS aS_syndromes aS_locator aS_helper aS_kept aS_evaluator aS_places aS_fixes : Nat) (cI cZ : ClassId) (F_powers : Nat → Int32) (F_logs : Nat → Int32) (S_found : Int32) (S_syndromes : Nat → Int32) (S_locator : Nat → Int32) (S_helper : Nat → Int32) (S_kept : Nat → Int32) (p1 : Int32) (p2 : Int32) (post : Int32 → (Nat → Int32) → (Nat → Int32) → (Nat → Int32) → Prop) (h : wp_So_locateErrors F_powers F_logs S_syndromes S_locator S_helper S_kept p1 p2 post) (sz : Nat) : Met l y_So_locateErrors (Cond.code y_So_locateErrors c_So_locateErrors 7 (some .int) :: tb) rm_So_locateErrors (mt_P (dC, dI) vwCl [(cI, .int), (cZ, .boolean)] [.ref aS, .int p1, .int p2] (wd_So_locateErrors aF aF_powers aF_logs aS aS_syndromes aS_locator aS_helper aS_kept aS_evaluator aS_places aS_fixes cI cZ F_powers F_logs S_found S_syndromes S_locator S_helper S_kept) sz) (va_Qi (fun (r : Int32) (u : (Nat → Int32) × (Nat → Int32) × (Nat → Int32)) => post r u.1 u.2.1 u.2.2) (mt_B (dC, dI) vwCl [(cI, .int), (cZ, .boolean)] (wd_So_locateErrors aF aF_powers aF_logs aS aS_syndromes aS_locator aS_helper aS_kept aS_evaluator aS_places aS_fixes cI cZ F_powers F_logs S_found S_syndromes S_locator S_helper S_kept) sz (fun u : (Nat → Int32) × (Nat → Int32) × (Nat → Int32) => wd_So_locateErrors aF aF_powers aF_logs aS aS_syndromes aS_locator aS_helper aS_kept aS_evaluator aS_places aS_fixes cI cZ F_powers F_logs S_found S_syndromes u.1 u.2.1 u.2.2)) (va_A (wd_So_locateErrors aF aF_powers aF_logs aS aS_syndromes aS_locator aS_helper aS_kept aS_evaluator aS_places aS_fixes cI cZ F_powers F_logs S_found S_syndromes S_locator S_helper S_kept) sz)) 0 0 (va_A (wd_So_locateErrors aF aF_powers aF_logs aS aS_syndromes aS_locator aS_helper aS_kept aS_evaluator aS_places aS_fixes cI cZ F_powers F_logs S_found S_syndromes S_locator S_helper S_kept) sz) := by
  refine mt_bd (by decide +kernel) (Nat.le_of_ble_eq_true rfl) ?_
  intro p e s m args below meth c hx hb hml hown hts hr hlk hnm hsz hP hK hD hA hS ls hl
  subst hsz
  have hown : s.vm.findClass "ReedSets$Solver" = some m.cls := hown
  have hl : lv_has ls 7 [(0, .ref aS), (1, .int p1), (2, .int p2)] := hl
  refine lz_Q (fun Q hQ => ?_)
  obtain ⟨A, hAe⟩ : ∃ A : Nat → Prop, A = va_A (wd_So_locateErrors aF aF_powers aF_logs aS aS_syndromes aS_locator aS_helper aS_kept aS_evaluator aS_places aS_fixes cI cZ F_powers F_logs S_found S_syndromes S_locator S_helper S_kept) s.heap.size := ⟨_, rfl⟩
  rw [← hAe] at hD hA hS
  have RET : ∀ (v : Int32) (S_locator : Nat → Int32) (S_helper : Nat → Int32) (S_kept : Nat → Int32) (H : Heap) (locs : List Loc) (ls : Array Slot) (pc : Nat), decode c_So_locateErrors pc = .ok (.ireturn, 1) → post v S_locator S_helper S_kept → va_P (dC, dI) vwCl (wd_So_locateErrors aF aF_powers aF_logs aS aS_syndromes aS_locator aS_helper aS_kept aS_evaluator aS_places aS_fixes cI cZ F_powers F_logs S_found S_syndromes S_locator S_helper S_kept) H → va_D A (wd_So_locateErrors aF aF_powers aF_logs aS aS_syndromes aS_locator aS_helper aS_kept aS_evaluator aS_places aS_fixes cI cZ F_powers F_logs S_found S_syndromes S_locator S_helper S_kept) → va_S A s.heap H locs → W p l e rm_So_locateErrors s m args below meth c H locs 0 0 Q (F0 m pc ls [.int v]) := by
    intro v S_locator S_helper S_kept H locs ls pc hd hp h1 h2 h3
    rw [hQ]
    rw [hAe] at h2 h3
    exact mt_reti (S_locator, S_helper, S_kept) hx hb hr hlk hd hK h1 h2 h3 hp
  have B118 : ∀ (K25 : (Nat → Int32) → (Nat → Int32) → (Nat → Int32) → Int32 → Int32 → Int32 → Int32 → Prop) (HK25 : ∀ (S_locator : Nat → Int32) (S_helper : Nat → Int32) (S_kept : Nat → Int32) (x1 : Int32) (x2 : Int32) (x3 : Int32) (x4 : Int32) (H : Heap) (locs : List Loc) (ls : Array Slot), K25 S_locator S_helper S_kept x1 x2 x3 x4 → va_P (dC, dI) vwCl (wd_So_locateErrors aF aF_powers aF_logs aS aS_syndromes aS_locator aS_helper aS_kept aS_evaluator aS_places aS_fixes cI cZ F_powers F_logs S_found S_syndromes S_locator S_helper S_kept) H → va_D A (wd_So_locateErrors aF aF_powers aF_logs aS aS_syndromes aS_locator aS_helper aS_kept aS_evaluator aS_places aS_fixes cI cZ F_powers F_logs S_found S_syndromes S_locator S_helper S_kept) → va_S A s.heap H locs → lv_has ls 7 [(0, .ref aS), (1, .int x1), (2, .int x2), (3, .int x3), (4, .int x4)] → W p l e rm_So_locateErrors s m args below meth c H locs 0 0 Q (F0 m 25 ls [])), ∀ (S_locator : Nat → Int32) (S_helper : Nat → Int32) (S_kept : Nat → Int32) (x1 : Int32) (x2 : Int32) (x3 : Int32) (x4 : Int32) (H : Heap) (locs : List Loc) (ls : Array Slot), wp_So_locateErrors_b118 F_powers F_logs S_syndromes post K25 S_locator S_helper S_kept x1 x2 x3 x4 → va_P (dC, dI) vwCl (wd_So_locateErrors aF aF_powers aF_logs aS aS_syndromes aS_locator aS_helper aS_kept aS_evaluator aS_places aS_fixes cI cZ F_powers F_logs S_found S_syndromes S_locator S_helper S_kept) H → va_D A (wd_So_locateErrors aF aF_powers aF_logs aS aS_syndromes aS_locator aS_helper aS_kept aS_evaluator aS_places aS_fixes cI cZ F_powers F_logs S_found S_syndromes S_locator S_helper S_kept) → va_S A s.heap H locs → lv_has ls 7 [(0, .ref aS), (1, .int x1), (2, .int x2), (3, .int x3), (4, .int x4)] → W p l e rm_So_locateErrors s m args below meth c H locs 0 0 Q (F0 m 118 ls []) := by
    intro K25 HK25 S_locator S_helper S_kept x1 x2 x3 x4 H locs ls h hP hD hS hl
    obtain ⟨x4_118, ex4_118⟩ : ∃ y : Int32, y = (x4 + (1 : Int32)) := ⟨_, rfl⟩
    have h := h x4_118 ex4_118
    refine lv_iinc (v := x4_118) (lv' := [(4, .int x4_118), (0, .ref aS), (1, .int x1), (2, .int x2), (3, .int x3)]) hx hb d_So_locateErrors_118 hl (k := 4) rfl (by rw [ex4_118]; rfl) (by decide) rfl (fun ls hl => ?_)
    refine lv_goto (tgt := 25) hx hb d_So_locateErrors_121 (by decide) ?_
    exact HK25 S_locator S_helper S_kept x1 x2 x3 x4_118 H locs ls h hP hD hS (lv_sub hl [1, 2, 3, 4, 0] rfl)
  have B94 : ∀ (K25 : (Nat → Int32) → (Nat → Int32) → (Nat → Int32) → Int32 → Int32 → Int32 → Int32 → Prop) (HK25 : ∀ (S_locator : Nat → Int32) (S_helper : Nat → Int32) (S_kept : Nat → Int32) (x1 : Int32) (x2 : Int32) (x3 : Int32) (x4 : Int32) (H : Heap) (locs : List Loc) (ls : Array Slot), K25 S_locator S_helper S_kept x1 x2 x3 x4 → va_P (dC, dI) vwCl (wd_So_locateErrors aF aF_powers aF_logs aS aS_syndromes aS_locator aS_helper aS_kept aS_evaluator aS_places aS_fixes cI cZ F_powers F_logs S_found S_syndromes S_locator S_helper S_kept) H → va_D A (wd_So_locateErrors aF aF_powers aF_logs aS aS_syndromes aS_locator aS_helper aS_kept aS_evaluator aS_places aS_fixes cI cZ F_powers F_logs S_found S_syndromes S_locator S_helper S_kept) → va_S A s.heap H locs → lv_has ls 7 [(0, .ref aS), (1, .int x1), (2, .int x2), (3, .int x3), (4, .int x4)] → W p l e rm_So_locateErrors s m args below meth c H locs 0 0 Q (F0 m 25 ls [])), ∀ (S_locator : Nat → Int32) (S_helper : Nat → Int32) (S_kept : Nat → Int32) (x1 : Int32) (x2 : Int32) (x3 : Int32) (x4 : Int32) (x5 : Int32) (x6 : Int32) (H : Heap) (locs : List Loc) (ls : Array Slot), wp_So_locateErrors_b94 F_powers F_logs S_syndromes post K25 S_locator S_helper S_kept x1 x2 x3 x4 x5 x6 → va_P (dC, dI) vwCl (wd_So_locateErrors aF aF_powers aF_logs aS aS_syndromes aS_locator aS_helper aS_kept aS_evaluator aS_places aS_fixes cI cZ F_powers F_logs S_found S_syndromes S_locator S_helper S_kept) H → va_D A (wd_So_locateErrors aF aF_powers aF_logs aS aS_syndromes aS_locator aS_helper aS_kept aS_evaluator aS_places aS_fixes cI cZ F_powers F_logs S_found S_syndromes S_locator S_helper S_kept) → va_S A s.heap H locs → lv_has ls 7 [(0, .ref aS), (1, .int x1), (2, .int x2), (3, .int x3), (4, .int x4), (5, .int x5), (6, .int x6)] → W p l e rm_So_locateErrors s m args below meth c H locs 0 0 Q (F0 m 94 ls []) := by
    intro K25 HK25 S_locator S_helper S_kept x1 x2 x3 x4 x5 x6 H locs ls h hP hD hS hl
    refine lv_aload_n hx hb d_So_locateErrors_94 rfl (lv_at hl 0 rfl) ?_
    refine lv_iload hx hb d_So_locateErrors_95 (lv_at hl 5 rfl) ?_
    refine mt_v (va_runV (As := [.int x5]) (rest := []) ⟨hx, hb, hml, hown, hts⟩ (ct_So_addHelper l dC dI aF aF_powers aF_logs aS aS_syndromes aS_locator aS_helper aS_kept aS_evaluator aS_places aS_fixes cI cZ F_powers F_logs S_found S_locator S_helper x5 _ h _) (tb_cV hts ok_So_addHelper tb_427 rfl rfl ⟨Nat.le_of_ble_eq_true rfl, Nat.le_of_ble_eq_true rfl⟩) (mt_preV hK hP hD [.int x5] [0, 1, 2, 3, 5, 6] rfl (by decide) (ci := 3) (q0 := 3) rfl rfl) rfl rfl hl.1 rfl (lv_room (Nat.le_of_ble_eq_true rfl)) d_So_locateErrors_97 ⟨Nat.zero_le _, Nat.zero_le _⟩) hP hD hS hA [0, 1, 2, 3, 5, 6] rfl (fun _ => rfl) (fun u H locs h hP hD hS => ?_)
    obtain ⟨S_locator_97, rfl⟩ : ∃ z, z = u := ⟨_, rfl⟩
    have hP : va_P (dC, dI) vwCl (wd_So_locateErrors aF aF_powers aF_logs aS aS_syndromes aS_locator aS_helper aS_kept aS_evaluator aS_places aS_fixes cI cZ F_powers F_logs S_found S_syndromes S_locator_97 S_helper S_kept) H := hP
    have hD : va_D A (wd_So_locateErrors aF aF_powers aF_logs aS aS_syndromes aS_locator aS_helper aS_kept aS_evaluator aS_places aS_fixes cI cZ F_powers F_logs S_found S_syndromes S_locator_97 S_helper S_kept) := hD
    refine lv_iload hx hb d_So_locateErrors_100 (lv_at hl 6 rfl) ?_
    refine lv_if_eq (tgt := 118) hx hb d_So_locateErrors_102 (by decide) (fun g102 => ?_) (fun g102 => ?_)
    · have h := h.1 g102
      exact B118 K25 HK25 S_locator_97 S_helper S_kept x1 x2 x3 x4 H locs ls h hP hD hS (lv_sub hl [0, 1, 2, 3, 4] rfl)
    · have h := h.2 g102
      refine lv_iload hx hb d_So_locateErrors_105 (lv_at hl 4 rfl) ?_
      refine lv_iload_n hx hb d_So_locateErrors_107 rfl (lv_at hl 3 rfl) ?_
      refine lv_isub hx hb d_So_locateErrors_108 ?_
      refine lv_iload_n hx hb d_So_locateErrors_109 rfl (lv_at hl 2 rfl) ?_
      refine lv_iadd hx hb d_So_locateErrors_110 ?_
      refine lv_topi (fun x3_111 ex3_111 => ?_)
      have h := h x3_111 ex3_111
      refine lv_istore_n (lv' := [(3, .int x3_111), (0, .ref aS), (1, .int x1), (2, .int x2), (4, .int x4), (5, .int x5), (6, .int x6)]) hx hb d_So_locateErrors_111 rfl hl (by decide) rfl (fun ls hl => ?_)
      refine lv_aload_n hx hb d_So_locateErrors_112 rfl (lv_at hl 1 rfl) ?_
      refine lv_iload hx hb d_So_locateErrors_113 (lv_at hl 5 rfl) ?_
      refine mt_v (va_runV (As := [.int x5]) (rest := []) ⟨hx, hb, hml, hown, hts⟩ (ct_So_keepForLater l dC dI aF aF_powers aF_logs aS aS_syndromes aS_locator aS_helper aS_kept aS_evaluator aS_places aS_fixes cI cZ F_powers F_logs S_found S_helper S_kept x5 _ h _) (tb_cV hts ok_So_keepForLater tb_431 rfl rfl ⟨Nat.le_of_ble_eq_true rfl, Nat.le_of_ble_eq_true rfl⟩) (mt_preV hK hP hD [.int x5] [0, 1, 2, 3, 6, 7] rfl (by decide) (ci := 3) (q0 := 3) rfl rfl) rfl rfl hl.1 rfl (lv_room (Nat.le_of_ble_eq_true rfl)) d_So_locateErrors_115 ⟨Nat.zero_le _, Nat.zero_le _⟩) hP hD hS hA [0, 1, 2, 3, 6, 7] rfl (fun _ => rfl) (fun u H locs h hP hD hS => ?_)
      obtain ⟨S_helper_115, rfl⟩ : ∃ z, z = u := ⟨_, rfl⟩
      have hP : va_P (dC, dI) vwCl (wd_So_locateErrors aF aF_powers aF_logs aS aS_syndromes aS_locator aS_helper aS_kept aS_evaluator aS_places aS_fixes cI cZ F_powers F_logs S_found S_syndromes S_locator_97 S_helper_115 S_kept) H := hP
      have hD : va_D A (wd_So_locateErrors aF aF_powers aF_logs aS aS_syndromes aS_locator aS_helper aS_kept aS_evaluator aS_places aS_fixes cI cZ F_powers F_logs S_found S_syndromes S_locator_97 S_helper_115 S_kept) := hD
      exact B118 K25 HK25 S_locator_97 S_helper_115 S_kept x1 x2 x3_111 x4 H locs ls h hP hD hS (lv_sub hl [1, 2, 3, 0, 4] rfl)
  have B69 : ∀ (K25 : (Nat → Int32) → (Nat → Int32) → (Nat → Int32) → Int32 → Int32 → Int32 → Int32 → Prop) (HK25 : ∀ (S_locator : Nat → Int32) (S_helper : Nat → Int32) (S_kept : Nat → Int32) (x1 : Int32) (x2 : Int32) (x3 : Int32) (x4 : Int32) (H : Heap) (locs : List Loc) (ls : Array Slot), K25 S_locator S_helper S_kept x1 x2 x3 x4 → va_P (dC, dI) vwCl (wd_So_locateErrors aF aF_powers aF_logs aS aS_syndromes aS_locator aS_helper aS_kept aS_evaluator aS_places aS_fixes cI cZ F_powers F_logs S_found S_syndromes S_locator S_helper S_kept) H → va_D A (wd_So_locateErrors aF aF_powers aF_logs aS aS_syndromes aS_locator aS_helper aS_kept aS_evaluator aS_places aS_fixes cI cZ F_powers F_logs S_found S_syndromes S_locator S_helper S_kept) → va_S A s.heap H locs → lv_has ls 7 [(0, .ref aS), (1, .int x1), (2, .int x2), (3, .int x3), (4, .int x4)] → W p l e rm_So_locateErrors s m args below meth c H locs 0 0 Q (F0 m 25 ls [])), ∀ (S_locator : Nat → Int32) (S_helper : Nat → Int32) (S_kept : Nat → Int32) (x1 : Int32) (x2 : Int32) (x3 : Int32) (x4 : Int32) (x5 : Int32) (t0 : Int32) (H : Heap) (locs : List Loc) (ls : Array Slot), wp_So_locateErrors_b69 F_powers F_logs S_syndromes post K25 S_locator S_helper S_kept x1 x2 x3 x4 x5 t0 → va_P (dC, dI) vwCl (wd_So_locateErrors aF aF_powers aF_logs aS aS_syndromes aS_locator aS_helper aS_kept aS_evaluator aS_places aS_fixes cI cZ F_powers F_logs S_found S_syndromes S_locator S_helper S_kept) H → va_D A (wd_So_locateErrors aF aF_powers aF_logs aS aS_syndromes aS_locator aS_helper aS_kept aS_evaluator aS_places aS_fixes cI cZ F_powers F_logs S_found S_syndromes S_locator S_helper S_kept) → va_S A s.heap H locs → lv_has ls 7 [(0, .ref aS), (1, .int x1), (2, .int x2), (3, .int x3), (4, .int x4), (5, .int x5)] → W p l e rm_So_locateErrors s m args below meth c H locs 0 0 Q (F0 m 69 ls [.int t0]) := by
    intro K25 HK25 S_locator S_helper S_kept x1 x2 x3 x4 x5 t0 H locs ls h hP hD hS hl
    refine lv_istore (lv' := [(6, .int t0), (0, .ref aS), (1, .int x1), (2, .int x2), (3, .int x3), (4, .int x4), (5, .int x5)]) hx hb d_So_locateErrors_69 hl (by decide) rfl (fun ls hl => ?_)
    refine lv_iload hx hb d_So_locateErrors_71 (lv_at hl 0 rfl) ?_
    refine lv_if_eq (tgt := 94) hx hb d_So_locateErrors_73 (by decide) (fun g73 => ?_) (fun g73 => ?_)
    · have h := h.1 g73
      exact B94 K25 HK25 S_locator S_helper S_kept x1 x2 x3 x4 x5 t0 H locs ls h hP hD hS (lv_sub hl [1, 2, 3, 4, 5, 6, 0] rfl)
    · have h := h.2 g73
      refine lv_aload_n hx hb d_So_locateErrors_76 rfl (lv_at hl 1 rfl) ?_
      refine va_get (D := (dC, dI)) (ci := 3) (v := .ref aS_locator) (C := "ReedSets$Solver") (T := T_So) (N := 9) hx hb hts in_So hown hK hP 3 rfl rfl 2 (by decide) (hts _ tb_149) (fun _ h9 => h9) rfl d_So_locateErrors_77 ?_
      refine lv_iconst (v := (0 : Int32)) hx hb d_So_locateErrors_80 (by decide) ?_
      refine lv_aload_n hx hb d_So_locateErrors_81 rfl (lv_at hl 1 rfl) ?_
      refine va_get (D := (dC, dI)) (ci := 3) (v := .ref aS_kept) (C := "ReedSets$Solver") (T := T_So) (N := 9) hx hb hts in_So hown hK hP 3 rfl rfl 4 (by decide) (hts _ tb_151) (fun _ h9 => h9) rfl d_So_locateErrors_82 ?_
      refine lv_iconst (v := (0 : Int32)) hx hb d_So_locateErrors_85 (by decide) ?_
      refine lv_aload_n hx hb d_So_locateErrors_86 rfl (lv_at hl 1 rfl) ?_
      refine va_get (D := (dC, dI)) (ci := 3) (v := .ref aS_locator) (C := "ReedSets$Solver") (T := T_So) (N := 9) hx hb hts in_So hown hK hP 3 rfl rfl 2 (by decide) (hts _ tb_149) (fun _ h9 => h9) rfl d_So_locateErrors_87 ?_
      refine va_alen hx hb hK hP 5 0 rfl rfl (v := (41 : Int32)) rfl d_So_locateErrors_90 ?_
      refine va_copyi hx hb (hml.trans hl.1.symm) hown (hts _ tb_416) (hts _ tb_418) (hts _ tb_417) (hts _ tb_50) hK hP hD hS 5 7 0 0 rfl rfl rfl rfl rfl (by decide) (by decide) (by decide) (by decide) (by decide) (fun _ _ => rfl) (Nat.le_of_ble_eq_true rfl) (by decide +kernel) d_So_locateErrors_91 (fun H locs hP hD hS => ?_)
      have hP : va_P (dC, dI) vwCl (wd_So_locateErrors aF aF_powers aF_logs aS aS_syndromes aS_locator aS_helper aS_kept aS_evaluator aS_places aS_fixes cI cZ F_powers F_logs S_found S_syndromes S_locator S_helper (va_cpy S_locator S_kept (0 : Int32).toNatClampNeg (0 : Int32).toNatClampNeg (41 : Int32).toNatClampNeg)) H := hP
      have hD : va_D A (wd_So_locateErrors aF aF_powers aF_logs aS aS_syndromes aS_locator aS_helper aS_kept aS_evaluator aS_places aS_fixes cI cZ F_powers F_logs S_found S_syndromes S_locator S_helper (va_cpy S_locator S_kept (0 : Int32).toNatClampNeg (0 : Int32).toNatClampNeg (41 : Int32).toNatClampNeg)) := hD
      exact B94 K25 HK25 S_locator S_helper (va_cpy S_locator S_kept (0 : Int32).toNatClampNeg (0 : Int32).toNatClampNeg (41 : Int32).toNatClampNeg) x1 x2 x3 x4 x5 t0 H locs ls h hP hD hS (lv_sub hl [1, 2, 3, 4, 5, 6, 0] rfl)
  have B25 : ∀ (K25 : (Nat → Int32) → (Nat → Int32) → (Nat → Int32) → Int32 → Int32 → Int32 → Int32 → Prop) (HK25 : ∀ (S_locator : Nat → Int32) (S_helper : Nat → Int32) (S_kept : Nat → Int32) (x1 : Int32) (x2 : Int32) (x3 : Int32) (x4 : Int32) (H : Heap) (locs : List Loc) (ls : Array Slot), K25 S_locator S_helper S_kept x1 x2 x3 x4 → va_P (dC, dI) vwCl (wd_So_locateErrors aF aF_powers aF_logs aS aS_syndromes aS_locator aS_helper aS_kept aS_evaluator aS_places aS_fixes cI cZ F_powers F_logs S_found S_syndromes S_locator S_helper S_kept) H → va_D A (wd_So_locateErrors aF aF_powers aF_logs aS aS_syndromes aS_locator aS_helper aS_kept aS_evaluator aS_places aS_fixes cI cZ F_powers F_logs S_found S_syndromes S_locator S_helper S_kept) → va_S A s.heap H locs → lv_has ls 7 [(0, .ref aS), (1, .int x1), (2, .int x2), (3, .int x3), (4, .int x4)] → W p l e rm_So_locateErrors s m args below meth c H locs 0 0 Q (F0 m 25 ls [])), ∀ (S_locator : Nat → Int32) (S_helper : Nat → Int32) (S_kept : Nat → Int32) (x1 : Int32) (x2 : Int32) (x3 : Int32) (x4 : Int32) (H : Heap) (locs : List Loc) (ls : Array Slot), wp_So_locateErrors_b25 F_powers F_logs S_syndromes post K25 S_locator S_helper S_kept x1 x2 x3 x4 → va_P (dC, dI) vwCl (wd_So_locateErrors aF aF_powers aF_logs aS aS_syndromes aS_locator aS_helper aS_kept aS_evaluator aS_places aS_fixes cI cZ F_powers F_logs S_found S_syndromes S_locator S_helper S_kept) H → va_D A (wd_So_locateErrors aF aF_powers aF_logs aS aS_syndromes aS_locator aS_helper aS_kept aS_evaluator aS_places aS_fixes cI cZ F_powers F_logs S_found S_syndromes S_locator S_helper S_kept) → va_S A s.heap H locs → lv_has ls 7 [(0, .ref aS), (1, .int x1), (2, .int x2), (3, .int x3), (4, .int x4)] → W p l e rm_So_locateErrors s m args below meth c H locs 0 0 Q (F0 m 25 ls []) := by
    intro K25 HK25 S_locator S_helper S_kept x1 x2 x3 x4 H locs ls h hP hD hS hl
    refine lv_iload hx hb d_So_locateErrors_25 (lv_at hl 4 rfl) ?_
    refine lv_iload_n hx hb d_So_locateErrors_27 rfl (lv_at hl 1 rfl) ?_
    refine lv_icmp_gt (tgt := 124) hx hb d_So_locateErrors_28 (by decide) (fun g28 => ?_) (fun g28 => ?_)
    · have h := h.1 g28
      refine lv_iload_n hx hb d_So_locateErrors_124 rfl (lv_at hl 3 rfl) ?_
      exact RET x3 S_locator S_helper S_kept H locs ls 125 d_So_locateErrors_125 h hP hD hS
    · have h := h.2 g28
      refine lv_aload_n hx hb d_So_locateErrors_31 rfl (lv_at hl 0 rfl) ?_
      refine lv_iload hx hb d_So_locateErrors_32 (lv_at hl 4 rfl) ?_
      refine lv_iload_n hx hb d_So_locateErrors_34 rfl (lv_at hl 3 rfl) ?_
      refine mt_i (va_runV (As := [.int x4, .int x3]) (rest := []) ⟨hx, hb, hml, hown, hts⟩ (ct_So_discrepancy l dC dI aF aF_powers aF_logs aS aS_syndromes aS_locator aS_helper aS_kept aS_evaluator aS_places aS_fixes cI cZ F_powers F_logs S_found S_syndromes S_locator x4 x3 _ h _) (tb_cV hts ok_So_discrepancy tb_419 rfl rfl ⟨Nat.le_of_ble_eq_true rfl, Nat.le_of_ble_eq_true rfl⟩) (mt_preV hK hP hD [.int x4, .int x3] [0, 1, 2, 3, 4, 5] rfl (by decide) (ci := 3) (q0 := 3) rfl rfl) rfl rfl hl.1 rfl (lv_room (Nat.le_of_ble_eq_true rfl)) d_So_locateErrors_35 ⟨Nat.zero_le _, Nat.zero_le _⟩) hP hD hS hA [0, 1, 2, 3, 4, 5] rfl (fun _ => rfl) (fun r_35 u H locs h hP hD hS => ?_)
      have hP : va_P (dC, dI) vwCl (wd_So_locateErrors aF aF_powers aF_logs aS aS_syndromes aS_locator aS_helper aS_kept aS_evaluator aS_places aS_fixes cI cZ F_powers F_logs S_found S_syndromes S_locator S_helper S_kept) H := hP
      have hD : va_D A (wd_So_locateErrors aF aF_powers aF_logs aS aS_syndromes aS_locator aS_helper aS_kept aS_evaluator aS_places aS_fixes cI cZ F_powers F_logs S_found S_syndromes S_locator S_helper S_kept) := hD
      refine lv_istore (lv' := [(5, .int r_35), (0, .ref aS), (1, .int x1), (2, .int x2), (3, .int x3), (4, .int x4)]) hx hb d_So_locateErrors_38 hl (by decide) rfl (fun ls hl => ?_)
      refine lv_aload_n hx hb d_So_locateErrors_40 rfl (lv_at hl 1 rfl) ?_
      refine mt_v (va_runV (As := []) (rest := []) ⟨hx, hb, hml, hown, hts⟩ (ct_So_shiftHelper l dC dI aS aF aS_syndromes aS_locator aS_helper aS_kept aS_evaluator aS_places aS_fixes cI cZ S_found S_helper _ h _) (tb_cV hts ok_So_shiftHelper tb_423 rfl rfl ⟨Nat.le_of_ble_eq_true rfl, Nat.le_of_ble_eq_true rfl⟩) (mt_preV hK hP hD [] [3, 6] rfl (by decide) (ci := 3) (q0 := 3) rfl rfl) rfl rfl hl.1 rfl (lv_room (Nat.le_of_ble_eq_true rfl)) d_So_locateErrors_41 ⟨Nat.zero_le _, Nat.zero_le _⟩) hP hD hS hA [3, 6] rfl (fun _ => rfl) (fun u H locs h hP hD hS => ?_)
      obtain ⟨S_helper_41, rfl⟩ : ∃ z, z = u := ⟨_, rfl⟩
      have hP : va_P (dC, dI) vwCl (wd_So_locateErrors aF aF_powers aF_logs aS aS_syndromes aS_locator aS_helper aS_kept aS_evaluator aS_places aS_fixes cI cZ F_powers F_logs S_found S_syndromes S_locator S_helper_41 S_kept) H := hP
      have hD : va_D A (wd_So_locateErrors aF aF_powers aF_logs aS aS_syndromes aS_locator aS_helper aS_kept aS_evaluator aS_places aS_fixes cI cZ F_powers F_logs S_found S_syndromes S_locator S_helper_41 S_kept) := hD
      refine lv_iload hx hb d_So_locateErrors_44 (lv_at hl 0 rfl) ?_
      refine lv_if_ne (tgt := 52) hx hb d_So_locateErrors_46 (by decide) (fun g46 => ?_) (fun g46 => ?_)
      · have h := h.1 g46
        refine lv_iconst (v := (2 : Int32)) hx hb d_So_locateErrors_52 (by decide) ?_
        refine lv_iload_n hx hb d_So_locateErrors_53 rfl (lv_at hl 4 rfl) ?_
        refine lv_imul hx hb d_So_locateErrors_54 ?_
        refine lv_iload hx hb d_So_locateErrors_55 (lv_at hl 5 rfl) ?_
        refine lv_iload_n hx hb d_So_locateErrors_57 rfl (lv_at hl 3 rfl) ?_
        refine lv_iadd hx hb d_So_locateErrors_58 ?_
        refine lv_iconst (v := (1 : Int32)) hx hb d_So_locateErrors_59 (by decide) ?_
        refine lv_isub hx hb d_So_locateErrors_60 ?_
        refine lv_icmp_gt (tgt := 68) hx hb d_So_locateErrors_61 (by decide) (fun g61 => ?_) (fun g61 => ?_)
        · have h := h.1 g61
          refine lv_iconst (v := (0 : Int32)) hx hb d_So_locateErrors_68 (by decide) ?_
          exact B69 K25 HK25 S_locator S_helper_41 S_kept x1 x2 x3 x4 r_35 (0 : Int32) H locs ls h hP hD hS (lv_sub hl [1, 2, 3, 4, 5, 0] rfl)
        · have h := h.2 g61
          refine lv_iconst (v := (1 : Int32)) hx hb d_So_locateErrors_64 (by decide) ?_
          refine lv_goto (tgt := 69) hx hb d_So_locateErrors_65 (by decide) ?_
          exact B69 K25 HK25 S_locator S_helper_41 S_kept x1 x2 x3 x4 r_35 (1 : Int32) H locs ls h hP hD hS (lv_sub hl [1, 2, 3, 4, 5, 0] rfl)
      · have h := h.2 g46
        refine lv_goto (tgt := 118) hx hb d_So_locateErrors_49 (by decide) ?_
        exact B118 K25 HK25 S_locator S_helper_41 S_kept x1 x2 x3 x4 H locs ls h hP hD hS (lv_sub hl [1, 2, 3, 4, 5] rfl)
  have L25 : ∀  (n : Nat), ∀ (S_locator : Nat → Int32) (S_helper : Nat → Int32) (S_kept : Nat → Int32) (x1 : Int32) (x2 : Int32) (x3 : Int32) (x4 : Int32) (H : Heap) (locs : List Loc) (ls : Array Slot), wp_So_locateErrors_L25 F_powers F_logs S_syndromes post  n S_locator S_helper S_kept x1 x2 x3 x4 → va_P (dC, dI) vwCl (wd_So_locateErrors aF aF_powers aF_logs aS aS_syndromes aS_locator aS_helper aS_kept aS_evaluator aS_places aS_fixes cI cZ F_powers F_logs S_found S_syndromes S_locator S_helper S_kept) H → va_D A (wd_So_locateErrors aF aF_powers aF_logs aS aS_syndromes aS_locator aS_helper aS_kept aS_evaluator aS_places aS_fixes cI cZ F_powers F_logs S_found S_syndromes S_locator S_helper S_kept) → va_S A s.heap H locs → lv_has ls 7 [(0, .ref aS), (1, .int x1), (2, .int x2), (3, .int x3), (4, .int x4)] → W p l e rm_So_locateErrors s m args below meth c H locs 0 0 Q (F0 m 25 ls []) := by
    intro  n
    induction n with
    | zero => intro S_locator S_helper S_kept x1 x2 x3 x4 H locs ls h hP hD hS hl; exact False.elim h
    | succ n ih => intro S_locator S_helper S_kept x1 x2 x3 x4 H locs ls h hP hD hS hl; exact B25  (wp_So_locateErrors_L25 F_powers F_logs S_syndromes post  n) ih S_locator S_helper S_kept x1 x2 x3 x4 H locs ls h hP hD hS hl
  obtain ⟨H, hH⟩ : ∃ H : Heap, H = s.heap := ⟨_, rfl⟩
  obtain ⟨locs, hlo⟩ : ∃ x : List Loc, x = [] := ⟨_, rfl⟩
  have hS : va_S A s.heap H locs := by rw [hH, hlo]; exact hS
  rw [← hH] at hP
  rw [← hlo]
  show W p l e rm_So_locateErrors s m args below meth c s.heap locs 0 0 Q (F0 m 0 ls [])
  rw [← hH]
  refine lv_aload_n hx hb d_So_locateErrors_0 rfl (lv_at hl 0 rfl) ?_
  refine va_get (D := (dC, dI)) (ci := 3) (v := .ref aS_locator) (C := "ReedSets$Solver") (T := T_So) (N := 9) hx hb hts in_So hown hK hP 3 rfl rfl 2 (by decide) (hts _ tb_149) (fun _ h9 => h9) rfl d_So_locateErrors_1 ?_
  refine lv_iconst (v := (0 : Int32)) hx hb d_So_locateErrors_4 (by decide) ?_
  refine lv_aload_n hx hb d_So_locateErrors_5 rfl (lv_at hl 0 rfl) ?_
  refine va_get (D := (dC, dI)) (ci := 3) (v := .ref aS_helper) (C := "ReedSets$Solver") (T := T_So) (N := 9) hx hb hts in_So hown hK hP 3 rfl rfl 3 (by decide) (hts _ tb_150) (fun _ h9 => h9) rfl d_So_locateErrors_6 ?_
  refine lv_iconst (v := (0 : Int32)) hx hb d_So_locateErrors_9 (by decide) ?_
  refine lv_aload_n hx hb d_So_locateErrors_10 rfl (lv_at hl 0 rfl) ?_
  refine va_get (D := (dC, dI)) (ci := 3) (v := .ref aS_locator) (C := "ReedSets$Solver") (T := T_So) (N := 9) hx hb hts in_So hown hK hP 3 rfl rfl 2 (by decide) (hts _ tb_149) (fun _ h9 => h9) rfl d_So_locateErrors_11 ?_
  refine va_alen hx hb hK hP 5 0 rfl rfl (v := (41 : Int32)) rfl d_So_locateErrors_14 ?_
  refine va_copyi hx hb (hml.trans hl.1.symm) hown (hts _ tb_416) (hts _ tb_418) (hts _ tb_417) (hts _ tb_50) hK hP hD hS 5 6 0 0 rfl rfl rfl rfl rfl (by decide) (by decide) (by decide) (by decide) (by decide) (fun _ _ => rfl) (Nat.le_of_ble_eq_true rfl) (by decide +kernel) d_So_locateErrors_15 (fun H locs hP hD hS => ?_)
  have hP : va_P (dC, dI) vwCl (wd_So_locateErrors aF aF_powers aF_logs aS aS_syndromes aS_locator aS_helper aS_kept aS_evaluator aS_places aS_fixes cI cZ F_powers F_logs S_found S_syndromes S_locator (va_cpy S_locator S_helper (0 : Int32).toNatClampNeg (0 : Int32).toNatClampNeg (41 : Int32).toNatClampNeg) S_kept) H := hP
  have hD : va_D A (wd_So_locateErrors aF aF_powers aF_logs aS aS_syndromes aS_locator aS_helper aS_kept aS_evaluator aS_places aS_fixes cI cZ F_powers F_logs S_found S_syndromes S_locator (va_cpy S_locator S_helper (0 : Int32).toNatClampNeg (0 : Int32).toNatClampNeg (41 : Int32).toNatClampNeg) S_kept) := hD
  refine lv_iload_n hx hb d_So_locateErrors_18 rfl (lv_at hl 2 rfl) ?_
  refine lv_istore_n (lv' := [(3, .int p2), (0, .ref aS), (1, .int p1), (2, .int p2)]) hx hb d_So_locateErrors_19 rfl hl (by decide) rfl (fun ls hl => ?_)
  refine lv_iload_n hx hb d_So_locateErrors_20 rfl (lv_at hl 3 rfl) ?_
  refine lv_iconst (v := (1 : Int32)) hx hb d_So_locateErrors_21 (by decide) ?_
  refine lv_iadd hx hb d_So_locateErrors_22 ?_
  refine lv_topi (fun x4_23 ex4_23 => ?_)
  have h := h x4_23 ex4_23
  refine lv_istore (lv' := [(4, .int x4_23), (3, .int p2), (0, .ref aS), (1, .int p1), (2, .int p2)]) hx hb d_So_locateErrors_23 hl (by decide) rfl (fun ls hl => ?_)
  obtain ⟨n, h⟩ := h
  exact L25  n S_locator (va_cpy S_locator S_helper (0 : Int32).toNatClampNeg (0 : Int32).toNatClampNeg (41 : Int32).toNatClampNeg) S_kept p1 p2 p2 x4_23 H locs ls h hP hD hS (lv_sub hl [2, 3, 4, 1, 0] rfl)
abbrev wd_So_findPlaces (aF aF_powers aF_logs aW aW_bytes aW_lost aW_factors aS aS_syndromes aS_locator aS_helper aS_kept aS_evaluator aS_places aS_fixes : Nat) (cI cZ : ClassId) (F_powers : Nat → Int32) (F_logs : Nat → Int32) (W_lostCount : Int32) (W_data : Int32) (W_repairs : Int32) (W_first : Int32) (S_found : Int32) (S_locator : Nat → Int32) (S_places : Nat → Int32) : va_W := [(aF, .inr (1, [.ref aF_powers, .ref aF_logs])), (aF_powers, .inl (cI, 512, .inl F_powers)), (aF_logs, .inl (cI, 256, .inl F_logs)), (aW, .inr (5, [.ref aF, .ref aW_bytes, .ref aW_lost, .ref aW_factors, .int W_lostCount, .int W_data, .int W_repairs, .int W_first])), (aS, .inr (3, [.ref aF, .ref aS_syndromes, .ref aS_locator, .ref aS_helper, .ref aS_kept, .ref aS_evaluator, .ref aS_places, .ref aS_fixes, .int S_found])), (aS_locator, .inl (cI, 41, .inl S_locator)), (aS_places, .inl (cI, 40, .inl S_places))]
def wp_So_findPlaces_b61 (F_powers : Nat → Int32) (F_logs : Nat → Int32) (W_data : Int32) (W_repairs : Int32) (S_locator : Nat → Int32) (post : Int32 → Int32 → (Nat → Int32) → Prop)  (S_found : Int32) (S_places : Nat → Int32) : Prop := post (0 : Int32) S_found S_places
def wp_So_findPlaces_b83 (F_powers : Nat → Int32) (F_logs : Nat → Int32) (W_data : Int32) (W_repairs : Int32) (S_locator : Nat → Int32) (post : Int32 → Int32 → (Nat → Int32) → Prop) (K2 : Int32 → (Nat → Int32) → Int32 → Int32 → Prop) (S_found : Int32) (S_places : Nat → Int32) (x2 : Int32) (x3 : Int32) : Prop := ∀ x3_83 : Int32, x3_83 = (x3 + (1 : Int32)) → (K2 S_found S_places x2 x3_83)
def wp_So_findPlaces_b102 (F_powers : Nat → Int32) (F_logs : Nat → Int32) (W_data : Int32) (W_repairs : Int32) (S_locator : Nat → Int32) (post : Int32 → Int32 → (Nat → Int32) → Prop)  (S_found : Int32) (S_places : Nat → Int32) (t0 : Int32) : Prop := narrow .boolean (.int t0) = .int t0 ∧ (post t0 S_found S_places)
def wp_So_findPlaces_b2 (F_powers : Nat → Int32) (F_logs : Nat → Int32) (W_data : Int32) (W_repairs : Int32) (S_locator : Nat → Int32) (post : Int32 → Int32 → (Nat → Int32) → Prop) (K2 : Int32 → (Nat → Int32) → Int32 → Int32 → Prop) (S_found : Int32) (S_places : Nat → Int32) (x2 : Int32) (x3 : Int32) : Prop := wp_Wo_size W_data W_repairs (fun r_4 => ((r_4 ≤ x3 → ((¬ S_found = x2 → (wp_So_findPlaces_b102 F_powers F_logs W_data W_repairs S_locator post  S_found S_places (0 : Int32))) ∧ (S_found = x2 → (wp_So_findPlaces_b102 F_powers F_logs W_data W_repairs S_locator post  S_found S_places (1 : Int32))))) ∧ (¬ r_4 ≤ x3 → (wp_Wo_powerAt W_data W_repairs x3 (fun r_16 => (wp_Fi_powerOfTwo F_powers (-r_16) (fun r_20 => (wp_Fi_valueOf F_powers F_logs S_locator (x2 + (1 : Int32)) r_20 (fun r_38 => ((¬ r_38 = 0 → (wp_So_findPlaces_b83 F_powers F_logs W_data W_repairs S_locator post K2 S_found S_places x2 x3)) ∧ (r_38 = 0 → ((x2 ≤ S_found → (wp_So_findPlaces_b61 F_powers F_logs W_data W_repairs S_locator post  S_found S_places)) ∧ (¬ x2 ≤ S_found → ((S_found < (40 : Int32) → (vp_in S_found 40 ∧ (∀ y_80 : Int32, y_80 = (S_found + (1 : Int32)) → (wp_So_findPlaces_b83 F_powers F_logs W_data W_repairs S_locator post K2 y_80 (upd S_places S_found.toNatClampNeg x3) x2 x3)))) ∧ (¬ S_found < (40 : Int32) → (wp_So_findPlaces_b61 F_powers F_logs W_data W_repairs S_locator post  S_found S_places))))))))))))))))
def wp_So_findPlaces_L2 (F_powers : Nat → Int32) (F_logs : Nat → Int32) (W_data : Int32) (W_repairs : Int32) (S_locator : Nat → Int32) (post : Int32 → Int32 → (Nat → Int32) → Prop)  : Nat → Int32 → (Nat → Int32) → Int32 → Int32 → Prop
  | 0 => fun _ _ _ _ => False
  | n + 1 => wp_So_findPlaces_b2 F_powers F_logs W_data W_repairs S_locator post (wp_So_findPlaces_L2 F_powers F_logs W_data W_repairs S_locator post n)
def wp_So_findPlaces (F_powers : Nat → Int32) (F_logs : Nat → Int32) (W_data : Int32) (W_repairs : Int32) (S_found : Int32) (S_locator : Nat → Int32) (S_places : Nat → Int32) (p2 : Int32) (post : Int32 → Int32 → (Nat → Int32) → Prop) : Prop := ∃ n : Nat, wp_So_findPlaces_L2 F_powers F_logs W_data W_repairs S_locator post  n S_found S_places p2 (0 : Int32)
abbrev rm_So_findPlaces : Room := { frames := 2, cells := 0, slots := 0, locals := 47 }
set_option maxHeartbeats 4000000 in
set_option maxRecDepth 100000 in
theorem ct_So_findPlaces (l : Launch) (dC : Nat → ClassId) (dI : Nat → Nat → Nat) (aF aF_powers aF_logs aW aW_bytes aW_lost aW_factors aS aS_syndromes aS_locator aS_helper aS_kept aS_evaluator aS_places aS_fixes : Nat) (cI cZ : ClassId) (F_powers : Nat → Int32) (F_logs : Nat → Int32) (W_lostCount : Int32) (W_data : Int32) (W_repairs : Int32) (W_first : Int32) (S_found : Int32) (S_locator : Nat → Int32) (S_places : Nat → Int32) (p2 : Int32) (post : Int32 → Int32 → (Nat → Int32) → Prop) (h : wp_So_findPlaces F_powers F_logs W_data W_repairs S_found S_locator S_places p2 post) (sz : Nat) : Met l y_So_findPlaces (Cond.code y_So_findPlaces c_So_findPlaces 5 (some .boolean) :: tb) rm_So_findPlaces (mt_P (dC, dI) vwCl [(cI, .int), (cZ, .boolean)] [.ref aS, .ref aW, .int p2] (wd_So_findPlaces aF aF_powers aF_logs aW aW_bytes aW_lost aW_factors aS aS_syndromes aS_locator aS_helper aS_kept aS_evaluator aS_places aS_fixes cI cZ F_powers F_logs W_lostCount W_data W_repairs W_first S_found S_locator S_places) sz) (va_Qi (fun (r : Int32) (u : Int32 × (Nat → Int32)) => post r u.1 u.2) (mt_B (dC, dI) vwCl [(cI, .int), (cZ, .boolean)] (wd_So_findPlaces aF aF_powers aF_logs aW aW_bytes aW_lost aW_factors aS aS_syndromes aS_locator aS_helper aS_kept aS_evaluator aS_places aS_fixes cI cZ F_powers F_logs W_lostCount W_data W_repairs W_first S_found S_locator S_places) sz (fun u : Int32 × (Nat → Int32) => wd_So_findPlaces aF aF_powers aF_logs aW aW_bytes aW_lost aW_factors aS aS_syndromes aS_locator aS_helper aS_kept aS_evaluator aS_places aS_fixes cI cZ F_powers F_logs W_lostCount W_data W_repairs W_first u.1 S_locator u.2)) (va_A (wd_So_findPlaces aF aF_powers aF_logs aW aW_bytes aW_lost aW_factors aS aS_syndromes aS_locator aS_helper aS_kept aS_evaluator aS_places aS_fixes cI cZ F_powers F_logs W_lostCount W_data W_repairs W_first S_found S_locator S_places) sz)) 0 0 (va_A (wd_So_findPlaces aF aF_powers aF_logs aW aW_bytes aW_lost aW_factors aS aS_syndromes aS_locator aS_helper aS_kept aS_evaluator aS_places aS_fixes cI cZ F_powers F_logs W_lostCount W_data W_repairs W_first S_found S_locator S_places) sz) := by
  refine mt_bd (by decide +kernel) (Nat.le_of_ble_eq_true rfl) ?_
  intro p e s m args below meth c hx hb hml hown hts hr hlk hnm hsz hP hK hD hA hS ls hl
  subst hsz
  have hown : s.vm.findClass "ReedSets$Solver" = some m.cls := hown
  have hl : lv_has ls 5 [(0, .ref aS), (1, .ref aW), (2, .int p2)] := hl
  refine lz_Q (fun Q hQ => ?_)
  obtain ⟨A, hAe⟩ : ∃ A : Nat → Prop, A = va_A (wd_So_findPlaces aF aF_powers aF_logs aW aW_bytes aW_lost aW_factors aS aS_syndromes aS_locator aS_helper aS_kept aS_evaluator aS_places aS_fixes cI cZ F_powers F_logs W_lostCount W_data W_repairs W_first S_found S_locator S_places) s.heap.size := ⟨_, rfl⟩
  rw [← hAe] at hD hA hS
  have RET : ∀ (v : Int32) (S_found : Int32) (S_places : Nat → Int32) (H : Heap) (locs : List Loc) (ls : Array Slot) (pc : Nat), decode c_So_findPlaces pc = .ok (.ireturn, 1) → narrow .boolean (.int v) = .int v → post v S_found S_places → va_P (dC, dI) vwCl (wd_So_findPlaces aF aF_powers aF_logs aW aW_bytes aW_lost aW_factors aS aS_syndromes aS_locator aS_helper aS_kept aS_evaluator aS_places aS_fixes cI cZ F_powers F_logs W_lostCount W_data W_repairs W_first S_found S_locator S_places) H → va_D A (wd_So_findPlaces aF aF_powers aF_logs aW aW_bytes aW_lost aW_factors aS aS_syndromes aS_locator aS_helper aS_kept aS_evaluator aS_places aS_fixes cI cZ F_powers F_logs W_lostCount W_data W_repairs W_first S_found S_locator S_places) → va_S A s.heap H locs → W p l e rm_So_findPlaces s m args below meth c H locs 0 0 Q (F0 m pc ls [.int v]) := by
    intro v S_found S_places H locs ls pc hd hz hp h1 h2 h3
    rw [hQ]
    rw [hAe] at h2 h3
    exact mt_retz (S_found, S_places) hx hb hr hlk hd hK h1 h2 h3 hz hp
  have B61 : ∀ (S_found : Int32) (S_places : Nat → Int32) (H : Heap) (locs : List Loc) (ls : Array Slot), wp_So_findPlaces_b61 F_powers F_logs W_data W_repairs S_locator post  S_found S_places → va_P (dC, dI) vwCl (wd_So_findPlaces aF aF_powers aF_logs aW aW_bytes aW_lost aW_factors aS aS_syndromes aS_locator aS_helper aS_kept aS_evaluator aS_places aS_fixes cI cZ F_powers F_logs W_lostCount W_data W_repairs W_first S_found S_locator S_places) H → va_D A (wd_So_findPlaces aF aF_powers aF_logs aW aW_bytes aW_lost aW_factors aS aS_syndromes aS_locator aS_helper aS_kept aS_evaluator aS_places aS_fixes cI cZ F_powers F_logs W_lostCount W_data W_repairs W_first S_found S_locator S_places) → va_S A s.heap H locs → lv_has ls 5 [] → W p l e rm_So_findPlaces s m args below meth c H locs 0 0 Q (F0 m 61 ls []) := by
    intro  S_found S_places H locs ls h hP hD hS hl
    refine lv_iconst (v := (0 : Int32)) hx hb d_So_findPlaces_61 (by decide) ?_
    exact RET (0 : Int32) S_found S_places H locs ls 62 d_So_findPlaces_62 rfl h hP hD hS
  have B83 : ∀ (K2 : Int32 → (Nat → Int32) → Int32 → Int32 → Prop) (HK2 : ∀ (S_found : Int32) (S_places : Nat → Int32) (x2 : Int32) (x3 : Int32) (H : Heap) (locs : List Loc) (ls : Array Slot), K2 S_found S_places x2 x3 → va_P (dC, dI) vwCl (wd_So_findPlaces aF aF_powers aF_logs aW aW_bytes aW_lost aW_factors aS aS_syndromes aS_locator aS_helper aS_kept aS_evaluator aS_places aS_fixes cI cZ F_powers F_logs W_lostCount W_data W_repairs W_first S_found S_locator S_places) H → va_D A (wd_So_findPlaces aF aF_powers aF_logs aW aW_bytes aW_lost aW_factors aS aS_syndromes aS_locator aS_helper aS_kept aS_evaluator aS_places aS_fixes cI cZ F_powers F_logs W_lostCount W_data W_repairs W_first S_found S_locator S_places) → va_S A s.heap H locs → lv_has ls 5 [(0, .ref aS), (1, .ref aW), (2, .int x2), (3, .int x3)] → W p l e rm_So_findPlaces s m args below meth c H locs 0 0 Q (F0 m 2 ls [])), ∀ (S_found : Int32) (S_places : Nat → Int32) (x2 : Int32) (x3 : Int32) (H : Heap) (locs : List Loc) (ls : Array Slot), wp_So_findPlaces_b83 F_powers F_logs W_data W_repairs S_locator post K2 S_found S_places x2 x3 → va_P (dC, dI) vwCl (wd_So_findPlaces aF aF_powers aF_logs aW aW_bytes aW_lost aW_factors aS aS_syndromes aS_locator aS_helper aS_kept aS_evaluator aS_places aS_fixes cI cZ F_powers F_logs W_lostCount W_data W_repairs W_first S_found S_locator S_places) H → va_D A (wd_So_findPlaces aF aF_powers aF_logs aW aW_bytes aW_lost aW_factors aS aS_syndromes aS_locator aS_helper aS_kept aS_evaluator aS_places aS_fixes cI cZ F_powers F_logs W_lostCount W_data W_repairs W_first S_found S_locator S_places) → va_S A s.heap H locs → lv_has ls 5 [(0, .ref aS), (1, .ref aW), (2, .int x2), (3, .int x3)] → W p l e rm_So_findPlaces s m args below meth c H locs 0 0 Q (F0 m 83 ls []) := by
    intro K2 HK2 S_found S_places x2 x3 H locs ls h hP hD hS hl
    obtain ⟨x3_83, ex3_83⟩ : ∃ y : Int32, y = (x3 + (1 : Int32)) := ⟨_, rfl⟩
    have h := h x3_83 ex3_83
    refine lv_iinc (v := x3_83) (lv' := [(3, .int x3_83), (0, .ref aS), (1, .ref aW), (2, .int x2)]) hx hb d_So_findPlaces_83 hl (k := 3) rfl (by rw [ex3_83]; rfl) (by decide) rfl (fun ls hl => ?_)
    refine lv_goto (tgt := 2) hx hb d_So_findPlaces_86 (by decide) ?_
    exact HK2 S_found S_places x2 x3_83 H locs ls h hP hD hS (lv_sub hl [1, 2, 3, 0] rfl)
  have B102 : ∀ (S_found : Int32) (S_places : Nat → Int32) (t0 : Int32) (H : Heap) (locs : List Loc) (ls : Array Slot), wp_So_findPlaces_b102 F_powers F_logs W_data W_repairs S_locator post  S_found S_places t0 → va_P (dC, dI) vwCl (wd_So_findPlaces aF aF_powers aF_logs aW aW_bytes aW_lost aW_factors aS aS_syndromes aS_locator aS_helper aS_kept aS_evaluator aS_places aS_fixes cI cZ F_powers F_logs W_lostCount W_data W_repairs W_first S_found S_locator S_places) H → va_D A (wd_So_findPlaces aF aF_powers aF_logs aW aW_bytes aW_lost aW_factors aS aS_syndromes aS_locator aS_helper aS_kept aS_evaluator aS_places aS_fixes cI cZ F_powers F_logs W_lostCount W_data W_repairs W_first S_found S_locator S_places) → va_S A s.heap H locs → lv_has ls 5 [] → W p l e rm_So_findPlaces s m args below meth c H locs 0 0 Q (F0 m 102 ls [.int t0]) := by
    intro  S_found S_places t0 H locs ls h hP hD hS hl
    obtain ⟨hz, h⟩ := h
    exact RET t0 S_found S_places H locs ls 102 d_So_findPlaces_102 hz h hP hD hS
  have B2 : ∀ (K2 : Int32 → (Nat → Int32) → Int32 → Int32 → Prop) (HK2 : ∀ (S_found : Int32) (S_places : Nat → Int32) (x2 : Int32) (x3 : Int32) (H : Heap) (locs : List Loc) (ls : Array Slot), K2 S_found S_places x2 x3 → va_P (dC, dI) vwCl (wd_So_findPlaces aF aF_powers aF_logs aW aW_bytes aW_lost aW_factors aS aS_syndromes aS_locator aS_helper aS_kept aS_evaluator aS_places aS_fixes cI cZ F_powers F_logs W_lostCount W_data W_repairs W_first S_found S_locator S_places) H → va_D A (wd_So_findPlaces aF aF_powers aF_logs aW aW_bytes aW_lost aW_factors aS aS_syndromes aS_locator aS_helper aS_kept aS_evaluator aS_places aS_fixes cI cZ F_powers F_logs W_lostCount W_data W_repairs W_first S_found S_locator S_places) → va_S A s.heap H locs → lv_has ls 5 [(0, .ref aS), (1, .ref aW), (2, .int x2), (3, .int x3)] → W p l e rm_So_findPlaces s m args below meth c H locs 0 0 Q (F0 m 2 ls [])), ∀ (S_found : Int32) (S_places : Nat → Int32) (x2 : Int32) (x3 : Int32) (H : Heap) (locs : List Loc) (ls : Array Slot), wp_So_findPlaces_b2 F_powers F_logs W_data W_repairs S_locator post K2 S_found S_places x2 x3 → va_P (dC, dI) vwCl (wd_So_findPlaces aF aF_powers aF_logs aW aW_bytes aW_lost aW_factors aS aS_syndromes aS_locator aS_helper aS_kept aS_evaluator aS_places aS_fixes cI cZ F_powers F_logs W_lostCount W_data W_repairs W_first S_found S_locator S_places) H → va_D A (wd_So_findPlaces aF aF_powers aF_logs aW aW_bytes aW_lost aW_factors aS aS_syndromes aS_locator aS_helper aS_kept aS_evaluator aS_places aS_fixes cI cZ F_powers F_logs W_lostCount W_data W_repairs W_first S_found S_locator S_places) → va_S A s.heap H locs → lv_has ls 5 [(0, .ref aS), (1, .ref aW), (2, .int x2), (3, .int x3)] → W p l e rm_So_findPlaces s m args below meth c H locs 0 0 Q (F0 m 2 ls []) := by
    intro K2 HK2 S_found S_places x2 x3 H locs ls h hP hD hS hl
    refine lv_iload_n hx hb d_So_findPlaces_2 rfl (lv_at hl 3 rfl) ?_
    refine lv_aload_n hx hb d_So_findPlaces_3 rfl (lv_at hl 1 rfl) ?_
    refine mt_i (va_runV (As := []) (rest := [.int x3]) ⟨hx, hb, hml, hown, hts⟩ (ct_Wo_size l dC dI aW aF aW_bytes aW_lost aW_factors cI cZ W_lostCount W_data W_repairs W_first _ h _) (tb_cV hts ok_Wo_size tb_405 rfl rfl ⟨Nat.le_of_ble_eq_true rfl, Nat.le_of_ble_eq_true rfl⟩) (mt_preV hK hP hD [] [3] rfl (by decide) (ci := 5) (q0 := 3) rfl rfl) rfl rfl hl.1 rfl (lv_room (Nat.le_of_ble_eq_true rfl)) d_So_findPlaces_4 ⟨Nat.zero_le _, Nat.zero_le _⟩) hP hD hS hA [3] rfl (fun _ => rfl) (fun r_4 u H locs h hP hD hS => ?_)
    have hP : va_P (dC, dI) vwCl (wd_So_findPlaces aF aF_powers aF_logs aW aW_bytes aW_lost aW_factors aS aS_syndromes aS_locator aS_helper aS_kept aS_evaluator aS_places aS_fixes cI cZ F_powers F_logs W_lostCount W_data W_repairs W_first S_found S_locator S_places) H := hP
    have hD : va_D A (wd_So_findPlaces aF aF_powers aF_logs aW aW_bytes aW_lost aW_factors aS aS_syndromes aS_locator aS_helper aS_kept aS_evaluator aS_places aS_fixes cI cZ F_powers F_logs W_lostCount W_data W_repairs W_first S_found S_locator S_places) := hD
    refine lv_icmp_ge (tgt := 89) hx hb d_So_findPlaces_7 (by decide) (fun g7 => ?_) (fun g7 => ?_)
    · have h := h.1 g7
      refine lv_aload_n hx hb d_So_findPlaces_89 rfl (lv_at hl 0 rfl) ?_
      refine va_get (D := (dC, dI)) (ci := 3) (v := .int S_found) (C := "ReedSets$Solver") (T := T_So) (N := 9) hx hb hts in_So hown hK hP 4 rfl rfl 8 (by decide) (hts _ tb_156) (fun _ h9 => h9) rfl d_So_findPlaces_90 ?_
      refine lv_iload_n hx hb d_So_findPlaces_93 rfl (lv_at hl 2 rfl) ?_
      refine lv_icmp_ne (tgt := 101) hx hb d_So_findPlaces_94 (by decide) (fun g94 => ?_) (fun g94 => ?_)
      · have h := h.1 g94
        refine lv_iconst (v := (0 : Int32)) hx hb d_So_findPlaces_101 (by decide) ?_
        exact B102  S_found S_places (0 : Int32) H locs ls h hP hD hS (lv_sub hl [] rfl)
      · have h := h.2 g94
        refine lv_iconst (v := (1 : Int32)) hx hb d_So_findPlaces_97 (by decide) ?_
        refine lv_goto (tgt := 102) hx hb d_So_findPlaces_98 (by decide) ?_
        exact B102  S_found S_places (1 : Int32) H locs ls h hP hD hS (lv_sub hl [] rfl)
    · have h := h.2 g7
      refine lv_aload_n hx hb d_So_findPlaces_10 rfl (lv_at hl 0 rfl) ?_
      refine va_get (D := (dC, dI)) (ci := 3) (v := .ref aF) (C := "ReedSets$Solver") (T := T_So) (N := 9) hx hb hts in_So hown hK hP 4 rfl rfl 0 (by decide) (hts _ tb_147) (fun _ h9 => h9) rfl d_So_findPlaces_11 ?_
      refine lv_aload_n hx hb d_So_findPlaces_14 rfl (lv_at hl 1 rfl) ?_
      refine lv_iload_n hx hb d_So_findPlaces_15 rfl (lv_at hl 3 rfl) ?_
      refine mt_i (va_runV (As := [.int x3]) (rest := [.ref aF]) ⟨hx, hb, hml, hown, hts⟩ (ct_Wo_powerAt l dC dI aW aF aW_bytes aW_lost aW_factors cI cZ W_lostCount W_data W_repairs W_first x3 _ h _) (tb_cV hts ok_Wo_powerAt tb_406 rfl rfl ⟨Nat.le_of_ble_eq_true rfl, Nat.le_of_ble_eq_true rfl⟩) (mt_preV hK hP hD [.int x3] [3] rfl (by decide) (ci := 5) (q0 := 3) rfl rfl) rfl rfl hl.1 rfl (lv_room (Nat.le_of_ble_eq_true rfl)) d_So_findPlaces_16 ⟨Nat.zero_le _, Nat.zero_le _⟩) hP hD hS hA [3] rfl (fun _ => rfl) (fun r_16 u H locs h hP hD hS => ?_)
      have hP : va_P (dC, dI) vwCl (wd_So_findPlaces aF aF_powers aF_logs aW aW_bytes aW_lost aW_factors aS aS_syndromes aS_locator aS_helper aS_kept aS_evaluator aS_places aS_fixes cI cZ F_powers F_logs W_lostCount W_data W_repairs W_first S_found S_locator S_places) H := hP
      have hD : va_D A (wd_So_findPlaces aF aF_powers aF_logs aW aW_bytes aW_lost aW_factors aS aS_syndromes aS_locator aS_helper aS_kept aS_evaluator aS_places aS_fixes cI cZ F_powers F_logs W_lostCount W_data W_repairs W_first S_found S_locator S_places) := hD
      refine lv_ineg hx hb d_So_findPlaces_19 ?_
      refine mt_i (va_runV (As := [.int (-r_16)]) (rest := []) ⟨hx, hb, hml, hown, hts⟩ (ct_Fi_powerOfTwo l dC dI aF aF_powers aF_logs cI cZ F_powers (-r_16) _ h _) (tb_cV hts ok_Fi_powerOfTwo tb_410 rfl rfl ⟨Nat.le_of_ble_eq_true rfl, Nat.le_of_ble_eq_true rfl⟩) (mt_preV hK hP hD [.int (-r_16)] [0, 1] rfl (by decide) (ci := 1) (q0 := 0) rfl rfl) rfl rfl hl.1 rfl (lv_room (Nat.le_of_ble_eq_true rfl)) d_So_findPlaces_20 ⟨Nat.zero_le _, Nat.zero_le _⟩) hP hD hS hA [0, 1] rfl (fun _ => rfl) (fun r_20 u H locs h hP hD hS => ?_)
      have hP : va_P (dC, dI) vwCl (wd_So_findPlaces aF aF_powers aF_logs aW aW_bytes aW_lost aW_factors aS aS_syndromes aS_locator aS_helper aS_kept aS_evaluator aS_places aS_fixes cI cZ F_powers F_logs W_lostCount W_data W_repairs W_first S_found S_locator S_places) H := hP
      have hD : va_D A (wd_So_findPlaces aF aF_powers aF_logs aW aW_bytes aW_lost aW_factors aS aS_syndromes aS_locator aS_helper aS_kept aS_evaluator aS_places aS_fixes cI cZ F_powers F_logs W_lostCount W_data W_repairs W_first S_found S_locator S_places) := hD
      refine lv_istore (lv' := [(4, .int r_20), (0, .ref aS), (1, .ref aW), (2, .int x2), (3, .int x3)]) hx hb d_So_findPlaces_23 hl (by decide) rfl (fun ls hl => ?_)
      refine lv_aload_n hx hb d_So_findPlaces_25 rfl (lv_at hl 1 rfl) ?_
      refine va_get (D := (dC, dI)) (ci := 3) (v := .ref aF) (C := "ReedSets$Solver") (T := T_So) (N := 9) hx hb hts in_So hown hK hP 4 rfl rfl 0 (by decide) (hts _ tb_147) (fun _ h9 => h9) rfl d_So_findPlaces_26 ?_
      refine lv_aload_n hx hb d_So_findPlaces_29 rfl (lv_at hl 1 rfl) ?_
      refine va_get (D := (dC, dI)) (ci := 3) (v := .ref aS_locator) (C := "ReedSets$Solver") (T := T_So) (N := 9) hx hb hts in_So hown hK hP 4 rfl rfl 2 (by decide) (hts _ tb_149) (fun _ h9 => h9) rfl d_So_findPlaces_30 ?_
      refine lv_iload_n hx hb d_So_findPlaces_33 rfl (lv_at hl 3 rfl) ?_
      refine lv_iconst (v := (1 : Int32)) hx hb d_So_findPlaces_34 (by decide) ?_
      refine lv_iadd hx hb d_So_findPlaces_35 ?_
      refine lv_iload hx hb d_So_findPlaces_36 (lv_at hl 0 rfl) ?_
      refine mt_i (va_runV (As := [.ref aS_locator, .int (x2 + (1 : Int32)), .int r_20]) (rest := []) ⟨hx, hb, hml, hown, hts⟩ (ct_Fi_valueOf l dC dI aF aF_powers aF_logs aS_locator cI cZ F_powers F_logs S_locator (x2 + (1 : Int32)) r_20 _ h _) (tb_cV hts ok_Fi_valueOf tb_440 rfl rfl ⟨Nat.le_of_ble_eq_true rfl, Nat.le_of_ble_eq_true rfl⟩) (mt_preV hK hP hD [.ref aS_locator, .int (x2 + (1 : Int32)), .int r_20] [0, 1, 2, 5] rfl (by decide) (ci := 1) (q0 := 0) rfl rfl) rfl rfl hl.1 rfl (lv_room (Nat.le_of_ble_eq_true rfl)) d_So_findPlaces_38 ⟨Nat.zero_le _, Nat.zero_le _⟩) hP hD hS hA [0, 1, 2, 5] rfl (fun _ => rfl) (fun r_38 u H locs h hP hD hS => ?_)
      have hP : va_P (dC, dI) vwCl (wd_So_findPlaces aF aF_powers aF_logs aW aW_bytes aW_lost aW_factors aS aS_syndromes aS_locator aS_helper aS_kept aS_evaluator aS_places aS_fixes cI cZ F_powers F_logs W_lostCount W_data W_repairs W_first S_found S_locator S_places) H := hP
      have hD : va_D A (wd_So_findPlaces aF aF_powers aF_logs aW aW_bytes aW_lost aW_factors aS aS_syndromes aS_locator aS_helper aS_kept aS_evaluator aS_places aS_fixes cI cZ F_powers F_logs W_lostCount W_data W_repairs W_first S_found S_locator S_places) := hD
      refine lv_if_ne (tgt := 83) hx hb d_So_findPlaces_41 (by decide) (fun g41 => ?_) (fun g41 => ?_)
      · have h := h.1 g41
        exact B83 K2 HK2 S_found S_places x2 x3 H locs ls h hP hD hS (lv_sub hl [1, 2, 3, 4] rfl)
      · have h := h.2 g41
        refine lv_aload_n hx hb d_So_findPlaces_44 rfl (lv_at hl 1 rfl) ?_
        refine va_get (D := (dC, dI)) (ci := 3) (v := .int S_found) (C := "ReedSets$Solver") (T := T_So) (N := 9) hx hb hts in_So hown hK hP 4 rfl rfl 8 (by decide) (hts _ tb_156) (fun _ h9 => h9) rfl d_So_findPlaces_45 ?_
        refine lv_iload_n hx hb d_So_findPlaces_48 rfl (lv_at hl 3 rfl) ?_
        refine lv_icmp_ge (tgt := 61) hx hb d_So_findPlaces_49 (by decide) (fun g49 => ?_) (fun g49 => ?_)
        · have h := h.1 g49
          exact B61  S_found S_places H locs ls h hP hD hS (lv_sub hl [] rfl)
        · have h := h.2 g49
          refine lv_aload_n hx hb d_So_findPlaces_52 rfl (lv_at hl 1 rfl) ?_
          refine va_get (D := (dC, dI)) (ci := 3) (v := .int S_found) (C := "ReedSets$Solver") (T := T_So) (N := 9) hx hb hts in_So hown hK hP 4 rfl rfl 8 (by decide) (hts _ tb_156) (fun _ h9 => h9) rfl d_So_findPlaces_53 ?_
          refine lv_bipush (v := (40 : Int32)) hx hb d_So_findPlaces_56 (by decide) ?_
          refine lv_icmp_lt (tgt := 63) hx hb d_So_findPlaces_58 (by decide) (fun g58 => ?_) (fun g58 => ?_)
          · have h := h.1 g58
            refine lv_aload_n hx hb d_So_findPlaces_63 rfl (lv_at hl 1 rfl) ?_
            refine va_get (D := (dC, dI)) (ci := 3) (v := .ref aS_places) (C := "ReedSets$Solver") (T := T_So) (N := 9) hx hb hts in_So hown hK hP 4 rfl rfl 6 (by decide) (hts _ tb_153) (fun _ h9 => h9) rfl d_So_findPlaces_64 ?_
            refine lv_aload_n hx hb d_So_findPlaces_67 rfl (lv_at hl 1 rfl) ?_
            refine va_get (D := (dC, dI)) (ci := 3) (v := .int S_found) (C := "ReedSets$Solver") (T := T_So) (N := 9) hx hb hts in_So hown hK hP 4 rfl rfl 8 (by decide) (hts _ tb_156) (fun _ h9 => h9) rfl d_So_findPlaces_68 ?_
            refine lv_iload_n hx hb d_So_findPlaces_71 rfl (lv_at hl 4 rfl) ?_
            obtain ⟨hi, h⟩ := h
            refine va_iast hx hb hK hP hD hS 6 0 rfl rfl hi d_So_findPlaces_72 (fun H locs hP hD hS => ?_)
            have hP : va_P (dC, dI) vwCl (wd_So_findPlaces aF aF_powers aF_logs aW aW_bytes aW_lost aW_factors aS aS_syndromes aS_locator aS_helper aS_kept aS_evaluator aS_places aS_fixes cI cZ F_powers F_logs W_lostCount W_data W_repairs W_first S_found S_locator (upd S_places S_found.toNatClampNeg x3)) H := hP
            have hD : va_D A (wd_So_findPlaces aF aF_powers aF_logs aW aW_bytes aW_lost aW_factors aS aS_syndromes aS_locator aS_helper aS_kept aS_evaluator aS_places aS_fixes cI cZ F_powers F_logs W_lostCount W_data W_repairs W_first S_found S_locator (upd S_places S_found.toNatClampNeg x3)) := hD
            refine lv_aload_n hx hb d_So_findPlaces_73 rfl (lv_at hl 1 rfl) ?_
            refine lv_dup hx hb d_So_findPlaces_74 rfl ?_
            refine va_get (D := (dC, dI)) (ci := 3) (v := .int S_found) (C := "ReedSets$Solver") (T := T_So) (N := 9) hx hb hts in_So hown hK hP 4 rfl rfl 8 (by decide) (hts _ tb_156) (fun _ h9 => h9) rfl d_So_findPlaces_75 ?_
            refine lv_iconst (v := (1 : Int32)) hx hb d_So_findPlaces_78 (by decide) ?_
            refine lv_iadd hx hb d_So_findPlaces_79 ?_
            refine lv_topi (fun y_80 ey_80 => ?_)
            have h := h y_80 ey_80
            refine va_put (D := (dC, dI)) (ci := 3) (v := .int y_80) (ty := .int) (C := "ReedSets$Solver") (T := T_So) (N := 9) hx hb hts in_So ty_So tk_So nm_So hown hK hP hD hS 4 rfl rfl 8 (by decide) (hts _ tb_156) (fun _ h9 => h9) rfl (by decide +kernel) rfl rfl (Nat.le_of_ble_eq_true rfl) d_So_findPlaces_80 (fun H locs hP hD hS => ?_)
            have hP : va_P (dC, dI) vwCl (wd_So_findPlaces aF aF_powers aF_logs aW aW_bytes aW_lost aW_factors aS aS_syndromes aS_locator aS_helper aS_kept aS_evaluator aS_places aS_fixes cI cZ F_powers F_logs W_lostCount W_data W_repairs W_first y_80 S_locator (upd S_places S_found.toNatClampNeg x3)) H := hP
            have hD : va_D A (wd_So_findPlaces aF aF_powers aF_logs aW aW_bytes aW_lost aW_factors aS aS_syndromes aS_locator aS_helper aS_kept aS_evaluator aS_places aS_fixes cI cZ F_powers F_logs W_lostCount W_data W_repairs W_first y_80 S_locator (upd S_places S_found.toNatClampNeg x3)) := hD
            exact B83 K2 HK2 y_80 (upd S_places S_found.toNatClampNeg x3) x2 x3 H locs ls h hP hD hS (lv_sub hl [1, 2, 3, 4] rfl)
          · have h := h.2 g58
            exact B61  S_found S_places H locs ls h hP hD hS (lv_sub hl [] rfl)
  have L2 : ∀  (n : Nat), ∀ (S_found : Int32) (S_places : Nat → Int32) (x2 : Int32) (x3 : Int32) (H : Heap) (locs : List Loc) (ls : Array Slot), wp_So_findPlaces_L2 F_powers F_logs W_data W_repairs S_locator post  n S_found S_places x2 x3 → va_P (dC, dI) vwCl (wd_So_findPlaces aF aF_powers aF_logs aW aW_bytes aW_lost aW_factors aS aS_syndromes aS_locator aS_helper aS_kept aS_evaluator aS_places aS_fixes cI cZ F_powers F_logs W_lostCount W_data W_repairs W_first S_found S_locator S_places) H → va_D A (wd_So_findPlaces aF aF_powers aF_logs aW aW_bytes aW_lost aW_factors aS aS_syndromes aS_locator aS_helper aS_kept aS_evaluator aS_places aS_fixes cI cZ F_powers F_logs W_lostCount W_data W_repairs W_first S_found S_locator S_places) → va_S A s.heap H locs → lv_has ls 5 [(0, .ref aS), (1, .ref aW), (2, .int x2), (3, .int x3)] → W p l e rm_So_findPlaces s m args below meth c H locs 0 0 Q (F0 m 2 ls []) := by
    intro  n
    induction n with
    | zero => intro S_found S_places x2 x3 H locs ls h hP hD hS hl; exact False.elim h
    | succ n ih => intro S_found S_places x2 x3 H locs ls h hP hD hS hl; exact B2  (wp_So_findPlaces_L2 F_powers F_logs W_data W_repairs S_locator post  n) ih S_found S_places x2 x3 H locs ls h hP hD hS hl
  obtain ⟨H, hH⟩ : ∃ H : Heap, H = s.heap := ⟨_, rfl⟩
  obtain ⟨locs, hlo⟩ : ∃ x : List Loc, x = [] := ⟨_, rfl⟩
  have hS : va_S A s.heap H locs := by rw [hH, hlo]; exact hS
  rw [← hH] at hP
  rw [← hlo]
  show W p l e rm_So_findPlaces s m args below meth c s.heap locs 0 0 Q (F0 m 0 ls [])
  rw [← hH]
  refine lv_iconst (v := (0 : Int32)) hx hb d_So_findPlaces_0 (by decide) ?_
  refine lv_istore_n (lv' := [(3, .int (0 : Int32)), (0, .ref aS), (1, .ref aW), (2, .int p2)]) hx hb d_So_findPlaces_1 rfl hl (by decide) rfl (fun ls hl => ?_)
  obtain ⟨n, h⟩ := h
  exact L2  n S_found S_places p2 (0 : Int32) H locs ls h hP hD hS (lv_sub hl [1, 2, 3, 0] rfl)
abbrev wd_So_slopeAt (aF aF_powers aF_logs aS aS_syndromes aS_locator aS_helper aS_kept aS_evaluator aS_places aS_fixes : Nat) (cI cZ : ClassId) (F_powers : Nat → Int32) (F_logs : Nat → Int32) (S_found : Int32) (S_locator : Nat → Int32) : va_W := [(aF, .inr (1, [.ref aF_powers, .ref aF_logs])), (aF_powers, .inl (cI, 512, .inl F_powers)), (aF_logs, .inl (cI, 256, .inl F_logs)), (aS, .inr (3, [.ref aF, .ref aS_syndromes, .ref aS_locator, .ref aS_helper, .ref aS_kept, .ref aS_evaluator, .ref aS_places, .ref aS_fixes, .int S_found])), (aS_locator, .inl (cI, 41, .inl S_locator))]
def wp_So_slopeAt_b16 (F_powers : Nat → Int32) (F_logs : Nat → Int32) (S_locator : Nat → Int32) (post : Int32 → Prop) (K16 : Int32 → Int32 → Int32 → Prop) (x2 : Int32) (x3 : Int32) (x4 : Int32) : Prop := (x4 < (1 : Int32) → (post x3)) ∧ (¬ x4 < (1 : Int32) → (wp_Fi_product F_powers F_logs x3 x2 (fun r_28 => (vp_in x4 41 ∧ (∀ x3_39 : Int32, x3_39 = (r_28 ^^^ (S_locator x4.toNatClampNeg)) → (∀ x4_40 : Int32, x4_40 = (x4 + (-2 : Int32)) → (K16 x2 x3_39 x4_40)))))))
def wp_So_slopeAt_L16 (F_powers : Nat → Int32) (F_logs : Nat → Int32) (S_locator : Nat → Int32) (post : Int32 → Prop)  : Nat → Int32 → Int32 → Int32 → Prop
  | 0 => fun _ _ _ => False
  | n + 1 => wp_So_slopeAt_b16 F_powers F_logs S_locator post (wp_So_slopeAt_L16 F_powers F_logs S_locator post n)
def wp_So_slopeAt (F_powers : Nat → Int32) (F_logs : Nat → Int32) (S_locator : Nat → Int32) (p1 : Int32) (post : Int32 → Prop) : Prop := wp_Fi_product F_powers F_logs p1 p1 (fun r_6 => (∃ n : Nat, wp_So_slopeAt_L16 F_powers F_logs S_locator post  n r_6 (0 : Int32) (39 : Int32)))
abbrev rm_So_slopeAt : Room := { frames := 1, cells := 0, slots := 0, locals := 22 }
set_option maxHeartbeats 4000000 in
set_option maxRecDepth 100000 in
theorem ct_So_slopeAt (l : Launch) (dC : Nat → ClassId) (dI : Nat → Nat → Nat) (aF aF_powers aF_logs aS aS_syndromes aS_locator aS_helper aS_kept aS_evaluator aS_places aS_fixes : Nat) (cI cZ : ClassId) (F_powers : Nat → Int32) (F_logs : Nat → Int32) (S_found : Int32) (S_locator : Nat → Int32) (p1 : Int32) (post : Int32 → Prop) (h : wp_So_slopeAt F_powers F_logs S_locator p1 post) (sz : Nat) : Met l y_So_slopeAt (Cond.code y_So_slopeAt c_So_slopeAt 5 (some .int) :: tb) rm_So_slopeAt (mt_P (dC, dI) vwCl [(cI, .int), (cZ, .boolean)] [.ref aS, .int p1] (wd_So_slopeAt aF aF_powers aF_logs aS aS_syndromes aS_locator aS_helper aS_kept aS_evaluator aS_places aS_fixes cI cZ F_powers F_logs S_found S_locator) sz) (va_Qi (fun (r : Int32) (u : Unit) => post r) (mt_B (dC, dI) vwCl [(cI, .int), (cZ, .boolean)] (wd_So_slopeAt aF aF_powers aF_logs aS aS_syndromes aS_locator aS_helper aS_kept aS_evaluator aS_places aS_fixes cI cZ F_powers F_logs S_found S_locator) sz (fun u : Unit => wd_So_slopeAt aF aF_powers aF_logs aS aS_syndromes aS_locator aS_helper aS_kept aS_evaluator aS_places aS_fixes cI cZ F_powers F_logs S_found S_locator)) (va_A (wd_So_slopeAt aF aF_powers aF_logs aS aS_syndromes aS_locator aS_helper aS_kept aS_evaluator aS_places aS_fixes cI cZ F_powers F_logs S_found S_locator) sz)) 0 0 (va_A (wd_So_slopeAt aF aF_powers aF_logs aS aS_syndromes aS_locator aS_helper aS_kept aS_evaluator aS_places aS_fixes cI cZ F_powers F_logs S_found S_locator) sz) := by
  refine mt_bd (by decide +kernel) (Nat.le_of_ble_eq_true rfl) ?_
  intro p e s m args below meth c hx hb hml hown hts hr hlk hnm hsz hP hK hD hA hS ls hl
  subst hsz
  have hown : s.vm.findClass "ReedSets$Solver" = some m.cls := hown
  have hl : lv_has ls 5 [(0, .ref aS), (1, .int p1)] := hl
  refine lz_Q (fun Q hQ => ?_)
  obtain ⟨A, hAe⟩ : ∃ A : Nat → Prop, A = va_A (wd_So_slopeAt aF aF_powers aF_logs aS aS_syndromes aS_locator aS_helper aS_kept aS_evaluator aS_places aS_fixes cI cZ F_powers F_logs S_found S_locator) s.heap.size := ⟨_, rfl⟩
  rw [← hAe] at hD hA hS
  have RET : ∀ (v : Int32)  (H : Heap) (locs : List Loc) (ls : Array Slot) (pc : Nat), decode c_So_slopeAt pc = .ok (.ireturn, 1) → post v  → va_P (dC, dI) vwCl (wd_So_slopeAt aF aF_powers aF_logs aS aS_syndromes aS_locator aS_helper aS_kept aS_evaluator aS_places aS_fixes cI cZ F_powers F_logs S_found S_locator) H → va_D A (wd_So_slopeAt aF aF_powers aF_logs aS aS_syndromes aS_locator aS_helper aS_kept aS_evaluator aS_places aS_fixes cI cZ F_powers F_logs S_found S_locator) → va_S A s.heap H locs → W p l e rm_So_slopeAt s m args below meth c H locs 0 0 Q (F0 m pc ls [.int v]) := by
    intro v  H locs ls pc hd hp h1 h2 h3
    rw [hQ]
    rw [hAe] at h2 h3
    exact mt_reti () hx hb hr hlk hd hK h1 h2 h3 hp
  have B16 : ∀ (K16 : Int32 → Int32 → Int32 → Prop) (HK16 : ∀ (x2 : Int32) (x3 : Int32) (x4 : Int32) (H : Heap) (locs : List Loc) (ls : Array Slot), K16 x2 x3 x4 → va_P (dC, dI) vwCl (wd_So_slopeAt aF aF_powers aF_logs aS aS_syndromes aS_locator aS_helper aS_kept aS_evaluator aS_places aS_fixes cI cZ F_powers F_logs S_found S_locator) H → va_D A (wd_So_slopeAt aF aF_powers aF_logs aS aS_syndromes aS_locator aS_helper aS_kept aS_evaluator aS_places aS_fixes cI cZ F_powers F_logs S_found S_locator) → va_S A s.heap H locs → lv_has ls 5 [(0, .ref aS), (2, .int x2), (3, .int x3), (4, .int x4)] → W p l e rm_So_slopeAt s m args below meth c H locs 0 0 Q (F0 m 16 ls [])), ∀ (x2 : Int32) (x3 : Int32) (x4 : Int32) (H : Heap) (locs : List Loc) (ls : Array Slot), wp_So_slopeAt_b16 F_powers F_logs S_locator post K16 x2 x3 x4 → va_P (dC, dI) vwCl (wd_So_slopeAt aF aF_powers aF_logs aS aS_syndromes aS_locator aS_helper aS_kept aS_evaluator aS_places aS_fixes cI cZ F_powers F_logs S_found S_locator) H → va_D A (wd_So_slopeAt aF aF_powers aF_logs aS aS_syndromes aS_locator aS_helper aS_kept aS_evaluator aS_places aS_fixes cI cZ F_powers F_logs S_found S_locator) → va_S A s.heap H locs → lv_has ls 5 [(0, .ref aS), (2, .int x2), (3, .int x3), (4, .int x4)] → W p l e rm_So_slopeAt s m args below meth c H locs 0 0 Q (F0 m 16 ls []) := by
    intro K16 HK16 x2 x3 x4 H locs ls h hP hD hS hl
    refine lv_iload hx hb d_So_slopeAt_16 (lv_at hl 3 rfl) ?_
    refine lv_iconst (v := (1 : Int32)) hx hb d_So_slopeAt_18 (by decide) ?_
    refine lv_icmp_lt (tgt := 46) hx hb d_So_slopeAt_19 (by decide) (fun g19 => ?_) (fun g19 => ?_)
    · have h := h.1 g19
      refine lv_iload_n hx hb d_So_slopeAt_46 rfl (lv_at hl 2 rfl) ?_
      exact RET x3 H locs ls 47 d_So_slopeAt_47 h hP hD hS
    · have h := h.2 g19
      refine lv_aload_n hx hb d_So_slopeAt_22 rfl (lv_at hl 0 rfl) ?_
      refine va_get (D := (dC, dI)) (ci := 3) (v := .ref aF) (C := "ReedSets$Solver") (T := T_So) (N := 9) hx hb hts in_So hown hK hP 3 rfl rfl 0 (by decide) (hts _ tb_147) (fun _ h9 => h9) rfl d_So_slopeAt_23 ?_
      refine lv_iload_n hx hb d_So_slopeAt_26 rfl (lv_at hl 2 rfl) ?_
      refine lv_iload_n hx hb d_So_slopeAt_27 rfl (lv_at hl 1 rfl) ?_
      refine mt_i (va_runV (As := [.int x3, .int x2]) (rest := []) ⟨hx, hb, hml, hown, hts⟩ (ct_Fi_product l dC dI aF aF_powers aF_logs cI cZ F_powers F_logs x3 x2 _ h _) (tb_cV hts ok_Fi_product tb_411 rfl rfl ⟨Nat.le_of_ble_eq_true rfl, Nat.le_of_ble_eq_true rfl⟩) (mt_preV hK hP hD [.int x3, .int x2] [0, 1, 2] rfl (by decide) (ci := 1) (q0 := 0) rfl rfl) rfl rfl hl.1 rfl (lv_room (Nat.le_of_ble_eq_true rfl)) d_So_slopeAt_28 ⟨Nat.zero_le _, Nat.zero_le _⟩) hP hD hS hA [0, 1, 2] rfl (fun _ => rfl) (fun r_28 u H locs h hP hD hS => ?_)
      have hP : va_P (dC, dI) vwCl (wd_So_slopeAt aF aF_powers aF_logs aS aS_syndromes aS_locator aS_helper aS_kept aS_evaluator aS_places aS_fixes cI cZ F_powers F_logs S_found S_locator) H := hP
      have hD : va_D A (wd_So_slopeAt aF aF_powers aF_logs aS aS_syndromes aS_locator aS_helper aS_kept aS_evaluator aS_places aS_fixes cI cZ F_powers F_logs S_found S_locator) := hD
      refine lv_aload_n hx hb d_So_slopeAt_31 rfl (lv_at hl 0 rfl) ?_
      refine va_get (D := (dC, dI)) (ci := 3) (v := .ref aS_locator) (C := "ReedSets$Solver") (T := T_So) (N := 9) hx hb hts in_So hown hK hP 3 rfl rfl 2 (by decide) (hts _ tb_149) (fun _ h9 => h9) rfl d_So_slopeAt_32 ?_
      refine lv_iload hx hb d_So_slopeAt_35 (lv_at hl 3 rfl) ?_
      obtain ⟨hi, h⟩ := h
      refine va_iald hx hb hK hP 4 0 rfl rfl hi d_So_slopeAt_37 ?_
      refine lv_ixor hx hb d_So_slopeAt_38 ?_
      refine lv_topi (fun x3_39 ex3_39 => ?_)
      have h := h x3_39 ex3_39
      refine lv_istore_n (lv' := [(3, .int x3_39), (0, .ref aS), (2, .int x2), (4, .int x4)]) hx hb d_So_slopeAt_39 rfl hl (by decide) rfl (fun ls hl => ?_)
      obtain ⟨x4_40, ex4_40⟩ : ∃ y : Int32, y = (x4 + (-2 : Int32)) := ⟨_, rfl⟩
      have h := h x4_40 ex4_40
      refine lv_iinc (v := x4_40) (lv' := [(4, .int x4_40), (3, .int x3_39), (0, .ref aS), (2, .int x2)]) hx hb d_So_slopeAt_40 hl (k := 3) rfl (by rw [ex4_40]; rfl) (by decide) rfl (fun ls hl => ?_)
      refine lv_goto (tgt := 16) hx hb d_So_slopeAt_43 (by decide) ?_
      exact HK16 x2 x3_39 x4_40 H locs ls h hP hD hS (lv_sub hl [2, 3, 1, 0] rfl)
  have L16 : ∀  (n : Nat), ∀ (x2 : Int32) (x3 : Int32) (x4 : Int32) (H : Heap) (locs : List Loc) (ls : Array Slot), wp_So_slopeAt_L16 F_powers F_logs S_locator post  n x2 x3 x4 → va_P (dC, dI) vwCl (wd_So_slopeAt aF aF_powers aF_logs aS aS_syndromes aS_locator aS_helper aS_kept aS_evaluator aS_places aS_fixes cI cZ F_powers F_logs S_found S_locator) H → va_D A (wd_So_slopeAt aF aF_powers aF_logs aS aS_syndromes aS_locator aS_helper aS_kept aS_evaluator aS_places aS_fixes cI cZ F_powers F_logs S_found S_locator) → va_S A s.heap H locs → lv_has ls 5 [(0, .ref aS), (2, .int x2), (3, .int x3), (4, .int x4)] → W p l e rm_So_slopeAt s m args below meth c H locs 0 0 Q (F0 m 16 ls []) := by
    intro  n
    induction n with
    | zero => intro x2 x3 x4 H locs ls h hP hD hS hl; exact False.elim h
    | succ n ih => intro x2 x3 x4 H locs ls h hP hD hS hl; exact B16  (wp_So_slopeAt_L16 F_powers F_logs S_locator post  n) ih x2 x3 x4 H locs ls h hP hD hS hl
  obtain ⟨H, hH⟩ : ∃ H : Heap, H = s.heap := ⟨_, rfl⟩
  obtain ⟨locs, hlo⟩ : ∃ x : List Loc, x = [] := ⟨_, rfl⟩
  have hS : va_S A s.heap H locs := by rw [hH, hlo]; exact hS
  rw [← hH] at hP
  rw [← hlo]
  show W p l e rm_So_slopeAt s m args below meth c s.heap locs 0 0 Q (F0 m 0 ls [])
  rw [← hH]
  refine lv_aload_n hx hb d_So_slopeAt_0 rfl (lv_at hl 0 rfl) ?_
  refine va_get (D := (dC, dI)) (ci := 3) (v := .ref aF) (C := "ReedSets$Solver") (T := T_So) (N := 9) hx hb hts in_So hown hK hP 3 rfl rfl 0 (by decide) (hts _ tb_147) (fun _ h9 => h9) rfl d_So_slopeAt_1 ?_
  refine lv_iload_n hx hb d_So_slopeAt_4 rfl (lv_at hl 1 rfl) ?_
  refine lv_iload_n hx hb d_So_slopeAt_5 rfl (lv_at hl 1 rfl) ?_
  refine mt_i (va_runV (As := [.int p1, .int p1]) (rest := []) ⟨hx, hb, hml, hown, hts⟩ (ct_Fi_product l dC dI aF aF_powers aF_logs cI cZ F_powers F_logs p1 p1 _ h _) (tb_cV hts ok_Fi_product tb_411 rfl rfl ⟨Nat.le_of_ble_eq_true rfl, Nat.le_of_ble_eq_true rfl⟩) (mt_preV hK hP hD [.int p1, .int p1] [0, 1, 2] rfl (by decide) (ci := 1) (q0 := 0) rfl rfl) rfl rfl hl.1 rfl (lv_room (Nat.le_of_ble_eq_true rfl)) d_So_slopeAt_6 ⟨Nat.zero_le _, Nat.zero_le _⟩) hP hD hS hA [0, 1, 2] rfl (fun _ => rfl) (fun r_6 u H locs h hP hD hS => ?_)
  have hP : va_P (dC, dI) vwCl (wd_So_slopeAt aF aF_powers aF_logs aS aS_syndromes aS_locator aS_helper aS_kept aS_evaluator aS_places aS_fixes cI cZ F_powers F_logs S_found S_locator) H := hP
  have hD : va_D A (wd_So_slopeAt aF aF_powers aF_logs aS aS_syndromes aS_locator aS_helper aS_kept aS_evaluator aS_places aS_fixes cI cZ F_powers F_logs S_found S_locator) := hD
  refine lv_istore_n (lv' := [(2, .int r_6), (0, .ref aS), (1, .int p1)]) hx hb d_So_slopeAt_9 rfl hl (by decide) rfl (fun ls hl => ?_)
  refine lv_iconst (v := (0 : Int32)) hx hb d_So_slopeAt_10 (by decide) ?_
  refine lv_istore_n (lv' := [(3, .int (0 : Int32)), (2, .int r_6), (0, .ref aS), (1, .int p1)]) hx hb d_So_slopeAt_11 rfl hl (by decide) rfl (fun ls hl => ?_)
  refine lv_bipush (v := (39 : Int32)) hx hb d_So_slopeAt_12 (by decide) ?_
  refine lv_istore (lv' := [(4, .int (39 : Int32)), (3, .int (0 : Int32)), (2, .int r_6), (0, .ref aS), (1, .int p1)]) hx hb d_So_slopeAt_14 hl (by decide) rfl (fun ls hl => ?_)
  obtain ⟨n, h⟩ := h
  exact L16  n r_6 (0 : Int32) (39 : Int32) H locs ls h hP hD hS (lv_sub hl [3, 2, 1, 0] rfl)
abbrev wd_So_findFixes (aF aF_powers aF_logs aW aW_bytes aW_lost aW_factors aS aS_syndromes aS_locator aS_helper aS_kept aS_evaluator aS_places aS_fixes : Nat) (cI cZ : ClassId) (F_powers : Nat → Int32) (F_logs : Nat → Int32) (W_lostCount : Int32) (W_data : Int32) (W_repairs : Int32) (W_first : Int32) (S_found : Int32) (S_syndromes : Nat → Int32) (S_locator : Nat → Int32) (S_evaluator : Nat → Int32) (S_places : Nat → Int32) (S_fixes : Nat → Int32) : va_W := [(aF, .inr (1, [.ref aF_powers, .ref aF_logs])), (aF_powers, .inl (cI, 512, .inl F_powers)), (aF_logs, .inl (cI, 256, .inl F_logs)), (aW, .inr (5, [.ref aF, .ref aW_bytes, .ref aW_lost, .ref aW_factors, .int W_lostCount, .int W_data, .int W_repairs, .int W_first])), (aS, .inr (3, [.ref aF, .ref aS_syndromes, .ref aS_locator, .ref aS_helper, .ref aS_kept, .ref aS_evaluator, .ref aS_places, .ref aS_fixes, .int S_found])), (aS_syndromes, .inl (cI, 40, .inl S_syndromes)), (aS_locator, .inl (cI, 41, .inl S_locator)), (aS_evaluator, .inl (cI, 41, .inl S_evaluator)), (aS_places, .inl (cI, 40, .inl S_places)), (aS_fixes, .inl (cI, 40, .inl S_fixes))]
def wp_So_findFixes_b35 (F_powers : Nat → Int32) (F_logs : Nat → Int32) (W_data : Int32) (W_repairs : Int32) (W_first : Int32) (S_found : Int32) (S_syndromes : Nat → Int32) (S_locator : Nat → Int32) (S_places : Nat → Int32) (post : (Nat → Int32) → (Nat → Int32) → Prop) (K35 : (Nat → Int32) → (Nat → Int32) → Int32 → Prop) (S_evaluator : Nat → Int32) (S_fixes : Nat → Int32) (x2 : Int32) : Prop := (S_found ≤ x2 → (post S_evaluator S_fixes)) ∧ (¬ S_found ≤ x2 → (vp_in x2 40 ∧ (wp_Wo_powerAt W_data W_repairs (S_places x2.toNatClampNeg) (fun r_50 => (wp_Fi_powerOfTwo F_powers (-r_50) (fun r_60 => (wp_Fi_valueOf F_powers F_logs S_evaluator S_found r_60 (fun r_83 => (wp_So_slopeAt F_powers F_logs S_locator r_60 (fun r_89 => (wp_Fi_quotient F_powers F_logs r_83 r_89 (fun r_92 => (wp_Fi_powerOfTwo F_powers (r_50 * ((1 : Int32) - W_first)) (fun r_120 => (wp_Fi_product F_powers F_logs r_92 r_120 (fun r_123 => (vp_in x2 40 ∧ (∀ x2_127 : Int32, x2_127 = (x2 + (1 : Int32)) → (K35 S_evaluator (upd S_fixes x2.toNatClampNeg r_123) x2_127)))))))))))))))))))
def wp_So_findFixes_L35 (F_powers : Nat → Int32) (F_logs : Nat → Int32) (W_data : Int32) (W_repairs : Int32) (W_first : Int32) (S_found : Int32) (S_syndromes : Nat → Int32) (S_locator : Nat → Int32) (S_places : Nat → Int32) (post : (Nat → Int32) → (Nat → Int32) → Prop)  : Nat → (Nat → Int32) → (Nat → Int32) → Int32 → Prop
  | 0 => fun _ _ _ => False
  | n + 1 => wp_So_findFixes_b35 F_powers F_logs W_data W_repairs W_first S_found S_syndromes S_locator S_places post (wp_So_findFixes_L35 F_powers F_logs W_data W_repairs W_first S_found S_syndromes S_locator S_places post n)
def wp_So_findFixes_b2 (F_powers : Nat → Int32) (F_logs : Nat → Int32) (W_data : Int32) (W_repairs : Int32) (W_first : Int32) (S_found : Int32) (S_syndromes : Nat → Int32) (S_locator : Nat → Int32) (S_places : Nat → Int32) (post : (Nat → Int32) → (Nat → Int32) → Prop) (K2 : (Nat → Int32) → (Nat → Int32) → Int32 → Prop) (S_evaluator : Nat → Int32) (S_fixes : Nat → Int32) (x2 : Int32) : Prop := (S_found ≤ x2 → (∃ n : Nat, wp_So_findFixes_L35 F_powers F_logs W_data W_repairs W_first S_found S_syndromes S_locator S_places post  n S_evaluator S_fixes (0 : Int32))) ∧ (¬ S_found ≤ x2 → (wp_So_discrepancy F_powers F_logs S_syndromes S_locator (x2 + (1 : Int32)) S_found (fun r_23 => (vp_in x2 41 ∧ (∀ x2_27 : Int32, x2_27 = (x2 + (1 : Int32)) → (K2 (upd S_evaluator x2.toNatClampNeg r_23) S_fixes x2_27))))))
def wp_So_findFixes_L2 (F_powers : Nat → Int32) (F_logs : Nat → Int32) (W_data : Int32) (W_repairs : Int32) (W_first : Int32) (S_found : Int32) (S_syndromes : Nat → Int32) (S_locator : Nat → Int32) (S_places : Nat → Int32) (post : (Nat → Int32) → (Nat → Int32) → Prop)  : Nat → (Nat → Int32) → (Nat → Int32) → Int32 → Prop
  | 0 => fun _ _ _ => False
  | n + 1 => wp_So_findFixes_b2 F_powers F_logs W_data W_repairs W_first S_found S_syndromes S_locator S_places post (wp_So_findFixes_L2 F_powers F_logs W_data W_repairs W_first S_found S_syndromes S_locator S_places post n)
def wp_So_findFixes (F_powers : Nat → Int32) (F_logs : Nat → Int32) (W_data : Int32) (W_repairs : Int32) (W_first : Int32) (S_found : Int32) (S_syndromes : Nat → Int32) (S_locator : Nat → Int32) (S_evaluator : Nat → Int32) (S_places : Nat → Int32) (S_fixes : Nat → Int32) (post : (Nat → Int32) → (Nat → Int32) → Prop) : Prop := ∃ n : Nat, wp_So_findFixes_L2 F_powers F_logs W_data W_repairs W_first S_found S_syndromes S_locator S_places post  n S_evaluator S_fixes (0 : Int32)
abbrev rm_So_findFixes : Room := { frames := 2, cells := 0, slots := 0, locals := 47 }
set_option maxHeartbeats 4000000 in
set_option maxRecDepth 100000 in
theorem ct_So_findFixes (l : Launch) (dC : Nat → ClassId) (dI : Nat → Nat → Nat) (aF aF_powers aF_logs aW aW_bytes aW_lost aW_factors aS aS_syndromes aS_locator aS_helper aS_kept aS_evaluator aS_places aS_fixes : Nat) (cI cZ : ClassId) (F_powers : Nat → Int32) (F_logs : Nat → Int32) (W_lostCount : Int32) (W_data : Int32) (W_repairs : Int32) (W_first : Int32) (S_found : Int32) (S_syndromes : Nat → Int32) (S_locator : Nat → Int32) (S_evaluator : Nat → Int32) (S_places : Nat → Int32) (S_fixes : Nat → Int32)  (post : (Nat → Int32) → (Nat → Int32) → Prop) (h : wp_So_findFixes F_powers F_logs W_data W_repairs W_first S_found S_syndromes S_locator S_evaluator S_places S_fixes post) (sz : Nat) : Met l y_So_findFixes (Cond.code y_So_findFixes c_So_findFixes 6 none :: tb) rm_So_findFixes (mt_P (dC, dI) vwCl [(cI, .int), (cZ, .boolean)] [.ref aS, .ref aW] (wd_So_findFixes aF aF_powers aF_logs aW aW_bytes aW_lost aW_factors aS aS_syndromes aS_locator aS_helper aS_kept aS_evaluator aS_places aS_fixes cI cZ F_powers F_logs W_lostCount W_data W_repairs W_first S_found S_syndromes S_locator S_evaluator S_places S_fixes) sz) (va_Qv (fun (u : (Nat → Int32) × (Nat → Int32)) => post u.1 u.2) (mt_B (dC, dI) vwCl [(cI, .int), (cZ, .boolean)] (wd_So_findFixes aF aF_powers aF_logs aW aW_bytes aW_lost aW_factors aS aS_syndromes aS_locator aS_helper aS_kept aS_evaluator aS_places aS_fixes cI cZ F_powers F_logs W_lostCount W_data W_repairs W_first S_found S_syndromes S_locator S_evaluator S_places S_fixes) sz (fun u : (Nat → Int32) × (Nat → Int32) => wd_So_findFixes aF aF_powers aF_logs aW aW_bytes aW_lost aW_factors aS aS_syndromes aS_locator aS_helper aS_kept aS_evaluator aS_places aS_fixes cI cZ F_powers F_logs W_lostCount W_data W_repairs W_first S_found S_syndromes S_locator u.1 S_places u.2)) (va_A (wd_So_findFixes aF aF_powers aF_logs aW aW_bytes aW_lost aW_factors aS aS_syndromes aS_locator aS_helper aS_kept aS_evaluator aS_places aS_fixes cI cZ F_powers F_logs W_lostCount W_data W_repairs W_first S_found S_syndromes S_locator S_evaluator S_places S_fixes) sz)) 0 0 (va_A (wd_So_findFixes aF aF_powers aF_logs aW aW_bytes aW_lost aW_factors aS aS_syndromes aS_locator aS_helper aS_kept aS_evaluator aS_places aS_fixes cI cZ F_powers F_logs W_lostCount W_data W_repairs W_first S_found S_syndromes S_locator S_evaluator S_places S_fixes) sz) := by
  refine mt_bd (by decide +kernel) (Nat.le_of_ble_eq_true rfl) ?_
  intro p e s m args below meth c hx hb hml hown hts hr hlk hnm hsz hP hK hD hA hS ls hl
  subst hsz
  have hown : s.vm.findClass "ReedSets$Solver" = some m.cls := hown
  have hl : lv_has ls 6 [(0, .ref aS), (1, .ref aW)] := hl
  refine lz_Q (fun Q hQ => ?_)
  obtain ⟨A, hAe⟩ : ∃ A : Nat → Prop, A = va_A (wd_So_findFixes aF aF_powers aF_logs aW aW_bytes aW_lost aW_factors aS aS_syndromes aS_locator aS_helper aS_kept aS_evaluator aS_places aS_fixes cI cZ F_powers F_logs W_lostCount W_data W_repairs W_first S_found S_syndromes S_locator S_evaluator S_places S_fixes) s.heap.size := ⟨_, rfl⟩
  rw [← hAe] at hD hA hS
  have RET : ∀ (S_evaluator : Nat → Int32) (S_fixes : Nat → Int32) (H : Heap) (locs : List Loc) (ls : Array Slot) (pc : Nat), decode c_So_findFixes pc = .ok (.return_, 1) → post S_evaluator S_fixes → va_P (dC, dI) vwCl (wd_So_findFixes aF aF_powers aF_logs aW aW_bytes aW_lost aW_factors aS aS_syndromes aS_locator aS_helper aS_kept aS_evaluator aS_places aS_fixes cI cZ F_powers F_logs W_lostCount W_data W_repairs W_first S_found S_syndromes S_locator S_evaluator S_places S_fixes) H → va_D A (wd_So_findFixes aF aF_powers aF_logs aW aW_bytes aW_lost aW_factors aS aS_syndromes aS_locator aS_helper aS_kept aS_evaluator aS_places aS_fixes cI cZ F_powers F_logs W_lostCount W_data W_repairs W_first S_found S_syndromes S_locator S_evaluator S_places S_fixes) → va_S A s.heap H locs → W p l e rm_So_findFixes s m args below meth c H locs 0 0 Q (F0 m pc ls []) := by
    intro S_evaluator S_fixes H locs ls pc hd hp h1 h2 h3
    rw [hQ]
    rw [hAe] at h2 h3
    exact mt_retv (S_evaluator, S_fixes) hx hb hr hlk hd hK h1 h2 h3 hp
  have B35 : ∀ (K35 : (Nat → Int32) → (Nat → Int32) → Int32 → Prop) (HK35 : ∀ (S_evaluator : Nat → Int32) (S_fixes : Nat → Int32) (x2 : Int32) (H : Heap) (locs : List Loc) (ls : Array Slot), K35 S_evaluator S_fixes x2 → va_P (dC, dI) vwCl (wd_So_findFixes aF aF_powers aF_logs aW aW_bytes aW_lost aW_factors aS aS_syndromes aS_locator aS_helper aS_kept aS_evaluator aS_places aS_fixes cI cZ F_powers F_logs W_lostCount W_data W_repairs W_first S_found S_syndromes S_locator S_evaluator S_places S_fixes) H → va_D A (wd_So_findFixes aF aF_powers aF_logs aW aW_bytes aW_lost aW_factors aS aS_syndromes aS_locator aS_helper aS_kept aS_evaluator aS_places aS_fixes cI cZ F_powers F_logs W_lostCount W_data W_repairs W_first S_found S_syndromes S_locator S_evaluator S_places S_fixes) → va_S A s.heap H locs → lv_has ls 6 [(0, .ref aS), (1, .ref aW), (2, .int x2)] → W p l e rm_So_findFixes s m args below meth c H locs 0 0 Q (F0 m 35 ls [])), ∀ (S_evaluator : Nat → Int32) (S_fixes : Nat → Int32) (x2 : Int32) (H : Heap) (locs : List Loc) (ls : Array Slot), wp_So_findFixes_b35 F_powers F_logs W_data W_repairs W_first S_found S_syndromes S_locator S_places post K35 S_evaluator S_fixes x2 → va_P (dC, dI) vwCl (wd_So_findFixes aF aF_powers aF_logs aW aW_bytes aW_lost aW_factors aS aS_syndromes aS_locator aS_helper aS_kept aS_evaluator aS_places aS_fixes cI cZ F_powers F_logs W_lostCount W_data W_repairs W_first S_found S_syndromes S_locator S_evaluator S_places S_fixes) H → va_D A (wd_So_findFixes aF aF_powers aF_logs aW aW_bytes aW_lost aW_factors aS aS_syndromes aS_locator aS_helper aS_kept aS_evaluator aS_places aS_fixes cI cZ F_powers F_logs W_lostCount W_data W_repairs W_first S_found S_syndromes S_locator S_evaluator S_places S_fixes) → va_S A s.heap H locs → lv_has ls 6 [(0, .ref aS), (1, .ref aW), (2, .int x2)] → W p l e rm_So_findFixes s m args below meth c H locs 0 0 Q (F0 m 35 ls []) := by
    intro K35 HK35 S_evaluator S_fixes x2 H locs ls h hP hD hS hl
    refine lv_iload_n hx hb d_So_findFixes_35 rfl (lv_at hl 2 rfl) ?_
    refine lv_aload_n hx hb d_So_findFixes_36 rfl (lv_at hl 0 rfl) ?_
    refine va_get (D := (dC, dI)) (ci := 3) (v := .int S_found) (C := "ReedSets$Solver") (T := T_So) (N := 9) hx hb hts in_So hown hK hP 4 rfl rfl 8 (by decide) (hts _ tb_156) (fun _ h9 => h9) rfl d_So_findFixes_37 ?_
    refine lv_icmp_ge (tgt := 133) hx hb d_So_findFixes_40 (by decide) (fun g40 => ?_) (fun g40 => ?_)
    · have h := h.1 g40
      exact RET S_evaluator S_fixes H locs ls 133 d_So_findFixes_133 h hP hD hS
    · have h := h.2 g40
      refine lv_aload_n hx hb d_So_findFixes_43 rfl (lv_at hl 1 rfl) ?_
      refine lv_aload_n hx hb d_So_findFixes_44 rfl (lv_at hl 0 rfl) ?_
      refine va_get (D := (dC, dI)) (ci := 3) (v := .ref aS_places) (C := "ReedSets$Solver") (T := T_So) (N := 9) hx hb hts in_So hown hK hP 4 rfl rfl 6 (by decide) (hts _ tb_153) (fun _ h9 => h9) rfl d_So_findFixes_45 ?_
      refine lv_iload_n hx hb d_So_findFixes_48 rfl (lv_at hl 2 rfl) ?_
      obtain ⟨hi, h⟩ := h
      refine va_iald hx hb hK hP 8 0 rfl rfl hi d_So_findFixes_49 ?_
      refine mt_i (va_runV (As := [.int (S_places x2.toNatClampNeg)]) (rest := []) ⟨hx, hb, hml, hown, hts⟩ (ct_Wo_powerAt l dC dI aW aF aW_bytes aW_lost aW_factors cI cZ W_lostCount W_data W_repairs W_first (S_places x2.toNatClampNeg) _ h _) (tb_cV hts ok_Wo_powerAt tb_406 rfl rfl ⟨Nat.le_of_ble_eq_true rfl, Nat.le_of_ble_eq_true rfl⟩) (mt_preV hK hP hD [.int (S_places x2.toNatClampNeg)] [3] rfl (by decide) (ci := 5) (q0 := 3) rfl rfl) rfl rfl hl.1 rfl (lv_room (Nat.le_of_ble_eq_true rfl)) d_So_findFixes_50 ⟨Nat.zero_le _, Nat.zero_le _⟩) hP hD hS hA [3] rfl (fun _ => rfl) (fun r_50 u H locs h hP hD hS => ?_)
      have hP : va_P (dC, dI) vwCl (wd_So_findFixes aF aF_powers aF_logs aW aW_bytes aW_lost aW_factors aS aS_syndromes aS_locator aS_helper aS_kept aS_evaluator aS_places aS_fixes cI cZ F_powers F_logs W_lostCount W_data W_repairs W_first S_found S_syndromes S_locator S_evaluator S_places S_fixes) H := hP
      have hD : va_D A (wd_So_findFixes aF aF_powers aF_logs aW aW_bytes aW_lost aW_factors aS aS_syndromes aS_locator aS_helper aS_kept aS_evaluator aS_places aS_fixes cI cZ F_powers F_logs W_lostCount W_data W_repairs W_first S_found S_syndromes S_locator S_evaluator S_places S_fixes) := hD
      refine lv_istore_n (lv' := [(3, .int r_50), (0, .ref aS), (1, .ref aW), (2, .int x2)]) hx hb d_So_findFixes_53 rfl hl (by decide) rfl (fun ls hl => ?_)
      refine lv_aload_n hx hb d_So_findFixes_54 rfl (lv_at hl 1 rfl) ?_
      refine va_get (D := (dC, dI)) (ci := 3) (v := .ref aF) (C := "ReedSets$Solver") (T := T_So) (N := 9) hx hb hts in_So hown hK hP 4 rfl rfl 0 (by decide) (hts _ tb_147) (fun _ h9 => h9) rfl d_So_findFixes_55 ?_
      refine lv_iload_n hx hb d_So_findFixes_58 rfl (lv_at hl 0 rfl) ?_
      refine lv_ineg hx hb d_So_findFixes_59 ?_
      refine mt_i (va_runV (As := [.int (-r_50)]) (rest := []) ⟨hx, hb, hml, hown, hts⟩ (ct_Fi_powerOfTwo l dC dI aF aF_powers aF_logs cI cZ F_powers (-r_50) _ h _) (tb_cV hts ok_Fi_powerOfTwo tb_410 rfl rfl ⟨Nat.le_of_ble_eq_true rfl, Nat.le_of_ble_eq_true rfl⟩) (mt_preV hK hP hD [.int (-r_50)] [0, 1] rfl (by decide) (ci := 1) (q0 := 0) rfl rfl) rfl rfl hl.1 rfl (lv_room (Nat.le_of_ble_eq_true rfl)) d_So_findFixes_60 ⟨Nat.zero_le _, Nat.zero_le _⟩) hP hD hS hA [0, 1] rfl (fun _ => rfl) (fun r_60 u H locs h hP hD hS => ?_)
      have hP : va_P (dC, dI) vwCl (wd_So_findFixes aF aF_powers aF_logs aW aW_bytes aW_lost aW_factors aS aS_syndromes aS_locator aS_helper aS_kept aS_evaluator aS_places aS_fixes cI cZ F_powers F_logs W_lostCount W_data W_repairs W_first S_found S_syndromes S_locator S_evaluator S_places S_fixes) H := hP
      have hD : va_D A (wd_So_findFixes aF aF_powers aF_logs aW aW_bytes aW_lost aW_factors aS aS_syndromes aS_locator aS_helper aS_kept aS_evaluator aS_places aS_fixes cI cZ F_powers F_logs W_lostCount W_data W_repairs W_first S_found S_syndromes S_locator S_evaluator S_places S_fixes) := hD
      refine lv_istore (lv' := [(4, .int r_60), (3, .int r_50), (0, .ref aS), (1, .ref aW), (2, .int x2)]) hx hb d_So_findFixes_63 hl (by decide) rfl (fun ls hl => ?_)
      refine lv_aload_n hx hb d_So_findFixes_65 rfl (lv_at hl 2 rfl) ?_
      refine va_get (D := (dC, dI)) (ci := 3) (v := .ref aF) (C := "ReedSets$Solver") (T := T_So) (N := 9) hx hb hts in_So hown hK hP 4 rfl rfl 0 (by decide) (hts _ tb_147) (fun _ h9 => h9) rfl d_So_findFixes_66 ?_
      refine lv_aload_n hx hb d_So_findFixes_69 rfl (lv_at hl 2 rfl) ?_
      refine va_get (D := (dC, dI)) (ci := 3) (v := .ref aF) (C := "ReedSets$Solver") (T := T_So) (N := 9) hx hb hts in_So hown hK hP 4 rfl rfl 0 (by decide) (hts _ tb_147) (fun _ h9 => h9) rfl d_So_findFixes_70 ?_
      refine lv_aload_n hx hb d_So_findFixes_73 rfl (lv_at hl 2 rfl) ?_
      refine va_get (D := (dC, dI)) (ci := 3) (v := .ref aS_evaluator) (C := "ReedSets$Solver") (T := T_So) (N := 9) hx hb hts in_So hown hK hP 4 rfl rfl 5 (by decide) (hts _ tb_152) (fun _ h9 => h9) rfl d_So_findFixes_74 ?_
      refine lv_aload_n hx hb d_So_findFixes_77 rfl (lv_at hl 2 rfl) ?_
      refine va_get (D := (dC, dI)) (ci := 3) (v := .int S_found) (C := "ReedSets$Solver") (T := T_So) (N := 9) hx hb hts in_So hown hK hP 4 rfl rfl 8 (by decide) (hts _ tb_156) (fun _ h9 => h9) rfl d_So_findFixes_78 ?_
      refine lv_iload hx hb d_So_findFixes_81 (lv_at hl 0 rfl) ?_
      refine mt_i (va_runV (As := [.ref aS_evaluator, .int S_found, .int r_60]) (rest := [.ref aF]) ⟨hx, hb, hml, hown, hts⟩ (ct_Fi_valueOf l dC dI aF aF_powers aF_logs aS_evaluator cI cZ F_powers F_logs S_evaluator S_found r_60 _ h _) (tb_cV hts ok_Fi_valueOf tb_440 rfl rfl ⟨Nat.le_of_ble_eq_true rfl, Nat.le_of_ble_eq_true rfl⟩) (mt_preV hK hP hD [.ref aS_evaluator, .int S_found, .int r_60] [0, 1, 2, 7] rfl (by decide) (ci := 1) (q0 := 0) rfl rfl) rfl rfl hl.1 rfl (lv_room (Nat.le_of_ble_eq_true rfl)) d_So_findFixes_83 ⟨Nat.zero_le _, Nat.zero_le _⟩) hP hD hS hA [0, 1, 2, 7] rfl (fun _ => rfl) (fun r_83 u H locs h hP hD hS => ?_)
      have hP : va_P (dC, dI) vwCl (wd_So_findFixes aF aF_powers aF_logs aW aW_bytes aW_lost aW_factors aS aS_syndromes aS_locator aS_helper aS_kept aS_evaluator aS_places aS_fixes cI cZ F_powers F_logs W_lostCount W_data W_repairs W_first S_found S_syndromes S_locator S_evaluator S_places S_fixes) H := hP
      have hD : va_D A (wd_So_findFixes aF aF_powers aF_logs aW aW_bytes aW_lost aW_factors aS aS_syndromes aS_locator aS_helper aS_kept aS_evaluator aS_places aS_fixes cI cZ F_powers F_logs W_lostCount W_data W_repairs W_first S_found S_syndromes S_locator S_evaluator S_places S_fixes) := hD
      refine lv_aload_n hx hb d_So_findFixes_86 rfl (lv_at hl 2 rfl) ?_
      refine lv_iload hx hb d_So_findFixes_87 (lv_at hl 0 rfl) ?_
      refine mt_i (va_runV (As := [.int r_60]) (rest := [.int r_83, .ref aF]) ⟨hx, hb, hml, hown, hts⟩ (ct_So_slopeAt l dC dI aF aF_powers aF_logs aS aS_syndromes aS_locator aS_helper aS_kept aS_evaluator aS_places aS_fixes cI cZ F_powers F_logs S_found S_locator r_60 _ h _) (tb_cV hts ok_So_slopeAt tb_452 rfl rfl ⟨Nat.le_of_ble_eq_true rfl, Nat.le_of_ble_eq_true rfl⟩) (mt_preV hK hP hD [.int r_60] [0, 1, 2, 4, 6] rfl (by decide) (ci := 3) (q0 := 4) rfl rfl) rfl rfl hl.1 rfl (lv_room (Nat.le_of_ble_eq_true rfl)) d_So_findFixes_89 ⟨Nat.zero_le _, Nat.zero_le _⟩) hP hD hS hA [0, 1, 2, 4, 6] rfl (fun _ => rfl) (fun r_89 u H locs h hP hD hS => ?_)
      have hP : va_P (dC, dI) vwCl (wd_So_findFixes aF aF_powers aF_logs aW aW_bytes aW_lost aW_factors aS aS_syndromes aS_locator aS_helper aS_kept aS_evaluator aS_places aS_fixes cI cZ F_powers F_logs W_lostCount W_data W_repairs W_first S_found S_syndromes S_locator S_evaluator S_places S_fixes) H := hP
      have hD : va_D A (wd_So_findFixes aF aF_powers aF_logs aW aW_bytes aW_lost aW_factors aS aS_syndromes aS_locator aS_helper aS_kept aS_evaluator aS_places aS_fixes cI cZ F_powers F_logs W_lostCount W_data W_repairs W_first S_found S_syndromes S_locator S_evaluator S_places S_fixes) := hD
      refine mt_i (va_runV (As := [.int r_83, .int r_89]) (rest := []) ⟨hx, hb, hml, hown, hts⟩ (ct_Fi_quotient l dC dI aF aF_powers aF_logs cI cZ F_powers F_logs r_83 r_89 _ h _) (tb_cV hts ok_Fi_quotient tb_435 rfl rfl ⟨Nat.le_of_ble_eq_true rfl, Nat.le_of_ble_eq_true rfl⟩) (mt_preV hK hP hD [.int r_83, .int r_89] [0, 1, 2] rfl (by decide) (ci := 1) (q0 := 0) rfl rfl) rfl rfl hl.1 rfl (lv_room (Nat.le_of_ble_eq_true rfl)) d_So_findFixes_92 ⟨Nat.zero_le _, Nat.zero_le _⟩) hP hD hS hA [0, 1, 2] rfl (fun _ => rfl) (fun r_92 u H locs h hP hD hS => ?_)
      have hP : va_P (dC, dI) vwCl (wd_So_findFixes aF aF_powers aF_logs aW aW_bytes aW_lost aW_factors aS aS_syndromes aS_locator aS_helper aS_kept aS_evaluator aS_places aS_fixes cI cZ F_powers F_logs W_lostCount W_data W_repairs W_first S_found S_syndromes S_locator S_evaluator S_places S_fixes) H := hP
      have hD : va_D A (wd_So_findFixes aF aF_powers aF_logs aW aW_bytes aW_lost aW_factors aS aS_syndromes aS_locator aS_helper aS_kept aS_evaluator aS_places aS_fixes cI cZ F_powers F_logs W_lostCount W_data W_repairs W_first S_found S_syndromes S_locator S_evaluator S_places S_fixes) := hD
      refine lv_istore (lv' := [(5, .int r_92), (4, .int r_60), (3, .int r_50), (0, .ref aS), (1, .ref aW), (2, .int x2)]) hx hb d_So_findFixes_95 hl (by decide) rfl (fun ls hl => ?_)
      refine lv_aload_n hx hb d_So_findFixes_97 rfl (lv_at hl 3 rfl) ?_
      refine va_get (D := (dC, dI)) (ci := 3) (v := .ref aS_fixes) (C := "ReedSets$Solver") (T := T_So) (N := 9) hx hb hts in_So hown hK hP 4 rfl rfl 7 (by decide) (hts _ tb_155) (fun _ h9 => h9) rfl d_So_findFixes_98 ?_
      refine lv_iload_n hx hb d_So_findFixes_101 rfl (lv_at hl 5 rfl) ?_
      refine lv_aload_n hx hb d_So_findFixes_102 rfl (lv_at hl 3 rfl) ?_
      refine va_get (D := (dC, dI)) (ci := 3) (v := .ref aF) (C := "ReedSets$Solver") (T := T_So) (N := 9) hx hb hts in_So hown hK hP 4 rfl rfl 0 (by decide) (hts _ tb_147) (fun _ h9 => h9) rfl d_So_findFixes_103 ?_
      refine lv_iload hx hb d_So_findFixes_106 (lv_at hl 0 rfl) ?_
      refine lv_aload_n hx hb d_So_findFixes_108 rfl (lv_at hl 3 rfl) ?_
      refine va_get (D := (dC, dI)) (ci := 3) (v := .ref aF) (C := "ReedSets$Solver") (T := T_So) (N := 9) hx hb hts in_So hown hK hP 4 rfl rfl 0 (by decide) (hts _ tb_147) (fun _ h9 => h9) rfl d_So_findFixes_109 ?_
      refine lv_iload_n hx hb d_So_findFixes_112 rfl (lv_at hl 2 rfl) ?_
      refine lv_iconst (v := (1 : Int32)) hx hb d_So_findFixes_113 (by decide) ?_
      refine lv_aload_n hx hb d_So_findFixes_114 rfl (lv_at hl 4 rfl) ?_
      refine va_get (D := (dC, dI)) (ci := 5) (v := .int W_first) (C := "ReedSets$Word") (T := T_Wo) (N := 8) hx hb hts in_Wo hown hK hP 3 rfl rfl 7 (by decide) (hts _ tb_121) (fun _ h9 => h9) rfl d_So_findFixes_115 ?_
      refine lv_isub hx hb d_So_findFixes_118 ?_
      refine lv_imul hx hb d_So_findFixes_119 ?_
      refine mt_i (va_runV (As := [.int (r_50 * ((1 : Int32) - W_first))]) (rest := [.int r_92, .ref aF, .int x2, .ref aS_fixes]) ⟨hx, hb, hml, hown, hts⟩ (ct_Fi_powerOfTwo l dC dI aF aF_powers aF_logs cI cZ F_powers (r_50 * ((1 : Int32) - W_first)) _ h _) (tb_cV hts ok_Fi_powerOfTwo tb_410 rfl rfl ⟨Nat.le_of_ble_eq_true rfl, Nat.le_of_ble_eq_true rfl⟩) (mt_preV hK hP hD [.int (r_50 * ((1 : Int32) - W_first))] [0, 1] rfl (by decide) (ci := 1) (q0 := 0) rfl rfl) rfl rfl hl.1 rfl (lv_room (Nat.le_of_ble_eq_true rfl)) d_So_findFixes_120 ⟨Nat.zero_le _, Nat.zero_le _⟩) hP hD hS hA [0, 1] rfl (fun _ => rfl) (fun r_120 u H locs h hP hD hS => ?_)
      have hP : va_P (dC, dI) vwCl (wd_So_findFixes aF aF_powers aF_logs aW aW_bytes aW_lost aW_factors aS aS_syndromes aS_locator aS_helper aS_kept aS_evaluator aS_places aS_fixes cI cZ F_powers F_logs W_lostCount W_data W_repairs W_first S_found S_syndromes S_locator S_evaluator S_places S_fixes) H := hP
      have hD : va_D A (wd_So_findFixes aF aF_powers aF_logs aW aW_bytes aW_lost aW_factors aS aS_syndromes aS_locator aS_helper aS_kept aS_evaluator aS_places aS_fixes cI cZ F_powers F_logs W_lostCount W_data W_repairs W_first S_found S_syndromes S_locator S_evaluator S_places S_fixes) := hD
      refine mt_i (va_runV (As := [.int r_92, .int r_120]) (rest := [.int x2, .ref aS_fixes]) ⟨hx, hb, hml, hown, hts⟩ (ct_Fi_product l dC dI aF aF_powers aF_logs cI cZ F_powers F_logs r_92 r_120 _ h _) (tb_cV hts ok_Fi_product tb_411 rfl rfl ⟨Nat.le_of_ble_eq_true rfl, Nat.le_of_ble_eq_true rfl⟩) (mt_preV hK hP hD [.int r_92, .int r_120] [0, 1, 2] rfl (by decide) (ci := 1) (q0 := 0) rfl rfl) rfl rfl hl.1 rfl (lv_room (Nat.le_of_ble_eq_true rfl)) d_So_findFixes_123 ⟨Nat.zero_le _, Nat.zero_le _⟩) hP hD hS hA [0, 1, 2] rfl (fun _ => rfl) (fun r_123 u H locs h hP hD hS => ?_)
      have hP : va_P (dC, dI) vwCl (wd_So_findFixes aF aF_powers aF_logs aW aW_bytes aW_lost aW_factors aS aS_syndromes aS_locator aS_helper aS_kept aS_evaluator aS_places aS_fixes cI cZ F_powers F_logs W_lostCount W_data W_repairs W_first S_found S_syndromes S_locator S_evaluator S_places S_fixes) H := hP
      have hD : va_D A (wd_So_findFixes aF aF_powers aF_logs aW aW_bytes aW_lost aW_factors aS aS_syndromes aS_locator aS_helper aS_kept aS_evaluator aS_places aS_fixes cI cZ F_powers F_logs W_lostCount W_data W_repairs W_first S_found S_syndromes S_locator S_evaluator S_places S_fixes) := hD
      obtain ⟨hi, h⟩ := h
      refine va_iast hx hb hK hP hD hS 9 0 rfl rfl hi d_So_findFixes_126 (fun H locs hP hD hS => ?_)
      have hP : va_P (dC, dI) vwCl (wd_So_findFixes aF aF_powers aF_logs aW aW_bytes aW_lost aW_factors aS aS_syndromes aS_locator aS_helper aS_kept aS_evaluator aS_places aS_fixes cI cZ F_powers F_logs W_lostCount W_data W_repairs W_first S_found S_syndromes S_locator S_evaluator S_places (upd S_fixes x2.toNatClampNeg r_123)) H := hP
      have hD : va_D A (wd_So_findFixes aF aF_powers aF_logs aW aW_bytes aW_lost aW_factors aS aS_syndromes aS_locator aS_helper aS_kept aS_evaluator aS_places aS_fixes cI cZ F_powers F_logs W_lostCount W_data W_repairs W_first S_found S_syndromes S_locator S_evaluator S_places (upd S_fixes x2.toNatClampNeg r_123)) := hD
      obtain ⟨x2_127, ex2_127⟩ : ∃ y : Int32, y = (x2 + (1 : Int32)) := ⟨_, rfl⟩
      have h := h x2_127 ex2_127
      refine lv_iinc (v := x2_127) (lv' := [(2, .int x2_127), (5, .int r_92), (4, .int r_60), (3, .int r_50), (0, .ref aS), (1, .ref aW)]) hx hb d_So_findFixes_127 hl (k := 5) rfl (by rw [ex2_127]; rfl) (by decide) rfl (fun ls hl => ?_)
      refine lv_goto (tgt := 35) hx hb d_So_findFixes_130 (by decide) ?_
      exact HK35 S_evaluator (upd S_fixes x2.toNatClampNeg r_123) x2_127 H locs ls h hP hD hS (lv_sub hl [4, 5, 0] rfl)
  have L35 : ∀  (n : Nat), ∀ (S_evaluator : Nat → Int32) (S_fixes : Nat → Int32) (x2 : Int32) (H : Heap) (locs : List Loc) (ls : Array Slot), wp_So_findFixes_L35 F_powers F_logs W_data W_repairs W_first S_found S_syndromes S_locator S_places post  n S_evaluator S_fixes x2 → va_P (dC, dI) vwCl (wd_So_findFixes aF aF_powers aF_logs aW aW_bytes aW_lost aW_factors aS aS_syndromes aS_locator aS_helper aS_kept aS_evaluator aS_places aS_fixes cI cZ F_powers F_logs W_lostCount W_data W_repairs W_first S_found S_syndromes S_locator S_evaluator S_places S_fixes) H → va_D A (wd_So_findFixes aF aF_powers aF_logs aW aW_bytes aW_lost aW_factors aS aS_syndromes aS_locator aS_helper aS_kept aS_evaluator aS_places aS_fixes cI cZ F_powers F_logs W_lostCount W_data W_repairs W_first S_found S_syndromes S_locator S_evaluator S_places S_fixes) → va_S A s.heap H locs → lv_has ls 6 [(0, .ref aS), (1, .ref aW), (2, .int x2)] → W p l e rm_So_findFixes s m args below meth c H locs 0 0 Q (F0 m 35 ls []) := by
    intro  n
    induction n with
    | zero => intro S_evaluator S_fixes x2 H locs ls h hP hD hS hl; exact False.elim h
    | succ n ih => intro S_evaluator S_fixes x2 H locs ls h hP hD hS hl; exact B35  (wp_So_findFixes_L35 F_powers F_logs W_data W_repairs W_first S_found S_syndromes S_locator S_places post  n) ih S_evaluator S_fixes x2 H locs ls h hP hD hS hl
  have B2 : ∀ (K2 : (Nat → Int32) → (Nat → Int32) → Int32 → Prop) (HK2 : ∀ (S_evaluator : Nat → Int32) (S_fixes : Nat → Int32) (x2 : Int32) (H : Heap) (locs : List Loc) (ls : Array Slot), K2 S_evaluator S_fixes x2 → va_P (dC, dI) vwCl (wd_So_findFixes aF aF_powers aF_logs aW aW_bytes aW_lost aW_factors aS aS_syndromes aS_locator aS_helper aS_kept aS_evaluator aS_places aS_fixes cI cZ F_powers F_logs W_lostCount W_data W_repairs W_first S_found S_syndromes S_locator S_evaluator S_places S_fixes) H → va_D A (wd_So_findFixes aF aF_powers aF_logs aW aW_bytes aW_lost aW_factors aS aS_syndromes aS_locator aS_helper aS_kept aS_evaluator aS_places aS_fixes cI cZ F_powers F_logs W_lostCount W_data W_repairs W_first S_found S_syndromes S_locator S_evaluator S_places S_fixes) → va_S A s.heap H locs → lv_has ls 6 [(0, .ref aS), (1, .ref aW), (2, .int x2)] → W p l e rm_So_findFixes s m args below meth c H locs 0 0 Q (F0 m 2 ls [])), ∀ (S_evaluator : Nat → Int32) (S_fixes : Nat → Int32) (x2 : Int32) (H : Heap) (locs : List Loc) (ls : Array Slot), wp_So_findFixes_b2 F_powers F_logs W_data W_repairs W_first S_found S_syndromes S_locator S_places post K2 S_evaluator S_fixes x2 → va_P (dC, dI) vwCl (wd_So_findFixes aF aF_powers aF_logs aW aW_bytes aW_lost aW_factors aS aS_syndromes aS_locator aS_helper aS_kept aS_evaluator aS_places aS_fixes cI cZ F_powers F_logs W_lostCount W_data W_repairs W_first S_found S_syndromes S_locator S_evaluator S_places S_fixes) H → va_D A (wd_So_findFixes aF aF_powers aF_logs aW aW_bytes aW_lost aW_factors aS aS_syndromes aS_locator aS_helper aS_kept aS_evaluator aS_places aS_fixes cI cZ F_powers F_logs W_lostCount W_data W_repairs W_first S_found S_syndromes S_locator S_evaluator S_places S_fixes) → va_S A s.heap H locs → lv_has ls 6 [(0, .ref aS), (1, .ref aW), (2, .int x2)] → W p l e rm_So_findFixes s m args below meth c H locs 0 0 Q (F0 m 2 ls []) := by
    intro K2 HK2 S_evaluator S_fixes x2 H locs ls h hP hD hS hl
    refine lv_iload_n hx hb d_So_findFixes_2 rfl (lv_at hl 2 rfl) ?_
    refine lv_aload_n hx hb d_So_findFixes_3 rfl (lv_at hl 0 rfl) ?_
    refine va_get (D := (dC, dI)) (ci := 3) (v := .int S_found) (C := "ReedSets$Solver") (T := T_So) (N := 9) hx hb hts in_So hown hK hP 4 rfl rfl 8 (by decide) (hts _ tb_156) (fun _ h9 => h9) rfl d_So_findFixes_4 ?_
    refine lv_icmp_ge (tgt := 33) hx hb d_So_findFixes_7 (by decide) (fun g7 => ?_) (fun g7 => ?_)
    · have h := h.1 g7
      refine lv_iconst (v := (0 : Int32)) hx hb d_So_findFixes_33 (by decide) ?_
      refine lv_istore_n (lv' := [(2, .int (0 : Int32)), (0, .ref aS), (1, .ref aW)]) hx hb d_So_findFixes_34 rfl hl (by decide) rfl (fun ls hl => ?_)
      obtain ⟨n, h⟩ := h
      exact L35  n S_evaluator S_fixes (0 : Int32) H locs ls h hP hD hS (lv_sub hl [1, 2, 0] rfl)
    · have h := h.2 g7
      refine lv_aload_n hx hb d_So_findFixes_10 rfl (lv_at hl 0 rfl) ?_
      refine va_get (D := (dC, dI)) (ci := 3) (v := .ref aS_evaluator) (C := "ReedSets$Solver") (T := T_So) (N := 9) hx hb hts in_So hown hK hP 4 rfl rfl 5 (by decide) (hts _ tb_152) (fun _ h9 => h9) rfl d_So_findFixes_11 ?_
      refine lv_iload_n hx hb d_So_findFixes_14 rfl (lv_at hl 2 rfl) ?_
      refine lv_aload_n hx hb d_So_findFixes_15 rfl (lv_at hl 0 rfl) ?_
      refine lv_iload_n hx hb d_So_findFixes_16 rfl (lv_at hl 2 rfl) ?_
      refine lv_iconst (v := (1 : Int32)) hx hb d_So_findFixes_17 (by decide) ?_
      refine lv_iadd hx hb d_So_findFixes_18 ?_
      refine lv_aload_n hx hb d_So_findFixes_19 rfl (lv_at hl 0 rfl) ?_
      refine va_get (D := (dC, dI)) (ci := 3) (v := .int S_found) (C := "ReedSets$Solver") (T := T_So) (N := 9) hx hb hts in_So hown hK hP 4 rfl rfl 8 (by decide) (hts _ tb_156) (fun _ h9 => h9) rfl d_So_findFixes_20 ?_
      refine mt_i (va_runV (As := [.int (x2 + (1 : Int32)), .int S_found]) (rest := [.int x2, .ref aS_evaluator]) ⟨hx, hb, hml, hown, hts⟩ (ct_So_discrepancy l dC dI aF aF_powers aF_logs aS aS_syndromes aS_locator aS_helper aS_kept aS_evaluator aS_places aS_fixes cI cZ F_powers F_logs S_found S_syndromes S_locator (x2 + (1 : Int32)) S_found _ h _) (tb_cV hts ok_So_discrepancy tb_419 rfl rfl ⟨Nat.le_of_ble_eq_true rfl, Nat.le_of_ble_eq_true rfl⟩) (mt_preV hK hP hD [.int (x2 + (1 : Int32)), .int S_found] [0, 1, 2, 4, 5, 6] rfl (by decide) (ci := 3) (q0 := 4) rfl rfl) rfl rfl hl.1 rfl (lv_room (Nat.le_of_ble_eq_true rfl)) d_So_findFixes_23 ⟨Nat.zero_le _, Nat.zero_le _⟩) hP hD hS hA [0, 1, 2, 4, 5, 6] rfl (fun _ => rfl) (fun r_23 u H locs h hP hD hS => ?_)
      have hP : va_P (dC, dI) vwCl (wd_So_findFixes aF aF_powers aF_logs aW aW_bytes aW_lost aW_factors aS aS_syndromes aS_locator aS_helper aS_kept aS_evaluator aS_places aS_fixes cI cZ F_powers F_logs W_lostCount W_data W_repairs W_first S_found S_syndromes S_locator S_evaluator S_places S_fixes) H := hP
      have hD : va_D A (wd_So_findFixes aF aF_powers aF_logs aW aW_bytes aW_lost aW_factors aS aS_syndromes aS_locator aS_helper aS_kept aS_evaluator aS_places aS_fixes cI cZ F_powers F_logs W_lostCount W_data W_repairs W_first S_found S_syndromes S_locator S_evaluator S_places S_fixes) := hD
      obtain ⟨hi, h⟩ := h
      refine va_iast hx hb hK hP hD hS 7 0 rfl rfl hi d_So_findFixes_26 (fun H locs hP hD hS => ?_)
      have hP : va_P (dC, dI) vwCl (wd_So_findFixes aF aF_powers aF_logs aW aW_bytes aW_lost aW_factors aS aS_syndromes aS_locator aS_helper aS_kept aS_evaluator aS_places aS_fixes cI cZ F_powers F_logs W_lostCount W_data W_repairs W_first S_found S_syndromes S_locator (upd S_evaluator x2.toNatClampNeg r_23) S_places S_fixes) H := hP
      have hD : va_D A (wd_So_findFixes aF aF_powers aF_logs aW aW_bytes aW_lost aW_factors aS aS_syndromes aS_locator aS_helper aS_kept aS_evaluator aS_places aS_fixes cI cZ F_powers F_logs W_lostCount W_data W_repairs W_first S_found S_syndromes S_locator (upd S_evaluator x2.toNatClampNeg r_23) S_places S_fixes) := hD
      obtain ⟨x2_27, ex2_27⟩ : ∃ y : Int32, y = (x2 + (1 : Int32)) := ⟨_, rfl⟩
      have h := h x2_27 ex2_27
      refine lv_iinc (v := x2_27) (lv' := [(2, .int x2_27), (0, .ref aS), (1, .ref aW)]) hx hb d_So_findFixes_27 hl (k := 2) rfl (by rw [ex2_27]; rfl) (by decide) rfl (fun ls hl => ?_)
      refine lv_goto (tgt := 2) hx hb d_So_findFixes_30 (by decide) ?_
      exact HK2 (upd S_evaluator x2.toNatClampNeg r_23) S_fixes x2_27 H locs ls h hP hD hS (lv_sub hl [1, 2, 0] rfl)
  have L2 : ∀  (n : Nat), ∀ (S_evaluator : Nat → Int32) (S_fixes : Nat → Int32) (x2 : Int32) (H : Heap) (locs : List Loc) (ls : Array Slot), wp_So_findFixes_L2 F_powers F_logs W_data W_repairs W_first S_found S_syndromes S_locator S_places post  n S_evaluator S_fixes x2 → va_P (dC, dI) vwCl (wd_So_findFixes aF aF_powers aF_logs aW aW_bytes aW_lost aW_factors aS aS_syndromes aS_locator aS_helper aS_kept aS_evaluator aS_places aS_fixes cI cZ F_powers F_logs W_lostCount W_data W_repairs W_first S_found S_syndromes S_locator S_evaluator S_places S_fixes) H → va_D A (wd_So_findFixes aF aF_powers aF_logs aW aW_bytes aW_lost aW_factors aS aS_syndromes aS_locator aS_helper aS_kept aS_evaluator aS_places aS_fixes cI cZ F_powers F_logs W_lostCount W_data W_repairs W_first S_found S_syndromes S_locator S_evaluator S_places S_fixes) → va_S A s.heap H locs → lv_has ls 6 [(0, .ref aS), (1, .ref aW), (2, .int x2)] → W p l e rm_So_findFixes s m args below meth c H locs 0 0 Q (F0 m 2 ls []) := by
    intro  n
    induction n with
    | zero => intro S_evaluator S_fixes x2 H locs ls h hP hD hS hl; exact False.elim h
    | succ n ih => intro S_evaluator S_fixes x2 H locs ls h hP hD hS hl; exact B2  (wp_So_findFixes_L2 F_powers F_logs W_data W_repairs W_first S_found S_syndromes S_locator S_places post  n) ih S_evaluator S_fixes x2 H locs ls h hP hD hS hl
  obtain ⟨H, hH⟩ : ∃ H : Heap, H = s.heap := ⟨_, rfl⟩
  obtain ⟨locs, hlo⟩ : ∃ x : List Loc, x = [] := ⟨_, rfl⟩
  have hS : va_S A s.heap H locs := by rw [hH, hlo]; exact hS
  rw [← hH] at hP
  rw [← hlo]
  show W p l e rm_So_findFixes s m args below meth c s.heap locs 0 0 Q (F0 m 0 ls [])
  rw [← hH]
  refine lv_iconst (v := (0 : Int32)) hx hb d_So_findFixes_0 (by decide) ?_
  refine lv_istore_n (lv' := [(2, .int (0 : Int32)), (0, .ref aS), (1, .ref aW)]) hx hb d_So_findFixes_1 rfl hl (by decide) rfl (fun ls hl => ?_)
  obtain ⟨n, h⟩ := h
  exact L2  n S_evaluator S_fixes (0 : Int32) H locs ls h hP hD hS (lv_sub hl [1, 2, 0] rfl)
