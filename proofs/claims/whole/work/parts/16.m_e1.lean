abbrev wd_RS_times (aF aF_powers aF_logs aR aW aS aC aP aH : Nat) (cI cZ : ClassId) (F_powers : Nat → Int32) (F_logs : Nat → Int32) : va_W := [(aF, .inr (1, [.ref aF_powers, .ref aF_logs])), (aF_powers, .inl (cI, 512, .inl F_powers)), (aF_logs, .inl (cI, 256, .inl F_logs)), (aR, .inr (6, [.ref aF, .ref aW, .ref aS, .ref aC, .ref aP, .ref aH]))]
def wp_RS_times_b14 (F_powers : Nat → Int32) (F_logs : Nat → Int32) (post : Int32 → Prop)   : Prop := post (-1 : Int32)
def wp_RS_times (F_powers : Nat → Int32) (F_logs : Nat → Int32) (p1 : Int32) (p2 : Int32) (post : Int32 → Prop) : Prop := wp_Fi_isByte p1 (fun r_1 => ((r_1 = 0 → (wp_RS_times_b14 F_powers F_logs post  )) ∧ (¬ r_1 = 0 → (wp_Fi_isByte p2 (fun r_8 => ((¬ r_8 = 0 → (wp_Fi_product F_powers F_logs p1 p2 (fun r_22 => (post r_22)))) ∧ (r_8 = 0 → (wp_RS_times_b14 F_powers F_logs post  ))))))))
abbrev rm_RS_times : Room := { frames := 1, cells := 0, slots := 0, locals := 22 }
set_option maxHeartbeats 4000000 in
set_option maxRecDepth 100000 in
theorem ct_RS_times (l : Launch) (dC : Nat → ClassId) (dI : Nat → Nat → Nat) (aF aF_powers aF_logs aR aW aS aC aP aH : Nat) (cI cZ : ClassId) (F_powers : Nat → Int32) (F_logs : Nat → Int32) (p1 : Int32) (p2 : Int32) (post : Int32 → Prop) (h : wp_RS_times F_powers F_logs p1 p2 post) (sz : Nat) : Met l y_RS_times (Cond.code y_RS_times c_RS_times 3 (some .int) :: tb) rm_RS_times (mt_P (dC, dI) vwCl [(cI, .int), (cZ, .boolean)] [.ref aR, .int p1, .int p2] (wd_RS_times aF aF_powers aF_logs aR aW aS aC aP aH cI cZ F_powers F_logs) sz) (va_Qi (fun (r : Int32) (u : Unit) => post r) (mt_B (dC, dI) vwCl [(cI, .int), (cZ, .boolean)] (wd_RS_times aF aF_powers aF_logs aR aW aS aC aP aH cI cZ F_powers F_logs) sz (fun u : Unit => wd_RS_times aF aF_powers aF_logs aR aW aS aC aP aH cI cZ F_powers F_logs)) (va_A (wd_RS_times aF aF_powers aF_logs aR aW aS aC aP aH cI cZ F_powers F_logs) sz)) 0 0 (va_A (wd_RS_times aF aF_powers aF_logs aR aW aS aC aP aH cI cZ F_powers F_logs) sz) := by
  refine mt_bd (by decide +kernel) (Nat.le_of_ble_eq_true rfl) ?_
  intro p e s m args below meth c hx hb hml hown hts hr hlk hnm hsz hP hK hD hA hS ls hl
  subst hsz
  have hown : s.vm.findClass "ReedSets" = some m.cls := hown
  have hl : lv_has ls 3 [(0, .ref aR), (1, .int p1), (2, .int p2)] := hl
  refine lz_Q (fun Q hQ => ?_)
  obtain ⟨A, hAe⟩ : ∃ A : Nat → Prop, A = va_A (wd_RS_times aF aF_powers aF_logs aR aW aS aC aP aH cI cZ F_powers F_logs) s.heap.size := ⟨_, rfl⟩
  rw [← hAe] at hD hA hS
  have RET : ∀ (v : Int32)  (H : Heap) (locs : List Loc) (ls : Array Slot) (pc : Nat), decode c_RS_times pc = .ok (.ireturn, 1) → post v  → va_P (dC, dI) vwCl (wd_RS_times aF aF_powers aF_logs aR aW aS aC aP aH cI cZ F_powers F_logs) H → va_D A (wd_RS_times aF aF_powers aF_logs aR aW aS aC aP aH cI cZ F_powers F_logs) → va_S A s.heap H locs → W p l e rm_RS_times s m args below meth c H locs 0 0 Q (F0 m pc ls [.int v]) := by
    intro v  H locs ls pc hd hp h1 h2 h3
    rw [hQ]
    rw [hAe] at h2 h3
    exact mt_reti () hx hb hr hlk hd hK h1 h2 h3 hp
  have B14 : ∀  (H : Heap) (locs : List Loc) (ls : Array Slot), wp_RS_times_b14 F_powers F_logs post   → va_P (dC, dI) vwCl (wd_RS_times aF aF_powers aF_logs aR aW aS aC aP aH cI cZ F_powers F_logs) H → va_D A (wd_RS_times aF aF_powers aF_logs aR aW aS aC aP aH cI cZ F_powers F_logs) → va_S A s.heap H locs → lv_has ls 3 [] → W p l e rm_RS_times s m args below meth c H locs 0 0 Q (F0 m 14 ls []) := by
    intro   H locs ls h hP hD hS hl
    refine lv_iconst (v := (-1 : Int32)) hx hb d_RS_times_14 (by decide) ?_
    exact RET (-1 : Int32) H locs ls 15 d_RS_times_15 h hP hD hS
  obtain ⟨H, hH⟩ : ∃ H : Heap, H = s.heap := ⟨_, rfl⟩
  obtain ⟨locs, hlo⟩ : ∃ x : List Loc, x = [] := ⟨_, rfl⟩
  have hS : va_S A s.heap H locs := by rw [hH, hlo]; exact hS
  rw [← hH] at hP
  rw [← hlo]
  show W p l e rm_RS_times s m args below meth c s.heap locs 0 0 Q (F0 m 0 ls [])
  rw [← hH]
  refine lv_iload_n hx hb d_RS_times_0 rfl (lv_at hl 1 rfl) ?_
  refine mt_i (va_runS (As := [.int p1]) (rest := []) ⟨hx, hb, hml, hown, hts⟩ (ct_Fi_isByte l dC dI  cI cZ p1 _ h _) (tb_cS hts ok_Fi_isByte tb_298 rfl rfl ⟨Nat.le_of_ble_eq_true rfl, Nat.le_of_ble_eq_true rfl⟩) (mt_preS hK hP hD [.int p1] [] rfl (by decide)) rfl rfl hl.1 rfl (lv_room (Nat.le_of_ble_eq_true rfl)) d_RS_times_1 ⟨Nat.zero_le _, Nat.zero_le _⟩) hP hD hS hA [] rfl (fun _ => rfl) (fun r_1 u H locs h hP hD hS => ?_)
  have hP : va_P (dC, dI) vwCl (wd_RS_times aF aF_powers aF_logs aR aW aS aC aP aH cI cZ F_powers F_logs) H := hP
  have hD : va_D A (wd_RS_times aF aF_powers aF_logs aR aW aS aC aP aH cI cZ F_powers F_logs) := hD
  refine lv_if_eq (tgt := 14) hx hb d_RS_times_4 (by decide) (fun g4 => ?_) (fun g4 => ?_)
  · have h := h.1 g4
    exact B14   H locs ls h hP hD hS (lv_sub hl [] rfl)
  · have h := h.2 g4
    refine lv_iload_n hx hb d_RS_times_7 rfl (lv_at hl 2 rfl) ?_
    refine mt_i (va_runS (As := [.int p2]) (rest := []) ⟨hx, hb, hml, hown, hts⟩ (ct_Fi_isByte l dC dI  cI cZ p2 _ h _) (tb_cS hts ok_Fi_isByte tb_298 rfl rfl ⟨Nat.le_of_ble_eq_true rfl, Nat.le_of_ble_eq_true rfl⟩) (mt_preS hK hP hD [.int p2] [] rfl (by decide)) rfl rfl hl.1 rfl (lv_room (Nat.le_of_ble_eq_true rfl)) d_RS_times_8 ⟨Nat.zero_le _, Nat.zero_le _⟩) hP hD hS hA [] rfl (fun _ => rfl) (fun r_8 u H locs h hP hD hS => ?_)
    have hP : va_P (dC, dI) vwCl (wd_RS_times aF aF_powers aF_logs aR aW aS aC aP aH cI cZ F_powers F_logs) H := hP
    have hD : va_D A (wd_RS_times aF aF_powers aF_logs aR aW aS aC aP aH cI cZ F_powers F_logs) := hD
    refine lv_if_ne (tgt := 16) hx hb d_RS_times_11 (by decide) (fun g11 => ?_) (fun g11 => ?_)
    · have h := h.1 g11
      refine lv_aload_n hx hb d_RS_times_16 rfl (lv_at hl 0 rfl) ?_
      refine va_get (D := (dC, dI)) (ci := 6) (v := .ref aF) (C := "ReedSets") (T := T_RS) (N := 6) hx hb hts in_RS hown hK hP 3 rfl rfl 0 (by decide) (hts _ tb_275) (fun _ h9 => h9) rfl d_RS_times_17 ?_
      refine lv_iload_n hx hb d_RS_times_20 rfl (lv_at hl 1 rfl) ?_
      refine lv_iload_n hx hb d_RS_times_21 rfl (lv_at hl 2 rfl) ?_
      refine mt_i (va_runV (As := [.int p1, .int p2]) (rest := []) ⟨hx, hb, hml, hown, hts⟩ (ct_Fi_product l dC dI aF aF_powers aF_logs cI cZ F_powers F_logs p1 p2 _ h _) (tb_cV hts ok_Fi_product tb_301 rfl rfl ⟨Nat.le_of_ble_eq_true rfl, Nat.le_of_ble_eq_true rfl⟩) (mt_preV hK hP hD [.int p1, .int p2] [0, 1, 2] rfl (by decide) (ci := 1) (q0 := 0) rfl rfl) rfl rfl hl.1 rfl (lv_room (Nat.le_of_ble_eq_true rfl)) d_RS_times_22 ⟨Nat.zero_le _, Nat.zero_le _⟩) hP hD hS hA [0, 1, 2] rfl (fun _ => rfl) (fun r_22 u H locs h hP hD hS => ?_)
      have hP : va_P (dC, dI) vwCl (wd_RS_times aF aF_powers aF_logs aR aW aS aC aP aH cI cZ F_powers F_logs) H := hP
      have hD : va_D A (wd_RS_times aF aF_powers aF_logs aR aW aS aC aP aH cI cZ F_powers F_logs) := hD
      exact RET r_22 H locs ls 25 d_RS_times_25 h hP hD hS
    · have h := h.2 g11
      exact B14   H locs ls h hP hD hS (lv_sub hl [] rfl)
abbrev wd_RS_over (aF aF_powers aF_logs aR aW aS aC aP aH : Nat) (cI cZ : ClassId) (F_powers : Nat → Int32) (F_logs : Nat → Int32) : va_W := [(aF, .inr (1, [.ref aF_powers, .ref aF_logs])), (aF_powers, .inl (cI, 512, .inl F_powers)), (aF_logs, .inl (cI, 256, .inl F_logs)), (aR, .inr (6, [.ref aF, .ref aW, .ref aS, .ref aC, .ref aP, .ref aH]))]
def wp_RS_over_b18 (F_powers : Nat → Int32) (F_logs : Nat → Int32) (post : Int32 → Prop)   : Prop := post (-1 : Int32)
def wp_RS_over (F_powers : Nat → Int32) (F_logs : Nat → Int32) (p1 : Int32) (p2 : Int32) (post : Int32 → Prop) : Prop := wp_Fi_isByte p1 (fun r_1 => ((r_1 = 0 → (wp_RS_over_b18 F_powers F_logs post  )) ∧ (¬ r_1 = 0 → (wp_Fi_isByte p2 (fun r_8 => ((r_8 = 0 → (wp_RS_over_b18 F_powers F_logs post  )) ∧ (¬ r_8 = 0 → ((¬ p2 = 0 → (wp_Fi_quotient F_powers F_logs p1 p2 (fun r_26 => (post r_26)))) ∧ (p2 = 0 → (wp_RS_over_b18 F_powers F_logs post  ))))))))))
abbrev rm_RS_over : Room := { frames := 1, cells := 0, slots := 0, locals := 22 }
set_option maxHeartbeats 4000000 in
set_option maxRecDepth 100000 in
theorem ct_RS_over (l : Launch) (dC : Nat → ClassId) (dI : Nat → Nat → Nat) (aF aF_powers aF_logs aR aW aS aC aP aH : Nat) (cI cZ : ClassId) (F_powers : Nat → Int32) (F_logs : Nat → Int32) (p1 : Int32) (p2 : Int32) (post : Int32 → Prop) (h : wp_RS_over F_powers F_logs p1 p2 post) (sz : Nat) : Met l y_RS_over (Cond.code y_RS_over c_RS_over 3 (some .int) :: tb) rm_RS_over (mt_P (dC, dI) vwCl [(cI, .int), (cZ, .boolean)] [.ref aR, .int p1, .int p2] (wd_RS_over aF aF_powers aF_logs aR aW aS aC aP aH cI cZ F_powers F_logs) sz) (va_Qi (fun (r : Int32) (u : Unit) => post r) (mt_B (dC, dI) vwCl [(cI, .int), (cZ, .boolean)] (wd_RS_over aF aF_powers aF_logs aR aW aS aC aP aH cI cZ F_powers F_logs) sz (fun u : Unit => wd_RS_over aF aF_powers aF_logs aR aW aS aC aP aH cI cZ F_powers F_logs)) (va_A (wd_RS_over aF aF_powers aF_logs aR aW aS aC aP aH cI cZ F_powers F_logs) sz)) 0 0 (va_A (wd_RS_over aF aF_powers aF_logs aR aW aS aC aP aH cI cZ F_powers F_logs) sz) := by
  refine mt_bd (by decide +kernel) (Nat.le_of_ble_eq_true rfl) ?_
  intro p e s m args below meth c hx hb hml hown hts hr hlk hnm hsz hP hK hD hA hS ls hl
  subst hsz
  have hown : s.vm.findClass "ReedSets" = some m.cls := hown
  have hl : lv_has ls 3 [(0, .ref aR), (1, .int p1), (2, .int p2)] := hl
  refine lz_Q (fun Q hQ => ?_)
  obtain ⟨A, hAe⟩ : ∃ A : Nat → Prop, A = va_A (wd_RS_over aF aF_powers aF_logs aR aW aS aC aP aH cI cZ F_powers F_logs) s.heap.size := ⟨_, rfl⟩
  rw [← hAe] at hD hA hS
  have RET : ∀ (v : Int32)  (H : Heap) (locs : List Loc) (ls : Array Slot) (pc : Nat), decode c_RS_over pc = .ok (.ireturn, 1) → post v  → va_P (dC, dI) vwCl (wd_RS_over aF aF_powers aF_logs aR aW aS aC aP aH cI cZ F_powers F_logs) H → va_D A (wd_RS_over aF aF_powers aF_logs aR aW aS aC aP aH cI cZ F_powers F_logs) → va_S A s.heap H locs → W p l e rm_RS_over s m args below meth c H locs 0 0 Q (F0 m pc ls [.int v]) := by
    intro v  H locs ls pc hd hp h1 h2 h3
    rw [hQ]
    rw [hAe] at h2 h3
    exact mt_reti () hx hb hr hlk hd hK h1 h2 h3 hp
  have B18 : ∀  (H : Heap) (locs : List Loc) (ls : Array Slot), wp_RS_over_b18 F_powers F_logs post   → va_P (dC, dI) vwCl (wd_RS_over aF aF_powers aF_logs aR aW aS aC aP aH cI cZ F_powers F_logs) H → va_D A (wd_RS_over aF aF_powers aF_logs aR aW aS aC aP aH cI cZ F_powers F_logs) → va_S A s.heap H locs → lv_has ls 3 [] → W p l e rm_RS_over s m args below meth c H locs 0 0 Q (F0 m 18 ls []) := by
    intro   H locs ls h hP hD hS hl
    refine lv_iconst (v := (-1 : Int32)) hx hb d_RS_over_18 (by decide) ?_
    exact RET (-1 : Int32) H locs ls 19 d_RS_over_19 h hP hD hS
  obtain ⟨H, hH⟩ : ∃ H : Heap, H = s.heap := ⟨_, rfl⟩
  obtain ⟨locs, hlo⟩ : ∃ x : List Loc, x = [] := ⟨_, rfl⟩
  have hS : va_S A s.heap H locs := by rw [hH, hlo]; exact hS
  rw [← hH] at hP
  rw [← hlo]
  show W p l e rm_RS_over s m args below meth c s.heap locs 0 0 Q (F0 m 0 ls [])
  rw [← hH]
  refine lv_iload_n hx hb d_RS_over_0 rfl (lv_at hl 1 rfl) ?_
  refine mt_i (va_runS (As := [.int p1]) (rest := []) ⟨hx, hb, hml, hown, hts⟩ (ct_Fi_isByte l dC dI  cI cZ p1 _ h _) (tb_cS hts ok_Fi_isByte tb_298 rfl rfl ⟨Nat.le_of_ble_eq_true rfl, Nat.le_of_ble_eq_true rfl⟩) (mt_preS hK hP hD [.int p1] [] rfl (by decide)) rfl rfl hl.1 rfl (lv_room (Nat.le_of_ble_eq_true rfl)) d_RS_over_1 ⟨Nat.zero_le _, Nat.zero_le _⟩) hP hD hS hA [] rfl (fun _ => rfl) (fun r_1 u H locs h hP hD hS => ?_)
  have hP : va_P (dC, dI) vwCl (wd_RS_over aF aF_powers aF_logs aR aW aS aC aP aH cI cZ F_powers F_logs) H := hP
  have hD : va_D A (wd_RS_over aF aF_powers aF_logs aR aW aS aC aP aH cI cZ F_powers F_logs) := hD
  refine lv_if_eq (tgt := 18) hx hb d_RS_over_4 (by decide) (fun g4 => ?_) (fun g4 => ?_)
  · have h := h.1 g4
    exact B18   H locs ls h hP hD hS (lv_sub hl [] rfl)
  · have h := h.2 g4
    refine lv_iload_n hx hb d_RS_over_7 rfl (lv_at hl 2 rfl) ?_
    refine mt_i (va_runS (As := [.int p2]) (rest := []) ⟨hx, hb, hml, hown, hts⟩ (ct_Fi_isByte l dC dI  cI cZ p2 _ h _) (tb_cS hts ok_Fi_isByte tb_298 rfl rfl ⟨Nat.le_of_ble_eq_true rfl, Nat.le_of_ble_eq_true rfl⟩) (mt_preS hK hP hD [.int p2] [] rfl (by decide)) rfl rfl hl.1 rfl (lv_room (Nat.le_of_ble_eq_true rfl)) d_RS_over_8 ⟨Nat.zero_le _, Nat.zero_le _⟩) hP hD hS hA [] rfl (fun _ => rfl) (fun r_8 u H locs h hP hD hS => ?_)
    have hP : va_P (dC, dI) vwCl (wd_RS_over aF aF_powers aF_logs aR aW aS aC aP aH cI cZ F_powers F_logs) H := hP
    have hD : va_D A (wd_RS_over aF aF_powers aF_logs aR aW aS aC aP aH cI cZ F_powers F_logs) := hD
    refine lv_if_eq (tgt := 18) hx hb d_RS_over_11 (by decide) (fun g11 => ?_) (fun g11 => ?_)
    · have h := h.1 g11
      exact B18   H locs ls h hP hD hS (lv_sub hl [] rfl)
    · have h := h.2 g11
      refine lv_iload_n hx hb d_RS_over_14 rfl (lv_at hl 2 rfl) ?_
      refine lv_if_ne (tgt := 20) hx hb d_RS_over_15 (by decide) (fun g15 => ?_) (fun g15 => ?_)
      · have h := h.1 g15
        refine lv_aload_n hx hb d_RS_over_20 rfl (lv_at hl 0 rfl) ?_
        refine va_get (D := (dC, dI)) (ci := 6) (v := .ref aF) (C := "ReedSets") (T := T_RS) (N := 6) hx hb hts in_RS hown hK hP 3 rfl rfl 0 (by decide) (hts _ tb_275) (fun _ h9 => h9) rfl d_RS_over_21 ?_
        refine lv_iload_n hx hb d_RS_over_24 rfl (lv_at hl 1 rfl) ?_
        refine lv_iload_n hx hb d_RS_over_25 rfl (lv_at hl 2 rfl) ?_
        refine mt_i (va_runV (As := [.int p1, .int p2]) (rest := []) ⟨hx, hb, hml, hown, hts⟩ (ct_Fi_quotient l dC dI aF aF_powers aF_logs cI cZ F_powers F_logs p1 p2 _ h _) (tb_cV hts ok_Fi_quotient tb_306 rfl rfl ⟨Nat.le_of_ble_eq_true rfl, Nat.le_of_ble_eq_true rfl⟩) (mt_preV hK hP hD [.int p1, .int p2] [0, 1, 2] rfl (by decide) (ci := 1) (q0 := 0) rfl rfl) rfl rfl hl.1 rfl (lv_room (Nat.le_of_ble_eq_true rfl)) d_RS_over_26 ⟨Nat.zero_le _, Nat.zero_le _⟩) hP hD hS hA [0, 1, 2] rfl (fun _ => rfl) (fun r_26 u H locs h hP hD hS => ?_)
        have hP : va_P (dC, dI) vwCl (wd_RS_over aF aF_powers aF_logs aR aW aS aC aP aH cI cZ F_powers F_logs) H := hP
        have hD : va_D A (wd_RS_over aF aF_powers aF_logs aR aW aS aC aP aH cI cZ F_powers F_logs) := hD
        exact RET r_26 H locs ls 29 d_RS_over_29 h hP hD hS
      · have h := h.2 g15
        exact B18   H locs ls h hP hD hS (lv_sub hl [] rfl)
abbrev wd_RS_power (aF aF_powers aF_logs aR aW aS aC aP aH : Nat) (cI cZ : ClassId) (F_powers : Nat → Int32) (F_logs : Nat → Int32) : va_W := [(aF, .inr (1, [.ref aF_powers, .ref aF_logs])), (aF_powers, .inl (cI, 512, .inl F_powers)), (aF_logs, .inl (cI, 256, .inl F_logs)), (aR, .inr (6, [.ref aF, .ref aW, .ref aS, .ref aC, .ref aP, .ref aH]))]
def wp_RS_power_b15 (F_powers : Nat → Int32) (F_logs : Nat → Int32) (post : Int32 → Prop)   : Prop := post (-1 : Int32)
def wp_RS_power_b17 (F_powers : Nat → Int32) (F_logs : Nat → Int32) (post : Int32 → Prop)  (x1 : Int32) (x2 : Int32) : Prop := wp_Fi_raised F_powers F_logs x1 x2 (fun r_23 => (post r_23))
def wp_RS_power (F_powers : Nat → Int32) (F_logs : Nat → Int32) (p1 : Int32) (p2 : Int32) (post : Int32 → Prop) : Prop := wp_Fi_isByte p1 (fun r_1 => ((r_1 = 0 → (wp_RS_power_b15 F_powers F_logs post  )) ∧ (¬ r_1 = 0 → ((¬ p1 = 0 → (wp_RS_power_b17 F_powers F_logs post  p1 p2)) ∧ (p1 = 0 → ((0 ≤ p2 → (wp_RS_power_b17 F_powers F_logs post  p1 p2)) ∧ (¬ 0 ≤ p2 → (wp_RS_power_b15 F_powers F_logs post  ))))))))
abbrev rm_RS_power : Room := { frames := 2, cells := 0, slots := 0, locals := 44 }
set_option maxHeartbeats 4000000 in
set_option maxRecDepth 100000 in
theorem ct_RS_power (l : Launch) (dC : Nat → ClassId) (dI : Nat → Nat → Nat) (aF aF_powers aF_logs aR aW aS aC aP aH : Nat) (cI cZ : ClassId) (F_powers : Nat → Int32) (F_logs : Nat → Int32) (p1 : Int32) (p2 : Int32) (post : Int32 → Prop) (h : wp_RS_power F_powers F_logs p1 p2 post) (sz : Nat) : Met l y_RS_power (Cond.code y_RS_power c_RS_power 3 (some .int) :: tb) rm_RS_power (mt_P (dC, dI) vwCl [(cI, .int), (cZ, .boolean)] [.ref aR, .int p1, .int p2] (wd_RS_power aF aF_powers aF_logs aR aW aS aC aP aH cI cZ F_powers F_logs) sz) (va_Qi (fun (r : Int32) (u : Unit) => post r) (mt_B (dC, dI) vwCl [(cI, .int), (cZ, .boolean)] (wd_RS_power aF aF_powers aF_logs aR aW aS aC aP aH cI cZ F_powers F_logs) sz (fun u : Unit => wd_RS_power aF aF_powers aF_logs aR aW aS aC aP aH cI cZ F_powers F_logs)) (va_A (wd_RS_power aF aF_powers aF_logs aR aW aS aC aP aH cI cZ F_powers F_logs) sz)) 0 0 (va_A (wd_RS_power aF aF_powers aF_logs aR aW aS aC aP aH cI cZ F_powers F_logs) sz) := by
  refine mt_bd (by decide +kernel) (Nat.le_of_ble_eq_true rfl) ?_
  intro p e s m args below meth c hx hb hml hown hts hr hlk hnm hsz hP hK hD hA hS ls hl
  subst hsz
  have hown : s.vm.findClass "ReedSets" = some m.cls := hown
  have hl : lv_has ls 3 [(0, .ref aR), (1, .int p1), (2, .int p2)] := hl
  refine lz_Q (fun Q hQ => ?_)
  obtain ⟨A, hAe⟩ : ∃ A : Nat → Prop, A = va_A (wd_RS_power aF aF_powers aF_logs aR aW aS aC aP aH cI cZ F_powers F_logs) s.heap.size := ⟨_, rfl⟩
  rw [← hAe] at hD hA hS
  have RET : ∀ (v : Int32)  (H : Heap) (locs : List Loc) (ls : Array Slot) (pc : Nat), decode c_RS_power pc = .ok (.ireturn, 1) → post v  → va_P (dC, dI) vwCl (wd_RS_power aF aF_powers aF_logs aR aW aS aC aP aH cI cZ F_powers F_logs) H → va_D A (wd_RS_power aF aF_powers aF_logs aR aW aS aC aP aH cI cZ F_powers F_logs) → va_S A s.heap H locs → W p l e rm_RS_power s m args below meth c H locs 0 0 Q (F0 m pc ls [.int v]) := by
    intro v  H locs ls pc hd hp h1 h2 h3
    rw [hQ]
    rw [hAe] at h2 h3
    exact mt_reti () hx hb hr hlk hd hK h1 h2 h3 hp
  have B15 : ∀  (H : Heap) (locs : List Loc) (ls : Array Slot), wp_RS_power_b15 F_powers F_logs post   → va_P (dC, dI) vwCl (wd_RS_power aF aF_powers aF_logs aR aW aS aC aP aH cI cZ F_powers F_logs) H → va_D A (wd_RS_power aF aF_powers aF_logs aR aW aS aC aP aH cI cZ F_powers F_logs) → va_S A s.heap H locs → lv_has ls 3 [] → W p l e rm_RS_power s m args below meth c H locs 0 0 Q (F0 m 15 ls []) := by
    intro   H locs ls h hP hD hS hl
    refine lv_iconst (v := (-1 : Int32)) hx hb d_RS_power_15 (by decide) ?_
    exact RET (-1 : Int32) H locs ls 16 d_RS_power_16 h hP hD hS
  have B17 : ∀ (x1 : Int32) (x2 : Int32) (H : Heap) (locs : List Loc) (ls : Array Slot), wp_RS_power_b17 F_powers F_logs post  x1 x2 → va_P (dC, dI) vwCl (wd_RS_power aF aF_powers aF_logs aR aW aS aC aP aH cI cZ F_powers F_logs) H → va_D A (wd_RS_power aF aF_powers aF_logs aR aW aS aC aP aH cI cZ F_powers F_logs) → va_S A s.heap H locs → lv_has ls 3 [(0, .ref aR), (1, .int x1), (2, .int x2)] → W p l e rm_RS_power s m args below meth c H locs 0 0 Q (F0 m 17 ls []) := by
    intro  x1 x2 H locs ls h hP hD hS hl
    refine lv_aload_n hx hb d_RS_power_17 rfl (lv_at hl 0 rfl) ?_
    refine va_get (D := (dC, dI)) (ci := 6) (v := .ref aF) (C := "ReedSets") (T := T_RS) (N := 6) hx hb hts in_RS hown hK hP 3 rfl rfl 0 (by decide) (hts _ tb_275) (fun _ h9 => h9) rfl d_RS_power_18 ?_
    refine lv_iload_n hx hb d_RS_power_21 rfl (lv_at hl 1 rfl) ?_
    refine lv_iload_n hx hb d_RS_power_22 rfl (lv_at hl 2 rfl) ?_
    refine mt_i (va_runV (As := [.int x1, .int x2]) (rest := []) ⟨hx, hb, hml, hown, hts⟩ (ct_Fi_raised l dC dI aF aF_powers aF_logs cI cZ F_powers F_logs x1 x2 _ h _) (tb_cV hts ok_Fi_raised tb_314 rfl rfl ⟨Nat.le_of_ble_eq_true rfl, Nat.le_of_ble_eq_true rfl⟩) (mt_preV hK hP hD [.int x1, .int x2] [0, 1, 2] rfl (by decide) (ci := 1) (q0 := 0) rfl rfl) rfl rfl hl.1 rfl (lv_room (Nat.le_of_ble_eq_true rfl)) d_RS_power_23 ⟨Nat.zero_le _, Nat.zero_le _⟩) hP hD hS hA [0, 1, 2] rfl (fun _ => rfl) (fun r_23 u H locs h hP hD hS => ?_)
    have hP : va_P (dC, dI) vwCl (wd_RS_power aF aF_powers aF_logs aR aW aS aC aP aH cI cZ F_powers F_logs) H := hP
    have hD : va_D A (wd_RS_power aF aF_powers aF_logs aR aW aS aC aP aH cI cZ F_powers F_logs) := hD
    exact RET r_23 H locs ls 26 d_RS_power_26 h hP hD hS
  obtain ⟨H, hH⟩ : ∃ H : Heap, H = s.heap := ⟨_, rfl⟩
  obtain ⟨locs, hlo⟩ : ∃ x : List Loc, x = [] := ⟨_, rfl⟩
  have hS : va_S A s.heap H locs := by rw [hH, hlo]; exact hS
  rw [← hH] at hP
  rw [← hlo]
  show W p l e rm_RS_power s m args below meth c s.heap locs 0 0 Q (F0 m 0 ls [])
  rw [← hH]
  refine lv_iload_n hx hb d_RS_power_0 rfl (lv_at hl 1 rfl) ?_
  refine mt_i (va_runS (As := [.int p1]) (rest := []) ⟨hx, hb, hml, hown, hts⟩ (ct_Fi_isByte l dC dI  cI cZ p1 _ h _) (tb_cS hts ok_Fi_isByte tb_298 rfl rfl ⟨Nat.le_of_ble_eq_true rfl, Nat.le_of_ble_eq_true rfl⟩) (mt_preS hK hP hD [.int p1] [] rfl (by decide)) rfl rfl hl.1 rfl (lv_room (Nat.le_of_ble_eq_true rfl)) d_RS_power_1 ⟨Nat.zero_le _, Nat.zero_le _⟩) hP hD hS hA [] rfl (fun _ => rfl) (fun r_1 u H locs h hP hD hS => ?_)
  have hP : va_P (dC, dI) vwCl (wd_RS_power aF aF_powers aF_logs aR aW aS aC aP aH cI cZ F_powers F_logs) H := hP
  have hD : va_D A (wd_RS_power aF aF_powers aF_logs aR aW aS aC aP aH cI cZ F_powers F_logs) := hD
  refine lv_if_eq (tgt := 15) hx hb d_RS_power_4 (by decide) (fun g4 => ?_) (fun g4 => ?_)
  · have h := h.1 g4
    exact B15   H locs ls h hP hD hS (lv_sub hl [] rfl)
  · have h := h.2 g4
    refine lv_iload_n hx hb d_RS_power_7 rfl (lv_at hl 1 rfl) ?_
    refine lv_if_ne (tgt := 17) hx hb d_RS_power_8 (by decide) (fun g8 => ?_) (fun g8 => ?_)
    · have h := h.1 g8
      exact B17  p1 p2 H locs ls h hP hD hS (lv_sub hl [0, 1, 2] rfl)
    · have h := h.2 g8
      refine lv_iload_n hx hb d_RS_power_11 rfl (lv_at hl 2 rfl) ?_
      refine lv_if_ge (tgt := 17) hx hb d_RS_power_12 (by decide) (fun g12 => ?_) (fun g12 => ?_)
      · have h := h.1 g12
        exact B17  p1 p2 H locs ls h hP hD hS (lv_sub hl [0, 1, 2] rfl)
      · have h := h.2 g12
        exact B15   H locs ls h hP hD hS (lv_sub hl [] rfl)
abbrev wd_RS_log (aF aF_powers aF_logs aR aW aS aC aP aH : Nat) (cI cZ : ClassId) (F_logs : Nat → Int32) : va_W := [(aF, .inr (1, [.ref aF_powers, .ref aF_logs])), (aF_logs, .inl (cI, 256, .inl F_logs)), (aR, .inr (6, [.ref aF, .ref aW, .ref aS, .ref aC, .ref aP, .ref aH]))]
def wp_RS_log_b11 (F_logs : Nat → Int32) (post : Int32 → Prop)   : Prop := post (-1 : Int32)
def wp_RS_log (F_logs : Nat → Int32) (p1 : Int32) (post : Int32 → Prop) : Prop := wp_Fi_isByte p1 (fun r_1 => ((r_1 = 0 → (wp_RS_log_b11 F_logs post  )) ∧ (¬ r_1 = 0 → ((¬ p1 = 0 → (wp_Fi_logOf F_logs p1 (fun r_18 => (post r_18)))) ∧ (p1 = 0 → (wp_RS_log_b11 F_logs post  ))))))
abbrev rm_RS_log : Room := { frames := 1, cells := 0, slots := 0, locals := 21 }
set_option maxHeartbeats 4000000 in
set_option maxRecDepth 100000 in
theorem ct_RS_log (l : Launch) (dC : Nat → ClassId) (dI : Nat → Nat → Nat) (aF aF_powers aF_logs aR aW aS aC aP aH : Nat) (cI cZ : ClassId) (F_logs : Nat → Int32) (p1 : Int32) (post : Int32 → Prop) (h : wp_RS_log F_logs p1 post) (sz : Nat) : Met l y_RS_log (Cond.code y_RS_log c_RS_log 2 (some .int) :: tb) rm_RS_log (mt_P (dC, dI) vwCl [(cI, .int), (cZ, .boolean)] [.ref aR, .int p1] (wd_RS_log aF aF_powers aF_logs aR aW aS aC aP aH cI cZ F_logs) sz) (va_Qi (fun (r : Int32) (u : Unit) => post r) (mt_B (dC, dI) vwCl [(cI, .int), (cZ, .boolean)] (wd_RS_log aF aF_powers aF_logs aR aW aS aC aP aH cI cZ F_logs) sz (fun u : Unit => wd_RS_log aF aF_powers aF_logs aR aW aS aC aP aH cI cZ F_logs)) (va_A (wd_RS_log aF aF_powers aF_logs aR aW aS aC aP aH cI cZ F_logs) sz)) 0 0 (va_A (wd_RS_log aF aF_powers aF_logs aR aW aS aC aP aH cI cZ F_logs) sz) := by
  refine mt_bd (by decide +kernel) (Nat.le_of_ble_eq_true rfl) ?_
  intro p e s m args below meth c hx hb hml hown hts hr hlk hnm hsz hP hK hD hA hS ls hl
  subst hsz
  have hown : s.vm.findClass "ReedSets" = some m.cls := hown
  have hl : lv_has ls 2 [(0, .ref aR), (1, .int p1)] := hl
  refine lz_Q (fun Q hQ => ?_)
  obtain ⟨A, hAe⟩ : ∃ A : Nat → Prop, A = va_A (wd_RS_log aF aF_powers aF_logs aR aW aS aC aP aH cI cZ F_logs) s.heap.size := ⟨_, rfl⟩
  rw [← hAe] at hD hA hS
  have RET : ∀ (v : Int32)  (H : Heap) (locs : List Loc) (ls : Array Slot) (pc : Nat), decode c_RS_log pc = .ok (.ireturn, 1) → post v  → va_P (dC, dI) vwCl (wd_RS_log aF aF_powers aF_logs aR aW aS aC aP aH cI cZ F_logs) H → va_D A (wd_RS_log aF aF_powers aF_logs aR aW aS aC aP aH cI cZ F_logs) → va_S A s.heap H locs → W p l e rm_RS_log s m args below meth c H locs 0 0 Q (F0 m pc ls [.int v]) := by
    intro v  H locs ls pc hd hp h1 h2 h3
    rw [hQ]
    rw [hAe] at h2 h3
    exact mt_reti () hx hb hr hlk hd hK h1 h2 h3 hp
  have B11 : ∀  (H : Heap) (locs : List Loc) (ls : Array Slot), wp_RS_log_b11 F_logs post   → va_P (dC, dI) vwCl (wd_RS_log aF aF_powers aF_logs aR aW aS aC aP aH cI cZ F_logs) H → va_D A (wd_RS_log aF aF_powers aF_logs aR aW aS aC aP aH cI cZ F_logs) → va_S A s.heap H locs → lv_has ls 2 [] → W p l e rm_RS_log s m args below meth c H locs 0 0 Q (F0 m 11 ls []) := by
    intro   H locs ls h hP hD hS hl
    refine lv_iconst (v := (-1 : Int32)) hx hb d_RS_log_11 (by decide) ?_
    exact RET (-1 : Int32) H locs ls 12 d_RS_log_12 h hP hD hS
  obtain ⟨H, hH⟩ : ∃ H : Heap, H = s.heap := ⟨_, rfl⟩
  obtain ⟨locs, hlo⟩ : ∃ x : List Loc, x = [] := ⟨_, rfl⟩
  have hS : va_S A s.heap H locs := by rw [hH, hlo]; exact hS
  rw [← hH] at hP
  rw [← hlo]
  show W p l e rm_RS_log s m args below meth c s.heap locs 0 0 Q (F0 m 0 ls [])
  rw [← hH]
  refine lv_iload_n hx hb d_RS_log_0 rfl (lv_at hl 1 rfl) ?_
  refine mt_i (va_runS (As := [.int p1]) (rest := []) ⟨hx, hb, hml, hown, hts⟩ (ct_Fi_isByte l dC dI  cI cZ p1 _ h _) (tb_cS hts ok_Fi_isByte tb_298 rfl rfl ⟨Nat.le_of_ble_eq_true rfl, Nat.le_of_ble_eq_true rfl⟩) (mt_preS hK hP hD [.int p1] [] rfl (by decide)) rfl rfl hl.1 rfl (lv_room (Nat.le_of_ble_eq_true rfl)) d_RS_log_1 ⟨Nat.zero_le _, Nat.zero_le _⟩) hP hD hS hA [] rfl (fun _ => rfl) (fun r_1 u H locs h hP hD hS => ?_)
  have hP : va_P (dC, dI) vwCl (wd_RS_log aF aF_powers aF_logs aR aW aS aC aP aH cI cZ F_logs) H := hP
  have hD : va_D A (wd_RS_log aF aF_powers aF_logs aR aW aS aC aP aH cI cZ F_logs) := hD
  refine lv_if_eq (tgt := 11) hx hb d_RS_log_4 (by decide) (fun g4 => ?_) (fun g4 => ?_)
  · have h := h.1 g4
    exact B11   H locs ls h hP hD hS (lv_sub hl [] rfl)
  · have h := h.2 g4
    refine lv_iload_n hx hb d_RS_log_7 rfl (lv_at hl 1 rfl) ?_
    refine lv_if_ne (tgt := 13) hx hb d_RS_log_8 (by decide) (fun g8 => ?_) (fun g8 => ?_)
    · have h := h.1 g8
      refine lv_aload_n hx hb d_RS_log_13 rfl (lv_at hl 0 rfl) ?_
      refine va_get (D := (dC, dI)) (ci := 6) (v := .ref aF) (C := "ReedSets") (T := T_RS) (N := 6) hx hb hts in_RS hown hK hP 2 rfl rfl 0 (by decide) (hts _ tb_275) (fun _ h9 => h9) rfl d_RS_log_14 ?_
      refine lv_iload_n hx hb d_RS_log_17 rfl (lv_at hl 1 rfl) ?_
      refine mt_i (va_runV (As := [.int p1]) (rest := []) ⟨hx, hb, hml, hown, hts⟩ (ct_Fi_logOf l dC dI aF aF_powers aF_logs cI cZ F_logs p1 _ h _) (tb_cV hts ok_Fi_logOf tb_326 rfl rfl ⟨Nat.le_of_ble_eq_true rfl, Nat.le_of_ble_eq_true rfl⟩) (mt_preV hK hP hD [.int p1] [0, 1] rfl (by decide) (ci := 1) (q0 := 0) rfl rfl) rfl rfl hl.1 rfl (lv_room (Nat.le_of_ble_eq_true rfl)) d_RS_log_18 ⟨Nat.zero_le _, Nat.zero_le _⟩) hP hD hS hA [0, 1] rfl (fun _ => rfl) (fun r_18 u H locs h hP hD hS => ?_)
      have hP : va_P (dC, dI) vwCl (wd_RS_log aF aF_powers aF_logs aR aW aS aC aP aH cI cZ F_logs) H := hP
      have hD : va_D A (wd_RS_log aF aF_powers aF_logs aR aW aS aC aP aH cI cZ F_logs) := hD
      exact RET r_18 H locs ls 21 d_RS_log_21 h hP hD hS
    · have h := h.2 g8
      exact B11   H locs ls h hP hD hS (lv_sub hl [] rfl)
abbrev wd_RS_code (aF aF_powers aF_logs aW aW_bytes aW_lost aW_factors aR aS aC aP aH : Nat) (cI cZ : ClassId) (F_powers : Nat → Int32) (F_logs : Nat → Int32) (W_lostCount : Int32) (W_data : Int32) (W_repairs : Int32) (W_first : Int32) (W_bytes : Nat → Int32) (W_lost : Nat → Int32) (W_factors : Nat → Int32) : va_W := [(aF, .inr (1, [.ref aF_powers, .ref aF_logs])), (aF_powers, .inl (cI, 512, .inl F_powers)), (aF_logs, .inl (cI, 256, .inl F_logs)), (aW, .inr (5, [.ref aF, .ref aW_bytes, .ref aW_lost, .ref aW_factors, .int W_lostCount, .int W_data, .int W_repairs, .int W_first])), (aW_bytes, .inl (cI, 240, .inl W_bytes)), (aW_lost, .inl (cZ, 240, .inl W_lost)), (aW_factors, .inl (cI, 41, .inl W_factors)), (aR, .inr (6, [.ref aF, .ref aW, .ref aS, .ref aC, .ref aP, .ref aH]))]
def wp_RS_code_b22 (F_powers : Nat → Int32) (F_logs : Nat → Int32) (post : Int32 → Int32 → Int32 → Int32 → Int32 → (Nat → Int32) → (Nat → Int32) → (Nat → Int32) → Prop)  (W_lostCount : Int32) (W_data : Int32) (W_repairs : Int32) (W_first : Int32) (W_bytes : Nat → Int32) (W_lost : Nat → Int32) (W_factors : Nat → Int32) : Prop := post (-1 : Int32) W_lostCount W_data W_repairs W_first W_bytes W_lost W_factors
def wp_RS_code_b44 (F_powers : Nat → Int32) (F_logs : Nat → Int32) (post : Int32 → Int32 → Int32 → Int32 → Int32 → (Nat → Int32) → (Nat → Int32) → (Nat → Int32) → Prop)  (W_lostCount : Int32) (W_data : Int32) (W_repairs : Int32) (W_first : Int32) (W_bytes : Nat → Int32) (W_lost : Nat → Int32) (W_factors : Nat → Int32) : Prop := post (-1 : Int32) W_lostCount W_data W_repairs W_first W_bytes W_lost W_factors
def wp_RS_code (F_powers : Nat → Int32) (F_logs : Nat → Int32) (W_lostCount : Int32) (W_data : Int32) (W_repairs : Int32) (W_first : Int32) (W_bytes : Nat → Int32) (W_lost : Nat → Int32) (W_factors : Nat → Int32) (p1 : Int32) (p2 : Int32) (p3 : Int32) (post : Int32 → Int32 → Int32 → Int32 → Int32 → (Nat → Int32) → (Nat → Int32) → (Nat → Int32) → Prop) : Prop := (p1 < (1 : Int32) → (wp_RS_code_b22 F_powers F_logs post  W_lostCount W_data W_repairs W_first W_bytes W_lost W_factors)) ∧ (¬ p1 < (1 : Int32) → (((200 : Int32) < p1 → (wp_RS_code_b22 F_powers F_logs post  W_lostCount W_data W_repairs W_first W_bytes W_lost W_factors)) ∧ (¬ (200 : Int32) < p1 → ((p2 < 0 → (wp_RS_code_b22 F_powers F_logs post  W_lostCount W_data W_repairs W_first W_bytes W_lost W_factors)) ∧ (¬ p2 < 0 → ((p2 ≤ (40 : Int32) → (((255 : Int32) < (p1 + p2) → (wp_RS_code_b44 F_powers F_logs post  W_lostCount W_data W_repairs W_first W_bytes W_lost W_factors)) ∧ (¬ (255 : Int32) < (p1 + p2) → ((p3 < 0 → (wp_RS_code_b44 F_powers F_logs post  W_lostCount W_data W_repairs W_first W_bytes W_lost W_factors)) ∧ (¬ p3 < 0 → ((p3 < (255 : Int32) → (wp_Wo_shape F_powers F_logs W_lostCount W_data W_repairs W_first W_bytes W_lost W_factors p1 p2 p3 (fun W_lostCount_53 W_data_53 W_repairs_53 W_first_53 W_bytes_53 W_lost_53 W_factors_53 => (wp_Wo_size W_data_53 W_repairs_53 (fun r_60 => (post r_60 W_lostCount_53 W_data_53 W_repairs_53 W_first_53 W_bytes_53 W_lost_53 W_factors_53)))))) ∧ (¬ p3 < (255 : Int32) → (wp_RS_code_b44 F_powers F_logs post  W_lostCount W_data W_repairs W_first W_bytes W_lost W_factors)))))))) ∧ (¬ p2 ≤ (40 : Int32) → (wp_RS_code_b22 F_powers F_logs post  W_lostCount W_data W_repairs W_first W_bytes W_lost W_factors))))))))
abbrev rm_RS_code : Room := { frames := 3, cells := 0, slots := 0, locals := 69 }
set_option maxHeartbeats 4000000 in
set_option maxRecDepth 100000 in
theorem ct_RS_code (l : Launch) (dC : Nat → ClassId) (dI : Nat → Nat → Nat) (aF aF_powers aF_logs aW aW_bytes aW_lost aW_factors aR aS aC aP aH : Nat) (cI cZ : ClassId) (F_powers : Nat → Int32) (F_logs : Nat → Int32) (W_lostCount : Int32) (W_data : Int32) (W_repairs : Int32) (W_first : Int32) (W_bytes : Nat → Int32) (W_lost : Nat → Int32) (W_factors : Nat → Int32) (p1 : Int32) (p2 : Int32) (p3 : Int32) (post : Int32 → Int32 → Int32 → Int32 → Int32 → (Nat → Int32) → (Nat → Int32) → (Nat → Int32) → Prop) (h : wp_RS_code F_powers F_logs W_lostCount W_data W_repairs W_first W_bytes W_lost W_factors p1 p2 p3 post) (sz : Nat) : Met l y_RS_code (Cond.code y_RS_code c_RS_code 4 (some .int) :: tb) rm_RS_code (mt_P (dC, dI) vwCl [(cI, .int), (cZ, .boolean)] [.ref aR, .int p1, .int p2, .int p3] (wd_RS_code aF aF_powers aF_logs aW aW_bytes aW_lost aW_factors aR aS aC aP aH cI cZ F_powers F_logs W_lostCount W_data W_repairs W_first W_bytes W_lost W_factors) sz) (va_Qi (fun (r : Int32) (u : Int32 × Int32 × Int32 × Int32 × (Nat → Int32) × (Nat → Int32) × (Nat → Int32)) => post r u.1 u.2.1 u.2.2.1 u.2.2.2.1 u.2.2.2.2.1 u.2.2.2.2.2.1 u.2.2.2.2.2.2) (mt_B (dC, dI) vwCl [(cI, .int), (cZ, .boolean)] (wd_RS_code aF aF_powers aF_logs aW aW_bytes aW_lost aW_factors aR aS aC aP aH cI cZ F_powers F_logs W_lostCount W_data W_repairs W_first W_bytes W_lost W_factors) sz (fun u : Int32 × Int32 × Int32 × Int32 × (Nat → Int32) × (Nat → Int32) × (Nat → Int32) => wd_RS_code aF aF_powers aF_logs aW aW_bytes aW_lost aW_factors aR aS aC aP aH cI cZ F_powers F_logs u.1 u.2.1 u.2.2.1 u.2.2.2.1 u.2.2.2.2.1 u.2.2.2.2.2.1 u.2.2.2.2.2.2)) (va_A (wd_RS_code aF aF_powers aF_logs aW aW_bytes aW_lost aW_factors aR aS aC aP aH cI cZ F_powers F_logs W_lostCount W_data W_repairs W_first W_bytes W_lost W_factors) sz)) 0 0 (va_A (wd_RS_code aF aF_powers aF_logs aW aW_bytes aW_lost aW_factors aR aS aC aP aH cI cZ F_powers F_logs W_lostCount W_data W_repairs W_first W_bytes W_lost W_factors) sz) := by
  refine mt_bd (by decide +kernel) (Nat.le_of_ble_eq_true rfl) ?_
  intro p e s m args below meth c hx hb hml hown hts hr hlk hnm hsz hP hK hD hA hS ls hl
  subst hsz
  have hown : s.vm.findClass "ReedSets" = some m.cls := hown
  have hl : lv_has ls 4 [(0, .ref aR), (1, .int p1), (2, .int p2), (3, .int p3)] := hl
  refine lz_Q (fun Q hQ => ?_)
  obtain ⟨A, hAe⟩ : ∃ A : Nat → Prop, A = va_A (wd_RS_code aF aF_powers aF_logs aW aW_bytes aW_lost aW_factors aR aS aC aP aH cI cZ F_powers F_logs W_lostCount W_data W_repairs W_first W_bytes W_lost W_factors) s.heap.size := ⟨_, rfl⟩
  rw [← hAe] at hD hA hS
  have RET : ∀ (v : Int32) (W_lostCount : Int32) (W_data : Int32) (W_repairs : Int32) (W_first : Int32) (W_bytes : Nat → Int32) (W_lost : Nat → Int32) (W_factors : Nat → Int32) (H : Heap) (locs : List Loc) (ls : Array Slot) (pc : Nat), decode c_RS_code pc = .ok (.ireturn, 1) → post v W_lostCount W_data W_repairs W_first W_bytes W_lost W_factors → va_P (dC, dI) vwCl (wd_RS_code aF aF_powers aF_logs aW aW_bytes aW_lost aW_factors aR aS aC aP aH cI cZ F_powers F_logs W_lostCount W_data W_repairs W_first W_bytes W_lost W_factors) H → va_D A (wd_RS_code aF aF_powers aF_logs aW aW_bytes aW_lost aW_factors aR aS aC aP aH cI cZ F_powers F_logs W_lostCount W_data W_repairs W_first W_bytes W_lost W_factors) → va_S A s.heap H locs → W p l e rm_RS_code s m args below meth c H locs 0 0 Q (F0 m pc ls [.int v]) := by
    intro v W_lostCount W_data W_repairs W_first W_bytes W_lost W_factors H locs ls pc hd hp h1 h2 h3
    rw [hQ]
    rw [hAe] at h2 h3
    exact mt_reti (W_lostCount, W_data, W_repairs, W_first, W_bytes, W_lost, W_factors) hx hb hr hlk hd hK h1 h2 h3 hp
  have B22 : ∀ (W_lostCount : Int32) (W_data : Int32) (W_repairs : Int32) (W_first : Int32) (W_bytes : Nat → Int32) (W_lost : Nat → Int32) (W_factors : Nat → Int32) (H : Heap) (locs : List Loc) (ls : Array Slot), wp_RS_code_b22 F_powers F_logs post  W_lostCount W_data W_repairs W_first W_bytes W_lost W_factors → va_P (dC, dI) vwCl (wd_RS_code aF aF_powers aF_logs aW aW_bytes aW_lost aW_factors aR aS aC aP aH cI cZ F_powers F_logs W_lostCount W_data W_repairs W_first W_bytes W_lost W_factors) H → va_D A (wd_RS_code aF aF_powers aF_logs aW aW_bytes aW_lost aW_factors aR aS aC aP aH cI cZ F_powers F_logs W_lostCount W_data W_repairs W_first W_bytes W_lost W_factors) → va_S A s.heap H locs → lv_has ls 4 [] → W p l e rm_RS_code s m args below meth c H locs 0 0 Q (F0 m 22 ls []) := by
    intro  W_lostCount W_data W_repairs W_first W_bytes W_lost W_factors H locs ls h hP hD hS hl
    refine lv_iconst (v := (-1 : Int32)) hx hb d_RS_code_22 (by decide) ?_
    exact RET (-1 : Int32) W_lostCount W_data W_repairs W_first W_bytes W_lost W_factors H locs ls 23 d_RS_code_23 h hP hD hS
  have B44 : ∀ (W_lostCount : Int32) (W_data : Int32) (W_repairs : Int32) (W_first : Int32) (W_bytes : Nat → Int32) (W_lost : Nat → Int32) (W_factors : Nat → Int32) (H : Heap) (locs : List Loc) (ls : Array Slot), wp_RS_code_b44 F_powers F_logs post  W_lostCount W_data W_repairs W_first W_bytes W_lost W_factors → va_P (dC, dI) vwCl (wd_RS_code aF aF_powers aF_logs aW aW_bytes aW_lost aW_factors aR aS aC aP aH cI cZ F_powers F_logs W_lostCount W_data W_repairs W_first W_bytes W_lost W_factors) H → va_D A (wd_RS_code aF aF_powers aF_logs aW aW_bytes aW_lost aW_factors aR aS aC aP aH cI cZ F_powers F_logs W_lostCount W_data W_repairs W_first W_bytes W_lost W_factors) → va_S A s.heap H locs → lv_has ls 4 [] → W p l e rm_RS_code s m args below meth c H locs 0 0 Q (F0 m 44 ls []) := by
    intro  W_lostCount W_data W_repairs W_first W_bytes W_lost W_factors H locs ls h hP hD hS hl
    refine lv_iconst (v := (-1 : Int32)) hx hb d_RS_code_44 (by decide) ?_
    exact RET (-1 : Int32) W_lostCount W_data W_repairs W_first W_bytes W_lost W_factors H locs ls 45 d_RS_code_45 h hP hD hS
  obtain ⟨H, hH⟩ : ∃ H : Heap, H = s.heap := ⟨_, rfl⟩
  obtain ⟨locs, hlo⟩ : ∃ x : List Loc, x = [] := ⟨_, rfl⟩
  have hS : va_S A s.heap H locs := by rw [hH, hlo]; exact hS
  rw [← hH] at hP
  rw [← hlo]
  show W p l e rm_RS_code s m args below meth c s.heap locs 0 0 Q (F0 m 0 ls [])
  rw [← hH]
  refine lv_iload_n hx hb d_RS_code_0 rfl (lv_at hl 1 rfl) ?_
  refine lv_iconst (v := (1 : Int32)) hx hb d_RS_code_1 (by decide) ?_
  refine lv_icmp_lt (tgt := 22) hx hb d_RS_code_2 (by decide) (fun g2 => ?_) (fun g2 => ?_)
  · have h := h.1 g2
    exact B22  W_lostCount W_data W_repairs W_first W_bytes W_lost W_factors H locs ls h hP hD hS (lv_sub hl [] rfl)
  · have h := h.2 g2
    refine lv_iload_n hx hb d_RS_code_5 rfl (lv_at hl 1 rfl) ?_
    refine lv_sipush (v := (200 : Int32)) hx hb d_RS_code_6 (by decide) ?_
    refine lv_icmp_gt (tgt := 22) hx hb d_RS_code_9 (by decide) (fun g9 => ?_) (fun g9 => ?_)
    · have h := h.1 g9
      exact B22  W_lostCount W_data W_repairs W_first W_bytes W_lost W_factors H locs ls h hP hD hS (lv_sub hl [] rfl)
    · have h := h.2 g9
      refine lv_iload_n hx hb d_RS_code_12 rfl (lv_at hl 2 rfl) ?_
      refine lv_if_lt (tgt := 22) hx hb d_RS_code_13 (by decide) (fun g13 => ?_) (fun g13 => ?_)
      · have h := h.1 g13
        exact B22  W_lostCount W_data W_repairs W_first W_bytes W_lost W_factors H locs ls h hP hD hS (lv_sub hl [] rfl)
      · have h := h.2 g13
        refine lv_iload_n hx hb d_RS_code_16 rfl (lv_at hl 2 rfl) ?_
        refine lv_bipush (v := (40 : Int32)) hx hb d_RS_code_17 (by decide) ?_
        refine lv_icmp_le (tgt := 24) hx hb d_RS_code_19 (by decide) (fun g19 => ?_) (fun g19 => ?_)
        · have h := h.1 g19
          refine lv_iload_n hx hb d_RS_code_24 rfl (lv_at hl 1 rfl) ?_
          refine lv_iload_n hx hb d_RS_code_25 rfl (lv_at hl 2 rfl) ?_
          refine lv_iadd hx hb d_RS_code_26 ?_
          refine lv_sipush (v := (255 : Int32)) hx hb d_RS_code_27 (by decide) ?_
          refine lv_icmp_gt (tgt := 44) hx hb d_RS_code_30 (by decide) (fun g30 => ?_) (fun g30 => ?_)
          · have h := h.1 g30
            exact B44  W_lostCount W_data W_repairs W_first W_bytes W_lost W_factors H locs ls h hP hD hS (lv_sub hl [] rfl)
          · have h := h.2 g30
            refine lv_iload_n hx hb d_RS_code_33 rfl (lv_at hl 3 rfl) ?_
            refine lv_if_lt (tgt := 44) hx hb d_RS_code_34 (by decide) (fun g34 => ?_) (fun g34 => ?_)
            · have h := h.1 g34
              exact B44  W_lostCount W_data W_repairs W_first W_bytes W_lost W_factors H locs ls h hP hD hS (lv_sub hl [] rfl)
            · have h := h.2 g34
              refine lv_iload_n hx hb d_RS_code_37 rfl (lv_at hl 3 rfl) ?_
              refine lv_sipush (v := (255 : Int32)) hx hb d_RS_code_38 (by decide) ?_
              refine lv_icmp_lt (tgt := 46) hx hb d_RS_code_41 (by decide) (fun g41 => ?_) (fun g41 => ?_)
              · have h := h.1 g41
                refine lv_aload_n hx hb d_RS_code_46 rfl (lv_at hl 0 rfl) ?_
                refine va_get (D := (dC, dI)) (ci := 6) (v := .ref aW) (C := "ReedSets") (T := T_RS) (N := 6) hx hb hts in_RS hown hK hP 7 rfl rfl 1 (by decide) (hts _ tb_276) (fun _ h9 => h9) rfl d_RS_code_47 ?_
                refine lv_iload_n hx hb d_RS_code_50 rfl (lv_at hl 1 rfl) ?_
                refine lv_iload_n hx hb d_RS_code_51 rfl (lv_at hl 2 rfl) ?_
                refine lv_iload_n hx hb d_RS_code_52 rfl (lv_at hl 3 rfl) ?_
                refine mt_v (va_runV (As := [.int p1, .int p2, .int p3]) (rest := []) ⟨hx, hb, hml, hown, hts⟩ (ct_Wo_shape l dC dI aF aF_powers aF_logs aW aW_bytes aW_lost aW_factors cI cZ F_powers F_logs W_lostCount W_data W_repairs W_first W_bytes W_lost W_factors p1 p2 p3 _ h _) (tb_cV hts ok_Wo_shape tb_334 rfl rfl ⟨Nat.le_of_ble_eq_true rfl, Nat.le_of_ble_eq_true rfl⟩) (mt_preV hK hP hD [.int p1, .int p2, .int p3] [0, 1, 2, 3, 4, 5, 6] rfl (by decide) (ci := 5) (q0 := 3) rfl rfl) rfl rfl hl.1 rfl (lv_room (Nat.le_of_ble_eq_true rfl)) d_RS_code_53 ⟨Nat.zero_le _, Nat.zero_le _⟩) hP hD hS hA [0, 1, 2, 3, 4, 5, 6] rfl (fun _ => rfl) (fun u H locs h hP hD hS => ?_)
                obtain ⟨W_lostCount_53, W_data_53, W_repairs_53, W_first_53, W_bytes_53, W_lost_53, W_factors_53⟩ := u
                have hP : va_P (dC, dI) vwCl (wd_RS_code aF aF_powers aF_logs aW aW_bytes aW_lost aW_factors aR aS aC aP aH cI cZ F_powers F_logs W_lostCount_53 W_data_53 W_repairs_53 W_first_53 W_bytes_53 W_lost_53 W_factors_53) H := hP
                have hD : va_D A (wd_RS_code aF aF_powers aF_logs aW aW_bytes aW_lost aW_factors aR aS aC aP aH cI cZ F_powers F_logs W_lostCount_53 W_data_53 W_repairs_53 W_first_53 W_bytes_53 W_lost_53 W_factors_53) := hD
                refine lv_aload_n hx hb d_RS_code_56 rfl (lv_at hl 0 rfl) ?_
                refine va_get (D := (dC, dI)) (ci := 6) (v := .ref aW) (C := "ReedSets") (T := T_RS) (N := 6) hx hb hts in_RS hown hK hP 7 rfl rfl 1 (by decide) (hts _ tb_276) (fun _ h9 => h9) rfl d_RS_code_57 ?_
                refine mt_i (va_runV (As := []) (rest := []) ⟨hx, hb, hml, hown, hts⟩ (ct_Wo_size l dC dI aW aF aW_bytes aW_lost aW_factors cI cZ W_lostCount_53 W_data_53 W_repairs_53 W_first_53 _ h _) (tb_cV hts ok_Wo_size tb_335 rfl rfl ⟨Nat.le_of_ble_eq_true rfl, Nat.le_of_ble_eq_true rfl⟩) (mt_preV hK hP hD [] [3] rfl (by decide) (ci := 5) (q0 := 3) rfl rfl) rfl rfl hl.1 rfl (lv_room (Nat.le_of_ble_eq_true rfl)) d_RS_code_60 ⟨Nat.zero_le _, Nat.zero_le _⟩) hP hD hS hA [3] rfl (fun _ => rfl) (fun r_60 u H locs h hP hD hS => ?_)
                have hP : va_P (dC, dI) vwCl (wd_RS_code aF aF_powers aF_logs aW aW_bytes aW_lost aW_factors aR aS aC aP aH cI cZ F_powers F_logs W_lostCount_53 W_data_53 W_repairs_53 W_first_53 W_bytes_53 W_lost_53 W_factors_53) H := hP
                have hD : va_D A (wd_RS_code aF aF_powers aF_logs aW aW_bytes aW_lost aW_factors aR aS aC aP aH cI cZ F_powers F_logs W_lostCount_53 W_data_53 W_repairs_53 W_first_53 W_bytes_53 W_lost_53 W_factors_53) := hD
                exact RET r_60 W_lostCount_53 W_data_53 W_repairs_53 W_first_53 W_bytes_53 W_lost_53 W_factors_53 H locs ls 63 d_RS_code_63 h hP hD hS
              · have h := h.2 g41
                exact B44  W_lostCount W_data W_repairs W_first W_bytes W_lost W_factors H locs ls h hP hD hS (lv_sub hl [] rfl)
        · have h := h.2 g19
          exact B22  W_lostCount W_data W_repairs W_first W_bytes W_lost W_factors H locs ls h hP hD hS (lv_sub hl [] rfl)
abbrev wd_RS_generator (aW aF aW_bytes aW_lost aW_factors aR aS aC aP aH : Nat) (cI cZ : ClassId) (W_lostCount : Int32) (W_data : Int32) (W_repairs : Int32) (W_first : Int32) (W_factors : Nat → Int32) : va_W := [(aW, .inr (5, [.ref aF, .ref aW_bytes, .ref aW_lost, .ref aW_factors, .int W_lostCount, .int W_data, .int W_repairs, .int W_first])), (aW_factors, .inl (cI, 41, .inl W_factors)), (aR, .inr (6, [.ref aF, .ref aW, .ref aS, .ref aC, .ref aP, .ref aH]))]
def wp_RS_generator_b15 (W_repairs : Int32) (W_factors : Nat → Int32) (post : Int32 → Prop)   : Prop := post (-1 : Int32)
def wp_RS_generator (W_repairs : Int32) (W_factors : Nat → Int32) (p1 : Int32) (post : Int32 → Prop) : Prop := (p1 < 0 → (wp_RS_generator_b15 W_repairs W_factors post  )) ∧ (¬ p1 < 0 → ((p1 ≤ W_repairs → (vp_in p1 41 ∧ (post (W_factors p1.toNatClampNeg)))) ∧ (¬ p1 ≤ W_repairs → (wp_RS_generator_b15 W_repairs W_factors post  ))))
abbrev rm_RS_generator : Room := { frames := 0, cells := 0, slots := 0, locals := 0 }
set_option maxHeartbeats 4000000 in
set_option maxRecDepth 100000 in
theorem ct_RS_generator (l : Launch) (dC : Nat → ClassId) (dI : Nat → Nat → Nat) (aW aF aW_bytes aW_lost aW_factors aR aS aC aP aH : Nat) (cI cZ : ClassId) (W_lostCount : Int32) (W_data : Int32) (W_repairs : Int32) (W_first : Int32) (W_factors : Nat → Int32) (p1 : Int32) (post : Int32 → Prop) (h : wp_RS_generator W_repairs W_factors p1 post) (sz : Nat) : Met l y_RS_generator (Cond.code y_RS_generator c_RS_generator 2 (some .int) :: tb) rm_RS_generator (mt_P (dC, dI) vwCl [(cI, .int), (cZ, .boolean)] [.ref aR, .int p1] (wd_RS_generator aW aF aW_bytes aW_lost aW_factors aR aS aC aP aH cI cZ W_lostCount W_data W_repairs W_first W_factors) sz) (va_Qi (fun (r : Int32) (u : Unit) => post r) (mt_B (dC, dI) vwCl [(cI, .int), (cZ, .boolean)] (wd_RS_generator aW aF aW_bytes aW_lost aW_factors aR aS aC aP aH cI cZ W_lostCount W_data W_repairs W_first W_factors) sz (fun u : Unit => wd_RS_generator aW aF aW_bytes aW_lost aW_factors aR aS aC aP aH cI cZ W_lostCount W_data W_repairs W_first W_factors)) (va_A (wd_RS_generator aW aF aW_bytes aW_lost aW_factors aR aS aC aP aH cI cZ W_lostCount W_data W_repairs W_first W_factors) sz)) 0 0 (va_A (wd_RS_generator aW aF aW_bytes aW_lost aW_factors aR aS aC aP aH cI cZ W_lostCount W_data W_repairs W_first W_factors) sz) := by
  refine mt_bd (by decide +kernel) (Nat.le_of_ble_eq_true rfl) ?_
  intro p e s m args below meth c hx hb hml hown hts hr hlk hnm hsz hP hK hD hA hS ls hl
  subst hsz
  have hown : s.vm.findClass "ReedSets" = some m.cls := hown
  have hl : lv_has ls 2 [(0, .ref aR), (1, .int p1)] := hl
  refine lz_Q (fun Q hQ => ?_)
  obtain ⟨A, hAe⟩ : ∃ A : Nat → Prop, A = va_A (wd_RS_generator aW aF aW_bytes aW_lost aW_factors aR aS aC aP aH cI cZ W_lostCount W_data W_repairs W_first W_factors) s.heap.size := ⟨_, rfl⟩
  rw [← hAe] at hD hA hS
  have RET : ∀ (v : Int32)  (H : Heap) (locs : List Loc) (ls : Array Slot) (pc : Nat), decode c_RS_generator pc = .ok (.ireturn, 1) → post v  → va_P (dC, dI) vwCl (wd_RS_generator aW aF aW_bytes aW_lost aW_factors aR aS aC aP aH cI cZ W_lostCount W_data W_repairs W_first W_factors) H → va_D A (wd_RS_generator aW aF aW_bytes aW_lost aW_factors aR aS aC aP aH cI cZ W_lostCount W_data W_repairs W_first W_factors) → va_S A s.heap H locs → W p l e rm_RS_generator s m args below meth c H locs 0 0 Q (F0 m pc ls [.int v]) := by
    intro v  H locs ls pc hd hp h1 h2 h3
    rw [hQ]
    rw [hAe] at h2 h3
    exact mt_reti () hx hb hr hlk hd hK h1 h2 h3 hp
  have B15 : ∀  (H : Heap) (locs : List Loc) (ls : Array Slot), wp_RS_generator_b15 W_repairs W_factors post   → va_P (dC, dI) vwCl (wd_RS_generator aW aF aW_bytes aW_lost aW_factors aR aS aC aP aH cI cZ W_lostCount W_data W_repairs W_first W_factors) H → va_D A (wd_RS_generator aW aF aW_bytes aW_lost aW_factors aR aS aC aP aH cI cZ W_lostCount W_data W_repairs W_first W_factors) → va_S A s.heap H locs → lv_has ls 2 [] → W p l e rm_RS_generator s m args below meth c H locs 0 0 Q (F0 m 15 ls []) := by
    intro   H locs ls h hP hD hS hl
    refine lv_iconst (v := (-1 : Int32)) hx hb d_RS_generator_15 (by decide) ?_
    exact RET (-1 : Int32) H locs ls 16 d_RS_generator_16 h hP hD hS
  obtain ⟨H, hH⟩ : ∃ H : Heap, H = s.heap := ⟨_, rfl⟩
  obtain ⟨locs, hlo⟩ : ∃ x : List Loc, x = [] := ⟨_, rfl⟩
  have hS : va_S A s.heap H locs := by rw [hH, hlo]; exact hS
  rw [← hH] at hP
  rw [← hlo]
  show W p l e rm_RS_generator s m args below meth c s.heap locs 0 0 Q (F0 m 0 ls [])
  rw [← hH]
  refine lv_iload_n hx hb d_RS_generator_0 rfl (lv_at hl 1 rfl) ?_
  refine lv_if_lt (tgt := 15) hx hb d_RS_generator_1 (by decide) (fun g1 => ?_) (fun g1 => ?_)
  · have h := h.1 g1
    exact B15   H locs ls h hP hD hS (lv_sub hl [] rfl)
  · have h := h.2 g1
    refine lv_iload_n hx hb d_RS_generator_4 rfl (lv_at hl 1 rfl) ?_
    refine lv_aload_n hx hb d_RS_generator_5 rfl (lv_at hl 0 rfl) ?_
    refine va_get (D := (dC, dI)) (ci := 6) (v := .ref aW) (C := "ReedSets") (T := T_RS) (N := 6) hx hb hts in_RS hown hK hP 2 rfl rfl 1 (by decide) (hts _ tb_276) (fun _ h9 => h9) rfl d_RS_generator_6 ?_
    refine va_get (D := (dC, dI)) (ci := 5) (v := .int W_repairs) (C := "ReedSets$Word") (T := T_Wo) (N := 8) hx hb hts in_Wo hown hK hP 0 rfl rfl 6 (by decide) (hts _ tb_119) (fun _ h9 => h9) rfl d_RS_generator_9 ?_
    refine lv_icmp_le (tgt := 17) hx hb d_RS_generator_12 (by decide) (fun g12 => ?_) (fun g12 => ?_)
    · have h := h.1 g12
      refine lv_aload_n hx hb d_RS_generator_17 rfl (lv_at hl 0 rfl) ?_
      refine va_get (D := (dC, dI)) (ci := 6) (v := .ref aW) (C := "ReedSets") (T := T_RS) (N := 6) hx hb hts in_RS hown hK hP 2 rfl rfl 1 (by decide) (hts _ tb_276) (fun _ h9 => h9) rfl d_RS_generator_18 ?_
      refine va_get (D := (dC, dI)) (ci := 5) (v := .ref aW_factors) (C := "ReedSets$Word") (T := T_Wo) (N := 8) hx hb hts in_Wo hown hK hP 0 rfl rfl 3 (by decide) (hts _ tb_111) (fun _ h9 => h9) rfl d_RS_generator_21 ?_
      refine lv_iload_n hx hb d_RS_generator_24 rfl (lv_at hl 1 rfl) ?_
      obtain ⟨hi, h⟩ := h
      refine va_iald hx hb hK hP 1 0 rfl rfl hi d_RS_generator_25 ?_
      exact RET (W_factors p1.toNatClampNeg) H locs ls 26 d_RS_generator_26 h hP hD hS
    · have h := h.2 g12
      exact B15   H locs ls h hP hD hS (lv_sub hl [] rfl)
abbrev wd_RS_put (aW aF aW_bytes aW_lost aW_factors aR aS aC aP aH : Nat) (cI cZ : ClassId) (W_lostCount : Int32) (W_data : Int32) (W_repairs : Int32) (W_first : Int32) (W_bytes : Nat → Int32) : va_W := [(aW, .inr (5, [.ref aF, .ref aW_bytes, .ref aW_lost, .ref aW_factors, .int W_lostCount, .int W_data, .int W_repairs, .int W_first])), (aW_bytes, .inl (cI, 240, .inl W_bytes)), (aR, .inr (6, [.ref aF, .ref aW, .ref aS, .ref aC, .ref aP, .ref aH]))]
def wp_RS_put_b18 (W_data : Int32) (W_repairs : Int32) (post : Int32 → (Nat → Int32) → Prop)  (W_bytes : Nat → Int32) : Prop := post (-1 : Int32) W_bytes
def wp_RS_put (W_data : Int32) (W_repairs : Int32) (W_bytes : Nat → Int32) (p1 : Int32) (p2 : Int32) (post : Int32 → (Nat → Int32) → Prop) : Prop := wp_Wo_hasPlace W_data W_repairs p1 (fun r_5 => ((r_5 = 0 → (wp_RS_put_b18 W_data W_repairs post  W_bytes)) ∧ (¬ r_5 = 0 → (wp_Fi_isByte p2 (fun r_12 => ((¬ r_12 = 0 → (vp_in p1 240 ∧ (∀ x3_29 : Int32, x3_29 = (W_bytes p1.toNatClampNeg) → (vp_in p1 240 ∧ (post x3_29 (upd W_bytes p1.toNatClampNeg p2)))))) ∧ (r_12 = 0 → (wp_RS_put_b18 W_data W_repairs post  W_bytes))))))))
abbrev rm_RS_put : Room := { frames := 2, cells := 0, slots := 0, locals := 41 }
set_option maxHeartbeats 4000000 in
set_option maxRecDepth 100000 in
theorem ct_RS_put (l : Launch) (dC : Nat → ClassId) (dI : Nat → Nat → Nat) (aW aF aW_bytes aW_lost aW_factors aR aS aC aP aH : Nat) (cI cZ : ClassId) (W_lostCount : Int32) (W_data : Int32) (W_repairs : Int32) (W_first : Int32) (W_bytes : Nat → Int32) (p1 : Int32) (p2 : Int32) (post : Int32 → (Nat → Int32) → Prop) (h : wp_RS_put W_data W_repairs W_bytes p1 p2 post) (sz : Nat) : Met l y_RS_put (Cond.code y_RS_put c_RS_put 4 (some .int) :: tb) rm_RS_put (mt_P (dC, dI) vwCl [(cI, .int), (cZ, .boolean)] [.ref aR, .int p1, .int p2] (wd_RS_put aW aF aW_bytes aW_lost aW_factors aR aS aC aP aH cI cZ W_lostCount W_data W_repairs W_first W_bytes) sz) (va_Qi (fun (r : Int32) (u : (Nat → Int32)) => post r u) (mt_B (dC, dI) vwCl [(cI, .int), (cZ, .boolean)] (wd_RS_put aW aF aW_bytes aW_lost aW_factors aR aS aC aP aH cI cZ W_lostCount W_data W_repairs W_first W_bytes) sz (fun u : (Nat → Int32) => wd_RS_put aW aF aW_bytes aW_lost aW_factors aR aS aC aP aH cI cZ W_lostCount W_data W_repairs W_first u)) (va_A (wd_RS_put aW aF aW_bytes aW_lost aW_factors aR aS aC aP aH cI cZ W_lostCount W_data W_repairs W_first W_bytes) sz)) 0 0 (va_A (wd_RS_put aW aF aW_bytes aW_lost aW_factors aR aS aC aP aH cI cZ W_lostCount W_data W_repairs W_first W_bytes) sz) := by
  refine mt_bd (by decide +kernel) (Nat.le_of_ble_eq_true rfl) ?_
  intro p e s m args below meth c hx hb hml hown hts hr hlk hnm hsz hP hK hD hA hS ls hl
  subst hsz
  have hown : s.vm.findClass "ReedSets" = some m.cls := hown
  have hl : lv_has ls 4 [(0, .ref aR), (1, .int p1), (2, .int p2)] := hl
  refine lz_Q (fun Q hQ => ?_)
  obtain ⟨A, hAe⟩ : ∃ A : Nat → Prop, A = va_A (wd_RS_put aW aF aW_bytes aW_lost aW_factors aR aS aC aP aH cI cZ W_lostCount W_data W_repairs W_first W_bytes) s.heap.size := ⟨_, rfl⟩
  rw [← hAe] at hD hA hS
  have RET : ∀ (v : Int32) (W_bytes : Nat → Int32) (H : Heap) (locs : List Loc) (ls : Array Slot) (pc : Nat), decode c_RS_put pc = .ok (.ireturn, 1) → post v W_bytes → va_P (dC, dI) vwCl (wd_RS_put aW aF aW_bytes aW_lost aW_factors aR aS aC aP aH cI cZ W_lostCount W_data W_repairs W_first W_bytes) H → va_D A (wd_RS_put aW aF aW_bytes aW_lost aW_factors aR aS aC aP aH cI cZ W_lostCount W_data W_repairs W_first W_bytes) → va_S A s.heap H locs → W p l e rm_RS_put s m args below meth c H locs 0 0 Q (F0 m pc ls [.int v]) := by
    intro v W_bytes H locs ls pc hd hp h1 h2 h3
    rw [hQ]
    rw [hAe] at h2 h3
    exact mt_reti (W_bytes) hx hb hr hlk hd hK h1 h2 h3 hp
  have B18 : ∀ (W_bytes : Nat → Int32) (H : Heap) (locs : List Loc) (ls : Array Slot), wp_RS_put_b18 W_data W_repairs post  W_bytes → va_P (dC, dI) vwCl (wd_RS_put aW aF aW_bytes aW_lost aW_factors aR aS aC aP aH cI cZ W_lostCount W_data W_repairs W_first W_bytes) H → va_D A (wd_RS_put aW aF aW_bytes aW_lost aW_factors aR aS aC aP aH cI cZ W_lostCount W_data W_repairs W_first W_bytes) → va_S A s.heap H locs → lv_has ls 4 [] → W p l e rm_RS_put s m args below meth c H locs 0 0 Q (F0 m 18 ls []) := by
    intro  W_bytes H locs ls h hP hD hS hl
    refine lv_iconst (v := (-1 : Int32)) hx hb d_RS_put_18 (by decide) ?_
    exact RET (-1 : Int32) W_bytes H locs ls 19 d_RS_put_19 h hP hD hS
  obtain ⟨H, hH⟩ : ∃ H : Heap, H = s.heap := ⟨_, rfl⟩
  obtain ⟨locs, hlo⟩ : ∃ x : List Loc, x = [] := ⟨_, rfl⟩
  have hS : va_S A s.heap H locs := by rw [hH, hlo]; exact hS
  rw [← hH] at hP
  rw [← hlo]
  show W p l e rm_RS_put s m args below meth c s.heap locs 0 0 Q (F0 m 0 ls [])
  rw [← hH]
  refine lv_aload_n hx hb d_RS_put_0 rfl (lv_at hl 0 rfl) ?_
  refine va_get (D := (dC, dI)) (ci := 6) (v := .ref aW) (C := "ReedSets") (T := T_RS) (N := 6) hx hb hts in_RS hown hK hP 2 rfl rfl 1 (by decide) (hts _ tb_276) (fun _ h9 => h9) rfl d_RS_put_1 ?_
  refine lv_iload_n hx hb d_RS_put_4 rfl (lv_at hl 1 rfl) ?_
  refine mt_i (va_runV (As := [.int p1]) (rest := []) ⟨hx, hb, hml, hown, hts⟩ (ct_Wo_hasPlace l dC dI aW aF aW_bytes aW_lost aW_factors cI cZ W_lostCount W_data W_repairs W_first p1 _ h _) (tb_cV hts ok_Wo_hasPlace tb_347 rfl rfl ⟨Nat.le_of_ble_eq_true rfl, Nat.le_of_ble_eq_true rfl⟩) (mt_preV hK hP hD [.int p1] [0] rfl (by decide) (ci := 5) (q0 := 0) rfl rfl) rfl rfl hl.1 rfl (lv_room (Nat.le_of_ble_eq_true rfl)) d_RS_put_5 ⟨Nat.zero_le _, Nat.zero_le _⟩) hP hD hS hA [0] rfl (fun _ => rfl) (fun r_5 u H locs h hP hD hS => ?_)
  have hP : va_P (dC, dI) vwCl (wd_RS_put aW aF aW_bytes aW_lost aW_factors aR aS aC aP aH cI cZ W_lostCount W_data W_repairs W_first W_bytes) H := hP
  have hD : va_D A (wd_RS_put aW aF aW_bytes aW_lost aW_factors aR aS aC aP aH cI cZ W_lostCount W_data W_repairs W_first W_bytes) := hD
  refine lv_if_eq (tgt := 18) hx hb d_RS_put_8 (by decide) (fun g8 => ?_) (fun g8 => ?_)
  · have h := h.1 g8
    exact B18  W_bytes H locs ls h hP hD hS (lv_sub hl [] rfl)
  · have h := h.2 g8
    refine lv_iload_n hx hb d_RS_put_11 rfl (lv_at hl 2 rfl) ?_
    refine mt_i (va_runS (As := [.int p2]) (rest := []) ⟨hx, hb, hml, hown, hts⟩ (ct_Fi_isByte l dC dI  cI cZ p2 _ h _) (tb_cS hts ok_Fi_isByte tb_298 rfl rfl ⟨Nat.le_of_ble_eq_true rfl, Nat.le_of_ble_eq_true rfl⟩) (mt_preS hK hP hD [.int p2] [] rfl (by decide)) rfl rfl hl.1 rfl (lv_room (Nat.le_of_ble_eq_true rfl)) d_RS_put_12 ⟨Nat.zero_le _, Nat.zero_le _⟩) hP hD hS hA [] rfl (fun _ => rfl) (fun r_12 u H locs h hP hD hS => ?_)
    have hP : va_P (dC, dI) vwCl (wd_RS_put aW aF aW_bytes aW_lost aW_factors aR aS aC aP aH cI cZ W_lostCount W_data W_repairs W_first W_bytes) H := hP
    have hD : va_D A (wd_RS_put aW aF aW_bytes aW_lost aW_factors aR aS aC aP aH cI cZ W_lostCount W_data W_repairs W_first W_bytes) := hD
    refine lv_if_ne (tgt := 20) hx hb d_RS_put_15 (by decide) (fun g15 => ?_) (fun g15 => ?_)
    · have h := h.1 g15
      refine lv_aload_n hx hb d_RS_put_20 rfl (lv_at hl 0 rfl) ?_
      refine va_get (D := (dC, dI)) (ci := 6) (v := .ref aW) (C := "ReedSets") (T := T_RS) (N := 6) hx hb hts in_RS hown hK hP 2 rfl rfl 1 (by decide) (hts _ tb_276) (fun _ h9 => h9) rfl d_RS_put_21 ?_
      refine va_get (D := (dC, dI)) (ci := 5) (v := .ref aW_bytes) (C := "ReedSets$Word") (T := T_Wo) (N := 8) hx hb hts in_Wo hown hK hP 0 rfl rfl 1 (by decide) (hts _ tb_105) (fun _ h9 => h9) rfl d_RS_put_24 ?_
      refine lv_iload_n hx hb d_RS_put_27 rfl (lv_at hl 1 rfl) ?_
      obtain ⟨hi, h⟩ := h
      refine va_iald hx hb hK hP 1 0 rfl rfl hi d_RS_put_28 ?_
      refine lv_topi (fun x3_29 ex3_29 => ?_)
      have h := h x3_29 ex3_29
      refine lv_istore_n (lv' := [(3, .int x3_29), (0, .ref aR), (1, .int p1), (2, .int p2)]) hx hb d_RS_put_29 rfl hl (by decide) rfl (fun ls hl => ?_)
      refine lv_aload_n hx hb d_RS_put_30 rfl (lv_at hl 1 rfl) ?_
      refine va_get (D := (dC, dI)) (ci := 6) (v := .ref aW) (C := "ReedSets") (T := T_RS) (N := 6) hx hb hts in_RS hown hK hP 2 rfl rfl 1 (by decide) (hts _ tb_276) (fun _ h9 => h9) rfl d_RS_put_31 ?_
      refine va_get (D := (dC, dI)) (ci := 5) (v := .ref aW_bytes) (C := "ReedSets$Word") (T := T_Wo) (N := 8) hx hb hts in_Wo hown hK hP 0 rfl rfl 1 (by decide) (hts _ tb_105) (fun _ h9 => h9) rfl d_RS_put_34 ?_
      refine lv_iload_n hx hb d_RS_put_37 rfl (lv_at hl 2 rfl) ?_
      refine lv_iload_n hx hb d_RS_put_38 rfl (lv_at hl 3 rfl) ?_
      obtain ⟨hi, h⟩ := h
      refine va_iast hx hb hK hP hD hS 1 0 rfl rfl hi d_RS_put_39 (fun H locs hP hD hS => ?_)
      have hP : va_P (dC, dI) vwCl (wd_RS_put aW aF aW_bytes aW_lost aW_factors aR aS aC aP aH cI cZ W_lostCount W_data W_repairs W_first (upd W_bytes p1.toNatClampNeg p2)) H := hP
      have hD : va_D A (wd_RS_put aW aF aW_bytes aW_lost aW_factors aR aS aC aP aH cI cZ W_lostCount W_data W_repairs W_first (upd W_bytes p1.toNatClampNeg p2)) := hD
      refine lv_iload_n hx hb d_RS_put_40 rfl (lv_at hl 0 rfl) ?_
      exact RET x3_29 (upd W_bytes p1.toNatClampNeg p2) H locs ls 41 d_RS_put_41 h hP hD hS
    · have h := h.2 g15
      exact B18  W_bytes H locs ls h hP hD hS (lv_sub hl [] rfl)
abbrev wd_RS_encode (aF aF_powers aF_logs aW aW_bytes aW_lost aW_factors aR aS aC aP aH : Nat) (cI cZ : ClassId) (F_powers : Nat → Int32) (F_logs : Nat → Int32) (W_lostCount : Int32) (W_data : Int32) (W_repairs : Int32) (W_first : Int32) (W_bytes : Nat → Int32) (W_lost : Nat → Int32) (W_factors : Nat → Int32) : va_W := [(aF, .inr (1, [.ref aF_powers, .ref aF_logs])), (aF_powers, .inl (cI, 512, .inl F_powers)), (aF_logs, .inl (cI, 256, .inl F_logs)), (aW, .inr (5, [.ref aF, .ref aW_bytes, .ref aW_lost, .ref aW_factors, .int W_lostCount, .int W_data, .int W_repairs, .int W_first])), (aW_bytes, .inl (cI, 240, .inl W_bytes)), (aW_lost, .inl (cZ, 240, .inl W_lost)), (aW_factors, .inl (cI, 41, .inl W_factors)), (aR, .inr (6, [.ref aF, .ref aW, .ref aS, .ref aC, .ref aP, .ref aH]))]
def wp_RS_encode (F_powers : Nat → Int32) (F_logs : Nat → Int32) (W_lostCount : Int32) (W_data : Int32) (W_repairs : Int32) (W_bytes : Nat → Int32) (W_lost : Nat → Int32) (W_factors : Nat → Int32) (post : Int32 → Int32 → (Nat → Int32) → (Nat → Int32) → Prop) : Prop := wp_Wo_hasLostData W_data W_lost (fun r_4 => ((r_4 = 0 → (wp_Wo_fillRepairs F_powers F_logs W_data W_repairs W_bytes W_factors (fun W_bytes_16 => (wp_Wo_findAll W_lostCount W_lost (fun W_lostCount_23 W_lost_23 => (post (1 : Int32) W_lostCount_23 W_bytes_16 W_lost_23)))))) ∧ (¬ r_4 = 0 → (post (-1 : Int32) W_lostCount W_bytes W_lost))))
abbrev rm_RS_encode : Room := { frames := 3, cells := 0, slots := 0, locals := 70 }
set_option maxHeartbeats 4000000 in
set_option maxRecDepth 100000 in
theorem ct_RS_encode (l : Launch) (dC : Nat → ClassId) (dI : Nat → Nat → Nat) (aF aF_powers aF_logs aW aW_bytes aW_lost aW_factors aR aS aC aP aH : Nat) (cI cZ : ClassId) (F_powers : Nat → Int32) (F_logs : Nat → Int32) (W_lostCount : Int32) (W_data : Int32) (W_repairs : Int32) (W_first : Int32) (W_bytes : Nat → Int32) (W_lost : Nat → Int32) (W_factors : Nat → Int32)  (post : Int32 → Int32 → (Nat → Int32) → (Nat → Int32) → Prop) (h : wp_RS_encode F_powers F_logs W_lostCount W_data W_repairs W_bytes W_lost W_factors post) (sz : Nat) : Met l y_RS_encode (Cond.code y_RS_encode c_RS_encode 1 (some .int) :: tb) rm_RS_encode (mt_P (dC, dI) vwCl [(cI, .int), (cZ, .boolean)] [.ref aR] (wd_RS_encode aF aF_powers aF_logs aW aW_bytes aW_lost aW_factors aR aS aC aP aH cI cZ F_powers F_logs W_lostCount W_data W_repairs W_first W_bytes W_lost W_factors) sz) (va_Qi (fun (r : Int32) (u : Int32 × (Nat → Int32) × (Nat → Int32)) => post r u.1 u.2.1 u.2.2) (mt_B (dC, dI) vwCl [(cI, .int), (cZ, .boolean)] (wd_RS_encode aF aF_powers aF_logs aW aW_bytes aW_lost aW_factors aR aS aC aP aH cI cZ F_powers F_logs W_lostCount W_data W_repairs W_first W_bytes W_lost W_factors) sz (fun u : Int32 × (Nat → Int32) × (Nat → Int32) => wd_RS_encode aF aF_powers aF_logs aW aW_bytes aW_lost aW_factors aR aS aC aP aH cI cZ F_powers F_logs u.1 W_data W_repairs W_first u.2.1 u.2.2 W_factors)) (va_A (wd_RS_encode aF aF_powers aF_logs aW aW_bytes aW_lost aW_factors aR aS aC aP aH cI cZ F_powers F_logs W_lostCount W_data W_repairs W_first W_bytes W_lost W_factors) sz)) 0 0 (va_A (wd_RS_encode aF aF_powers aF_logs aW aW_bytes aW_lost aW_factors aR aS aC aP aH cI cZ F_powers F_logs W_lostCount W_data W_repairs W_first W_bytes W_lost W_factors) sz) := by
  refine mt_bd (by decide +kernel) (Nat.le_of_ble_eq_true rfl) ?_
  intro p e s m args below meth c hx hb hml hown hts hr hlk hnm hsz hP hK hD hA hS ls hl
  subst hsz
  have hown : s.vm.findClass "ReedSets" = some m.cls := hown
  have hl : lv_has ls 1 [(0, .ref aR)] := hl
  refine lz_Q (fun Q hQ => ?_)
  obtain ⟨A, hAe⟩ : ∃ A : Nat → Prop, A = va_A (wd_RS_encode aF aF_powers aF_logs aW aW_bytes aW_lost aW_factors aR aS aC aP aH cI cZ F_powers F_logs W_lostCount W_data W_repairs W_first W_bytes W_lost W_factors) s.heap.size := ⟨_, rfl⟩
  rw [← hAe] at hD hA hS
  have RET : ∀ (v : Int32) (W_lostCount : Int32) (W_bytes : Nat → Int32) (W_lost : Nat → Int32) (H : Heap) (locs : List Loc) (ls : Array Slot) (pc : Nat), decode c_RS_encode pc = .ok (.ireturn, 1) → post v W_lostCount W_bytes W_lost → va_P (dC, dI) vwCl (wd_RS_encode aF aF_powers aF_logs aW aW_bytes aW_lost aW_factors aR aS aC aP aH cI cZ F_powers F_logs W_lostCount W_data W_repairs W_first W_bytes W_lost W_factors) H → va_D A (wd_RS_encode aF aF_powers aF_logs aW aW_bytes aW_lost aW_factors aR aS aC aP aH cI cZ F_powers F_logs W_lostCount W_data W_repairs W_first W_bytes W_lost W_factors) → va_S A s.heap H locs → W p l e rm_RS_encode s m args below meth c H locs 0 0 Q (F0 m pc ls [.int v]) := by
    intro v W_lostCount W_bytes W_lost H locs ls pc hd hp h1 h2 h3
    rw [hQ]
    rw [hAe] at h2 h3
    exact mt_reti (W_lostCount, W_bytes, W_lost) hx hb hr hlk hd hK h1 h2 h3 hp
  obtain ⟨H, hH⟩ : ∃ H : Heap, H = s.heap := ⟨_, rfl⟩
  obtain ⟨locs, hlo⟩ : ∃ x : List Loc, x = [] := ⟨_, rfl⟩
  have hS : va_S A s.heap H locs := by rw [hH, hlo]; exact hS
  rw [← hH] at hP
  rw [← hlo]
  show W p l e rm_RS_encode s m args below meth c s.heap locs 0 0 Q (F0 m 0 ls [])
  rw [← hH]
  refine lv_aload_n hx hb d_RS_encode_0 rfl (lv_at hl 0 rfl) ?_
  refine va_get (D := (dC, dI)) (ci := 6) (v := .ref aW) (C := "ReedSets") (T := T_RS) (N := 6) hx hb hts in_RS hown hK hP 7 rfl rfl 1 (by decide) (hts _ tb_276) (fun _ h9 => h9) rfl d_RS_encode_1 ?_
  refine mt_i (va_runV (As := []) (rest := []) ⟨hx, hb, hml, hown, hts⟩ (ct_Wo_hasLostData l dC dI aW aF aW_bytes aW_lost aW_factors cI cZ W_lostCount W_data W_repairs W_first W_lost _ h _) (tb_cV hts ok_Wo_hasLostData tb_356 rfl rfl ⟨Nat.le_of_ble_eq_true rfl, Nat.le_of_ble_eq_true rfl⟩) (mt_preV hK hP hD [] [3, 5] rfl (by decide) (ci := 5) (q0 := 3) rfl rfl) rfl rfl hl.1 rfl (lv_room (Nat.le_of_ble_eq_true rfl)) d_RS_encode_4 ⟨Nat.zero_le _, Nat.zero_le _⟩) hP hD hS hA [3, 5] rfl (fun _ => rfl) (fun r_4 u H locs h hP hD hS => ?_)
  have hP : va_P (dC, dI) vwCl (wd_RS_encode aF aF_powers aF_logs aW aW_bytes aW_lost aW_factors aR aS aC aP aH cI cZ F_powers F_logs W_lostCount W_data W_repairs W_first W_bytes W_lost W_factors) H := hP
  have hD : va_D A (wd_RS_encode aF aF_powers aF_logs aW aW_bytes aW_lost aW_factors aR aS aC aP aH cI cZ F_powers F_logs W_lostCount W_data W_repairs W_first W_bytes W_lost W_factors) := hD
  refine lv_if_eq (tgt := 12) hx hb d_RS_encode_7 (by decide) (fun g7 => ?_) (fun g7 => ?_)
  · have h := h.1 g7
    refine lv_aload_n hx hb d_RS_encode_12 rfl (lv_at hl 0 rfl) ?_
    refine va_get (D := (dC, dI)) (ci := 6) (v := .ref aW) (C := "ReedSets") (T := T_RS) (N := 6) hx hb hts in_RS hown hK hP 7 rfl rfl 1 (by decide) (hts _ tb_276) (fun _ h9 => h9) rfl d_RS_encode_13 ?_
    refine mt_v (va_runV (As := []) (rest := []) ⟨hx, hb, hml, hown, hts⟩ (ct_Wo_fillRepairs l dC dI aF aF_powers aF_logs aW aW_bytes aW_lost aW_factors cI cZ F_powers F_logs W_lostCount W_data W_repairs W_first W_bytes W_factors _ h _) (tb_cV hts ok_Wo_fillRepairs tb_360 rfl rfl ⟨Nat.le_of_ble_eq_true rfl, Nat.le_of_ble_eq_true rfl⟩) (mt_preV hK hP hD [] [0, 1, 2, 3, 4, 6] rfl (by decide) (ci := 5) (q0 := 3) rfl rfl) rfl rfl hl.1 rfl (lv_room (Nat.le_of_ble_eq_true rfl)) d_RS_encode_16 ⟨Nat.zero_le _, Nat.zero_le _⟩) hP hD hS hA [0, 1, 2, 3, 4, 6] rfl (fun _ => rfl) (fun u H locs h hP hD hS => ?_)
    obtain ⟨W_bytes_16, rfl⟩ : ∃ z, z = u := ⟨_, rfl⟩
    have hP : va_P (dC, dI) vwCl (wd_RS_encode aF aF_powers aF_logs aW aW_bytes aW_lost aW_factors aR aS aC aP aH cI cZ F_powers F_logs W_lostCount W_data W_repairs W_first W_bytes_16 W_lost W_factors) H := hP
    have hD : va_D A (wd_RS_encode aF aF_powers aF_logs aW aW_bytes aW_lost aW_factors aR aS aC aP aH cI cZ F_powers F_logs W_lostCount W_data W_repairs W_first W_bytes_16 W_lost W_factors) := hD
    refine lv_aload_n hx hb d_RS_encode_19 rfl (lv_at hl 0 rfl) ?_
    refine va_get (D := (dC, dI)) (ci := 6) (v := .ref aW) (C := "ReedSets") (T := T_RS) (N := 6) hx hb hts in_RS hown hK hP 7 rfl rfl 1 (by decide) (hts _ tb_276) (fun _ h9 => h9) rfl d_RS_encode_20 ?_
    refine mt_v (va_runV (As := []) (rest := []) ⟨hx, hb, hml, hown, hts⟩ (ct_Wo_findAll l dC dI aW aF aW_bytes aW_lost aW_factors cI cZ W_lostCount W_data W_repairs W_first W_lost _ h _) (tb_cV hts ok_Wo_findAll tb_370 rfl rfl ⟨Nat.le_of_ble_eq_true rfl, Nat.le_of_ble_eq_true rfl⟩) (mt_preV hK hP hD [] [3, 5] rfl (by decide) (ci := 5) (q0 := 3) rfl rfl) rfl rfl hl.1 rfl (lv_room (Nat.le_of_ble_eq_true rfl)) d_RS_encode_23 ⟨Nat.zero_le _, Nat.zero_le _⟩) hP hD hS hA [3, 5] rfl (fun _ => rfl) (fun u H locs h hP hD hS => ?_)
    obtain ⟨W_lostCount_23, W_lost_23⟩ := u
    have hP : va_P (dC, dI) vwCl (wd_RS_encode aF aF_powers aF_logs aW aW_bytes aW_lost aW_factors aR aS aC aP aH cI cZ F_powers F_logs W_lostCount_23 W_data W_repairs W_first W_bytes_16 W_lost_23 W_factors) H := hP
    have hD : va_D A (wd_RS_encode aF aF_powers aF_logs aW aW_bytes aW_lost aW_factors aR aS aC aP aH cI cZ F_powers F_logs W_lostCount_23 W_data W_repairs W_first W_bytes_16 W_lost_23 W_factors) := hD
    refine lv_iconst (v := (1 : Int32)) hx hb d_RS_encode_26 (by decide) ?_
    exact RET (1 : Int32) W_lostCount_23 W_bytes_16 W_lost_23 H locs ls 27 d_RS_encode_27 h hP hD hS
  · have h := h.2 g7
    refine lv_iconst (v := (-1 : Int32)) hx hb d_RS_encode_10 (by decide) ?_
    exact RET (-1 : Int32) W_lostCount W_bytes W_lost H locs ls 11 d_RS_encode_11 h hP hD hS
abbrev wd_RS_at (aW aF aW_bytes aW_lost aW_factors aR aS aC aP aH : Nat) (cI cZ : ClassId) (W_lostCount : Int32) (W_data : Int32) (W_repairs : Int32) (W_first : Int32) (W_bytes : Nat → Int32) : va_W := [(aW, .inr (5, [.ref aF, .ref aW_bytes, .ref aW_lost, .ref aW_factors, .int W_lostCount, .int W_data, .int W_repairs, .int W_first])), (aW_bytes, .inl (cI, 240, .inl W_bytes)), (aR, .inr (6, [.ref aF, .ref aW, .ref aS, .ref aC, .ref aP, .ref aH]))]
def wp_RS_at_b24 (W_data : Int32) (W_repairs : Int32) (W_bytes : Nat → Int32) (post : Int32 → Prop)  (t0 : Int32) : Prop := post t0
def wp_RS_at (W_data : Int32) (W_repairs : Int32) (W_bytes : Nat → Int32) (p1 : Int32) (post : Int32 → Prop) : Prop := wp_Wo_hasPlace W_data W_repairs p1 (fun r_5 => ((r_5 = 0 → (wp_RS_at_b24 W_data W_repairs W_bytes post  (-1 : Int32))) ∧ (¬ r_5 = 0 → (vp_in p1 240 ∧ (wp_RS_at_b24 W_data W_repairs W_bytes post  (W_bytes p1.toNatClampNeg))))))
abbrev rm_RS_at : Room := { frames := 2, cells := 0, slots := 0, locals := 41 }
set_option maxHeartbeats 4000000 in
set_option maxRecDepth 100000 in
theorem ct_RS_at (l : Launch) (dC : Nat → ClassId) (dI : Nat → Nat → Nat) (aW aF aW_bytes aW_lost aW_factors aR aS aC aP aH : Nat) (cI cZ : ClassId) (W_lostCount : Int32) (W_data : Int32) (W_repairs : Int32) (W_first : Int32) (W_bytes : Nat → Int32) (p1 : Int32) (post : Int32 → Prop) (h : wp_RS_at W_data W_repairs W_bytes p1 post) (sz : Nat) : Met l y_RS_at (Cond.code y_RS_at c_RS_at 2 (some .int) :: tb) rm_RS_at (mt_P (dC, dI) vwCl [(cI, .int), (cZ, .boolean)] [.ref aR, .int p1] (wd_RS_at aW aF aW_bytes aW_lost aW_factors aR aS aC aP aH cI cZ W_lostCount W_data W_repairs W_first W_bytes) sz) (va_Qi (fun (r : Int32) (u : Unit) => post r) (mt_B (dC, dI) vwCl [(cI, .int), (cZ, .boolean)] (wd_RS_at aW aF aW_bytes aW_lost aW_factors aR aS aC aP aH cI cZ W_lostCount W_data W_repairs W_first W_bytes) sz (fun u : Unit => wd_RS_at aW aF aW_bytes aW_lost aW_factors aR aS aC aP aH cI cZ W_lostCount W_data W_repairs W_first W_bytes)) (va_A (wd_RS_at aW aF aW_bytes aW_lost aW_factors aR aS aC aP aH cI cZ W_lostCount W_data W_repairs W_first W_bytes) sz)) 0 0 (va_A (wd_RS_at aW aF aW_bytes aW_lost aW_factors aR aS aC aP aH cI cZ W_lostCount W_data W_repairs W_first W_bytes) sz) := by
  refine mt_bd (by decide +kernel) (Nat.le_of_ble_eq_true rfl) ?_
  intro p e s m args below meth c hx hb hml hown hts hr hlk hnm hsz hP hK hD hA hS ls hl
  subst hsz
  have hown : s.vm.findClass "ReedSets" = some m.cls := hown
  have hl : lv_has ls 2 [(0, .ref aR), (1, .int p1)] := hl
  refine lz_Q (fun Q hQ => ?_)
  obtain ⟨A, hAe⟩ : ∃ A : Nat → Prop, A = va_A (wd_RS_at aW aF aW_bytes aW_lost aW_factors aR aS aC aP aH cI cZ W_lostCount W_data W_repairs W_first W_bytes) s.heap.size := ⟨_, rfl⟩
  rw [← hAe] at hD hA hS
  have RET : ∀ (v : Int32)  (H : Heap) (locs : List Loc) (ls : Array Slot) (pc : Nat), decode c_RS_at pc = .ok (.ireturn, 1) → post v  → va_P (dC, dI) vwCl (wd_RS_at aW aF aW_bytes aW_lost aW_factors aR aS aC aP aH cI cZ W_lostCount W_data W_repairs W_first W_bytes) H → va_D A (wd_RS_at aW aF aW_bytes aW_lost aW_factors aR aS aC aP aH cI cZ W_lostCount W_data W_repairs W_first W_bytes) → va_S A s.heap H locs → W p l e rm_RS_at s m args below meth c H locs 0 0 Q (F0 m pc ls [.int v]) := by
    intro v  H locs ls pc hd hp h1 h2 h3
    rw [hQ]
    rw [hAe] at h2 h3
    exact mt_reti () hx hb hr hlk hd hK h1 h2 h3 hp
  have B24 : ∀ (t0 : Int32) (H : Heap) (locs : List Loc) (ls : Array Slot), wp_RS_at_b24 W_data W_repairs W_bytes post  t0 → va_P (dC, dI) vwCl (wd_RS_at aW aF aW_bytes aW_lost aW_factors aR aS aC aP aH cI cZ W_lostCount W_data W_repairs W_first W_bytes) H → va_D A (wd_RS_at aW aF aW_bytes aW_lost aW_factors aR aS aC aP aH cI cZ W_lostCount W_data W_repairs W_first W_bytes) → va_S A s.heap H locs → lv_has ls 2 [] → W p l e rm_RS_at s m args below meth c H locs 0 0 Q (F0 m 24 ls [.int t0]) := by
    intro  t0 H locs ls h hP hD hS hl
    exact RET t0 H locs ls 24 d_RS_at_24 h hP hD hS
  obtain ⟨H, hH⟩ : ∃ H : Heap, H = s.heap := ⟨_, rfl⟩
  obtain ⟨locs, hlo⟩ : ∃ x : List Loc, x = [] := ⟨_, rfl⟩
  have hS : va_S A s.heap H locs := by rw [hH, hlo]; exact hS
  rw [← hH] at hP
  rw [← hlo]
  show W p l e rm_RS_at s m args below meth c s.heap locs 0 0 Q (F0 m 0 ls [])
  rw [← hH]
  refine lv_aload_n hx hb d_RS_at_0 rfl (lv_at hl 0 rfl) ?_
  refine va_get (D := (dC, dI)) (ci := 6) (v := .ref aW) (C := "ReedSets") (T := T_RS) (N := 6) hx hb hts in_RS hown hK hP 2 rfl rfl 1 (by decide) (hts _ tb_276) (fun _ h9 => h9) rfl d_RS_at_1 ?_
  refine lv_iload_n hx hb d_RS_at_4 rfl (lv_at hl 1 rfl) ?_
  refine mt_i (va_runV (As := [.int p1]) (rest := []) ⟨hx, hb, hml, hown, hts⟩ (ct_Wo_hasPlace l dC dI aW aF aW_bytes aW_lost aW_factors cI cZ W_lostCount W_data W_repairs W_first p1 _ h _) (tb_cV hts ok_Wo_hasPlace tb_347 rfl rfl ⟨Nat.le_of_ble_eq_true rfl, Nat.le_of_ble_eq_true rfl⟩) (mt_preV hK hP hD [.int p1] [0] rfl (by decide) (ci := 5) (q0 := 0) rfl rfl) rfl rfl hl.1 rfl (lv_room (Nat.le_of_ble_eq_true rfl)) d_RS_at_5 ⟨Nat.zero_le _, Nat.zero_le _⟩) hP hD hS hA [0] rfl (fun _ => rfl) (fun r_5 u H locs h hP hD hS => ?_)
  have hP : va_P (dC, dI) vwCl (wd_RS_at aW aF aW_bytes aW_lost aW_factors aR aS aC aP aH cI cZ W_lostCount W_data W_repairs W_first W_bytes) H := hP
  have hD : va_D A (wd_RS_at aW aF aW_bytes aW_lost aW_factors aR aS aC aP aH cI cZ W_lostCount W_data W_repairs W_first W_bytes) := hD
  refine lv_if_eq (tgt := 23) hx hb d_RS_at_8 (by decide) (fun g8 => ?_) (fun g8 => ?_)
  · have h := h.1 g8
    refine lv_iconst (v := (-1 : Int32)) hx hb d_RS_at_23 (by decide) ?_
    exact B24  (-1 : Int32) H locs ls h hP hD hS (lv_sub hl [] rfl)
  · have h := h.2 g8
    refine lv_aload_n hx hb d_RS_at_11 rfl (lv_at hl 0 rfl) ?_
    refine va_get (D := (dC, dI)) (ci := 6) (v := .ref aW) (C := "ReedSets") (T := T_RS) (N := 6) hx hb hts in_RS hown hK hP 2 rfl rfl 1 (by decide) (hts _ tb_276) (fun _ h9 => h9) rfl d_RS_at_12 ?_
    refine va_get (D := (dC, dI)) (ci := 5) (v := .ref aW_bytes) (C := "ReedSets$Word") (T := T_Wo) (N := 8) hx hb hts in_Wo hown hK hP 0 rfl rfl 1 (by decide) (hts _ tb_105) (fun _ h9 => h9) rfl d_RS_at_15 ?_
    refine lv_iload_n hx hb d_RS_at_18 rfl (lv_at hl 1 rfl) ?_
    obtain ⟨hi, h⟩ := h
    refine va_iald hx hb hK hP 1 0 rfl rfl hi d_RS_at_19 ?_
    refine lv_goto (tgt := 24) hx hb d_RS_at_20 (by decide) ?_
    exact B24  (W_bytes p1.toNatClampNeg) H locs ls h hP hD hS (lv_sub hl [] rfl)
abbrev wd_RS_lose (aW aF aW_bytes aW_lost aW_factors aR aS aC aP aH : Nat) (cI cZ : ClassId) (W_lostCount : Int32) (W_data : Int32) (W_repairs : Int32) (W_first : Int32) (W_lost : Nat → Int32) : va_W := [(aW, .inr (5, [.ref aF, .ref aW_bytes, .ref aW_lost, .ref aW_factors, .int W_lostCount, .int W_data, .int W_repairs, .int W_first])), (aW_lost, .inl (cZ, 240, .inl W_lost)), (aR, .inr (6, [.ref aF, .ref aW, .ref aS, .ref aC, .ref aP, .ref aH]))]
def wp_RS_lose_b23 (W_data : Int32) (W_repairs : Int32) (post : Int32 → Int32 → (Nat → Int32) → Prop)  (W_lostCount : Int32) (W_lost : Nat → Int32) : Prop := post (-1 : Int32) W_lostCount W_lost
def wp_RS_lose (W_lostCount : Int32) (W_data : Int32) (W_repairs : Int32) (W_lost : Nat → Int32) (p1 : Int32) (post : Int32 → Int32 → (Nat → Int32) → Prop) : Prop := wp_Wo_hasPlace W_data W_repairs p1 (fun r_5 => ((r_5 = 0 → (wp_RS_lose_b23 W_data W_repairs post  W_lostCount W_lost)) ∧ (¬ r_5 = 0 → (vp_in p1 240 ∧ (((W_lost p1.toNatClampNeg) = 0 → (vp_in p1 240 ∧ (∀ y_45 : Int32, y_45 = (W_lostCount + (1 : Int32)) → (post y_45 y_45 (upd W_lost p1.toNatClampNeg (1 : Int32)))))) ∧ (¬ (W_lost p1.toNatClampNeg) = 0 → (wp_RS_lose_b23 W_data W_repairs post  W_lostCount W_lost)))))))
abbrev rm_RS_lose : Room := { frames := 2, cells := 0, slots := 0, locals := 41 }
set_option maxHeartbeats 4000000 in
set_option maxRecDepth 100000 in
theorem ct_RS_lose (l : Launch) (dC : Nat → ClassId) (dI : Nat → Nat → Nat) (aW aF aW_bytes aW_lost aW_factors aR aS aC aP aH : Nat) (cI cZ : ClassId) (W_lostCount : Int32) (W_data : Int32) (W_repairs : Int32) (W_first : Int32) (W_lost : Nat → Int32) (p1 : Int32) (post : Int32 → Int32 → (Nat → Int32) → Prop) (h : wp_RS_lose W_lostCount W_data W_repairs W_lost p1 post) (sz : Nat) : Met l y_RS_lose (Cond.code y_RS_lose c_RS_lose 2 (some .int) :: tb) rm_RS_lose (mt_P (dC, dI) vwCl [(cI, .int), (cZ, .boolean)] [.ref aR, .int p1] (wd_RS_lose aW aF aW_bytes aW_lost aW_factors aR aS aC aP aH cI cZ W_lostCount W_data W_repairs W_first W_lost) sz) (va_Qi (fun (r : Int32) (u : Int32 × (Nat → Int32)) => post r u.1 u.2) (mt_B (dC, dI) vwCl [(cI, .int), (cZ, .boolean)] (wd_RS_lose aW aF aW_bytes aW_lost aW_factors aR aS aC aP aH cI cZ W_lostCount W_data W_repairs W_first W_lost) sz (fun u : Int32 × (Nat → Int32) => wd_RS_lose aW aF aW_bytes aW_lost aW_factors aR aS aC aP aH cI cZ u.1 W_data W_repairs W_first u.2)) (va_A (wd_RS_lose aW aF aW_bytes aW_lost aW_factors aR aS aC aP aH cI cZ W_lostCount W_data W_repairs W_first W_lost) sz)) 0 0 (va_A (wd_RS_lose aW aF aW_bytes aW_lost aW_factors aR aS aC aP aH cI cZ W_lostCount W_data W_repairs W_first W_lost) sz) := by
  refine mt_bd (by decide +kernel) (Nat.le_of_ble_eq_true rfl) ?_
  intro p e s m args below meth c hx hb hml hown hts hr hlk hnm hsz hP hK hD hA hS ls hl
  subst hsz
  have hown : s.vm.findClass "ReedSets" = some m.cls := hown
  have hl : lv_has ls 2 [(0, .ref aR), (1, .int p1)] := hl
  refine lz_Q (fun Q hQ => ?_)
  obtain ⟨A, hAe⟩ : ∃ A : Nat → Prop, A = va_A (wd_RS_lose aW aF aW_bytes aW_lost aW_factors aR aS aC aP aH cI cZ W_lostCount W_data W_repairs W_first W_lost) s.heap.size := ⟨_, rfl⟩
  rw [← hAe] at hD hA hS
  have RET : ∀ (v : Int32) (W_lostCount : Int32) (W_lost : Nat → Int32) (H : Heap) (locs : List Loc) (ls : Array Slot) (pc : Nat), decode c_RS_lose pc = .ok (.ireturn, 1) → post v W_lostCount W_lost → va_P (dC, dI) vwCl (wd_RS_lose aW aF aW_bytes aW_lost aW_factors aR aS aC aP aH cI cZ W_lostCount W_data W_repairs W_first W_lost) H → va_D A (wd_RS_lose aW aF aW_bytes aW_lost aW_factors aR aS aC aP aH cI cZ W_lostCount W_data W_repairs W_first W_lost) → va_S A s.heap H locs → W p l e rm_RS_lose s m args below meth c H locs 0 0 Q (F0 m pc ls [.int v]) := by
    intro v W_lostCount W_lost H locs ls pc hd hp h1 h2 h3
    rw [hQ]
    rw [hAe] at h2 h3
    exact mt_reti (W_lostCount, W_lost) hx hb hr hlk hd hK h1 h2 h3 hp
  have B23 : ∀ (W_lostCount : Int32) (W_lost : Nat → Int32) (H : Heap) (locs : List Loc) (ls : Array Slot), wp_RS_lose_b23 W_data W_repairs post  W_lostCount W_lost → va_P (dC, dI) vwCl (wd_RS_lose aW aF aW_bytes aW_lost aW_factors aR aS aC aP aH cI cZ W_lostCount W_data W_repairs W_first W_lost) H → va_D A (wd_RS_lose aW aF aW_bytes aW_lost aW_factors aR aS aC aP aH cI cZ W_lostCount W_data W_repairs W_first W_lost) → va_S A s.heap H locs → lv_has ls 2 [] → W p l e rm_RS_lose s m args below meth c H locs 0 0 Q (F0 m 23 ls []) := by
    intro  W_lostCount W_lost H locs ls h hP hD hS hl
    refine lv_iconst (v := (-1 : Int32)) hx hb d_RS_lose_23 (by decide) ?_
    exact RET (-1 : Int32) W_lostCount W_lost H locs ls 24 d_RS_lose_24 h hP hD hS
  obtain ⟨H, hH⟩ : ∃ H : Heap, H = s.heap := ⟨_, rfl⟩
  obtain ⟨locs, hlo⟩ : ∃ x : List Loc, x = [] := ⟨_, rfl⟩
  have hS : va_S A s.heap H locs := by rw [hH, hlo]; exact hS
  rw [← hH] at hP
  rw [← hlo]
  show W p l e rm_RS_lose s m args below meth c s.heap locs 0 0 Q (F0 m 0 ls [])
  rw [← hH]
  refine lv_aload_n hx hb d_RS_lose_0 rfl (lv_at hl 0 rfl) ?_
  refine va_get (D := (dC, dI)) (ci := 6) (v := .ref aW) (C := "ReedSets") (T := T_RS) (N := 6) hx hb hts in_RS hown hK hP 2 rfl rfl 1 (by decide) (hts _ tb_276) (fun _ h9 => h9) rfl d_RS_lose_1 ?_
  refine lv_iload_n hx hb d_RS_lose_4 rfl (lv_at hl 1 rfl) ?_
  refine mt_i (va_runV (As := [.int p1]) (rest := []) ⟨hx, hb, hml, hown, hts⟩ (ct_Wo_hasPlace l dC dI aW aF aW_bytes aW_lost aW_factors cI cZ W_lostCount W_data W_repairs W_first p1 _ h _) (tb_cV hts ok_Wo_hasPlace tb_347 rfl rfl ⟨Nat.le_of_ble_eq_true rfl, Nat.le_of_ble_eq_true rfl⟩) (mt_preV hK hP hD [.int p1] [0] rfl (by decide) (ci := 5) (q0 := 0) rfl rfl) rfl rfl hl.1 rfl (lv_room (Nat.le_of_ble_eq_true rfl)) d_RS_lose_5 ⟨Nat.zero_le _, Nat.zero_le _⟩) hP hD hS hA [0] rfl (fun _ => rfl) (fun r_5 u H locs h hP hD hS => ?_)
  have hP : va_P (dC, dI) vwCl (wd_RS_lose aW aF aW_bytes aW_lost aW_factors aR aS aC aP aH cI cZ W_lostCount W_data W_repairs W_first W_lost) H := hP
  have hD : va_D A (wd_RS_lose aW aF aW_bytes aW_lost aW_factors aR aS aC aP aH cI cZ W_lostCount W_data W_repairs W_first W_lost) := hD
  refine lv_if_eq (tgt := 23) hx hb d_RS_lose_8 (by decide) (fun g8 => ?_) (fun g8 => ?_)
  · have h := h.1 g8
    exact B23  W_lostCount W_lost H locs ls h hP hD hS (lv_sub hl [] rfl)
  · have h := h.2 g8
    refine lv_aload_n hx hb d_RS_lose_11 rfl (lv_at hl 0 rfl) ?_
    refine va_get (D := (dC, dI)) (ci := 6) (v := .ref aW) (C := "ReedSets") (T := T_RS) (N := 6) hx hb hts in_RS hown hK hP 2 rfl rfl 1 (by decide) (hts _ tb_276) (fun _ h9 => h9) rfl d_RS_lose_12 ?_
    refine va_get (D := (dC, dI)) (ci := 5) (v := .ref aW_lost) (C := "ReedSets$Word") (T := T_Wo) (N := 8) hx hb hts in_Wo hown hK hP 0 rfl rfl 2 (by decide) (hts _ tb_109) (fun _ h9 => h9) rfl d_RS_lose_15 ?_
    refine lv_iload_n hx hb d_RS_lose_18 rfl (lv_at hl 1 rfl) ?_
    obtain ⟨hi, h⟩ := h
    refine va_zald hx hb hK hP 1 1 rfl rfl hi d_RS_lose_19 ?_
    refine lv_if_eq (tgt := 25) hx hb d_RS_lose_20 (by decide) (fun g20 => ?_) (fun g20 => ?_)
    · have h := h.1 g20
      refine lv_aload_n hx hb d_RS_lose_25 rfl (lv_at hl 0 rfl) ?_
      refine va_get (D := (dC, dI)) (ci := 6) (v := .ref aW) (C := "ReedSets") (T := T_RS) (N := 6) hx hb hts in_RS hown hK hP 2 rfl rfl 1 (by decide) (hts _ tb_276) (fun _ h9 => h9) rfl d_RS_lose_26 ?_
      refine va_get (D := (dC, dI)) (ci := 5) (v := .ref aW_lost) (C := "ReedSets$Word") (T := T_Wo) (N := 8) hx hb hts in_Wo hown hK hP 0 rfl rfl 2 (by decide) (hts _ tb_109) (fun _ h9 => h9) rfl d_RS_lose_29 ?_
      refine lv_iload_n hx hb d_RS_lose_32 rfl (lv_at hl 1 rfl) ?_
      refine lv_iconst (v := (1 : Int32)) hx hb d_RS_lose_33 (by decide) ?_
      obtain ⟨hi, h⟩ := h
      refine va_zast hx hb hK hP hD hS 1 1 rfl rfl hi d_RS_lose_34 (fun H locs hP hD hS => ?_)
      have hP : va_P (dC, dI) vwCl (wd_RS_lose aW aF aW_bytes aW_lost aW_factors aR aS aC aP aH cI cZ W_lostCount W_data W_repairs W_first (upd W_lost p1.toNatClampNeg (1 : Int32))) H := hP
      have hD : va_D A (wd_RS_lose aW aF aW_bytes aW_lost aW_factors aR aS aC aP aH cI cZ W_lostCount W_data W_repairs W_first (upd W_lost p1.toNatClampNeg (1 : Int32))) := hD
      refine lv_aload_n hx hb d_RS_lose_35 rfl (lv_at hl 0 rfl) ?_
      refine va_get (D := (dC, dI)) (ci := 6) (v := .ref aW) (C := "ReedSets") (T := T_RS) (N := 6) hx hb hts in_RS hown hK hP 2 rfl rfl 1 (by decide) (hts _ tb_276) (fun _ h9 => h9) rfl d_RS_lose_36 ?_
      refine lv_dup hx hb d_RS_lose_39 rfl ?_
      refine va_get (D := (dC, dI)) (ci := 5) (v := .int W_lostCount) (C := "ReedSets$Word") (T := T_Wo) (N := 8) hx hb hts in_Wo hown hK hP 0 rfl rfl 4 (by decide) (hts _ tb_114) (fun _ h9 => h9) rfl d_RS_lose_40 ?_
      refine lv_iconst (v := (1 : Int32)) hx hb d_RS_lose_43 (by decide) ?_
      refine lv_iadd hx hb d_RS_lose_44 ?_
      refine lv_topi (fun y_45 ey_45 => ?_)
      have h := h y_45 ey_45
      refine va_put (D := (dC, dI)) (ci := 5) (v := .int y_45) (ty := .int) (C := "ReedSets$Word") (T := T_Wo) (N := 8) hx hb hts in_Wo ty_Wo tk_Wo nm_Wo hown hK hP hD hS 0 rfl rfl 4 (by decide) (hts _ tb_114) (fun _ h9 => h9) rfl (by decide +kernel) rfl rfl (Nat.le_of_ble_eq_true rfl) d_RS_lose_45 (fun H locs hP hD hS => ?_)
      have hP : va_P (dC, dI) vwCl (wd_RS_lose aW aF aW_bytes aW_lost aW_factors aR aS aC aP aH cI cZ y_45 W_data W_repairs W_first (upd W_lost p1.toNatClampNeg (1 : Int32))) H := hP
      have hD : va_D A (wd_RS_lose aW aF aW_bytes aW_lost aW_factors aR aS aC aP aH cI cZ y_45 W_data W_repairs W_first (upd W_lost p1.toNatClampNeg (1 : Int32))) := hD
      refine lv_aload_n hx hb d_RS_lose_48 rfl (lv_at hl 0 rfl) ?_
      refine va_get (D := (dC, dI)) (ci := 6) (v := .ref aW) (C := "ReedSets") (T := T_RS) (N := 6) hx hb hts in_RS hown hK hP 2 rfl rfl 1 (by decide) (hts _ tb_276) (fun _ h9 => h9) rfl d_RS_lose_49 ?_
      refine va_get (D := (dC, dI)) (ci := 5) (v := .int y_45) (C := "ReedSets$Word") (T := T_Wo) (N := 8) hx hb hts in_Wo hown hK hP 0 rfl rfl 4 (by decide) (hts _ tb_114) (fun _ h9 => h9) rfl d_RS_lose_52 ?_
      exact RET y_45 y_45 (upd W_lost p1.toNatClampNeg (1 : Int32)) H locs ls 55 d_RS_lose_55 h hP hD hS
    · have h := h.2 g20
      exact B23  W_lostCount W_lost H locs ls h hP hD hS (lv_sub hl [] rfl)
abbrev wd_RS_syndrome (aF aF_powers aF_logs aW aW_bytes aW_lost aW_factors aR aS aC aP aH : Nat) (cI cZ : ClassId) (F_powers : Nat → Int32) (F_logs : Nat → Int32) (W_lostCount : Int32) (W_data : Int32) (W_repairs : Int32) (W_first : Int32) (W_bytes : Nat → Int32) (W_lost : Nat → Int32) : va_W := [(aF, .inr (1, [.ref aF_powers, .ref aF_logs])), (aF_powers, .inl (cI, 512, .inl F_powers)), (aF_logs, .inl (cI, 256, .inl F_logs)), (aW, .inr (5, [.ref aF, .ref aW_bytes, .ref aW_lost, .ref aW_factors, .int W_lostCount, .int W_data, .int W_repairs, .int W_first])), (aW_bytes, .inl (cI, 240, .inl W_bytes)), (aW_lost, .inl (cZ, 240, .inl W_lost)), (aR, .inr (6, [.ref aF, .ref aW, .ref aS, .ref aC, .ref aP, .ref aH]))]
def wp_RS_syndrome_b15 (F_powers : Nat → Int32) (F_logs : Nat → Int32) (W_data : Int32) (W_repairs : Int32) (W_first : Int32) (W_bytes : Nat → Int32) (W_lost : Nat → Int32) (post : Int32 → Prop)   : Prop := post (-1 : Int32)
def wp_RS_syndrome (F_powers : Nat → Int32) (F_logs : Nat → Int32) (W_data : Int32) (W_repairs : Int32) (W_first : Int32) (W_bytes : Nat → Int32) (W_lost : Nat → Int32) (p1 : Int32) (post : Int32 → Prop) : Prop := (p1 < 0 → (wp_RS_syndrome_b15 F_powers F_logs W_data W_repairs W_first W_bytes W_lost post  )) ∧ (¬ p1 < 0 → ((p1 < W_repairs → (wp_Wo_valueFor F_powers F_logs W_data W_repairs W_bytes W_lost (W_first + p1) (fun r_30 => (post r_30)))) ∧ (¬ p1 < W_repairs → (wp_RS_syndrome_b15 F_powers F_logs W_data W_repairs W_first W_bytes W_lost post  ))))
abbrev rm_RS_syndrome : Room := { frames := 2, cells := 0, slots := 0, locals := 46 }
set_option maxHeartbeats 4000000 in
set_option maxRecDepth 100000 in
theorem ct_RS_syndrome (l : Launch) (dC : Nat → ClassId) (dI : Nat → Nat → Nat) (aF aF_powers aF_logs aW aW_bytes aW_lost aW_factors aR aS aC aP aH : Nat) (cI cZ : ClassId) (F_powers : Nat → Int32) (F_logs : Nat → Int32) (W_lostCount : Int32) (W_data : Int32) (W_repairs : Int32) (W_first : Int32) (W_bytes : Nat → Int32) (W_lost : Nat → Int32) (p1 : Int32) (post : Int32 → Prop) (h : wp_RS_syndrome F_powers F_logs W_data W_repairs W_first W_bytes W_lost p1 post) (sz : Nat) : Met l y_RS_syndrome (Cond.code y_RS_syndrome c_RS_syndrome 2 (some .int) :: tb) rm_RS_syndrome (mt_P (dC, dI) vwCl [(cI, .int), (cZ, .boolean)] [.ref aR, .int p1] (wd_RS_syndrome aF aF_powers aF_logs aW aW_bytes aW_lost aW_factors aR aS aC aP aH cI cZ F_powers F_logs W_lostCount W_data W_repairs W_first W_bytes W_lost) sz) (va_Qi (fun (r : Int32) (u : Unit) => post r) (mt_B (dC, dI) vwCl [(cI, .int), (cZ, .boolean)] (wd_RS_syndrome aF aF_powers aF_logs aW aW_bytes aW_lost aW_factors aR aS aC aP aH cI cZ F_powers F_logs W_lostCount W_data W_repairs W_first W_bytes W_lost) sz (fun u : Unit => wd_RS_syndrome aF aF_powers aF_logs aW aW_bytes aW_lost aW_factors aR aS aC aP aH cI cZ F_powers F_logs W_lostCount W_data W_repairs W_first W_bytes W_lost)) (va_A (wd_RS_syndrome aF aF_powers aF_logs aW aW_bytes aW_lost aW_factors aR aS aC aP aH cI cZ F_powers F_logs W_lostCount W_data W_repairs W_first W_bytes W_lost) sz)) 0 0 (va_A (wd_RS_syndrome aF aF_powers aF_logs aW aW_bytes aW_lost aW_factors aR aS aC aP aH cI cZ F_powers F_logs W_lostCount W_data W_repairs W_first W_bytes W_lost) sz) := by
  refine mt_bd (by decide +kernel) (Nat.le_of_ble_eq_true rfl) ?_
  intro p e s m args below meth c hx hb hml hown hts hr hlk hnm hsz hP hK hD hA hS ls hl
  subst hsz
  have hown : s.vm.findClass "ReedSets" = some m.cls := hown
  have hl : lv_has ls 2 [(0, .ref aR), (1, .int p1)] := hl
  refine lz_Q (fun Q hQ => ?_)
  obtain ⟨A, hAe⟩ : ∃ A : Nat → Prop, A = va_A (wd_RS_syndrome aF aF_powers aF_logs aW aW_bytes aW_lost aW_factors aR aS aC aP aH cI cZ F_powers F_logs W_lostCount W_data W_repairs W_first W_bytes W_lost) s.heap.size := ⟨_, rfl⟩
  rw [← hAe] at hD hA hS
  have RET : ∀ (v : Int32)  (H : Heap) (locs : List Loc) (ls : Array Slot) (pc : Nat), decode c_RS_syndrome pc = .ok (.ireturn, 1) → post v  → va_P (dC, dI) vwCl (wd_RS_syndrome aF aF_powers aF_logs aW aW_bytes aW_lost aW_factors aR aS aC aP aH cI cZ F_powers F_logs W_lostCount W_data W_repairs W_first W_bytes W_lost) H → va_D A (wd_RS_syndrome aF aF_powers aF_logs aW aW_bytes aW_lost aW_factors aR aS aC aP aH cI cZ F_powers F_logs W_lostCount W_data W_repairs W_first W_bytes W_lost) → va_S A s.heap H locs → W p l e rm_RS_syndrome s m args below meth c H locs 0 0 Q (F0 m pc ls [.int v]) := by
    intro v  H locs ls pc hd hp h1 h2 h3
    rw [hQ]
    rw [hAe] at h2 h3
    exact mt_reti () hx hb hr hlk hd hK h1 h2 h3 hp
  have B15 : ∀  (H : Heap) (locs : List Loc) (ls : Array Slot), wp_RS_syndrome_b15 F_powers F_logs W_data W_repairs W_first W_bytes W_lost post   → va_P (dC, dI) vwCl (wd_RS_syndrome aF aF_powers aF_logs aW aW_bytes aW_lost aW_factors aR aS aC aP aH cI cZ F_powers F_logs W_lostCount W_data W_repairs W_first W_bytes W_lost) H → va_D A (wd_RS_syndrome aF aF_powers aF_logs aW aW_bytes aW_lost aW_factors aR aS aC aP aH cI cZ F_powers F_logs W_lostCount W_data W_repairs W_first W_bytes W_lost) → va_S A s.heap H locs → lv_has ls 2 [] → W p l e rm_RS_syndrome s m args below meth c H locs 0 0 Q (F0 m 15 ls []) := by
    intro   H locs ls h hP hD hS hl
    refine lv_iconst (v := (-1 : Int32)) hx hb d_RS_syndrome_15 (by decide) ?_
    exact RET (-1 : Int32) H locs ls 16 d_RS_syndrome_16 h hP hD hS
  obtain ⟨H, hH⟩ : ∃ H : Heap, H = s.heap := ⟨_, rfl⟩
  obtain ⟨locs, hlo⟩ : ∃ x : List Loc, x = [] := ⟨_, rfl⟩
  have hS : va_S A s.heap H locs := by rw [hH, hlo]; exact hS
  rw [← hH] at hP
  rw [← hlo]
  show W p l e rm_RS_syndrome s m args below meth c s.heap locs 0 0 Q (F0 m 0 ls [])
  rw [← hH]
  refine lv_iload_n hx hb d_RS_syndrome_0 rfl (lv_at hl 1 rfl) ?_
  refine lv_if_lt (tgt := 15) hx hb d_RS_syndrome_1 (by decide) (fun g1 => ?_) (fun g1 => ?_)
  · have h := h.1 g1
    exact B15   H locs ls h hP hD hS (lv_sub hl [] rfl)
  · have h := h.2 g1
    refine lv_iload_n hx hb d_RS_syndrome_4 rfl (lv_at hl 1 rfl) ?_
    refine lv_aload_n hx hb d_RS_syndrome_5 rfl (lv_at hl 0 rfl) ?_
    refine va_get (D := (dC, dI)) (ci := 6) (v := .ref aW) (C := "ReedSets") (T := T_RS) (N := 6) hx hb hts in_RS hown hK hP 6 rfl rfl 1 (by decide) (hts _ tb_276) (fun _ h9 => h9) rfl d_RS_syndrome_6 ?_
    refine va_get (D := (dC, dI)) (ci := 5) (v := .int W_repairs) (C := "ReedSets$Word") (T := T_Wo) (N := 8) hx hb hts in_Wo hown hK hP 3 rfl rfl 6 (by decide) (hts _ tb_119) (fun _ h9 => h9) rfl d_RS_syndrome_9 ?_
    refine lv_icmp_lt (tgt := 17) hx hb d_RS_syndrome_12 (by decide) (fun g12 => ?_) (fun g12 => ?_)
    · have h := h.1 g12
      refine lv_aload_n hx hb d_RS_syndrome_17 rfl (lv_at hl 0 rfl) ?_
      refine va_get (D := (dC, dI)) (ci := 6) (v := .ref aW) (C := "ReedSets") (T := T_RS) (N := 6) hx hb hts in_RS hown hK hP 6 rfl rfl 1 (by decide) (hts _ tb_276) (fun _ h9 => h9) rfl d_RS_syndrome_18 ?_
      refine lv_aload_n hx hb d_RS_syndrome_21 rfl (lv_at hl 0 rfl) ?_
      refine va_get (D := (dC, dI)) (ci := 6) (v := .ref aW) (C := "ReedSets") (T := T_RS) (N := 6) hx hb hts in_RS hown hK hP 6 rfl rfl 1 (by decide) (hts _ tb_276) (fun _ h9 => h9) rfl d_RS_syndrome_22 ?_
      refine va_get (D := (dC, dI)) (ci := 5) (v := .int W_first) (C := "ReedSets$Word") (T := T_Wo) (N := 8) hx hb hts in_Wo hown hK hP 3 rfl rfl 7 (by decide) (hts _ tb_122) (fun _ h9 => h9) rfl d_RS_syndrome_25 ?_
      refine lv_iload_n hx hb d_RS_syndrome_28 rfl (lv_at hl 1 rfl) ?_
      refine lv_iadd hx hb d_RS_syndrome_29 ?_
      refine mt_i (va_runV (As := [.int (W_first + p1)]) (rest := []) ⟨hx, hb, hml, hown, hts⟩ (ct_Wo_valueFor l dC dI aF aF_powers aF_logs aW aW_bytes aW_lost aW_factors cI cZ F_powers F_logs W_lostCount W_data W_repairs W_first W_bytes W_lost (W_first + p1) _ h _) (tb_cV hts ok_Wo_valueFor tb_383 rfl rfl ⟨Nat.le_of_ble_eq_true rfl, Nat.le_of_ble_eq_true rfl⟩) (mt_preV hK hP hD [.int (W_first + p1)] [0, 1, 2, 3, 4, 5] rfl (by decide) (ci := 5) (q0 := 3) rfl rfl) rfl rfl hl.1 rfl (lv_room (Nat.le_of_ble_eq_true rfl)) d_RS_syndrome_30 ⟨Nat.zero_le _, Nat.zero_le _⟩) hP hD hS hA [0, 1, 2, 3, 4, 5] rfl (fun _ => rfl) (fun r_30 u H locs h hP hD hS => ?_)
      have hP : va_P (dC, dI) vwCl (wd_RS_syndrome aF aF_powers aF_logs aW aW_bytes aW_lost aW_factors aR aS aC aP aH cI cZ F_powers F_logs W_lostCount W_data W_repairs W_first W_bytes W_lost) H := hP
      have hD : va_D A (wd_RS_syndrome aF aF_powers aF_logs aW aW_bytes aW_lost aW_factors aR aS aC aP aH cI cZ F_powers F_logs W_lostCount W_data W_repairs W_first W_bytes W_lost) := hD
      exact RET r_30 H locs ls 33 d_RS_syndrome_33 h hP hD hS
    · have h := h.2 g12
      exact B15   H locs ls h hP hD hS (lv_sub hl [] rfl)
abbrev wd_RS_repair (aF aF_powers aF_logs aW aW_bytes aW_lost aW_factors aS aS_syndromes aS_locator aS_helper aS_kept aS_evaluator aS_places aS_fixes aC aC_places aC_differences aR aP aH : Nat) (cI cZ : ClassId) (F_powers : Nat → Int32) (F_logs : Nat → Int32) (W_lostCount : Int32) (W_data : Int32) (W_repairs : Int32) (W_first : Int32) (W_bytes : Nat → Int32) (W_lost : Nat → Int32) (S_found : Int32) (S_syndromes : Nat → Int32) (S_locator : Nat → Int32) (S_helper : Nat → Int32) (S_kept : Nat → Int32) (S_evaluator : Nat → Int32) (S_places : Nat → Int32) (S_fixes : Nat → Int32) (C_count : Int32) (C_places : Nat → Int32) (C_differences : Nat → Int32) : va_W := [(aF, .inr (1, [.ref aF_powers, .ref aF_logs])), (aF_powers, .inl (cI, 512, .inl F_powers)), (aF_logs, .inl (cI, 256, .inl F_logs)), (aW, .inr (5, [.ref aF, .ref aW_bytes, .ref aW_lost, .ref aW_factors, .int W_lostCount, .int W_data, .int W_repairs, .int W_first])), (aW_bytes, .inl (cI, 240, .inl W_bytes)), (aW_lost, .inl (cZ, 240, .inl W_lost)), (aS, .inr (3, [.ref aF, .ref aS_syndromes, .ref aS_locator, .ref aS_helper, .ref aS_kept, .ref aS_evaluator, .ref aS_places, .ref aS_fixes, .int S_found])), (aS_syndromes, .inl (cI, 40, .inl S_syndromes)), (aS_locator, .inl (cI, 41, .inl S_locator)), (aS_helper, .inl (cI, 41, .inl S_helper)), (aS_kept, .inl (cI, 41, .inl S_kept)), (aS_evaluator, .inl (cI, 41, .inl S_evaluator)), (aS_places, .inl (cI, 40, .inl S_places)), (aS_fixes, .inl (cI, 40, .inl S_fixes)), (aC, .inr (0, [.ref aC_places, .ref aC_differences, .int C_count])), (aC_places, .inl (cI, 40, .inl C_places)), (aC_differences, .inl (cI, 40, .inl C_differences)), (aR, .inr (6, [.ref aF, .ref aW, .ref aS, .ref aC, .ref aP, .ref aH]))]
def wp_RS_repair_b28 (F_powers : Nat → Int32) (F_logs : Nat → Int32) (W_data : Int32) (W_repairs : Int32) (W_first : Int32) (post : Int32 → Int32 → (Nat → Int32) → (Nat → Int32) → Int32 → (Nat → Int32) → (Nat → Int32) → (Nat → Int32) → (Nat → Int32) → (Nat → Int32) → (Nat → Int32) → (Nat → Int32) → Int32 → (Nat → Int32) → (Nat → Int32) → Prop) (K28 : Int32 → (Nat → Int32) → (Nat → Int32) → Int32 → (Nat → Int32) → (Nat → Int32) → (Nat → Int32) → (Nat → Int32) → (Nat → Int32) → (Nat → Int32) → (Nat → Int32) → Int32 → (Nat → Int32) → (Nat → Int32) → Int32 → Int32 → Prop) (W_lostCount : Int32) (W_bytes : Nat → Int32) (W_lost : Nat → Int32) (S_found : Int32) (S_syndromes : Nat → Int32) (S_locator : Nat → Int32) (S_helper : Nat → Int32) (S_kept : Nat → Int32) (S_evaluator : Nat → Int32) (S_places : Nat → Int32) (S_fixes : Nat → Int32) (C_count : Int32) (C_places : Nat → Int32) (C_differences : Nat → Int32) (x1 : Int32) (x2 : Int32) : Prop := (S_found ≤ x2 → (wp_So_settle W_lostCount W_bytes W_lost S_found S_places S_fixes (fun W_lostCount_93 W_bytes_93 W_lost_93 => (post x1 W_lostCount_93 W_bytes_93 W_lost_93 S_found S_syndromes S_locator S_helper S_kept S_evaluator S_places S_fixes C_count C_places C_differences)))) ∧ (¬ S_found ≤ x2 → (vp_in x2 40 ∧ (∀ x3_48 : Int32, x3_48 = (S_places x2.toNatClampNeg) → (vp_in x3_48 240 ∧ (wp_So_byteAfter W_bytes W_lost S_places S_fixes x2 (fun r_72 => (wp_Ch_note C_count C_places C_differences x3_48 ((W_bytes x3_48.toNatClampNeg) ^^^ r_72) (fun C_count_76 C_places_76 C_differences_76 => (∀ x2_79 : Int32, x2_79 = (x2 + (1 : Int32)) → (K28 W_lostCount W_bytes W_lost S_found S_syndromes S_locator S_helper S_kept S_evaluator S_places S_fixes C_count_76 C_places_76 C_differences_76 x1 x2_79))))))))))
def wp_RS_repair_L28 (F_powers : Nat → Int32) (F_logs : Nat → Int32) (W_data : Int32) (W_repairs : Int32) (W_first : Int32) (post : Int32 → Int32 → (Nat → Int32) → (Nat → Int32) → Int32 → (Nat → Int32) → (Nat → Int32) → (Nat → Int32) → (Nat → Int32) → (Nat → Int32) → (Nat → Int32) → (Nat → Int32) → Int32 → (Nat → Int32) → (Nat → Int32) → Prop)  : Nat → Int32 → (Nat → Int32) → (Nat → Int32) → Int32 → (Nat → Int32) → (Nat → Int32) → (Nat → Int32) → (Nat → Int32) → (Nat → Int32) → (Nat → Int32) → (Nat → Int32) → Int32 → (Nat → Int32) → (Nat → Int32) → Int32 → Int32 → Prop
  | 0 => fun _ _ _ _ _ _ _ _ _ _ _ _ _ _ _ _ => False
  | n + 1 => wp_RS_repair_b28 F_powers F_logs W_data W_repairs W_first post (wp_RS_repair_L28 F_powers F_logs W_data W_repairs W_first post n)
def wp_RS_repair (F_powers : Nat → Int32) (F_logs : Nat → Int32) (W_lostCount : Int32) (W_data : Int32) (W_repairs : Int32) (W_first : Int32) (W_bytes : Nat → Int32) (W_lost : Nat → Int32) (S_found : Int32) (S_syndromes : Nat → Int32) (S_locator : Nat → Int32) (S_helper : Nat → Int32) (S_kept : Nat → Int32) (S_evaluator : Nat → Int32) (S_places : Nat → Int32) (S_fixes : Nat → Int32) (C_count : Int32) (C_places : Nat → Int32) (C_differences : Nat → Int32) (post : Int32 → Int32 → (Nat → Int32) → (Nat → Int32) → Int32 → (Nat → Int32) → (Nat → Int32) → (Nat → Int32) → (Nat → Int32) → (Nat → Int32) → (Nat → Int32) → (Nat → Int32) → Int32 → (Nat → Int32) → (Nat → Int32) → Prop) : Prop := wp_So_solve F_powers F_logs W_lostCount W_data W_repairs W_first W_bytes W_lost S_found S_syndromes S_locator S_helper S_kept S_evaluator S_places S_fixes (fun r_8 S_found_8 S_syndromes_8 S_locator_8 S_helper_8 S_kept_8 S_evaluator_8 S_places_8 S_fixes_8 => ((¬ r_8 = (-1 : Int32) → (wp_Ch_forgetAll C_count (fun C_count_23 => (∃ n : Nat, wp_RS_repair_L28 F_powers F_logs W_data W_repairs W_first post  n W_lostCount W_bytes W_lost S_found_8 S_syndromes_8 S_locator_8 S_helper_8 S_kept_8 S_evaluator_8 S_places_8 S_fixes_8 C_count_23 C_places C_differences r_8 (0 : Int32))))) ∧ (r_8 = (-1 : Int32) → (post (-1 : Int32) W_lostCount W_bytes W_lost S_found_8 S_syndromes_8 S_locator_8 S_helper_8 S_kept_8 S_evaluator_8 S_places_8 S_fixes_8 C_count C_places C_differences))))
abbrev rm_RS_repair : Room := { frames := 4, cells := 0, slots := 0, locals := 94 }
set_option maxHeartbeats 4000000 in
set_option maxRecDepth 100000 in
theorem ct_RS_repair (l : Launch) (dC : Nat → ClassId) (dI : Nat → Nat → Nat) (aF aF_powers aF_logs aW aW_bytes aW_lost aW_factors aS aS_syndromes aS_locator aS_helper aS_kept aS_evaluator aS_places aS_fixes aC aC_places aC_differences aR aP aH : Nat) (cI cZ : ClassId) (F_powers : Nat → Int32) (F_logs : Nat → Int32) (W_lostCount : Int32) (W_data : Int32) (W_repairs : Int32) (W_first : Int32) (W_bytes : Nat → Int32) (W_lost : Nat → Int32) (S_found : Int32) (S_syndromes : Nat → Int32) (S_locator : Nat → Int32) (S_helper : Nat → Int32) (S_kept : Nat → Int32) (S_evaluator : Nat → Int32) (S_places : Nat → Int32) (S_fixes : Nat → Int32) (C_count : Int32) (C_places : Nat → Int32) (C_differences : Nat → Int32)  (post : Int32 → Int32 → (Nat → Int32) → (Nat → Int32) → Int32 → (Nat → Int32) → (Nat → Int32) → (Nat → Int32) → (Nat → Int32) → (Nat → Int32) → (Nat → Int32) → (Nat → Int32) → Int32 → (Nat → Int32) → (Nat → Int32) → Prop) (h : wp_RS_repair F_powers F_logs W_lostCount W_data W_repairs W_first W_bytes W_lost S_found S_syndromes S_locator S_helper S_kept S_evaluator S_places S_fixes C_count C_places C_differences post) (sz : Nat) : Met l y_RS_repair (Cond.code y_RS_repair c_RS_repair 4 (some .int) :: tb) rm_RS_repair (mt_P (dC, dI) vwCl [(cI, .int), (cZ, .boolean)] [.ref aR] (wd_RS_repair aF aF_powers aF_logs aW aW_bytes aW_lost aW_factors aS aS_syndromes aS_locator aS_helper aS_kept aS_evaluator aS_places aS_fixes aC aC_places aC_differences aR aP aH cI cZ F_powers F_logs W_lostCount W_data W_repairs W_first W_bytes W_lost S_found S_syndromes S_locator S_helper S_kept S_evaluator S_places S_fixes C_count C_places C_differences) sz) (va_Qi (fun (r : Int32) (u : Int32 × (Nat → Int32) × (Nat → Int32) × Int32 × (Nat → Int32) × (Nat → Int32) × (Nat → Int32) × (Nat → Int32) × (Nat → Int32) × (Nat → Int32) × (Nat → Int32) × Int32 × (Nat → Int32) × (Nat → Int32)) => post r u.1 u.2.1 u.2.2.1 u.2.2.2.1 u.2.2.2.2.1 u.2.2.2.2.2.1 u.2.2.2.2.2.2.1 u.2.2.2.2.2.2.2.1 u.2.2.2.2.2.2.2.2.1 u.2.2.2.2.2.2.2.2.2.1 u.2.2.2.2.2.2.2.2.2.2.1 u.2.2.2.2.2.2.2.2.2.2.2.1 u.2.2.2.2.2.2.2.2.2.2.2.2.1 u.2.2.2.2.2.2.2.2.2.2.2.2.2) (mt_B (dC, dI) vwCl [(cI, .int), (cZ, .boolean)] (wd_RS_repair aF aF_powers aF_logs aW aW_bytes aW_lost aW_factors aS aS_syndromes aS_locator aS_helper aS_kept aS_evaluator aS_places aS_fixes aC aC_places aC_differences aR aP aH cI cZ F_powers F_logs W_lostCount W_data W_repairs W_first W_bytes W_lost S_found S_syndromes S_locator S_helper S_kept S_evaluator S_places S_fixes C_count C_places C_differences) sz (fun u : Int32 × (Nat → Int32) × (Nat → Int32) × Int32 × (Nat → Int32) × (Nat → Int32) × (Nat → Int32) × (Nat → Int32) × (Nat → Int32) × (Nat → Int32) × (Nat → Int32) × Int32 × (Nat → Int32) × (Nat → Int32) => wd_RS_repair aF aF_powers aF_logs aW aW_bytes aW_lost aW_factors aS aS_syndromes aS_locator aS_helper aS_kept aS_evaluator aS_places aS_fixes aC aC_places aC_differences aR aP aH cI cZ F_powers F_logs u.1 W_data W_repairs W_first u.2.1 u.2.2.1 u.2.2.2.1 u.2.2.2.2.1 u.2.2.2.2.2.1 u.2.2.2.2.2.2.1 u.2.2.2.2.2.2.2.1 u.2.2.2.2.2.2.2.2.1 u.2.2.2.2.2.2.2.2.2.1 u.2.2.2.2.2.2.2.2.2.2.1 u.2.2.2.2.2.2.2.2.2.2.2.1 u.2.2.2.2.2.2.2.2.2.2.2.2.1 u.2.2.2.2.2.2.2.2.2.2.2.2.2)) (va_A (wd_RS_repair aF aF_powers aF_logs aW aW_bytes aW_lost aW_factors aS aS_syndromes aS_locator aS_helper aS_kept aS_evaluator aS_places aS_fixes aC aC_places aC_differences aR aP aH cI cZ F_powers F_logs W_lostCount W_data W_repairs W_first W_bytes W_lost S_found S_syndromes S_locator S_helper S_kept S_evaluator S_places S_fixes C_count C_places C_differences) sz)) 0 0 (va_A (wd_RS_repair aF aF_powers aF_logs aW aW_bytes aW_lost aW_factors aS aS_syndromes aS_locator aS_helper aS_kept aS_evaluator aS_places aS_fixes aC aC_places aC_differences aR aP aH cI cZ F_powers F_logs W_lostCount W_data W_repairs W_first W_bytes W_lost S_found S_syndromes S_locator S_helper S_kept S_evaluator S_places S_fixes C_count C_places C_differences) sz) := by
  refine mt_bd (by decide +kernel) (Nat.le_of_ble_eq_true rfl) ?_
  intro p e s m args below meth c hx hb hml hown hts hr hlk hnm hsz hP hK hD hA hS ls hl
  subst hsz
  have hown : s.vm.findClass "ReedSets" = some m.cls := hown
  have hl : lv_has ls 4 [(0, .ref aR)] := hl
  refine lz_Q (fun Q hQ => ?_)
  obtain ⟨A, hAe⟩ : ∃ A : Nat → Prop, A = va_A (wd_RS_repair aF aF_powers aF_logs aW aW_bytes aW_lost aW_factors aS aS_syndromes aS_locator aS_helper aS_kept aS_evaluator aS_places aS_fixes aC aC_places aC_differences aR aP aH cI cZ F_powers F_logs W_lostCount W_data W_repairs W_first W_bytes W_lost S_found S_syndromes S_locator S_helper S_kept S_evaluator S_places S_fixes C_count C_places C_differences) s.heap.size := ⟨_, rfl⟩
  rw [← hAe] at hD hA hS
  have RET : ∀ (v : Int32) (W_lostCount : Int32) (W_bytes : Nat → Int32) (W_lost : Nat → Int32) (S_found : Int32) (S_syndromes : Nat → Int32) (S_locator : Nat → Int32) (S_helper : Nat → Int32) (S_kept : Nat → Int32) (S_evaluator : Nat → Int32) (S_places : Nat → Int32) (S_fixes : Nat → Int32) (C_count : Int32) (C_places : Nat → Int32) (C_differences : Nat → Int32) (H : Heap) (locs : List Loc) (ls : Array Slot) (pc : Nat), decode c_RS_repair pc = .ok (.ireturn, 1) → post v W_lostCount W_bytes W_lost S_found S_syndromes S_locator S_helper S_kept S_evaluator S_places S_fixes C_count C_places C_differences → va_P (dC, dI) vwCl (wd_RS_repair aF aF_powers aF_logs aW aW_bytes aW_lost aW_factors aS aS_syndromes aS_locator aS_helper aS_kept aS_evaluator aS_places aS_fixes aC aC_places aC_differences aR aP aH cI cZ F_powers F_logs W_lostCount W_data W_repairs W_first W_bytes W_lost S_found S_syndromes S_locator S_helper S_kept S_evaluator S_places S_fixes C_count C_places C_differences) H → va_D A (wd_RS_repair aF aF_powers aF_logs aW aW_bytes aW_lost aW_factors aS aS_syndromes aS_locator aS_helper aS_kept aS_evaluator aS_places aS_fixes aC aC_places aC_differences aR aP aH cI cZ F_powers F_logs W_lostCount W_data W_repairs W_first W_bytes W_lost S_found S_syndromes S_locator S_helper S_kept S_evaluator S_places S_fixes C_count C_places C_differences) → va_S A s.heap H locs → W p l e rm_RS_repair s m args below meth c H locs 0 0 Q (F0 m pc ls [.int v]) := by
    intro v W_lostCount W_bytes W_lost S_found S_syndromes S_locator S_helper S_kept S_evaluator S_places S_fixes C_count C_places C_differences H locs ls pc hd hp h1 h2 h3
    rw [hQ]
    rw [hAe] at h2 h3
    exact mt_reti (W_lostCount, W_bytes, W_lost, S_found, S_syndromes, S_locator, S_helper, S_kept, S_evaluator, S_places, S_fixes, C_count, C_places, C_differences) hx hb hr hlk hd hK h1 h2 h3 hp
  have B28 : ∀ (K28 : Int32 → (Nat → Int32) → (Nat → Int32) → Int32 → (Nat → Int32) → (Nat → Int32) → (Nat → Int32) → (Nat → Int32) → (Nat → Int32) → (Nat → Int32) → (Nat → Int32) → Int32 → (Nat → Int32) → (Nat → Int32) → Int32 → Int32 → Prop) (HK28 : ∀ (W_lostCount : Int32) (W_bytes : Nat → Int32) (W_lost : Nat → Int32) (S_found : Int32) (S_syndromes : Nat → Int32) (S_locator : Nat → Int32) (S_helper : Nat → Int32) (S_kept : Nat → Int32) (S_evaluator : Nat → Int32) (S_places : Nat → Int32) (S_fixes : Nat → Int32) (C_count : Int32) (C_places : Nat → Int32) (C_differences : Nat → Int32) (x1 : Int32) (x2 : Int32) (H : Heap) (locs : List Loc) (ls : Array Slot), K28 W_lostCount W_bytes W_lost S_found S_syndromes S_locator S_helper S_kept S_evaluator S_places S_fixes C_count C_places C_differences x1 x2 → va_P (dC, dI) vwCl (wd_RS_repair aF aF_powers aF_logs aW aW_bytes aW_lost aW_factors aS aS_syndromes aS_locator aS_helper aS_kept aS_evaluator aS_places aS_fixes aC aC_places aC_differences aR aP aH cI cZ F_powers F_logs W_lostCount W_data W_repairs W_first W_bytes W_lost S_found S_syndromes S_locator S_helper S_kept S_evaluator S_places S_fixes C_count C_places C_differences) H → va_D A (wd_RS_repair aF aF_powers aF_logs aW aW_bytes aW_lost aW_factors aS aS_syndromes aS_locator aS_helper aS_kept aS_evaluator aS_places aS_fixes aC aC_places aC_differences aR aP aH cI cZ F_powers F_logs W_lostCount W_data W_repairs W_first W_bytes W_lost S_found S_syndromes S_locator S_helper S_kept S_evaluator S_places S_fixes C_count C_places C_differences) → va_S A s.heap H locs → lv_has ls 4 [(0, .ref aR), (1, .int x1), (2, .int x2)] → W p l e rm_RS_repair s m args below meth c H locs 0 0 Q (F0 m 28 ls [])), ∀ (W_lostCount : Int32) (W_bytes : Nat → Int32) (W_lost : Nat → Int32) (S_found : Int32) (S_syndromes : Nat → Int32) (S_locator : Nat → Int32) (S_helper : Nat → Int32) (S_kept : Nat → Int32) (S_evaluator : Nat → Int32) (S_places : Nat → Int32) (S_fixes : Nat → Int32) (C_count : Int32) (C_places : Nat → Int32) (C_differences : Nat → Int32) (x1 : Int32) (x2 : Int32) (H : Heap) (locs : List Loc) (ls : Array Slot), wp_RS_repair_b28 F_powers F_logs W_data W_repairs W_first post K28 W_lostCount W_bytes W_lost S_found S_syndromes S_locator S_helper S_kept S_evaluator S_places S_fixes C_count C_places C_differences x1 x2 → va_P (dC, dI) vwCl (wd_RS_repair aF aF_powers aF_logs aW aW_bytes aW_lost aW_factors aS aS_syndromes aS_locator aS_helper aS_kept aS_evaluator aS_places aS_fixes aC aC_places aC_differences aR aP aH cI cZ F_powers F_logs W_lostCount W_data W_repairs W_first W_bytes W_lost S_found S_syndromes S_locator S_helper S_kept S_evaluator S_places S_fixes C_count C_places C_differences) H → va_D A (wd_RS_repair aF aF_powers aF_logs aW aW_bytes aW_lost aW_factors aS aS_syndromes aS_locator aS_helper aS_kept aS_evaluator aS_places aS_fixes aC aC_places aC_differences aR aP aH cI cZ F_powers F_logs W_lostCount W_data W_repairs W_first W_bytes W_lost S_found S_syndromes S_locator S_helper S_kept S_evaluator S_places S_fixes C_count C_places C_differences) → va_S A s.heap H locs → lv_has ls 4 [(0, .ref aR), (1, .int x1), (2, .int x2)] → W p l e rm_RS_repair s m args below meth c H locs 0 0 Q (F0 m 28 ls []) := by
    intro K28 HK28 W_lostCount W_bytes W_lost S_found S_syndromes S_locator S_helper S_kept S_evaluator S_places S_fixes C_count C_places C_differences x1 x2 H locs ls h hP hD hS hl
    refine lv_iload_n hx hb d_RS_repair_28 rfl (lv_at hl 2 rfl) ?_
    refine lv_aload_n hx hb d_RS_repair_29 rfl (lv_at hl 0 rfl) ?_
    refine va_get (D := (dC, dI)) (ci := 6) (v := .ref aS) (C := "ReedSets") (T := T_RS) (N := 6) hx hb hts in_RS hown hK hP 17 rfl rfl 2 (by decide) (hts _ tb_277) (fun _ h9 => h9) rfl d_RS_repair_30 ?_
    refine va_get (D := (dC, dI)) (ci := 3) (v := .int S_found) (C := "ReedSets$Solver") (T := T_So) (N := 9) hx hb hts in_So hown hK hP 6 rfl rfl 8 (by decide) (hts _ tb_157) (fun _ h9 => h9) rfl d_RS_repair_33 ?_
    refine lv_icmp_ge (tgt := 85) hx hb d_RS_repair_36 (by decide) (fun g36 => ?_) (fun g36 => ?_)
    · have h := h.1 g36
      refine lv_aload_n hx hb d_RS_repair_85 rfl (lv_at hl 0 rfl) ?_
      refine va_get (D := (dC, dI)) (ci := 6) (v := .ref aS) (C := "ReedSets") (T := T_RS) (N := 6) hx hb hts in_RS hown hK hP 17 rfl rfl 2 (by decide) (hts _ tb_277) (fun _ h9 => h9) rfl d_RS_repair_86 ?_
      refine lv_aload_n hx hb d_RS_repair_89 rfl (lv_at hl 0 rfl) ?_
      refine va_get (D := (dC, dI)) (ci := 6) (v := .ref aW) (C := "ReedSets") (T := T_RS) (N := 6) hx hb hts in_RS hown hK hP 17 rfl rfl 1 (by decide) (hts _ tb_276) (fun _ h9 => h9) rfl d_RS_repair_90 ?_
      refine mt_v (va_runV (As := [.ref aW]) (rest := []) ⟨hx, hb, hml, hown, hts⟩ (ct_So_settle l dC dI aW aF aW_bytes aW_lost aW_factors aS aS_syndromes aS_locator aS_helper aS_kept aS_evaluator aS_places aS_fixes cI cZ W_lostCount W_data W_repairs W_first W_bytes W_lost S_found S_places S_fixes _ h _) (tb_cV hts ok_So_settle tb_476 rfl rfl ⟨Nat.le_of_ble_eq_true rfl, Nat.le_of_ble_eq_true rfl⟩) (mt_preV hK hP hD [.ref aW] [3, 4, 5, 6, 12, 13] rfl (by decide) (ci := 3) (q0 := 6) rfl rfl) rfl rfl hl.1 rfl (lv_room (Nat.le_of_ble_eq_true rfl)) d_RS_repair_93 ⟨Nat.zero_le _, Nat.zero_le _⟩) hP hD hS hA [3, 4, 5, 6, 12, 13] rfl (fun _ => rfl) (fun u H locs h hP hD hS => ?_)
      obtain ⟨W_lostCount_93, W_bytes_93, W_lost_93⟩ := u
      have hP : va_P (dC, dI) vwCl (wd_RS_repair aF aF_powers aF_logs aW aW_bytes aW_lost aW_factors aS aS_syndromes aS_locator aS_helper aS_kept aS_evaluator aS_places aS_fixes aC aC_places aC_differences aR aP aH cI cZ F_powers F_logs W_lostCount_93 W_data W_repairs W_first W_bytes_93 W_lost_93 S_found S_syndromes S_locator S_helper S_kept S_evaluator S_places S_fixes C_count C_places C_differences) H := hP
      have hD : va_D A (wd_RS_repair aF aF_powers aF_logs aW aW_bytes aW_lost aW_factors aS aS_syndromes aS_locator aS_helper aS_kept aS_evaluator aS_places aS_fixes aC aC_places aC_differences aR aP aH cI cZ F_powers F_logs W_lostCount_93 W_data W_repairs W_first W_bytes_93 W_lost_93 S_found S_syndromes S_locator S_helper S_kept S_evaluator S_places S_fixes C_count C_places C_differences) := hD
      refine lv_iload_n hx hb d_RS_repair_96 rfl (lv_at hl 1 rfl) ?_
      exact RET x1 W_lostCount_93 W_bytes_93 W_lost_93 S_found S_syndromes S_locator S_helper S_kept S_evaluator S_places S_fixes C_count C_places C_differences H locs ls 97 d_RS_repair_97 h hP hD hS
    · have h := h.2 g36
      refine lv_aload_n hx hb d_RS_repair_39 rfl (lv_at hl 0 rfl) ?_
      refine va_get (D := (dC, dI)) (ci := 6) (v := .ref aS) (C := "ReedSets") (T := T_RS) (N := 6) hx hb hts in_RS hown hK hP 17 rfl rfl 2 (by decide) (hts _ tb_277) (fun _ h9 => h9) rfl d_RS_repair_40 ?_
      refine va_get (D := (dC, dI)) (ci := 3) (v := .ref aS_places) (C := "ReedSets$Solver") (T := T_So) (N := 9) hx hb hts in_So hown hK hP 6 rfl rfl 6 (by decide) (hts _ tb_154) (fun _ h9 => h9) rfl d_RS_repair_43 ?_
      refine lv_iload_n hx hb d_RS_repair_46 rfl (lv_at hl 2 rfl) ?_
      obtain ⟨hi, h⟩ := h
      refine va_iald hx hb hK hP 12 0 rfl rfl hi d_RS_repair_47 ?_
      refine lv_topi (fun x3_48 ex3_48 => ?_)
      have h := h x3_48 ex3_48
      refine lv_istore_n (lv' := [(3, .int x3_48), (0, .ref aR), (1, .int x1), (2, .int x2)]) hx hb d_RS_repair_48 rfl hl (by decide) rfl (fun ls hl => ?_)
      refine lv_aload_n hx hb d_RS_repair_49 rfl (lv_at hl 1 rfl) ?_
      refine va_get (D := (dC, dI)) (ci := 6) (v := .ref aC) (C := "ReedSets") (T := T_RS) (N := 6) hx hb hts in_RS hown hK hP 17 rfl rfl 3 (by decide) (hts _ tb_278) (fun _ h9 => h9) rfl d_RS_repair_50 ?_
      refine lv_iload_n hx hb d_RS_repair_53 rfl (lv_at hl 0 rfl) ?_
      refine lv_aload_n hx hb d_RS_repair_54 rfl (lv_at hl 1 rfl) ?_
      refine va_get (D := (dC, dI)) (ci := 6) (v := .ref aW) (C := "ReedSets") (T := T_RS) (N := 6) hx hb hts in_RS hown hK hP 17 rfl rfl 1 (by decide) (hts _ tb_276) (fun _ h9 => h9) rfl d_RS_repair_55 ?_
      refine va_get (D := (dC, dI)) (ci := 5) (v := .ref aW_bytes) (C := "ReedSets$Word") (T := T_Wo) (N := 8) hx hb hts in_Wo hown hK hP 3 rfl rfl 1 (by decide) (hts _ tb_105) (fun _ h9 => h9) rfl d_RS_repair_58 ?_
      refine lv_iload_n hx hb d_RS_repair_61 rfl (lv_at hl 0 rfl) ?_
      obtain ⟨hi, h⟩ := h
      refine va_iald hx hb hK hP 4 0 rfl rfl hi d_RS_repair_62 ?_
      refine lv_aload_n hx hb d_RS_repair_63 rfl (lv_at hl 1 rfl) ?_
      refine va_get (D := (dC, dI)) (ci := 6) (v := .ref aS) (C := "ReedSets") (T := T_RS) (N := 6) hx hb hts in_RS hown hK hP 17 rfl rfl 2 (by decide) (hts _ tb_277) (fun _ h9 => h9) rfl d_RS_repair_64 ?_
      refine lv_aload_n hx hb d_RS_repair_67 rfl (lv_at hl 1 rfl) ?_
      refine va_get (D := (dC, dI)) (ci := 6) (v := .ref aW) (C := "ReedSets") (T := T_RS) (N := 6) hx hb hts in_RS hown hK hP 17 rfl rfl 1 (by decide) (hts _ tb_276) (fun _ h9 => h9) rfl d_RS_repair_68 ?_
      refine lv_iload_n hx hb d_RS_repair_71 rfl (lv_at hl 3 rfl) ?_
      refine mt_i (va_runV (As := [.ref aW, .int x2]) (rest := [.int (W_bytes x3_48.toNatClampNeg), .int x3_48, .ref aC]) ⟨hx, hb, hml, hown, hts⟩ (ct_So_byteAfter l dC dI aW aF aW_bytes aW_lost aW_factors aS aS_syndromes aS_locator aS_helper aS_kept aS_evaluator aS_places aS_fixes cI cZ W_lostCount W_data W_repairs W_first W_bytes W_lost S_found S_places S_fixes x2 _ h _) (tb_cV hts ok_So_byteAfter tb_468 rfl rfl ⟨Nat.le_of_ble_eq_true rfl, Nat.le_of_ble_eq_true rfl⟩) (mt_preV hK hP hD [.ref aW, .int x2] [3, 4, 5, 6, 12, 13] rfl (by decide) (ci := 3) (q0 := 6) rfl rfl) rfl rfl hl.1 rfl (lv_room (Nat.le_of_ble_eq_true rfl)) d_RS_repair_72 ⟨Nat.zero_le _, Nat.zero_le _⟩) hP hD hS hA [3, 4, 5, 6, 12, 13] rfl (fun _ => rfl) (fun r_72 u H locs h hP hD hS => ?_)
      have hP : va_P (dC, dI) vwCl (wd_RS_repair aF aF_powers aF_logs aW aW_bytes aW_lost aW_factors aS aS_syndromes aS_locator aS_helper aS_kept aS_evaluator aS_places aS_fixes aC aC_places aC_differences aR aP aH cI cZ F_powers F_logs W_lostCount W_data W_repairs W_first W_bytes W_lost S_found S_syndromes S_locator S_helper S_kept S_evaluator S_places S_fixes C_count C_places C_differences) H := hP
      have hD : va_D A (wd_RS_repair aF aF_powers aF_logs aW aW_bytes aW_lost aW_factors aS aS_syndromes aS_locator aS_helper aS_kept aS_evaluator aS_places aS_fixes aC aC_places aC_differences aR aP aH cI cZ F_powers F_logs W_lostCount W_data W_repairs W_first W_bytes W_lost S_found S_syndromes S_locator S_helper S_kept S_evaluator S_places S_fixes C_count C_places C_differences) := hD
      refine lv_ixor hx hb d_RS_repair_75 ?_
      refine mt_v (va_runV (As := [.int x3_48, .int ((W_bytes x3_48.toNatClampNeg) ^^^ r_72)]) (rest := []) ⟨hx, hb, hml, hown, hts⟩ (ct_Ch_note l dC dI aC aC_places aC_differences cI cZ C_count C_places C_differences x3_48 ((W_bytes x3_48.toNatClampNeg) ^^^ r_72) _ h _) (tb_cV hts ok_Ch_note tb_472 rfl rfl ⟨Nat.le_of_ble_eq_true rfl, Nat.le_of_ble_eq_true rfl⟩) (mt_preV hK hP hD [.int x3_48, .int ((W_bytes x3_48.toNatClampNeg) ^^^ r_72)] [14, 15, 16] rfl (by decide) (ci := 0) (q0 := 14) rfl rfl) rfl rfl hl.1 rfl (lv_room (Nat.le_of_ble_eq_true rfl)) d_RS_repair_76 ⟨Nat.zero_le _, Nat.zero_le _⟩) hP hD hS hA [14, 15, 16] rfl (fun _ => rfl) (fun u H locs h hP hD hS => ?_)
      obtain ⟨C_count_76, C_places_76, C_differences_76⟩ := u
      have hP : va_P (dC, dI) vwCl (wd_RS_repair aF aF_powers aF_logs aW aW_bytes aW_lost aW_factors aS aS_syndromes aS_locator aS_helper aS_kept aS_evaluator aS_places aS_fixes aC aC_places aC_differences aR aP aH cI cZ F_powers F_logs W_lostCount W_data W_repairs W_first W_bytes W_lost S_found S_syndromes S_locator S_helper S_kept S_evaluator S_places S_fixes C_count_76 C_places_76 C_differences_76) H := hP
      have hD : va_D A (wd_RS_repair aF aF_powers aF_logs aW aW_bytes aW_lost aW_factors aS aS_syndromes aS_locator aS_helper aS_kept aS_evaluator aS_places aS_fixes aC aC_places aC_differences aR aP aH cI cZ F_powers F_logs W_lostCount W_data W_repairs W_first W_bytes W_lost S_found S_syndromes S_locator S_helper S_kept S_evaluator S_places S_fixes C_count_76 C_places_76 C_differences_76) := hD
      obtain ⟨x2_79, ex2_79⟩ : ∃ y : Int32, y = (x2 + (1 : Int32)) := ⟨_, rfl⟩
      have h := h x2_79 ex2_79
      refine lv_iinc (v := x2_79) (lv' := [(2, .int x2_79), (3, .int x3_48), (0, .ref aR), (1, .int x1)]) hx hb d_RS_repair_79 hl (k := 3) rfl (by rw [ex2_79]; rfl) (by decide) rfl (fun ls hl => ?_)
      refine lv_goto (tgt := 28) hx hb d_RS_repair_82 (by decide) ?_
      exact HK28 W_lostCount W_bytes W_lost S_found S_syndromes S_locator S_helper S_kept S_evaluator S_places S_fixes C_count_76 C_places_76 C_differences_76 x1 x2_79 H locs ls h hP hD hS (lv_sub hl [2, 3, 0] rfl)
  have L28 : ∀  (n : Nat), ∀ (W_lostCount : Int32) (W_bytes : Nat → Int32) (W_lost : Nat → Int32) (S_found : Int32) (S_syndromes : Nat → Int32) (S_locator : Nat → Int32) (S_helper : Nat → Int32) (S_kept : Nat → Int32) (S_evaluator : Nat → Int32) (S_places : Nat → Int32) (S_fixes : Nat → Int32) (C_count : Int32) (C_places : Nat → Int32) (C_differences : Nat → Int32) (x1 : Int32) (x2 : Int32) (H : Heap) (locs : List Loc) (ls : Array Slot), wp_RS_repair_L28 F_powers F_logs W_data W_repairs W_first post  n W_lostCount W_bytes W_lost S_found S_syndromes S_locator S_helper S_kept S_evaluator S_places S_fixes C_count C_places C_differences x1 x2 → va_P (dC, dI) vwCl (wd_RS_repair aF aF_powers aF_logs aW aW_bytes aW_lost aW_factors aS aS_syndromes aS_locator aS_helper aS_kept aS_evaluator aS_places aS_fixes aC aC_places aC_differences aR aP aH cI cZ F_powers F_logs W_lostCount W_data W_repairs W_first W_bytes W_lost S_found S_syndromes S_locator S_helper S_kept S_evaluator S_places S_fixes C_count C_places C_differences) H → va_D A (wd_RS_repair aF aF_powers aF_logs aW aW_bytes aW_lost aW_factors aS aS_syndromes aS_locator aS_helper aS_kept aS_evaluator aS_places aS_fixes aC aC_places aC_differences aR aP aH cI cZ F_powers F_logs W_lostCount W_data W_repairs W_first W_bytes W_lost S_found S_syndromes S_locator S_helper S_kept S_evaluator S_places S_fixes C_count C_places C_differences) → va_S A s.heap H locs → lv_has ls 4 [(0, .ref aR), (1, .int x1), (2, .int x2)] → W p l e rm_RS_repair s m args below meth c H locs 0 0 Q (F0 m 28 ls []) := by
    intro  n
    induction n with
    | zero => intro W_lostCount W_bytes W_lost S_found S_syndromes S_locator S_helper S_kept S_evaluator S_places S_fixes C_count C_places C_differences x1 x2 H locs ls h hP hD hS hl; exact False.elim h
    | succ n ih => intro W_lostCount W_bytes W_lost S_found S_syndromes S_locator S_helper S_kept S_evaluator S_places S_fixes C_count C_places C_differences x1 x2 H locs ls h hP hD hS hl; exact B28  (wp_RS_repair_L28 F_powers F_logs W_data W_repairs W_first post  n) ih W_lostCount W_bytes W_lost S_found S_syndromes S_locator S_helper S_kept S_evaluator S_places S_fixes C_count C_places C_differences x1 x2 H locs ls h hP hD hS hl
  obtain ⟨H, hH⟩ : ∃ H : Heap, H = s.heap := ⟨_, rfl⟩
  obtain ⟨locs, hlo⟩ : ∃ x : List Loc, x = [] := ⟨_, rfl⟩
  have hS : va_S A s.heap H locs := by rw [hH, hlo]; exact hS
  rw [← hH] at hP
  rw [← hlo]
  show W p l e rm_RS_repair s m args below meth c s.heap locs 0 0 Q (F0 m 0 ls [])
  rw [← hH]
  refine lv_aload_n hx hb d_RS_repair_0 rfl (lv_at hl 0 rfl) ?_
  refine va_get (D := (dC, dI)) (ci := 6) (v := .ref aS) (C := "ReedSets") (T := T_RS) (N := 6) hx hb hts in_RS hown hK hP 17 rfl rfl 2 (by decide) (hts _ tb_277) (fun _ h9 => h9) rfl d_RS_repair_1 ?_
  refine lv_aload_n hx hb d_RS_repair_4 rfl (lv_at hl 0 rfl) ?_
  refine va_get (D := (dC, dI)) (ci := 6) (v := .ref aW) (C := "ReedSets") (T := T_RS) (N := 6) hx hb hts in_RS hown hK hP 17 rfl rfl 1 (by decide) (hts _ tb_276) (fun _ h9 => h9) rfl d_RS_repair_5 ?_
  refine mt_i (va_runV (As := [.ref aW]) (rest := []) ⟨hx, hb, hml, hown, hts⟩ (ct_So_solve l dC dI aF aF_powers aF_logs aW aW_bytes aW_lost aW_factors aS aS_syndromes aS_locator aS_helper aS_kept aS_evaluator aS_places aS_fixes cI cZ F_powers F_logs W_lostCount W_data W_repairs W_first W_bytes W_lost S_found S_syndromes S_locator S_helper S_kept S_evaluator S_places S_fixes _ h _) (tb_cV hts ok_So_solve tb_391 rfl rfl ⟨Nat.le_of_ble_eq_true rfl, Nat.le_of_ble_eq_true rfl⟩) (mt_preV hK hP hD [.ref aW] [0, 1, 2, 3, 4, 5, 6, 7, 8, 9, 10, 11, 12, 13] rfl (by decide) (ci := 3) (q0 := 6) rfl rfl) rfl rfl hl.1 rfl (lv_room (Nat.le_of_ble_eq_true rfl)) d_RS_repair_8 ⟨Nat.zero_le _, Nat.zero_le _⟩) hP hD hS hA [0, 1, 2, 3, 4, 5, 6, 7, 8, 9, 10, 11, 12, 13] rfl (fun _ => rfl) (fun r_8 u H locs h hP hD hS => ?_)
  obtain ⟨S_found_8, S_syndromes_8, S_locator_8, S_helper_8, S_kept_8, S_evaluator_8, S_places_8, S_fixes_8⟩ := u
  have hP : va_P (dC, dI) vwCl (wd_RS_repair aF aF_powers aF_logs aW aW_bytes aW_lost aW_factors aS aS_syndromes aS_locator aS_helper aS_kept aS_evaluator aS_places aS_fixes aC aC_places aC_differences aR aP aH cI cZ F_powers F_logs W_lostCount W_data W_repairs W_first W_bytes W_lost S_found_8 S_syndromes_8 S_locator_8 S_helper_8 S_kept_8 S_evaluator_8 S_places_8 S_fixes_8 C_count C_places C_differences) H := hP
  have hD : va_D A (wd_RS_repair aF aF_powers aF_logs aW aW_bytes aW_lost aW_factors aS aS_syndromes aS_locator aS_helper aS_kept aS_evaluator aS_places aS_fixes aC aC_places aC_differences aR aP aH cI cZ F_powers F_logs W_lostCount W_data W_repairs W_first W_bytes W_lost S_found_8 S_syndromes_8 S_locator_8 S_helper_8 S_kept_8 S_evaluator_8 S_places_8 S_fixes_8 C_count C_places C_differences) := hD
  refine lv_istore_n (lv' := [(1, .int r_8), (0, .ref aR)]) hx hb d_RS_repair_11 rfl hl (by decide) rfl (fun ls hl => ?_)
  refine lv_iload_n hx hb d_RS_repair_12 rfl (lv_at hl 0 rfl) ?_
  refine lv_iconst (v := (-1 : Int32)) hx hb d_RS_repair_13 (by decide) ?_
  refine lv_icmp_ne (tgt := 19) hx hb d_RS_repair_14 (by decide) (fun g14 => ?_) (fun g14 => ?_)
  · have h := h.1 g14
    refine lv_aload_n hx hb d_RS_repair_19 rfl (lv_at hl 1 rfl) ?_
    refine va_get (D := (dC, dI)) (ci := 6) (v := .ref aC) (C := "ReedSets") (T := T_RS) (N := 6) hx hb hts in_RS hown hK hP 17 rfl rfl 3 (by decide) (hts _ tb_278) (fun _ h9 => h9) rfl d_RS_repair_20 ?_
    refine mt_v (va_runV (As := []) (rest := []) ⟨hx, hb, hml, hown, hts⟩ (ct_Ch_forgetAll l dC dI aC aC_places aC_differences cI cZ C_count _ h _) (tb_cV hts ok_Ch_forgetAll tb_464 rfl rfl ⟨Nat.le_of_ble_eq_true rfl, Nat.le_of_ble_eq_true rfl⟩) (mt_preV hK hP hD [] [14] rfl (by decide) (ci := 0) (q0 := 14) rfl rfl) rfl rfl hl.1 rfl (lv_room (Nat.le_of_ble_eq_true rfl)) d_RS_repair_23 ⟨Nat.zero_le _, Nat.zero_le _⟩) hP hD hS hA [14] rfl (fun _ => rfl) (fun u H locs h hP hD hS => ?_)
    obtain ⟨C_count_23, rfl⟩ : ∃ z, z = u := ⟨_, rfl⟩
    have hP : va_P (dC, dI) vwCl (wd_RS_repair aF aF_powers aF_logs aW aW_bytes aW_lost aW_factors aS aS_syndromes aS_locator aS_helper aS_kept aS_evaluator aS_places aS_fixes aC aC_places aC_differences aR aP aH cI cZ F_powers F_logs W_lostCount W_data W_repairs W_first W_bytes W_lost S_found_8 S_syndromes_8 S_locator_8 S_helper_8 S_kept_8 S_evaluator_8 S_places_8 S_fixes_8 C_count_23 C_places C_differences) H := hP
    have hD : va_D A (wd_RS_repair aF aF_powers aF_logs aW aW_bytes aW_lost aW_factors aS aS_syndromes aS_locator aS_helper aS_kept aS_evaluator aS_places aS_fixes aC aC_places aC_differences aR aP aH cI cZ F_powers F_logs W_lostCount W_data W_repairs W_first W_bytes W_lost S_found_8 S_syndromes_8 S_locator_8 S_helper_8 S_kept_8 S_evaluator_8 S_places_8 S_fixes_8 C_count_23 C_places C_differences) := hD
    refine lv_iconst (v := (0 : Int32)) hx hb d_RS_repair_26 (by decide) ?_
    refine lv_istore_n (lv' := [(2, .int (0 : Int32)), (1, .int r_8), (0, .ref aR)]) hx hb d_RS_repair_27 rfl hl (by decide) rfl (fun ls hl => ?_)
    obtain ⟨n, h⟩ := h
    exact L28  n W_lostCount W_bytes W_lost S_found_8 S_syndromes_8 S_locator_8 S_helper_8 S_kept_8 S_evaluator_8 S_places_8 S_fixes_8 C_count_23 C_places C_differences r_8 (0 : Int32) H locs ls h hP hD hS (lv_sub hl [2, 1, 0] rfl)
  · have h := h.2 g14
    refine lv_iconst (v := (-1 : Int32)) hx hb d_RS_repair_17 (by decide) ?_
    exact RET (-1 : Int32) W_lostCount W_bytes W_lost S_found_8 S_syndromes_8 S_locator_8 S_helper_8 S_kept_8 S_evaluator_8 S_places_8 S_fixes_8 C_count C_places C_differences H locs ls 18 d_RS_repair_18 h hP hD hS
abbrev wd_RS_changed (aC aC_places aC_differences aR aF aW aS aP aH : Nat) (cI cZ : ClassId) (C_count : Int32) (C_places : Nat → Int32) (C_differences : Nat → Int32) : va_W := [(aC, .inr (0, [.ref aC_places, .ref aC_differences, .int C_count])), (aC_places, .inl (cI, 40, .inl C_places)), (aC_differences, .inl (cI, 40, .inl C_differences)), (aR, .inr (6, [.ref aF, .ref aW, .ref aS, .ref aC, .ref aP, .ref aH]))]
def wp_RS_changed_b15 (C_count : Int32) (C_places : Nat → Int32) (C_differences : Nat → Int32) (post : Int32 → Prop)   : Prop := post (-1 : Int32)
def wp_RS_changed_b49 (C_count : Int32) (C_places : Nat → Int32) (C_differences : Nat → Int32) (post : Int32 → Prop)  (t0 : Int32) : Prop := post t0
def wp_RS_changed (C_count : Int32) (C_places : Nat → Int32) (C_differences : Nat → Int32) (p1 : Int32) (p2 : Int32) (post : Int32 → Prop) : Prop := (p1 < 0 → (wp_RS_changed_b15 C_count C_places C_differences post  )) ∧ (¬ p1 < 0 → ((p1 < C_count → ((¬ p2 = 0 → ((¬ p2 = (1 : Int32) → (wp_RS_changed_b49 C_count C_places C_differences post  (-1 : Int32))) ∧ (p2 = (1 : Int32) → (vp_in p1 40 ∧ (wp_RS_changed_b49 C_count C_places C_differences post  (C_differences p1.toNatClampNeg)))))) ∧ (p2 = 0 → (vp_in p1 40 ∧ (post (C_places p1.toNatClampNeg)))))) ∧ (¬ p1 < C_count → (wp_RS_changed_b15 C_count C_places C_differences post  ))))
abbrev rm_RS_changed : Room := { frames := 0, cells := 0, slots := 0, locals := 0 }
set_option maxHeartbeats 4000000 in
set_option maxRecDepth 100000 in
theorem ct_RS_changed (l : Launch) (dC : Nat → ClassId) (dI : Nat → Nat → Nat) (aC aC_places aC_differences aR aF aW aS aP aH : Nat) (cI cZ : ClassId) (C_count : Int32) (C_places : Nat → Int32) (C_differences : Nat → Int32) (p1 : Int32) (p2 : Int32) (post : Int32 → Prop) (h : wp_RS_changed C_count C_places C_differences p1 p2 post) (sz : Nat) : Met l y_RS_changed (Cond.code y_RS_changed c_RS_changed 3 (some .int) :: tb) rm_RS_changed (mt_P (dC, dI) vwCl [(cI, .int), (cZ, .boolean)] [.ref aR, .int p1, .int p2] (wd_RS_changed aC aC_places aC_differences aR aF aW aS aP aH cI cZ C_count C_places C_differences) sz) (va_Qi (fun (r : Int32) (u : Unit) => post r) (mt_B (dC, dI) vwCl [(cI, .int), (cZ, .boolean)] (wd_RS_changed aC aC_places aC_differences aR aF aW aS aP aH cI cZ C_count C_places C_differences) sz (fun u : Unit => wd_RS_changed aC aC_places aC_differences aR aF aW aS aP aH cI cZ C_count C_places C_differences)) (va_A (wd_RS_changed aC aC_places aC_differences aR aF aW aS aP aH cI cZ C_count C_places C_differences) sz)) 0 0 (va_A (wd_RS_changed aC aC_places aC_differences aR aF aW aS aP aH cI cZ C_count C_places C_differences) sz) := by
  refine mt_bd (by decide +kernel) (Nat.le_of_ble_eq_true rfl) ?_
  intro p e s m args below meth c hx hb hml hown hts hr hlk hnm hsz hP hK hD hA hS ls hl
  subst hsz
  have hown : s.vm.findClass "ReedSets" = some m.cls := hown
  have hl : lv_has ls 3 [(0, .ref aR), (1, .int p1), (2, .int p2)] := hl
  refine lz_Q (fun Q hQ => ?_)
  obtain ⟨A, hAe⟩ : ∃ A : Nat → Prop, A = va_A (wd_RS_changed aC aC_places aC_differences aR aF aW aS aP aH cI cZ C_count C_places C_differences) s.heap.size := ⟨_, rfl⟩
  rw [← hAe] at hD hA hS
  have RET : ∀ (v : Int32)  (H : Heap) (locs : List Loc) (ls : Array Slot) (pc : Nat), decode c_RS_changed pc = .ok (.ireturn, 1) → post v  → va_P (dC, dI) vwCl (wd_RS_changed aC aC_places aC_differences aR aF aW aS aP aH cI cZ C_count C_places C_differences) H → va_D A (wd_RS_changed aC aC_places aC_differences aR aF aW aS aP aH cI cZ C_count C_places C_differences) → va_S A s.heap H locs → W p l e rm_RS_changed s m args below meth c H locs 0 0 Q (F0 m pc ls [.int v]) := by
    intro v  H locs ls pc hd hp h1 h2 h3
    rw [hQ]
    rw [hAe] at h2 h3
    exact mt_reti () hx hb hr hlk hd hK h1 h2 h3 hp
  have B15 : ∀  (H : Heap) (locs : List Loc) (ls : Array Slot), wp_RS_changed_b15 C_count C_places C_differences post   → va_P (dC, dI) vwCl (wd_RS_changed aC aC_places aC_differences aR aF aW aS aP aH cI cZ C_count C_places C_differences) H → va_D A (wd_RS_changed aC aC_places aC_differences aR aF aW aS aP aH cI cZ C_count C_places C_differences) → va_S A s.heap H locs → lv_has ls 3 [] → W p l e rm_RS_changed s m args below meth c H locs 0 0 Q (F0 m 15 ls []) := by
    intro   H locs ls h hP hD hS hl
    refine lv_iconst (v := (-1 : Int32)) hx hb d_RS_changed_15 (by decide) ?_
    exact RET (-1 : Int32) H locs ls 16 d_RS_changed_16 h hP hD hS
  have B49 : ∀ (t0 : Int32) (H : Heap) (locs : List Loc) (ls : Array Slot), wp_RS_changed_b49 C_count C_places C_differences post  t0 → va_P (dC, dI) vwCl (wd_RS_changed aC aC_places aC_differences aR aF aW aS aP aH cI cZ C_count C_places C_differences) H → va_D A (wd_RS_changed aC aC_places aC_differences aR aF aW aS aP aH cI cZ C_count C_places C_differences) → va_S A s.heap H locs → lv_has ls 3 [] → W p l e rm_RS_changed s m args below meth c H locs 0 0 Q (F0 m 49 ls [.int t0]) := by
    intro  t0 H locs ls h hP hD hS hl
    exact RET t0 H locs ls 49 d_RS_changed_49 h hP hD hS
  obtain ⟨H, hH⟩ : ∃ H : Heap, H = s.heap := ⟨_, rfl⟩
  obtain ⟨locs, hlo⟩ : ∃ x : List Loc, x = [] := ⟨_, rfl⟩
  have hS : va_S A s.heap H locs := by rw [hH, hlo]; exact hS
  rw [← hH] at hP
  rw [← hlo]
  show W p l e rm_RS_changed s m args below meth c s.heap locs 0 0 Q (F0 m 0 ls [])
  rw [← hH]
  refine lv_iload_n hx hb d_RS_changed_0 rfl (lv_at hl 1 rfl) ?_
  refine lv_if_lt (tgt := 15) hx hb d_RS_changed_1 (by decide) (fun g1 => ?_) (fun g1 => ?_)
  · have h := h.1 g1
    exact B15   H locs ls h hP hD hS (lv_sub hl [] rfl)
  · have h := h.2 g1
    refine lv_iload_n hx hb d_RS_changed_4 rfl (lv_at hl 1 rfl) ?_
    refine lv_aload_n hx hb d_RS_changed_5 rfl (lv_at hl 0 rfl) ?_
    refine va_get (D := (dC, dI)) (ci := 6) (v := .ref aC) (C := "ReedSets") (T := T_RS) (N := 6) hx hb hts in_RS hown hK hP 3 rfl rfl 3 (by decide) (hts _ tb_278) (fun _ h9 => h9) rfl d_RS_changed_6 ?_
    refine va_get (D := (dC, dI)) (ci := 0) (v := .int C_count) (C := "ReedSets$Changes") (T := T_Ch) (N := 3) hx hb hts in_Ch hown hK hP 0 rfl rfl 2 (by decide) (hts _ tb_188) (fun _ h9 => h9) rfl d_RS_changed_9 ?_
    refine lv_icmp_lt (tgt := 17) hx hb d_RS_changed_12 (by decide) (fun g12 => ?_) (fun g12 => ?_)
    · have h := h.1 g12
      refine lv_iload_n hx hb d_RS_changed_17 rfl (lv_at hl 2 rfl) ?_
      refine lv_if_ne (tgt := 31) hx hb d_RS_changed_18 (by decide) (fun g18 => ?_) (fun g18 => ?_)
      · have h := h.1 g18
        refine lv_iload_n hx hb d_RS_changed_31 rfl (lv_at hl 2 rfl) ?_
        refine lv_iconst (v := (1 : Int32)) hx hb d_RS_changed_32 (by decide) ?_
        refine lv_icmp_ne (tgt := 48) hx hb d_RS_changed_33 (by decide) (fun g33 => ?_) (fun g33 => ?_)
        · have h := h.1 g33
          refine lv_iconst (v := (-1 : Int32)) hx hb d_RS_changed_48 (by decide) ?_
          exact B49  (-1 : Int32) H locs ls h hP hD hS (lv_sub hl [] rfl)
        · have h := h.2 g33
          refine lv_aload_n hx hb d_RS_changed_36 rfl (lv_at hl 0 rfl) ?_
          refine va_get (D := (dC, dI)) (ci := 6) (v := .ref aC) (C := "ReedSets") (T := T_RS) (N := 6) hx hb hts in_RS hown hK hP 3 rfl rfl 3 (by decide) (hts _ tb_278) (fun _ h9 => h9) rfl d_RS_changed_37 ?_
          refine va_get (D := (dC, dI)) (ci := 0) (v := .ref aC_differences) (C := "ReedSets$Changes") (T := T_Ch) (N := 3) hx hb hts in_Ch hown hK hP 0 rfl rfl 1 (by decide) (hts _ tb_186) (fun _ h9 => h9) rfl d_RS_changed_40 ?_
          refine lv_iload_n hx hb d_RS_changed_43 rfl (lv_at hl 1 rfl) ?_
          obtain ⟨hi, h⟩ := h
          refine va_iald hx hb hK hP 2 0 rfl rfl hi d_RS_changed_44 ?_
          refine lv_goto (tgt := 49) hx hb d_RS_changed_45 (by decide) ?_
          exact B49  (C_differences p1.toNatClampNeg) H locs ls h hP hD hS (lv_sub hl [] rfl)
      · have h := h.2 g18
        refine lv_aload_n hx hb d_RS_changed_21 rfl (lv_at hl 0 rfl) ?_
        refine va_get (D := (dC, dI)) (ci := 6) (v := .ref aC) (C := "ReedSets") (T := T_RS) (N := 6) hx hb hts in_RS hown hK hP 3 rfl rfl 3 (by decide) (hts _ tb_278) (fun _ h9 => h9) rfl d_RS_changed_22 ?_
        refine va_get (D := (dC, dI)) (ci := 0) (v := .ref aC_places) (C := "ReedSets$Changes") (T := T_Ch) (N := 3) hx hb hts in_Ch hown hK hP 0 rfl rfl 0 (by decide) (hts _ tb_184) (fun _ h9 => h9) rfl d_RS_changed_25 ?_
        refine lv_iload_n hx hb d_RS_changed_28 rfl (lv_at hl 1 rfl) ?_
        obtain ⟨hi, h⟩ := h
        refine va_iald hx hb hK hP 1 0 rfl rfl hi d_RS_changed_29 ?_
        exact RET (C_places p1.toNatClampNeg) H locs ls 30 d_RS_changed_30 h hP hD hS
    · have h := h.2 g12
      exact B15   H locs ls h hP hD hS (lv_sub hl [] rfl)
abbrev wd_RS_mayFollow  (cI cZ : ClassId)  : va_W := []
def wp_RS_mayFollow_b17  (post : Int32 → Prop)  (t0 : Int32) : Prop := narrow .boolean (.int t0) = .int t0 ∧ (post t0)
def wp_RS_mayFollow_b12  (post : Int32 → Prop)   : Prop := wp_RS_mayFollow_b17 post  (1 : Int32)
def wp_RS_mayFollow (p0 : Int32) (post : Int32 → Prop) : Prop := (p0 = (-1 : Int32) → (wp_RS_mayFollow_b12 post  )) ∧ (¬ p0 = (-1 : Int32) → (wp_Fi_isByte p0 (fun r_6 => ((r_6 = 0 → (wp_RS_mayFollow_b17 post  (0 : Int32))) ∧ (¬ r_6 = 0 → (wp_RS_mayFollow_b12 post  ))))))
abbrev rm_RS_mayFollow : Room := { frames := 1, cells := 0, slots := 0, locals := 20 }
set_option maxHeartbeats 4000000 in
set_option maxRecDepth 100000 in
theorem ct_RS_mayFollow (l : Launch) (dC : Nat → ClassId) (dI : Nat → Nat → Nat)  (cI cZ : ClassId)  (p0 : Int32) (post : Int32 → Prop) (h : wp_RS_mayFollow p0 post) (sz : Nat) : Met l y_RS_mayFollow (Cond.code y_RS_mayFollow c_RS_mayFollow 1 (some .boolean) :: tb) rm_RS_mayFollow (mt_P (dC, dI) vwCl [(cI, .int), (cZ, .boolean)] [.int p0] (wd_RS_mayFollow cI cZ) sz) (va_Qi (fun (r : Int32) (u : Unit) => post r) (mt_B (dC, dI) vwCl [(cI, .int), (cZ, .boolean)] (wd_RS_mayFollow cI cZ) sz (fun u : Unit => wd_RS_mayFollow cI cZ)) (va_A (wd_RS_mayFollow cI cZ) sz)) 0 0 (va_A (wd_RS_mayFollow cI cZ) sz) := by
  refine mt_bd (by decide +kernel) (Nat.le_of_ble_eq_true rfl) ?_
  intro p e s m args below meth c hx hb hml hown hts hr hlk hnm hsz hP hK hD hA hS ls hl
  subst hsz
  have hown : s.vm.findClass "ReedSets" = some m.cls := hown
  have hl : lv_has ls 1 [(0, .int p0)] := hl
  refine lz_Q (fun Q hQ => ?_)
  obtain ⟨A, hAe⟩ : ∃ A : Nat → Prop, A = va_A (wd_RS_mayFollow cI cZ) s.heap.size := ⟨_, rfl⟩
  rw [← hAe] at hD hA hS
  have RET : ∀ (v : Int32)  (H : Heap) (locs : List Loc) (ls : Array Slot) (pc : Nat), decode c_RS_mayFollow pc = .ok (.ireturn, 1) → narrow .boolean (.int v) = .int v → post v  → va_P (dC, dI) vwCl (wd_RS_mayFollow cI cZ) H → va_D A (wd_RS_mayFollow cI cZ) → va_S A s.heap H locs → W p l e rm_RS_mayFollow s m args below meth c H locs 0 0 Q (F0 m pc ls [.int v]) := by
    intro v  H locs ls pc hd hz hp h1 h2 h3
    rw [hQ]
    rw [hAe] at h2 h3
    exact mt_retz () hx hb hr hlk hd hK h1 h2 h3 hz hp
  have B17 : ∀ (t0 : Int32) (H : Heap) (locs : List Loc) (ls : Array Slot), wp_RS_mayFollow_b17 post  t0 → va_P (dC, dI) vwCl (wd_RS_mayFollow cI cZ) H → va_D A (wd_RS_mayFollow cI cZ) → va_S A s.heap H locs → lv_has ls 1 [] → W p l e rm_RS_mayFollow s m args below meth c H locs 0 0 Q (F0 m 17 ls [.int t0]) := by
    intro  t0 H locs ls h hP hD hS hl
    obtain ⟨hz, h⟩ := h
    exact RET t0 H locs ls 17 d_RS_mayFollow_17 hz h hP hD hS
  have B12 : ∀  (H : Heap) (locs : List Loc) (ls : Array Slot), wp_RS_mayFollow_b12 post   → va_P (dC, dI) vwCl (wd_RS_mayFollow cI cZ) H → va_D A (wd_RS_mayFollow cI cZ) → va_S A s.heap H locs → lv_has ls 1 [] → W p l e rm_RS_mayFollow s m args below meth c H locs 0 0 Q (F0 m 12 ls []) := by
    intro   H locs ls h hP hD hS hl
    refine lv_iconst (v := (1 : Int32)) hx hb d_RS_mayFollow_12 (by decide) ?_
    refine lv_goto (tgt := 17) hx hb d_RS_mayFollow_13 (by decide) ?_
    exact B17  (1 : Int32) H locs ls h hP hD hS (lv_sub hl [] rfl)
  obtain ⟨H, hH⟩ : ∃ H : Heap, H = s.heap := ⟨_, rfl⟩
  obtain ⟨locs, hlo⟩ : ∃ x : List Loc, x = [] := ⟨_, rfl⟩
  have hS : va_S A s.heap H locs := by rw [hH, hlo]; exact hS
  rw [← hH] at hP
  rw [← hlo]
  show W p l e rm_RS_mayFollow s m args below meth c s.heap locs 0 0 Q (F0 m 0 ls [])
  rw [← hH]
  refine lv_iload_n hx hb d_RS_mayFollow_0 rfl (lv_at hl 0 rfl) ?_
  refine lv_iconst (v := (-1 : Int32)) hx hb d_RS_mayFollow_1 (by decide) ?_
  refine lv_icmp_eq (tgt := 12) hx hb d_RS_mayFollow_2 (by decide) (fun g2 => ?_) (fun g2 => ?_)
  · have h := h.1 g2
    exact B12   H locs ls h hP hD hS (lv_sub hl [] rfl)
  · have h := h.2 g2
    refine lv_iload_n hx hb d_RS_mayFollow_5 rfl (lv_at hl 0 rfl) ?_
    refine mt_i (va_runS (As := [.int p0]) (rest := []) ⟨hx, hb, hml, hown, hts⟩ (ct_Fi_isByte l dC dI  cI cZ p0 _ h _) (tb_cS hts ok_Fi_isByte tb_298 rfl rfl ⟨Nat.le_of_ble_eq_true rfl, Nat.le_of_ble_eq_true rfl⟩) (mt_preS hK hP hD [.int p0] [] rfl (by decide)) rfl rfl hl.1 rfl (lv_room (Nat.le_of_ble_eq_true rfl)) d_RS_mayFollow_6 ⟨Nat.zero_le _, Nat.zero_le _⟩) hP hD hS hA [] rfl (fun _ => rfl) (fun r_6 u H locs h hP hD hS => ?_)
    have hP : va_P (dC, dI) vwCl (wd_RS_mayFollow cI cZ) H := hP
    have hD : va_D A (wd_RS_mayFollow cI cZ) := hD
    refine lv_if_eq (tgt := 16) hx hb d_RS_mayFollow_9 (by decide) (fun g9 => ?_) (fun g9 => ?_)
    · have h := h.1 g9
      refine lv_iconst (v := (0 : Int32)) hx hb d_RS_mayFollow_16 (by decide) ?_
      exact B17  (0 : Int32) H locs ls h hP hD hS (lv_sub hl [] rfl)
    · have h := h.2 g9
      exact B12   H locs ls h hP hD hS (lv_sub hl [] rfl)
abbrev wd_RS_counted  (cI cZ : ClassId)  : va_W := []
def wp_RS_counted_b10  (post : Int32 → Prop)  (t0 : Int32) : Prop := post t0
def wp_RS_counted (p0 : Int32) (post : Int32 → Prop) : Prop := (¬ p0 = (-1 : Int32) → (wp_RS_counted_b10 post  (1 : Int32))) ∧ (p0 = (-1 : Int32) → (wp_RS_counted_b10 post  (0 : Int32)))
abbrev rm_RS_counted : Room := { frames := 0, cells := 0, slots := 0, locals := 0 }
set_option maxHeartbeats 4000000 in
set_option maxRecDepth 100000 in
theorem ct_RS_counted (l : Launch) (dC : Nat → ClassId) (dI : Nat → Nat → Nat)  (cI cZ : ClassId)  (p0 : Int32) (post : Int32 → Prop) (h : wp_RS_counted p0 post) (sz : Nat) : Met l y_RS_counted (Cond.code y_RS_counted c_RS_counted 1 (some .int) :: tb) rm_RS_counted (mt_P (dC, dI) vwCl [(cI, .int), (cZ, .boolean)] [.int p0] (wd_RS_counted cI cZ) sz) (va_Qi (fun (r : Int32) (u : Unit) => post r) (mt_B (dC, dI) vwCl [(cI, .int), (cZ, .boolean)] (wd_RS_counted cI cZ) sz (fun u : Unit => wd_RS_counted cI cZ)) (va_A (wd_RS_counted cI cZ) sz)) 0 0 (va_A (wd_RS_counted cI cZ) sz) := by
  refine mt_bd (by decide +kernel) (Nat.le_of_ble_eq_true rfl) ?_
  intro p e s m args below meth c hx hb hml hown hts hr hlk hnm hsz hP hK hD hA hS ls hl
  subst hsz
  have hown : s.vm.findClass "ReedSets" = some m.cls := hown
  have hl : lv_has ls 1 [(0, .int p0)] := hl
  refine lz_Q (fun Q hQ => ?_)
  obtain ⟨A, hAe⟩ : ∃ A : Nat → Prop, A = va_A (wd_RS_counted cI cZ) s.heap.size := ⟨_, rfl⟩
  rw [← hAe] at hD hA hS
  have RET : ∀ (v : Int32)  (H : Heap) (locs : List Loc) (ls : Array Slot) (pc : Nat), decode c_RS_counted pc = .ok (.ireturn, 1) → post v  → va_P (dC, dI) vwCl (wd_RS_counted cI cZ) H → va_D A (wd_RS_counted cI cZ) → va_S A s.heap H locs → W p l e rm_RS_counted s m args below meth c H locs 0 0 Q (F0 m pc ls [.int v]) := by
    intro v  H locs ls pc hd hp h1 h2 h3
    rw [hQ]
    rw [hAe] at h2 h3
    exact mt_reti () hx hb hr hlk hd hK h1 h2 h3 hp
  have B10 : ∀ (t0 : Int32) (H : Heap) (locs : List Loc) (ls : Array Slot), wp_RS_counted_b10 post  t0 → va_P (dC, dI) vwCl (wd_RS_counted cI cZ) H → va_D A (wd_RS_counted cI cZ) → va_S A s.heap H locs → lv_has ls 1 [] → W p l e rm_RS_counted s m args below meth c H locs 0 0 Q (F0 m 10 ls [.int t0]) := by
    intro  t0 H locs ls h hP hD hS hl
    exact RET t0 H locs ls 10 d_RS_counted_10 h hP hD hS
  obtain ⟨H, hH⟩ : ∃ H : Heap, H = s.heap := ⟨_, rfl⟩
  obtain ⟨locs, hlo⟩ : ∃ x : List Loc, x = [] := ⟨_, rfl⟩
  have hS : va_S A s.heap H locs := by rw [hH, hlo]; exact hS
  rw [← hH] at hP
  rw [← hlo]
  show W p l e rm_RS_counted s m args below meth c s.heap locs 0 0 Q (F0 m 0 ls [])
  rw [← hH]
  refine lv_iload_n hx hb d_RS_counted_0 rfl (lv_at hl 0 rfl) ?_
  refine lv_iconst (v := (-1 : Int32)) hx hb d_RS_counted_1 (by decide) ?_
  refine lv_icmp_ne (tgt := 9) hx hb d_RS_counted_2 (by decide) (fun g2 => ?_) (fun g2 => ?_)
  · have h := h.1 g2
    refine lv_iconst (v := (1 : Int32)) hx hb d_RS_counted_9 (by decide) ?_
    exact B10  (1 : Int32) H locs ls h hP hD hS (lv_sub hl [] rfl)
  · have h := h.2 g2
    refine lv_iconst (v := (0 : Int32)) hx hb d_RS_counted_5 (by decide) ?_
    refine lv_goto (tgt := 10) hx hb d_RS_counted_6 (by decide) ?_
    exact B10  (0 : Int32) H locs ls h hP hD hS (lv_sub hl [] rfl)
abbrev wd_RS_block (aP aP_block aP_original aP_lost aV aP_current aR aF aW aS aC aH : Nat) (cI cZ : ClassId) (P_size : Int32) (P_stripes : Int32) (P_sentCount : Int32) (P_block : Nat → Int32) : va_W := [(aP, .inr (4, [.ref aP_block, .ref aP_original, .ref aP_lost, .ref aV, .ref aP_current, .int P_size, .int P_stripes, .int P_sentCount])), (aP_block, .inl (cI, 800, .inl P_block)), (aR, .inr (6, [.ref aF, .ref aW, .ref aS, .ref aC, .ref aP, .ref aH]))]
def wp_RS_block_b29  (post : Int32 → Int32 → Int32 → Int32 → (Nat → Int32) → Prop)  (P_size : Int32) (P_stripes : Int32) (P_sentCount : Int32) (P_block : Nat → Int32) : Prop := post (-1 : Int32) P_size P_stripes P_sentCount P_block
def wp_RS_block (P_size : Int32) (P_stripes : Int32) (P_sentCount : Int32) (P_block : Nat → Int32) (p1 : Int32) (p2 : Int32) (p3 : Int32) (p4 : Int32) (post : Int32 → Int32 → Int32 → Int32 → (Nat → Int32) → Prop) : Prop := wp_RS_mayFollow p1 (fun r_1 => ((r_1 = 0 → (wp_RS_block_b29 post  P_size P_stripes P_sentCount P_block)) ∧ (¬ r_1 = 0 → (wp_RS_mayFollow p2 (fun r_8 => ((r_8 = 0 → (wp_RS_block_b29 post  P_size P_stripes P_sentCount P_block)) ∧ (¬ r_8 = 0 → (wp_RS_mayFollow p3 (fun r_15 => ((r_15 = 0 → (wp_RS_block_b29 post  P_size P_stripes P_sentCount P_block)) ∧ (¬ r_15 = 0 → (wp_RS_mayFollow p4 (fun r_23 => ((¬ r_23 = 0 → (wp_RS_counted p1 (fun r_32 => (wp_RS_counted p2 (fun r_36 => (wp_RS_counted p3 (fun r_41 => (wp_RS_counted p4 (fun r_47 => (∀ x5_51 : Int32, x5_51 = (((r_32 + r_36) + r_41) + r_47) → (((P_size + x5_51) ≤ (800 : Int32) → (wp_St_append P_size P_block p1 (fun P_size_76 P_block_76 => (wp_St_append P_size_76 P_block_76 p2 (fun P_size_84 P_block_84 => (wp_St_append P_size_84 P_block_84 p3 (fun P_size_92 P_block_92 => (wp_St_append P_size_92 P_block_92 p4 (fun P_size_101 P_block_101 => (wp_St_takeUp P_stripes P_sentCount (fun P_stripes_108 P_sentCount_108 => (post P_size_101 P_size_101 P_stripes_108 P_sentCount_108 P_block_101)))))))))))) ∧ (¬ (P_size + x5_51) ≤ (800 : Int32) → (post (-1 : Int32) P_size P_stripes P_sentCount P_block))))))))))))) ∧ (r_23 = 0 → (wp_RS_block_b29 post  P_size P_stripes P_sentCount P_block))))))))))))))))
abbrev rm_RS_block : Room := { frames := 2, cells := 0, slots := 0, locals := 40 }
set_option maxHeartbeats 4000000 in
set_option maxRecDepth 100000 in
theorem ct_RS_block (l : Launch) (dC : Nat → ClassId) (dI : Nat → Nat → Nat) (aP aP_block aP_original aP_lost aV aP_current aR aF aW aS aC aH : Nat) (cI cZ : ClassId) (P_size : Int32) (P_stripes : Int32) (P_sentCount : Int32) (P_block : Nat → Int32) (p1 : Int32) (p2 : Int32) (p3 : Int32) (p4 : Int32) (post : Int32 → Int32 → Int32 → Int32 → (Nat → Int32) → Prop) (h : wp_RS_block P_size P_stripes P_sentCount P_block p1 p2 p3 p4 post) (sz : Nat) : Met l y_RS_block (Cond.code y_RS_block c_RS_block 6 (some .int) :: tb) rm_RS_block (mt_P (dC, dI) vwCl [(cI, .int), (cZ, .boolean)] [.ref aR, .int p1, .int p2, .int p3, .int p4] (wd_RS_block aP aP_block aP_original aP_lost aV aP_current aR aF aW aS aC aH cI cZ P_size P_stripes P_sentCount P_block) sz) (va_Qi (fun (r : Int32) (u : Int32 × Int32 × Int32 × (Nat → Int32)) => post r u.1 u.2.1 u.2.2.1 u.2.2.2) (mt_B (dC, dI) vwCl [(cI, .int), (cZ, .boolean)] (wd_RS_block aP aP_block aP_original aP_lost aV aP_current aR aF aW aS aC aH cI cZ P_size P_stripes P_sentCount P_block) sz (fun u : Int32 × Int32 × Int32 × (Nat → Int32) => wd_RS_block aP aP_block aP_original aP_lost aV aP_current aR aF aW aS aC aH cI cZ u.1 u.2.1 u.2.2.1 u.2.2.2)) (va_A (wd_RS_block aP aP_block aP_original aP_lost aV aP_current aR aF aW aS aC aH cI cZ P_size P_stripes P_sentCount P_block) sz)) 0 0 (va_A (wd_RS_block aP aP_block aP_original aP_lost aV aP_current aR aF aW aS aC aH cI cZ P_size P_stripes P_sentCount P_block) sz) := by
  refine mt_bd (by decide +kernel) (Nat.le_of_ble_eq_true rfl) ?_
  intro p e s m args below meth c hx hb hml hown hts hr hlk hnm hsz hP hK hD hA hS ls hl
  subst hsz
  have hown : s.vm.findClass "ReedSets" = some m.cls := hown
  have hl : lv_has ls 6 [(0, .ref aR), (1, .int p1), (2, .int p2), (3, .int p3), (4, .int p4)] := hl
  refine lz_Q (fun Q hQ => ?_)
  obtain ⟨A, hAe⟩ : ∃ A : Nat → Prop, A = va_A (wd_RS_block aP aP_block aP_original aP_lost aV aP_current aR aF aW aS aC aH cI cZ P_size P_stripes P_sentCount P_block) s.heap.size := ⟨_, rfl⟩
  rw [← hAe] at hD hA hS
  have RET : ∀ (v : Int32) (P_size : Int32) (P_stripes : Int32) (P_sentCount : Int32) (P_block : Nat → Int32) (H : Heap) (locs : List Loc) (ls : Array Slot) (pc : Nat), decode c_RS_block pc = .ok (.ireturn, 1) → post v P_size P_stripes P_sentCount P_block → va_P (dC, dI) vwCl (wd_RS_block aP aP_block aP_original aP_lost aV aP_current aR aF aW aS aC aH cI cZ P_size P_stripes P_sentCount P_block) H → va_D A (wd_RS_block aP aP_block aP_original aP_lost aV aP_current aR aF aW aS aC aH cI cZ P_size P_stripes P_sentCount P_block) → va_S A s.heap H locs → W p l e rm_RS_block s m args below meth c H locs 0 0 Q (F0 m pc ls [.int v]) := by
    intro v P_size P_stripes P_sentCount P_block H locs ls pc hd hp h1 h2 h3
    rw [hQ]
    rw [hAe] at h2 h3
    exact mt_reti (P_size, P_stripes, P_sentCount, P_block) hx hb hr hlk hd hK h1 h2 h3 hp
  have B29 : ∀ (P_size : Int32) (P_stripes : Int32) (P_sentCount : Int32) (P_block : Nat → Int32) (H : Heap) (locs : List Loc) (ls : Array Slot), wp_RS_block_b29 post  P_size P_stripes P_sentCount P_block → va_P (dC, dI) vwCl (wd_RS_block aP aP_block aP_original aP_lost aV aP_current aR aF aW aS aC aH cI cZ P_size P_stripes P_sentCount P_block) H → va_D A (wd_RS_block aP aP_block aP_original aP_lost aV aP_current aR aF aW aS aC aH cI cZ P_size P_stripes P_sentCount P_block) → va_S A s.heap H locs → lv_has ls 6 [] → W p l e rm_RS_block s m args below meth c H locs 0 0 Q (F0 m 29 ls []) := by
    intro  P_size P_stripes P_sentCount P_block H locs ls h hP hD hS hl
    refine lv_iconst (v := (-1 : Int32)) hx hb d_RS_block_29 (by decide) ?_
    exact RET (-1 : Int32) P_size P_stripes P_sentCount P_block H locs ls 30 d_RS_block_30 h hP hD hS
  obtain ⟨H, hH⟩ : ∃ H : Heap, H = s.heap := ⟨_, rfl⟩
  obtain ⟨locs, hlo⟩ : ∃ x : List Loc, x = [] := ⟨_, rfl⟩
  have hS : va_S A s.heap H locs := by rw [hH, hlo]; exact hS
  rw [← hH] at hP
  rw [← hlo]
  show W p l e rm_RS_block s m args below meth c s.heap locs 0 0 Q (F0 m 0 ls [])
  rw [← hH]
  refine lv_iload_n hx hb d_RS_block_0 rfl (lv_at hl 1 rfl) ?_
  refine mt_i (va_runS (As := [.int p1]) (rest := []) ⟨hx, hb, hml, hown, hts⟩ (ct_RS_mayFollow l dC dI  cI cZ p1 _ h _) (tb_cS hts ok_RS_mayFollow tb_490 rfl rfl ⟨Nat.le_of_ble_eq_true rfl, Nat.le_of_ble_eq_true rfl⟩) (mt_preS hK hP hD [.int p1] [] rfl (by decide)) rfl rfl hl.1 rfl (lv_room (Nat.le_of_ble_eq_true rfl)) d_RS_block_1 ⟨Nat.zero_le _, Nat.zero_le _⟩) hP hD hS hA [] rfl (fun _ => rfl) (fun r_1 u H locs h hP hD hS => ?_)
  have hP : va_P (dC, dI) vwCl (wd_RS_block aP aP_block aP_original aP_lost aV aP_current aR aF aW aS aC aH cI cZ P_size P_stripes P_sentCount P_block) H := hP
  have hD : va_D A (wd_RS_block aP aP_block aP_original aP_lost aV aP_current aR aF aW aS aC aH cI cZ P_size P_stripes P_sentCount P_block) := hD
  refine lv_if_eq (tgt := 29) hx hb d_RS_block_4 (by decide) (fun g4 => ?_) (fun g4 => ?_)
  · have h := h.1 g4
    exact B29  P_size P_stripes P_sentCount P_block H locs ls h hP hD hS (lv_sub hl [] rfl)
  · have h := h.2 g4
    refine lv_iload_n hx hb d_RS_block_7 rfl (lv_at hl 2 rfl) ?_
    refine mt_i (va_runS (As := [.int p2]) (rest := []) ⟨hx, hb, hml, hown, hts⟩ (ct_RS_mayFollow l dC dI  cI cZ p2 _ h _) (tb_cS hts ok_RS_mayFollow tb_490 rfl rfl ⟨Nat.le_of_ble_eq_true rfl, Nat.le_of_ble_eq_true rfl⟩) (mt_preS hK hP hD [.int p2] [] rfl (by decide)) rfl rfl hl.1 rfl (lv_room (Nat.le_of_ble_eq_true rfl)) d_RS_block_8 ⟨Nat.zero_le _, Nat.zero_le _⟩) hP hD hS hA [] rfl (fun _ => rfl) (fun r_8 u H locs h hP hD hS => ?_)
    have hP : va_P (dC, dI) vwCl (wd_RS_block aP aP_block aP_original aP_lost aV aP_current aR aF aW aS aC aH cI cZ P_size P_stripes P_sentCount P_block) H := hP
    have hD : va_D A (wd_RS_block aP aP_block aP_original aP_lost aV aP_current aR aF aW aS aC aH cI cZ P_size P_stripes P_sentCount P_block) := hD
    refine lv_if_eq (tgt := 29) hx hb d_RS_block_11 (by decide) (fun g11 => ?_) (fun g11 => ?_)
    · have h := h.1 g11
      exact B29  P_size P_stripes P_sentCount P_block H locs ls h hP hD hS (lv_sub hl [] rfl)
    · have h := h.2 g11
      refine lv_iload_n hx hb d_RS_block_14 rfl (lv_at hl 3 rfl) ?_
      refine mt_i (va_runS (As := [.int p3]) (rest := []) ⟨hx, hb, hml, hown, hts⟩ (ct_RS_mayFollow l dC dI  cI cZ p3 _ h _) (tb_cS hts ok_RS_mayFollow tb_490 rfl rfl ⟨Nat.le_of_ble_eq_true rfl, Nat.le_of_ble_eq_true rfl⟩) (mt_preS hK hP hD [.int p3] [] rfl (by decide)) rfl rfl hl.1 rfl (lv_room (Nat.le_of_ble_eq_true rfl)) d_RS_block_15 ⟨Nat.zero_le _, Nat.zero_le _⟩) hP hD hS hA [] rfl (fun _ => rfl) (fun r_15 u H locs h hP hD hS => ?_)
      have hP : va_P (dC, dI) vwCl (wd_RS_block aP aP_block aP_original aP_lost aV aP_current aR aF aW aS aC aH cI cZ P_size P_stripes P_sentCount P_block) H := hP
      have hD : va_D A (wd_RS_block aP aP_block aP_original aP_lost aV aP_current aR aF aW aS aC aH cI cZ P_size P_stripes P_sentCount P_block) := hD
      refine lv_if_eq (tgt := 29) hx hb d_RS_block_18 (by decide) (fun g18 => ?_) (fun g18 => ?_)
      · have h := h.1 g18
        exact B29  P_size P_stripes P_sentCount P_block H locs ls h hP hD hS (lv_sub hl [] rfl)
      · have h := h.2 g18
        refine lv_iload hx hb d_RS_block_21 (lv_at hl 4 rfl) ?_
        refine mt_i (va_runS (As := [.int p4]) (rest := []) ⟨hx, hb, hml, hown, hts⟩ (ct_RS_mayFollow l dC dI  cI cZ p4 _ h _) (tb_cS hts ok_RS_mayFollow tb_490 rfl rfl ⟨Nat.le_of_ble_eq_true rfl, Nat.le_of_ble_eq_true rfl⟩) (mt_preS hK hP hD [.int p4] [] rfl (by decide)) rfl rfl hl.1 rfl (lv_room (Nat.le_of_ble_eq_true rfl)) d_RS_block_23 ⟨Nat.zero_le _, Nat.zero_le _⟩) hP hD hS hA [] rfl (fun _ => rfl) (fun r_23 u H locs h hP hD hS => ?_)
        have hP : va_P (dC, dI) vwCl (wd_RS_block aP aP_block aP_original aP_lost aV aP_current aR aF aW aS aC aH cI cZ P_size P_stripes P_sentCount P_block) H := hP
        have hD : va_D A (wd_RS_block aP aP_block aP_original aP_lost aV aP_current aR aF aW aS aC aH cI cZ P_size P_stripes P_sentCount P_block) := hD
        refine lv_if_ne (tgt := 31) hx hb d_RS_block_26 (by decide) (fun g26 => ?_) (fun g26 => ?_)
        · have h := h.1 g26
          refine lv_iload_n hx hb d_RS_block_31 rfl (lv_at hl 1 rfl) ?_
          refine mt_i (va_runS (As := [.int p1]) (rest := []) ⟨hx, hb, hml, hown, hts⟩ (ct_RS_counted l dC dI  cI cZ p1 _ h _) (tb_cS hts ok_RS_counted tb_493 rfl rfl ⟨Nat.le_of_ble_eq_true rfl, Nat.le_of_ble_eq_true rfl⟩) (mt_preS hK hP hD [.int p1] [] rfl (by decide)) rfl rfl hl.1 rfl (lv_room (Nat.le_of_ble_eq_true rfl)) d_RS_block_32 ⟨Nat.zero_le _, Nat.zero_le _⟩) hP hD hS hA [] rfl (fun _ => rfl) (fun r_32 u H locs h hP hD hS => ?_)
          have hP : va_P (dC, dI) vwCl (wd_RS_block aP aP_block aP_original aP_lost aV aP_current aR aF aW aS aC aH cI cZ P_size P_stripes P_sentCount P_block) H := hP
          have hD : va_D A (wd_RS_block aP aP_block aP_original aP_lost aV aP_current aR aF aW aS aC aH cI cZ P_size P_stripes P_sentCount P_block) := hD
          refine lv_iload_n hx hb d_RS_block_35 rfl (lv_at hl 2 rfl) ?_
          refine mt_i (va_runS (As := [.int p2]) (rest := [.int r_32]) ⟨hx, hb, hml, hown, hts⟩ (ct_RS_counted l dC dI  cI cZ p2 _ h _) (tb_cS hts ok_RS_counted tb_493 rfl rfl ⟨Nat.le_of_ble_eq_true rfl, Nat.le_of_ble_eq_true rfl⟩) (mt_preS hK hP hD [.int p2] [] rfl (by decide)) rfl rfl hl.1 rfl (lv_room (Nat.le_of_ble_eq_true rfl)) d_RS_block_36 ⟨Nat.zero_le _, Nat.zero_le _⟩) hP hD hS hA [] rfl (fun _ => rfl) (fun r_36 u H locs h hP hD hS => ?_)
          have hP : va_P (dC, dI) vwCl (wd_RS_block aP aP_block aP_original aP_lost aV aP_current aR aF aW aS aC aH cI cZ P_size P_stripes P_sentCount P_block) H := hP
          have hD : va_D A (wd_RS_block aP aP_block aP_original aP_lost aV aP_current aR aF aW aS aC aH cI cZ P_size P_stripes P_sentCount P_block) := hD
          refine lv_iadd hx hb d_RS_block_39 ?_
          refine lv_iload_n hx hb d_RS_block_40 rfl (lv_at hl 3 rfl) ?_
          refine mt_i (va_runS (As := [.int p3]) (rest := [.int (r_32 + r_36)]) ⟨hx, hb, hml, hown, hts⟩ (ct_RS_counted l dC dI  cI cZ p3 _ h _) (tb_cS hts ok_RS_counted tb_493 rfl rfl ⟨Nat.le_of_ble_eq_true rfl, Nat.le_of_ble_eq_true rfl⟩) (mt_preS hK hP hD [.int p3] [] rfl (by decide)) rfl rfl hl.1 rfl (lv_room (Nat.le_of_ble_eq_true rfl)) d_RS_block_41 ⟨Nat.zero_le _, Nat.zero_le _⟩) hP hD hS hA [] rfl (fun _ => rfl) (fun r_41 u H locs h hP hD hS => ?_)
          have hP : va_P (dC, dI) vwCl (wd_RS_block aP aP_block aP_original aP_lost aV aP_current aR aF aW aS aC aH cI cZ P_size P_stripes P_sentCount P_block) H := hP
          have hD : va_D A (wd_RS_block aP aP_block aP_original aP_lost aV aP_current aR aF aW aS aC aH cI cZ P_size P_stripes P_sentCount P_block) := hD
          refine lv_iadd hx hb d_RS_block_44 ?_
          refine lv_iload hx hb d_RS_block_45 (lv_at hl 4 rfl) ?_
          refine mt_i (va_runS (As := [.int p4]) (rest := [.int ((r_32 + r_36) + r_41)]) ⟨hx, hb, hml, hown, hts⟩ (ct_RS_counted l dC dI  cI cZ p4 _ h _) (tb_cS hts ok_RS_counted tb_493 rfl rfl ⟨Nat.le_of_ble_eq_true rfl, Nat.le_of_ble_eq_true rfl⟩) (mt_preS hK hP hD [.int p4] [] rfl (by decide)) rfl rfl hl.1 rfl (lv_room (Nat.le_of_ble_eq_true rfl)) d_RS_block_47 ⟨Nat.zero_le _, Nat.zero_le _⟩) hP hD hS hA [] rfl (fun _ => rfl) (fun r_47 u H locs h hP hD hS => ?_)
          have hP : va_P (dC, dI) vwCl (wd_RS_block aP aP_block aP_original aP_lost aV aP_current aR aF aW aS aC aH cI cZ P_size P_stripes P_sentCount P_block) H := hP
          have hD : va_D A (wd_RS_block aP aP_block aP_original aP_lost aV aP_current aR aF aW aS aC aH cI cZ P_size P_stripes P_sentCount P_block) := hD
          refine lv_iadd hx hb d_RS_block_50 ?_
          refine lv_topi (fun x5_51 ex5_51 => ?_)
          have h := h x5_51 ex5_51
          refine lv_istore (lv' := [(5, .int x5_51), (0, .ref aR), (1, .int p1), (2, .int p2), (3, .int p3), (4, .int p4)]) hx hb d_RS_block_51 hl (by decide) rfl (fun ls hl => ?_)
          refine lv_aload_n hx hb d_RS_block_53 rfl (lv_at hl 1 rfl) ?_
          refine va_get (D := (dC, dI)) (ci := 6) (v := .ref aP) (C := "ReedSets") (T := T_RS) (N := 6) hx hb hts in_RS hown hK hP 2 rfl rfl 4 (by decide) (hts _ tb_279) (fun _ h9 => h9) rfl d_RS_block_54 ?_
          refine va_get (D := (dC, dI)) (ci := 4) (v := .int P_size) (C := "ReedSets$Striped") (T := T_St) (N := 8) hx hb hts in_St hown hK hP 0 rfl rfl 5 (by decide) (hts _ tb_211) (fun _ h9 => h9) rfl d_RS_block_57 ?_
          refine lv_iload hx hb d_RS_block_60 (lv_at hl 0 rfl) ?_
          refine lv_iadd hx hb d_RS_block_62 ?_
          refine lv_sipush (v := (800 : Int32)) hx hb d_RS_block_63 (by decide) ?_
          refine lv_icmp_le (tgt := 71) hx hb d_RS_block_66 (by decide) (fun g66 => ?_) (fun g66 => ?_)
          · have h := h.1 g66
            refine lv_aload_n hx hb d_RS_block_71 rfl (lv_at hl 1 rfl) ?_
            refine va_get (D := (dC, dI)) (ci := 6) (v := .ref aP) (C := "ReedSets") (T := T_RS) (N := 6) hx hb hts in_RS hown hK hP 2 rfl rfl 4 (by decide) (hts _ tb_279) (fun _ h9 => h9) rfl d_RS_block_72 ?_
            refine lv_iload_n hx hb d_RS_block_75 rfl (lv_at hl 2 rfl) ?_
            refine mt_v (va_runV (As := [.int p1]) (rest := []) ⟨hx, hb, hml, hown, hts⟩ (ct_St_append l dC dI aP aP_block aP_original aP_lost aV aP_current cI cZ P_size P_stripes P_sentCount P_block p1 _ h _) (tb_cV hts ok_St_append tb_496 rfl rfl ⟨Nat.le_of_ble_eq_true rfl, Nat.le_of_ble_eq_true rfl⟩) (mt_preV hK hP hD [.int p1] [0, 1] rfl (by decide) (ci := 4) (q0 := 0) rfl rfl) rfl rfl hl.1 rfl (lv_room (Nat.le_of_ble_eq_true rfl)) d_RS_block_76 ⟨Nat.zero_le _, Nat.zero_le _⟩) hP hD hS hA [0, 1] rfl (fun _ => rfl) (fun u H locs h hP hD hS => ?_)
            obtain ⟨P_size_76, P_block_76⟩ := u
            have hP : va_P (dC, dI) vwCl (wd_RS_block aP aP_block aP_original aP_lost aV aP_current aR aF aW aS aC aH cI cZ P_size_76 P_stripes P_sentCount P_block_76) H := hP
            have hD : va_D A (wd_RS_block aP aP_block aP_original aP_lost aV aP_current aR aF aW aS aC aH cI cZ P_size_76 P_stripes P_sentCount P_block_76) := hD
            refine lv_aload_n hx hb d_RS_block_79 rfl (lv_at hl 1 rfl) ?_
            refine va_get (D := (dC, dI)) (ci := 6) (v := .ref aP) (C := "ReedSets") (T := T_RS) (N := 6) hx hb hts in_RS hown hK hP 2 rfl rfl 4 (by decide) (hts _ tb_279) (fun _ h9 => h9) rfl d_RS_block_80 ?_
            refine lv_iload_n hx hb d_RS_block_83 rfl (lv_at hl 3 rfl) ?_
            refine mt_v (va_runV (As := [.int p2]) (rest := []) ⟨hx, hb, hml, hown, hts⟩ (ct_St_append l dC dI aP aP_block aP_original aP_lost aV aP_current cI cZ P_size_76 P_stripes P_sentCount P_block_76 p2 _ h _) (tb_cV hts ok_St_append tb_496 rfl rfl ⟨Nat.le_of_ble_eq_true rfl, Nat.le_of_ble_eq_true rfl⟩) (mt_preV hK hP hD [.int p2] [0, 1] rfl (by decide) (ci := 4) (q0 := 0) rfl rfl) rfl rfl hl.1 rfl (lv_room (Nat.le_of_ble_eq_true rfl)) d_RS_block_84 ⟨Nat.zero_le _, Nat.zero_le _⟩) hP hD hS hA [0, 1] rfl (fun _ => rfl) (fun u H locs h hP hD hS => ?_)
            obtain ⟨P_size_84, P_block_84⟩ := u
            have hP : va_P (dC, dI) vwCl (wd_RS_block aP aP_block aP_original aP_lost aV aP_current aR aF aW aS aC aH cI cZ P_size_84 P_stripes P_sentCount P_block_84) H := hP
            have hD : va_D A (wd_RS_block aP aP_block aP_original aP_lost aV aP_current aR aF aW aS aC aH cI cZ P_size_84 P_stripes P_sentCount P_block_84) := hD
            refine lv_aload_n hx hb d_RS_block_87 rfl (lv_at hl 1 rfl) ?_
            refine va_get (D := (dC, dI)) (ci := 6) (v := .ref aP) (C := "ReedSets") (T := T_RS) (N := 6) hx hb hts in_RS hown hK hP 2 rfl rfl 4 (by decide) (hts _ tb_279) (fun _ h9 => h9) rfl d_RS_block_88 ?_
            refine lv_iload_n hx hb d_RS_block_91 rfl (lv_at hl 4 rfl) ?_
            refine mt_v (va_runV (As := [.int p3]) (rest := []) ⟨hx, hb, hml, hown, hts⟩ (ct_St_append l dC dI aP aP_block aP_original aP_lost aV aP_current cI cZ P_size_84 P_stripes P_sentCount P_block_84 p3 _ h _) (tb_cV hts ok_St_append tb_496 rfl rfl ⟨Nat.le_of_ble_eq_true rfl, Nat.le_of_ble_eq_true rfl⟩) (mt_preV hK hP hD [.int p3] [0, 1] rfl (by decide) (ci := 4) (q0 := 0) rfl rfl) rfl rfl hl.1 rfl (lv_room (Nat.le_of_ble_eq_true rfl)) d_RS_block_92 ⟨Nat.zero_le _, Nat.zero_le _⟩) hP hD hS hA [0, 1] rfl (fun _ => rfl) (fun u H locs h hP hD hS => ?_)
            obtain ⟨P_size_92, P_block_92⟩ := u
            have hP : va_P (dC, dI) vwCl (wd_RS_block aP aP_block aP_original aP_lost aV aP_current aR aF aW aS aC aH cI cZ P_size_92 P_stripes P_sentCount P_block_92) H := hP
            have hD : va_D A (wd_RS_block aP aP_block aP_original aP_lost aV aP_current aR aF aW aS aC aH cI cZ P_size_92 P_stripes P_sentCount P_block_92) := hD
            refine lv_aload_n hx hb d_RS_block_95 rfl (lv_at hl 1 rfl) ?_
            refine va_get (D := (dC, dI)) (ci := 6) (v := .ref aP) (C := "ReedSets") (T := T_RS) (N := 6) hx hb hts in_RS hown hK hP 2 rfl rfl 4 (by decide) (hts _ tb_279) (fun _ h9 => h9) rfl d_RS_block_96 ?_
            refine lv_iload hx hb d_RS_block_99 (lv_at hl 5 rfl) ?_
            refine mt_v (va_runV (As := [.int p4]) (rest := []) ⟨hx, hb, hml, hown, hts⟩ (ct_St_append l dC dI aP aP_block aP_original aP_lost aV aP_current cI cZ P_size_92 P_stripes P_sentCount P_block_92 p4 _ h _) (tb_cV hts ok_St_append tb_496 rfl rfl ⟨Nat.le_of_ble_eq_true rfl, Nat.le_of_ble_eq_true rfl⟩) (mt_preV hK hP hD [.int p4] [0, 1] rfl (by decide) (ci := 4) (q0 := 0) rfl rfl) rfl rfl hl.1 rfl (lv_room (Nat.le_of_ble_eq_true rfl)) d_RS_block_101 ⟨Nat.zero_le _, Nat.zero_le _⟩) hP hD hS hA [0, 1] rfl (fun _ => rfl) (fun u H locs h hP hD hS => ?_)
            obtain ⟨P_size_101, P_block_101⟩ := u
            have hP : va_P (dC, dI) vwCl (wd_RS_block aP aP_block aP_original aP_lost aV aP_current aR aF aW aS aC aH cI cZ P_size_101 P_stripes P_sentCount P_block_101) H := hP
            have hD : va_D A (wd_RS_block aP aP_block aP_original aP_lost aV aP_current aR aF aW aS aC aH cI cZ P_size_101 P_stripes P_sentCount P_block_101) := hD
            refine lv_aload_n hx hb d_RS_block_104 rfl (lv_at hl 1 rfl) ?_
            refine va_get (D := (dC, dI)) (ci := 6) (v := .ref aP) (C := "ReedSets") (T := T_RS) (N := 6) hx hb hts in_RS hown hK hP 2 rfl rfl 4 (by decide) (hts _ tb_279) (fun _ h9 => h9) rfl d_RS_block_105 ?_
            refine mt_v (va_runV (As := []) (rest := []) ⟨hx, hb, hml, hown, hts⟩ (ct_St_takeUp l dC dI aP aP_block aP_original aP_lost aV aP_current cI cZ P_size_101 P_stripes P_sentCount _ h _) (tb_cV hts ok_St_takeUp tb_500 rfl rfl ⟨Nat.le_of_ble_eq_true rfl, Nat.le_of_ble_eq_true rfl⟩) (mt_preV hK hP hD [] [0] rfl (by decide) (ci := 4) (q0 := 0) rfl rfl) rfl rfl hl.1 rfl (lv_room (Nat.le_of_ble_eq_true rfl)) d_RS_block_108 ⟨Nat.zero_le _, Nat.zero_le _⟩) hP hD hS hA [0] rfl (fun _ => rfl) (fun u H locs h hP hD hS => ?_)
            obtain ⟨P_stripes_108, P_sentCount_108⟩ := u
            have hP : va_P (dC, dI) vwCl (wd_RS_block aP aP_block aP_original aP_lost aV aP_current aR aF aW aS aC aH cI cZ P_size_101 P_stripes_108 P_sentCount_108 P_block_101) H := hP
            have hD : va_D A (wd_RS_block aP aP_block aP_original aP_lost aV aP_current aR aF aW aS aC aH cI cZ P_size_101 P_stripes_108 P_sentCount_108 P_block_101) := hD
            refine lv_aload_n hx hb d_RS_block_111 rfl (lv_at hl 1 rfl) ?_
            refine va_get (D := (dC, dI)) (ci := 6) (v := .ref aP) (C := "ReedSets") (T := T_RS) (N := 6) hx hb hts in_RS hown hK hP 2 rfl rfl 4 (by decide) (hts _ tb_279) (fun _ h9 => h9) rfl d_RS_block_112 ?_
            refine va_get (D := (dC, dI)) (ci := 4) (v := .int P_size_101) (C := "ReedSets$Striped") (T := T_St) (N := 8) hx hb hts in_St hown hK hP 0 rfl rfl 5 (by decide) (hts _ tb_211) (fun _ h9 => h9) rfl d_RS_block_115 ?_
            exact RET P_size_101 P_size_101 P_stripes_108 P_sentCount_108 P_block_101 H locs ls 118 d_RS_block_118 h hP hD hS
          · have h := h.2 g66
            refine lv_iconst (v := (-1 : Int32)) hx hb d_RS_block_69 (by decide) ?_
            exact RET (-1 : Int32) P_size P_stripes P_sentCount P_block H locs ls 70 d_RS_block_70 h hP hD hS
        · have h := h.2 g26
          exact B29  P_size P_stripes P_sentCount P_block H locs ls h hP hD hS (lv_sub hl [] rfl)
abbrev wd_RS_wipe (aP aP_block aP_original aP_lost aV aP_current aR aF aW aS aC aH : Nat) (cI cZ : ClassId) (P_size : Int32) (P_stripes : Int32) (P_sentCount : Int32) : va_W := [(aP, .inr (4, [.ref aP_block, .ref aP_original, .ref aP_lost, .ref aV, .ref aP_current, .int P_size, .int P_stripes, .int P_sentCount])), (aR, .inr (6, [.ref aF, .ref aW, .ref aS, .ref aC, .ref aP, .ref aH]))]
def wp_RS_wipe (P_size : Int32) (P_stripes : Int32) (P_sentCount : Int32) (post : Int32 → Int32 → Int32 → Int32 → Prop) : Prop := wp_St_takeUp P_stripes P_sentCount (fun P_stripes_20 P_sentCount_20 => (post P_size (0 : Int32) P_stripes_20 P_sentCount_20))
abbrev rm_RS_wipe : Room := { frames := 1, cells := 0, slots := 0, locals := 20 }
set_option maxHeartbeats 4000000 in
set_option maxRecDepth 100000 in
theorem ct_RS_wipe (l : Launch) (dC : Nat → ClassId) (dI : Nat → Nat → Nat) (aP aP_block aP_original aP_lost aV aP_current aR aF aW aS aC aH : Nat) (cI cZ : ClassId) (P_size : Int32) (P_stripes : Int32) (P_sentCount : Int32)  (post : Int32 → Int32 → Int32 → Int32 → Prop) (h : wp_RS_wipe P_size P_stripes P_sentCount post) (sz : Nat) : Met l y_RS_wipe (Cond.code y_RS_wipe c_RS_wipe 2 (some .int) :: tb) rm_RS_wipe (mt_P (dC, dI) vwCl [(cI, .int), (cZ, .boolean)] [.ref aR] (wd_RS_wipe aP aP_block aP_original aP_lost aV aP_current aR aF aW aS aC aH cI cZ P_size P_stripes P_sentCount) sz) (va_Qi (fun (r : Int32) (u : Int32 × Int32 × Int32) => post r u.1 u.2.1 u.2.2) (mt_B (dC, dI) vwCl [(cI, .int), (cZ, .boolean)] (wd_RS_wipe aP aP_block aP_original aP_lost aV aP_current aR aF aW aS aC aH cI cZ P_size P_stripes P_sentCount) sz (fun u : Int32 × Int32 × Int32 => wd_RS_wipe aP aP_block aP_original aP_lost aV aP_current aR aF aW aS aC aH cI cZ u.1 u.2.1 u.2.2)) (va_A (wd_RS_wipe aP aP_block aP_original aP_lost aV aP_current aR aF aW aS aC aH cI cZ P_size P_stripes P_sentCount) sz)) 0 0 (va_A (wd_RS_wipe aP aP_block aP_original aP_lost aV aP_current aR aF aW aS aC aH cI cZ P_size P_stripes P_sentCount) sz) := by
  refine mt_bd (by decide +kernel) (Nat.le_of_ble_eq_true rfl) ?_
  intro p e s m args below meth c hx hb hml hown hts hr hlk hnm hsz hP hK hD hA hS ls hl
  subst hsz
  have hown : s.vm.findClass "ReedSets" = some m.cls := hown
  have hl : lv_has ls 2 [(0, .ref aR)] := hl
  refine lz_Q (fun Q hQ => ?_)
  obtain ⟨A, hAe⟩ : ∃ A : Nat → Prop, A = va_A (wd_RS_wipe aP aP_block aP_original aP_lost aV aP_current aR aF aW aS aC aH cI cZ P_size P_stripes P_sentCount) s.heap.size := ⟨_, rfl⟩
  rw [← hAe] at hD hA hS
  have RET : ∀ (v : Int32) (P_size : Int32) (P_stripes : Int32) (P_sentCount : Int32) (H : Heap) (locs : List Loc) (ls : Array Slot) (pc : Nat), decode c_RS_wipe pc = .ok (.ireturn, 1) → post v P_size P_stripes P_sentCount → va_P (dC, dI) vwCl (wd_RS_wipe aP aP_block aP_original aP_lost aV aP_current aR aF aW aS aC aH cI cZ P_size P_stripes P_sentCount) H → va_D A (wd_RS_wipe aP aP_block aP_original aP_lost aV aP_current aR aF aW aS aC aH cI cZ P_size P_stripes P_sentCount) → va_S A s.heap H locs → W p l e rm_RS_wipe s m args below meth c H locs 0 0 Q (F0 m pc ls [.int v]) := by
    intro v P_size P_stripes P_sentCount H locs ls pc hd hp h1 h2 h3
    rw [hQ]
    rw [hAe] at h2 h3
    exact mt_reti (P_size, P_stripes, P_sentCount) hx hb hr hlk hd hK h1 h2 h3 hp
  obtain ⟨H, hH⟩ : ∃ H : Heap, H = s.heap := ⟨_, rfl⟩
  obtain ⟨locs, hlo⟩ : ∃ x : List Loc, x = [] := ⟨_, rfl⟩
  have hS : va_S A s.heap H locs := by rw [hH, hlo]; exact hS
  rw [← hH] at hP
  rw [← hlo]
  show W p l e rm_RS_wipe s m args below meth c s.heap locs 0 0 Q (F0 m 0 ls [])
  rw [← hH]
  refine lv_aload_n hx hb d_RS_wipe_0 rfl (lv_at hl 0 rfl) ?_
  refine va_get (D := (dC, dI)) (ci := 6) (v := .ref aP) (C := "ReedSets") (T := T_RS) (N := 6) hx hb hts in_RS hown hK hP 1 rfl rfl 4 (by decide) (hts _ tb_279) (fun _ h9 => h9) rfl d_RS_wipe_1 ?_
  refine va_get (D := (dC, dI)) (ci := 4) (v := .int P_size) (C := "ReedSets$Striped") (T := T_St) (N := 8) hx hb hts in_St hown hK hP 0 rfl rfl 5 (by decide) (hts _ tb_211) (fun _ h9 => h9) rfl d_RS_wipe_4 ?_
  refine lv_istore_n (lv' := [(1, .int P_size), (0, .ref aR)]) hx hb d_RS_wipe_7 rfl hl (by decide) rfl (fun ls hl => ?_)
  refine lv_aload_n hx hb d_RS_wipe_8 rfl (lv_at hl 1 rfl) ?_
  refine va_get (D := (dC, dI)) (ci := 6) (v := .ref aP) (C := "ReedSets") (T := T_RS) (N := 6) hx hb hts in_RS hown hK hP 1 rfl rfl 4 (by decide) (hts _ tb_279) (fun _ h9 => h9) rfl d_RS_wipe_9 ?_
  refine lv_iconst (v := (0 : Int32)) hx hb d_RS_wipe_12 (by decide) ?_
  refine va_put (D := (dC, dI)) (ci := 4) (v := .int (0 : Int32)) (ty := .int) (C := "ReedSets$Striped") (T := T_St) (N := 8) hx hb hts in_St ty_St tk_St nm_St hown hK hP hD hS 0 rfl rfl 5 (by decide) (hts _ tb_211) (fun _ h9 => h9) rfl (by decide +kernel) rfl rfl (Nat.le_of_ble_eq_true rfl) d_RS_wipe_13 (fun H locs hP hD hS => ?_)
  have hP : va_P (dC, dI) vwCl (wd_RS_wipe aP aP_block aP_original aP_lost aV aP_current aR aF aW aS aC aH cI cZ (0 : Int32) P_stripes P_sentCount) H := hP
  have hD : va_D A (wd_RS_wipe aP aP_block aP_original aP_lost aV aP_current aR aF aW aS aC aH cI cZ (0 : Int32) P_stripes P_sentCount) := hD
  refine lv_aload_n hx hb d_RS_wipe_16 rfl (lv_at hl 1 rfl) ?_
  refine va_get (D := (dC, dI)) (ci := 6) (v := .ref aP) (C := "ReedSets") (T := T_RS) (N := 6) hx hb hts in_RS hown hK hP 1 rfl rfl 4 (by decide) (hts _ tb_279) (fun _ h9 => h9) rfl d_RS_wipe_17 ?_
  refine mt_v (va_runV (As := []) (rest := []) ⟨hx, hb, hml, hown, hts⟩ (ct_St_takeUp l dC dI aP aP_block aP_original aP_lost aV aP_current cI cZ (0 : Int32) P_stripes P_sentCount _ h _) (tb_cV hts ok_St_takeUp tb_500 rfl rfl ⟨Nat.le_of_ble_eq_true rfl, Nat.le_of_ble_eq_true rfl⟩) (mt_preV hK hP hD [] [0] rfl (by decide) (ci := 4) (q0 := 0) rfl rfl) rfl rfl hl.1 rfl (lv_room (Nat.le_of_ble_eq_true rfl)) d_RS_wipe_20 ⟨Nat.zero_le _, Nat.zero_le _⟩) hP hD hS hA [0] rfl (fun _ => rfl) (fun u H locs h hP hD hS => ?_)
  obtain ⟨P_stripes_20, P_sentCount_20⟩ := u
  have hP : va_P (dC, dI) vwCl (wd_RS_wipe aP aP_block aP_original aP_lost aV aP_current aR aF aW aS aC aH cI cZ (0 : Int32) P_stripes_20 P_sentCount_20) H := hP
  have hD : va_D A (wd_RS_wipe aP aP_block aP_original aP_lost aV aP_current aR aF aW aS aC aH cI cZ (0 : Int32) P_stripes_20 P_sentCount_20) := hD
  refine lv_iload_n hx hb d_RS_wipe_23 rfl (lv_at hl 0 rfl) ?_
  exact RET P_size (0 : Int32) P_stripes_20 P_sentCount_20 H locs ls 24 d_RS_wipe_24 h hP hD hS
abbrev wd_RS_lay (aF aF_powers aF_logs aW aW_bytes aW_lost aW_factors aV aV_bytes aV_lost aV_factors aP aP_block aP_original aP_lost aP_current aR aS aC aH : Nat) (cI cZ : ClassId) (F_powers : Nat → Int32) (F_logs : Nat → Int32) (W_lostCount : Int32) (W_data : Int32) (W_repairs : Int32) (W_first : Int32) (V_lostCount : Int32) (V_data : Int32) (V_repairs : Int32) (V_first : Int32) (V_bytes : Nat → Int32) (V_lost : Nat → Int32) (V_factors : Nat → Int32) (P_size : Int32) (P_stripes : Int32) (P_sentCount : Int32) (P_block : Nat → Int32) (P_original : Nat → Int32) (P_lost : Nat → Int32) (P_current : Nat → Int32) : va_W := [(aF, .inr (1, [.ref aF_powers, .ref aF_logs])), (aF_powers, .inl (cI, 512, .inl F_powers)), (aF_logs, .inl (cI, 256, .inl F_logs)), (aW, .inr (5, [.ref aF, .ref aW_bytes, .ref aW_lost, .ref aW_factors, .int W_lostCount, .int W_data, .int W_repairs, .int W_first])), (aV, .inr (5, [.ref aF, .ref aV_bytes, .ref aV_lost, .ref aV_factors, .int V_lostCount, .int V_data, .int V_repairs, .int V_first])), (aV_bytes, .inl (cI, 240, .inl V_bytes)), (aV_lost, .inl (cZ, 240, .inl V_lost)), (aV_factors, .inl (cI, 41, .inl V_factors)), (aP, .inr (4, [.ref aP_block, .ref aP_original, .ref aP_lost, .ref aV, .ref aP_current, .int P_size, .int P_stripes, .int P_sentCount])), (aP_block, .inl (cI, 800, .inl P_block)), (aP_original, .inl (cI, 1440, .inl P_original)), (aP_lost, .inl (cZ, 1440, .inl P_lost)), (aP_current, .inl (cI, 1440, .inl P_current)), (aR, .inr (6, [.ref aF, .ref aW, .ref aS, .ref aC, .ref aP, .ref aH]))]
def wp_RS_lay (F_powers : Nat → Int32) (F_logs : Nat → Int32) (W_repairs : Int32) (W_first : Int32) (V_lostCount : Int32) (V_data : Int32) (V_repairs : Int32) (V_first : Int32) (V_bytes : Nat → Int32) (V_lost : Nat → Int32) (V_factors : Nat → Int32) (P_size : Int32) (P_stripes : Int32) (P_sentCount : Int32) (P_block : Nat → Int32) (P_original : Nat → Int32) (P_lost : Nat → Int32) (P_current : Nat → Int32) (p1 : Int32) (post : Int32 → Int32 → Int32 → Int32 → Int32 → (Nat → Int32) → (Nat → Int32) → (Nat → Int32) → Int32 → Int32 → (Nat → Int32) → (Nat → Int32) → (Nat → Int32) → Prop) : Prop := wp_St_layIn F_powers F_logs V_lostCount V_data V_repairs V_first V_bytes V_lost V_factors P_size P_stripes P_sentCount P_block P_original P_lost P_current p1 W_repairs W_first (fun r_19 V_lostCount_19 V_data_19 V_repairs_19 V_first_19 V_bytes_19 V_lost_19 V_factors_19 P_stripes_19 P_sentCount_19 P_original_19 P_lost_19 P_current_19 => (post r_19 V_lostCount_19 V_data_19 V_repairs_19 V_first_19 V_bytes_19 V_lost_19 V_factors_19 P_stripes_19 P_sentCount_19 P_original_19 P_lost_19 P_current_19))
abbrev rm_RS_lay : Room := { frames := 5, cells := 0, slots := 0, locals := 118 }
set_option maxHeartbeats 4000000 in
set_option maxRecDepth 100000 in
theorem ct_RS_lay (l : Launch) (dC : Nat → ClassId) (dI : Nat → Nat → Nat) (aF aF_powers aF_logs aW aW_bytes aW_lost aW_factors aV aV_bytes aV_lost aV_factors aP aP_block aP_original aP_lost aP_current aR aS aC aH : Nat) (cI cZ : ClassId) (F_powers : Nat → Int32) (F_logs : Nat → Int32) (W_lostCount : Int32) (W_data : Int32) (W_repairs : Int32) (W_first : Int32) (V_lostCount : Int32) (V_data : Int32) (V_repairs : Int32) (V_first : Int32) (V_bytes : Nat → Int32) (V_lost : Nat → Int32) (V_factors : Nat → Int32) (P_size : Int32) (P_stripes : Int32) (P_sentCount : Int32) (P_block : Nat → Int32) (P_original : Nat → Int32) (P_lost : Nat → Int32) (P_current : Nat → Int32) (p1 : Int32) (post : Int32 → Int32 → Int32 → Int32 → Int32 → (Nat → Int32) → (Nat → Int32) → (Nat → Int32) → Int32 → Int32 → (Nat → Int32) → (Nat → Int32) → (Nat → Int32) → Prop) (h : wp_RS_lay F_powers F_logs W_repairs W_first V_lostCount V_data V_repairs V_first V_bytes V_lost V_factors P_size P_stripes P_sentCount P_block P_original P_lost P_current p1 post) (sz : Nat) : Met l y_RS_lay (Cond.code y_RS_lay c_RS_lay 2 (some .int) :: tb) rm_RS_lay (mt_P (dC, dI) vwCl [(cI, .int), (cZ, .boolean)] [.ref aR, .int p1] (wd_RS_lay aF aF_powers aF_logs aW aW_bytes aW_lost aW_factors aV aV_bytes aV_lost aV_factors aP aP_block aP_original aP_lost aP_current aR aS aC aH cI cZ F_powers F_logs W_lostCount W_data W_repairs W_first V_lostCount V_data V_repairs V_first V_bytes V_lost V_factors P_size P_stripes P_sentCount P_block P_original P_lost P_current) sz) (va_Qi (fun (r : Int32) (u : Int32 × Int32 × Int32 × Int32 × (Nat → Int32) × (Nat → Int32) × (Nat → Int32) × Int32 × Int32 × (Nat → Int32) × (Nat → Int32) × (Nat → Int32)) => post r u.1 u.2.1 u.2.2.1 u.2.2.2.1 u.2.2.2.2.1 u.2.2.2.2.2.1 u.2.2.2.2.2.2.1 u.2.2.2.2.2.2.2.1 u.2.2.2.2.2.2.2.2.1 u.2.2.2.2.2.2.2.2.2.1 u.2.2.2.2.2.2.2.2.2.2.1 u.2.2.2.2.2.2.2.2.2.2.2) (mt_B (dC, dI) vwCl [(cI, .int), (cZ, .boolean)] (wd_RS_lay aF aF_powers aF_logs aW aW_bytes aW_lost aW_factors aV aV_bytes aV_lost aV_factors aP aP_block aP_original aP_lost aP_current aR aS aC aH cI cZ F_powers F_logs W_lostCount W_data W_repairs W_first V_lostCount V_data V_repairs V_first V_bytes V_lost V_factors P_size P_stripes P_sentCount P_block P_original P_lost P_current) sz (fun u : Int32 × Int32 × Int32 × Int32 × (Nat → Int32) × (Nat → Int32) × (Nat → Int32) × Int32 × Int32 × (Nat → Int32) × (Nat → Int32) × (Nat → Int32) => wd_RS_lay aF aF_powers aF_logs aW aW_bytes aW_lost aW_factors aV aV_bytes aV_lost aV_factors aP aP_block aP_original aP_lost aP_current aR aS aC aH cI cZ F_powers F_logs W_lostCount W_data W_repairs W_first u.1 u.2.1 u.2.2.1 u.2.2.2.1 u.2.2.2.2.1 u.2.2.2.2.2.1 u.2.2.2.2.2.2.1 P_size u.2.2.2.2.2.2.2.1 u.2.2.2.2.2.2.2.2.1 P_block u.2.2.2.2.2.2.2.2.2.1 u.2.2.2.2.2.2.2.2.2.2.1 u.2.2.2.2.2.2.2.2.2.2.2)) (va_A (wd_RS_lay aF aF_powers aF_logs aW aW_bytes aW_lost aW_factors aV aV_bytes aV_lost aV_factors aP aP_block aP_original aP_lost aP_current aR aS aC aH cI cZ F_powers F_logs W_lostCount W_data W_repairs W_first V_lostCount V_data V_repairs V_first V_bytes V_lost V_factors P_size P_stripes P_sentCount P_block P_original P_lost P_current) sz)) 0 0 (va_A (wd_RS_lay aF aF_powers aF_logs aW aW_bytes aW_lost aW_factors aV aV_bytes aV_lost aV_factors aP aP_block aP_original aP_lost aP_current aR aS aC aH cI cZ F_powers F_logs W_lostCount W_data W_repairs W_first V_lostCount V_data V_repairs V_first V_bytes V_lost V_factors P_size P_stripes P_sentCount P_block P_original P_lost P_current) sz) := by
  refine mt_bd (by decide +kernel) (Nat.le_of_ble_eq_true rfl) ?_
  intro p e s m args below meth c hx hb hml hown hts hr hlk hnm hsz hP hK hD hA hS ls hl
  subst hsz
  have hown : s.vm.findClass "ReedSets" = some m.cls := hown
  have hl : lv_has ls 2 [(0, .ref aR), (1, .int p1)] := hl
  refine lz_Q (fun Q hQ => ?_)
  obtain ⟨A, hAe⟩ : ∃ A : Nat → Prop, A = va_A (wd_RS_lay aF aF_powers aF_logs aW aW_bytes aW_lost aW_factors aV aV_bytes aV_lost aV_factors aP aP_block aP_original aP_lost aP_current aR aS aC aH cI cZ F_powers F_logs W_lostCount W_data W_repairs W_first V_lostCount V_data V_repairs V_first V_bytes V_lost V_factors P_size P_stripes P_sentCount P_block P_original P_lost P_current) s.heap.size := ⟨_, rfl⟩
  rw [← hAe] at hD hA hS
  have RET : ∀ (v : Int32) (V_lostCount : Int32) (V_data : Int32) (V_repairs : Int32) (V_first : Int32) (V_bytes : Nat → Int32) (V_lost : Nat → Int32) (V_factors : Nat → Int32) (P_stripes : Int32) (P_sentCount : Int32) (P_original : Nat → Int32) (P_lost : Nat → Int32) (P_current : Nat → Int32) (H : Heap) (locs : List Loc) (ls : Array Slot) (pc : Nat), decode c_RS_lay pc = .ok (.ireturn, 1) → post v V_lostCount V_data V_repairs V_first V_bytes V_lost V_factors P_stripes P_sentCount P_original P_lost P_current → va_P (dC, dI) vwCl (wd_RS_lay aF aF_powers aF_logs aW aW_bytes aW_lost aW_factors aV aV_bytes aV_lost aV_factors aP aP_block aP_original aP_lost aP_current aR aS aC aH cI cZ F_powers F_logs W_lostCount W_data W_repairs W_first V_lostCount V_data V_repairs V_first V_bytes V_lost V_factors P_size P_stripes P_sentCount P_block P_original P_lost P_current) H → va_D A (wd_RS_lay aF aF_powers aF_logs aW aW_bytes aW_lost aW_factors aV aV_bytes aV_lost aV_factors aP aP_block aP_original aP_lost aP_current aR aS aC aH cI cZ F_powers F_logs W_lostCount W_data W_repairs W_first V_lostCount V_data V_repairs V_first V_bytes V_lost V_factors P_size P_stripes P_sentCount P_block P_original P_lost P_current) → va_S A s.heap H locs → W p l e rm_RS_lay s m args below meth c H locs 0 0 Q (F0 m pc ls [.int v]) := by
    intro v V_lostCount V_data V_repairs V_first V_bytes V_lost V_factors P_stripes P_sentCount P_original P_lost P_current H locs ls pc hd hp h1 h2 h3
    rw [hQ]
    rw [hAe] at h2 h3
    exact mt_reti (V_lostCount, V_data, V_repairs, V_first, V_bytes, V_lost, V_factors, P_stripes, P_sentCount, P_original, P_lost, P_current) hx hb hr hlk hd hK h1 h2 h3 hp
  obtain ⟨H, hH⟩ : ∃ H : Heap, H = s.heap := ⟨_, rfl⟩
  obtain ⟨locs, hlo⟩ : ∃ x : List Loc, x = [] := ⟨_, rfl⟩
  have hS : va_S A s.heap H locs := by rw [hH, hlo]; exact hS
  rw [← hH] at hP
  rw [← hlo]
  show W p l e rm_RS_lay s m args below meth c s.heap locs 0 0 Q (F0 m 0 ls [])
  rw [← hH]
  refine lv_aload_n hx hb d_RS_lay_0 rfl (lv_at hl 0 rfl) ?_
  refine va_get (D := (dC, dI)) (ci := 6) (v := .ref aP) (C := "ReedSets") (T := T_RS) (N := 6) hx hb hts in_RS hown hK hP 13 rfl rfl 4 (by decide) (hts _ tb_279) (fun _ h9 => h9) rfl d_RS_lay_1 ?_
  refine lv_iload_n hx hb d_RS_lay_4 rfl (lv_at hl 1 rfl) ?_
  refine lv_aload_n hx hb d_RS_lay_5 rfl (lv_at hl 0 rfl) ?_
  refine va_get (D := (dC, dI)) (ci := 6) (v := .ref aW) (C := "ReedSets") (T := T_RS) (N := 6) hx hb hts in_RS hown hK hP 13 rfl rfl 1 (by decide) (hts _ tb_276) (fun _ h9 => h9) rfl d_RS_lay_6 ?_
  refine va_get (D := (dC, dI)) (ci := 5) (v := .int W_repairs) (C := "ReedSets$Word") (T := T_Wo) (N := 8) hx hb hts in_Wo hown hK hP 3 rfl rfl 6 (by decide) (hts _ tb_119) (fun _ h9 => h9) rfl d_RS_lay_9 ?_
  refine lv_aload_n hx hb d_RS_lay_12 rfl (lv_at hl 0 rfl) ?_
  refine va_get (D := (dC, dI)) (ci := 6) (v := .ref aW) (C := "ReedSets") (T := T_RS) (N := 6) hx hb hts in_RS hown hK hP 13 rfl rfl 1 (by decide) (hts _ tb_276) (fun _ h9 => h9) rfl d_RS_lay_13 ?_
  refine va_get (D := (dC, dI)) (ci := 5) (v := .int W_first) (C := "ReedSets$Word") (T := T_Wo) (N := 8) hx hb hts in_Wo hown hK hP 3 rfl rfl 7 (by decide) (hts _ tb_122) (fun _ h9 => h9) rfl d_RS_lay_16 ?_
  refine mt_i (va_runV (As := [.int p1, .int W_repairs, .int W_first]) (rest := []) ⟨hx, hb, hml, hown, hts⟩ (ct_St_layIn l dC dI aF aF_powers aF_logs aV aV_bytes aV_lost aV_factors aP aP_block aP_original aP_lost aP_current cI cZ F_powers F_logs V_lostCount V_data V_repairs V_first V_bytes V_lost V_factors P_size P_stripes P_sentCount P_block P_original P_lost P_current p1 W_repairs W_first _ h _) (tb_cV hts ok_St_layIn tb_512 rfl rfl ⟨Nat.le_of_ble_eq_true rfl, Nat.le_of_ble_eq_true rfl⟩) (mt_preV hK hP hD [.int p1, .int W_repairs, .int W_first] [0, 1, 2, 4, 5, 6, 7, 8, 9, 10, 11, 12] rfl (by decide) (ci := 4) (q0 := 8) rfl rfl) rfl rfl hl.1 rfl (lv_room (Nat.le_of_ble_eq_true rfl)) d_RS_lay_19 ⟨Nat.zero_le _, Nat.zero_le _⟩) hP hD hS hA [0, 1, 2, 4, 5, 6, 7, 8, 9, 10, 11, 12] rfl (fun _ => rfl) (fun r_19 u H locs h hP hD hS => ?_)
  obtain ⟨V_lostCount_19, V_data_19, V_repairs_19, V_first_19, V_bytes_19, V_lost_19, V_factors_19, P_stripes_19, P_sentCount_19, P_original_19, P_lost_19, P_current_19⟩ := u
  have hP : va_P (dC, dI) vwCl (wd_RS_lay aF aF_powers aF_logs aW aW_bytes aW_lost aW_factors aV aV_bytes aV_lost aV_factors aP aP_block aP_original aP_lost aP_current aR aS aC aH cI cZ F_powers F_logs W_lostCount W_data W_repairs W_first V_lostCount_19 V_data_19 V_repairs_19 V_first_19 V_bytes_19 V_lost_19 V_factors_19 P_size P_stripes_19 P_sentCount_19 P_block P_original_19 P_lost_19 P_current_19) H := hP
  have hD : va_D A (wd_RS_lay aF aF_powers aF_logs aW aW_bytes aW_lost aW_factors aV aV_bytes aV_lost aV_factors aP aP_block aP_original aP_lost aP_current aR aS aC aH cI cZ F_powers F_logs W_lostCount W_data W_repairs W_first V_lostCount_19 V_data_19 V_repairs_19 V_first_19 V_bytes_19 V_lost_19 V_factors_19 P_size P_stripes_19 P_sentCount_19 P_block P_original_19 P_lost_19 P_current_19) := hD
  exact RET r_19 V_lostCount_19 V_data_19 V_repairs_19 V_first_19 V_bytes_19 V_lost_19 V_factors_19 P_stripes_19 P_sentCount_19 P_original_19 P_lost_19 P_current_19 H locs ls 22 d_RS_lay_22 h hP hD hS
abbrev wd_RS_sent (aP aP_block aP_original aP_lost aV aP_current aR aF aW aS aC aH : Nat) (cI cZ : ClassId) (P_size : Int32) (P_stripes : Int32) (P_sentCount : Int32) (P_current : Nat → Int32) : va_W := [(aP, .inr (4, [.ref aP_block, .ref aP_original, .ref aP_lost, .ref aV, .ref aP_current, .int P_size, .int P_stripes, .int P_sentCount])), (aP_current, .inl (cI, 1440, .inl P_current)), (aR, .inr (6, [.ref aF, .ref aW, .ref aS, .ref aC, .ref aP, .ref aH]))]
def wp_RS_sent_b24 (P_sentCount : Int32) (P_current : Nat → Int32) (post : Int32 → Prop)  (t0 : Int32) : Prop := post t0
def wp_RS_sent (P_sentCount : Int32) (P_current : Nat → Int32) (p1 : Int32) (post : Int32 → Prop) : Prop := wp_St_hasSent P_sentCount p1 (fun r_5 => ((r_5 = 0 → (wp_RS_sent_b24 P_sentCount P_current post  (-1 : Int32))) ∧ (¬ r_5 = 0 → (vp_in p1 1440 ∧ (wp_RS_sent_b24 P_sentCount P_current post  (P_current p1.toNatClampNeg))))))
abbrev rm_RS_sent : Room := { frames := 1, cells := 0, slots := 0, locals := 21 }
set_option maxHeartbeats 4000000 in
set_option maxRecDepth 100000 in
theorem ct_RS_sent (l : Launch) (dC : Nat → ClassId) (dI : Nat → Nat → Nat) (aP aP_block aP_original aP_lost aV aP_current aR aF aW aS aC aH : Nat) (cI cZ : ClassId) (P_size : Int32) (P_stripes : Int32) (P_sentCount : Int32) (P_current : Nat → Int32) (p1 : Int32) (post : Int32 → Prop) (h : wp_RS_sent P_sentCount P_current p1 post) (sz : Nat) : Met l y_RS_sent (Cond.code y_RS_sent c_RS_sent 2 (some .int) :: tb) rm_RS_sent (mt_P (dC, dI) vwCl [(cI, .int), (cZ, .boolean)] [.ref aR, .int p1] (wd_RS_sent aP aP_block aP_original aP_lost aV aP_current aR aF aW aS aC aH cI cZ P_size P_stripes P_sentCount P_current) sz) (va_Qi (fun (r : Int32) (u : Unit) => post r) (mt_B (dC, dI) vwCl [(cI, .int), (cZ, .boolean)] (wd_RS_sent aP aP_block aP_original aP_lost aV aP_current aR aF aW aS aC aH cI cZ P_size P_stripes P_sentCount P_current) sz (fun u : Unit => wd_RS_sent aP aP_block aP_original aP_lost aV aP_current aR aF aW aS aC aH cI cZ P_size P_stripes P_sentCount P_current)) (va_A (wd_RS_sent aP aP_block aP_original aP_lost aV aP_current aR aF aW aS aC aH cI cZ P_size P_stripes P_sentCount P_current) sz)) 0 0 (va_A (wd_RS_sent aP aP_block aP_original aP_lost aV aP_current aR aF aW aS aC aH cI cZ P_size P_stripes P_sentCount P_current) sz) := by
  refine mt_bd (by decide +kernel) (Nat.le_of_ble_eq_true rfl) ?_
  intro p e s m args below meth c hx hb hml hown hts hr hlk hnm hsz hP hK hD hA hS ls hl
  subst hsz
  have hown : s.vm.findClass "ReedSets" = some m.cls := hown
  have hl : lv_has ls 2 [(0, .ref aR), (1, .int p1)] := hl
  refine lz_Q (fun Q hQ => ?_)
  obtain ⟨A, hAe⟩ : ∃ A : Nat → Prop, A = va_A (wd_RS_sent aP aP_block aP_original aP_lost aV aP_current aR aF aW aS aC aH cI cZ P_size P_stripes P_sentCount P_current) s.heap.size := ⟨_, rfl⟩
  rw [← hAe] at hD hA hS
  have RET : ∀ (v : Int32)  (H : Heap) (locs : List Loc) (ls : Array Slot) (pc : Nat), decode c_RS_sent pc = .ok (.ireturn, 1) → post v  → va_P (dC, dI) vwCl (wd_RS_sent aP aP_block aP_original aP_lost aV aP_current aR aF aW aS aC aH cI cZ P_size P_stripes P_sentCount P_current) H → va_D A (wd_RS_sent aP aP_block aP_original aP_lost aV aP_current aR aF aW aS aC aH cI cZ P_size P_stripes P_sentCount P_current) → va_S A s.heap H locs → W p l e rm_RS_sent s m args below meth c H locs 0 0 Q (F0 m pc ls [.int v]) := by
    intro v  H locs ls pc hd hp h1 h2 h3
    rw [hQ]
    rw [hAe] at h2 h3
    exact mt_reti () hx hb hr hlk hd hK h1 h2 h3 hp
  have B24 : ∀ (t0 : Int32) (H : Heap) (locs : List Loc) (ls : Array Slot), wp_RS_sent_b24 P_sentCount P_current post  t0 → va_P (dC, dI) vwCl (wd_RS_sent aP aP_block aP_original aP_lost aV aP_current aR aF aW aS aC aH cI cZ P_size P_stripes P_sentCount P_current) H → va_D A (wd_RS_sent aP aP_block aP_original aP_lost aV aP_current aR aF aW aS aC aH cI cZ P_size P_stripes P_sentCount P_current) → va_S A s.heap H locs → lv_has ls 2 [] → W p l e rm_RS_sent s m args below meth c H locs 0 0 Q (F0 m 24 ls [.int t0]) := by
    intro  t0 H locs ls h hP hD hS hl
    exact RET t0 H locs ls 24 d_RS_sent_24 h hP hD hS
  obtain ⟨H, hH⟩ : ∃ H : Heap, H = s.heap := ⟨_, rfl⟩
  obtain ⟨locs, hlo⟩ : ∃ x : List Loc, x = [] := ⟨_, rfl⟩
  have hS : va_S A s.heap H locs := by rw [hH, hlo]; exact hS
  rw [← hH] at hP
  rw [← hlo]
  show W p l e rm_RS_sent s m args below meth c s.heap locs 0 0 Q (F0 m 0 ls [])
  rw [← hH]
  refine lv_aload_n hx hb d_RS_sent_0 rfl (lv_at hl 0 rfl) ?_
  refine va_get (D := (dC, dI)) (ci := 6) (v := .ref aP) (C := "ReedSets") (T := T_RS) (N := 6) hx hb hts in_RS hown hK hP 2 rfl rfl 4 (by decide) (hts _ tb_279) (fun _ h9 => h9) rfl d_RS_sent_1 ?_
  refine lv_iload_n hx hb d_RS_sent_4 rfl (lv_at hl 1 rfl) ?_
  refine mt_i (va_runV (As := [.int p1]) (rest := []) ⟨hx, hb, hml, hown, hts⟩ (ct_St_hasSent l dC dI aP aP_block aP_original aP_lost aV aP_current cI cZ P_size P_stripes P_sentCount p1 _ h _) (tb_cV hts ok_St_hasSent tb_535 rfl rfl ⟨Nat.le_of_ble_eq_true rfl, Nat.le_of_ble_eq_true rfl⟩) (mt_preV hK hP hD [.int p1] [0] rfl (by decide) (ci := 4) (q0 := 0) rfl rfl) rfl rfl hl.1 rfl (lv_room (Nat.le_of_ble_eq_true rfl)) d_RS_sent_5 ⟨Nat.zero_le _, Nat.zero_le _⟩) hP hD hS hA [0] rfl (fun _ => rfl) (fun r_5 u H locs h hP hD hS => ?_)
  have hP : va_P (dC, dI) vwCl (wd_RS_sent aP aP_block aP_original aP_lost aV aP_current aR aF aW aS aC aH cI cZ P_size P_stripes P_sentCount P_current) H := hP
  have hD : va_D A (wd_RS_sent aP aP_block aP_original aP_lost aV aP_current aR aF aW aS aC aH cI cZ P_size P_stripes P_sentCount P_current) := hD
  refine lv_if_eq (tgt := 23) hx hb d_RS_sent_8 (by decide) (fun g8 => ?_) (fun g8 => ?_)
  · have h := h.1 g8
    refine lv_iconst (v := (-1 : Int32)) hx hb d_RS_sent_23 (by decide) ?_
    exact B24  (-1 : Int32) H locs ls h hP hD hS (lv_sub hl [] rfl)
  · have h := h.2 g8
    refine lv_aload_n hx hb d_RS_sent_11 rfl (lv_at hl 0 rfl) ?_
    refine va_get (D := (dC, dI)) (ci := 6) (v := .ref aP) (C := "ReedSets") (T := T_RS) (N := 6) hx hb hts in_RS hown hK hP 2 rfl rfl 4 (by decide) (hts _ tb_279) (fun _ h9 => h9) rfl d_RS_sent_12 ?_
    refine va_get (D := (dC, dI)) (ci := 4) (v := .ref aP_current) (C := "ReedSets$Striped") (T := T_St) (N := 8) hx hb hts in_St hown hK hP 0 rfl rfl 4 (by decide) (hts _ tb_209) (fun _ h9 => h9) rfl d_RS_sent_15 ?_
    refine lv_iload_n hx hb d_RS_sent_18 rfl (lv_at hl 1 rfl) ?_
    obtain ⟨hi, h⟩ := h
    refine va_iald hx hb hK hP 1 0 rfl rfl hi d_RS_sent_19 ?_
    refine lv_goto (tgt := 24) hx hb d_RS_sent_20 (by decide) ?_
    exact B24  (P_current p1.toNatClampNeg) H locs ls h hP hD hS (lv_sub hl [] rfl)
abbrev wd_RS_damage (aP aP_block aP_original aP_lost aV aP_current aR aF aW aS aC aH : Nat) (cI cZ : ClassId) (P_size : Int32) (P_stripes : Int32) (P_sentCount : Int32) (P_lost : Nat → Int32) (P_current : Nat → Int32) : va_W := [(aP, .inr (4, [.ref aP_block, .ref aP_original, .ref aP_lost, .ref aV, .ref aP_current, .int P_size, .int P_stripes, .int P_sentCount])), (aP_lost, .inl (cZ, 1440, .inl P_lost)), (aP_current, .inl (cI, 1440, .inl P_current)), (aR, .inr (6, [.ref aF, .ref aW, .ref aS, .ref aC, .ref aP, .ref aH]))]
def wp_RS_damage_b18 (P_sentCount : Int32) (post : Int32 → (Nat → Int32) → (Nat → Int32) → Prop)  (P_lost : Nat → Int32) (P_current : Nat → Int32) : Prop := post (-1 : Int32) P_lost P_current
def wp_RS_damage_b44 (P_sentCount : Int32) (post : Int32 → (Nat → Int32) → (Nat → Int32) → Prop)  (P_lost : Nat → Int32) (P_current : Nat → Int32) : Prop := post (-1 : Int32) P_lost P_current
def wp_RS_damage (P_sentCount : Int32) (P_lost : Nat → Int32) (P_current : Nat → Int32) (p1 : Int32) (p2 : Int32) (p3 : Int32) (post : Int32 → (Nat → Int32) → (Nat → Int32) → Prop) : Prop := (p2 < (1 : Int32) → (wp_RS_damage_b18 P_sentCount post  P_lost P_current)) ∧ (¬ p2 < (1 : Int32) → (((100 : Int32) < p2 → (wp_RS_damage_b18 P_sentCount post  P_lost P_current)) ∧ (¬ (100 : Int32) < p2 → (wp_RS_mayFollow p3 (fun r_12 => ((¬ r_12 = 0 → (wp_St_hasSent P_sentCount p1 (fun r_25 => ((r_25 = 0 → (wp_RS_damage_b44 P_sentCount post  P_lost P_current)) ∧ (¬ r_25 = 0 → ((p2 ≤ (P_sentCount - p1) → (wp_St_harm P_lost P_current p1 p2 p3 (fun P_lost_53 P_current_53 => (post (1 : Int32) P_lost_53 P_current_53)))) ∧ (¬ p2 ≤ (P_sentCount - p1) → (wp_RS_damage_b44 P_sentCount post  P_lost P_current)))))))) ∧ (r_12 = 0 → (wp_RS_damage_b18 P_sentCount post  P_lost P_current))))))))
abbrev rm_RS_damage : Room := { frames := 2, cells := 0, slots := 0, locals := 40 }
set_option maxHeartbeats 4000000 in
set_option maxRecDepth 100000 in
theorem ct_RS_damage (l : Launch) (dC : Nat → ClassId) (dI : Nat → Nat → Nat) (aP aP_block aP_original aP_lost aV aP_current aR aF aW aS aC aH : Nat) (cI cZ : ClassId) (P_size : Int32) (P_stripes : Int32) (P_sentCount : Int32) (P_lost : Nat → Int32) (P_current : Nat → Int32) (p1 : Int32) (p2 : Int32) (p3 : Int32) (post : Int32 → (Nat → Int32) → (Nat → Int32) → Prop) (h : wp_RS_damage P_sentCount P_lost P_current p1 p2 p3 post) (sz : Nat) : Met l y_RS_damage (Cond.code y_RS_damage c_RS_damage 4 (some .int) :: tb) rm_RS_damage (mt_P (dC, dI) vwCl [(cI, .int), (cZ, .boolean)] [.ref aR, .int p1, .int p2, .int p3] (wd_RS_damage aP aP_block aP_original aP_lost aV aP_current aR aF aW aS aC aH cI cZ P_size P_stripes P_sentCount P_lost P_current) sz) (va_Qi (fun (r : Int32) (u : (Nat → Int32) × (Nat → Int32)) => post r u.1 u.2) (mt_B (dC, dI) vwCl [(cI, .int), (cZ, .boolean)] (wd_RS_damage aP aP_block aP_original aP_lost aV aP_current aR aF aW aS aC aH cI cZ P_size P_stripes P_sentCount P_lost P_current) sz (fun u : (Nat → Int32) × (Nat → Int32) => wd_RS_damage aP aP_block aP_original aP_lost aV aP_current aR aF aW aS aC aH cI cZ P_size P_stripes P_sentCount u.1 u.2)) (va_A (wd_RS_damage aP aP_block aP_original aP_lost aV aP_current aR aF aW aS aC aH cI cZ P_size P_stripes P_sentCount P_lost P_current) sz)) 0 0 (va_A (wd_RS_damage aP aP_block aP_original aP_lost aV aP_current aR aF aW aS aC aH cI cZ P_size P_stripes P_sentCount P_lost P_current) sz) := by
  refine mt_bd (by decide +kernel) (Nat.le_of_ble_eq_true rfl) ?_
  intro p e s m args below meth c hx hb hml hown hts hr hlk hnm hsz hP hK hD hA hS ls hl
  subst hsz
  have hown : s.vm.findClass "ReedSets" = some m.cls := hown
  have hl : lv_has ls 4 [(0, .ref aR), (1, .int p1), (2, .int p2), (3, .int p3)] := hl
  refine lz_Q (fun Q hQ => ?_)
  obtain ⟨A, hAe⟩ : ∃ A : Nat → Prop, A = va_A (wd_RS_damage aP aP_block aP_original aP_lost aV aP_current aR aF aW aS aC aH cI cZ P_size P_stripes P_sentCount P_lost P_current) s.heap.size := ⟨_, rfl⟩
  rw [← hAe] at hD hA hS
  have RET : ∀ (v : Int32) (P_lost : Nat → Int32) (P_current : Nat → Int32) (H : Heap) (locs : List Loc) (ls : Array Slot) (pc : Nat), decode c_RS_damage pc = .ok (.ireturn, 1) → post v P_lost P_current → va_P (dC, dI) vwCl (wd_RS_damage aP aP_block aP_original aP_lost aV aP_current aR aF aW aS aC aH cI cZ P_size P_stripes P_sentCount P_lost P_current) H → va_D A (wd_RS_damage aP aP_block aP_original aP_lost aV aP_current aR aF aW aS aC aH cI cZ P_size P_stripes P_sentCount P_lost P_current) → va_S A s.heap H locs → W p l e rm_RS_damage s m args below meth c H locs 0 0 Q (F0 m pc ls [.int v]) := by
    intro v P_lost P_current H locs ls pc hd hp h1 h2 h3
    rw [hQ]
    rw [hAe] at h2 h3
    exact mt_reti (P_lost, P_current) hx hb hr hlk hd hK h1 h2 h3 hp
  have B18 : ∀ (P_lost : Nat → Int32) (P_current : Nat → Int32) (H : Heap) (locs : List Loc) (ls : Array Slot), wp_RS_damage_b18 P_sentCount post  P_lost P_current → va_P (dC, dI) vwCl (wd_RS_damage aP aP_block aP_original aP_lost aV aP_current aR aF aW aS aC aH cI cZ P_size P_stripes P_sentCount P_lost P_current) H → va_D A (wd_RS_damage aP aP_block aP_original aP_lost aV aP_current aR aF aW aS aC aH cI cZ P_size P_stripes P_sentCount P_lost P_current) → va_S A s.heap H locs → lv_has ls 4 [] → W p l e rm_RS_damage s m args below meth c H locs 0 0 Q (F0 m 18 ls []) := by
    intro  P_lost P_current H locs ls h hP hD hS hl
    refine lv_iconst (v := (-1 : Int32)) hx hb d_RS_damage_18 (by decide) ?_
    exact RET (-1 : Int32) P_lost P_current H locs ls 19 d_RS_damage_19 h hP hD hS
  have B44 : ∀ (P_lost : Nat → Int32) (P_current : Nat → Int32) (H : Heap) (locs : List Loc) (ls : Array Slot), wp_RS_damage_b44 P_sentCount post  P_lost P_current → va_P (dC, dI) vwCl (wd_RS_damage aP aP_block aP_original aP_lost aV aP_current aR aF aW aS aC aH cI cZ P_size P_stripes P_sentCount P_lost P_current) H → va_D A (wd_RS_damage aP aP_block aP_original aP_lost aV aP_current aR aF aW aS aC aH cI cZ P_size P_stripes P_sentCount P_lost P_current) → va_S A s.heap H locs → lv_has ls 4 [] → W p l e rm_RS_damage s m args below meth c H locs 0 0 Q (F0 m 44 ls []) := by
    intro  P_lost P_current H locs ls h hP hD hS hl
    refine lv_iconst (v := (-1 : Int32)) hx hb d_RS_damage_44 (by decide) ?_
    exact RET (-1 : Int32) P_lost P_current H locs ls 45 d_RS_damage_45 h hP hD hS
  obtain ⟨H, hH⟩ : ∃ H : Heap, H = s.heap := ⟨_, rfl⟩
  obtain ⟨locs, hlo⟩ : ∃ x : List Loc, x = [] := ⟨_, rfl⟩
  have hS : va_S A s.heap H locs := by rw [hH, hlo]; exact hS
  rw [← hH] at hP
  rw [← hlo]
  show W p l e rm_RS_damage s m args below meth c s.heap locs 0 0 Q (F0 m 0 ls [])
  rw [← hH]
  refine lv_iload_n hx hb d_RS_damage_0 rfl (lv_at hl 2 rfl) ?_
  refine lv_iconst (v := (1 : Int32)) hx hb d_RS_damage_1 (by decide) ?_
  refine lv_icmp_lt (tgt := 18) hx hb d_RS_damage_2 (by decide) (fun g2 => ?_) (fun g2 => ?_)
  · have h := h.1 g2
    exact B18  P_lost P_current H locs ls h hP hD hS (lv_sub hl [] rfl)
  · have h := h.2 g2
    refine lv_iload_n hx hb d_RS_damage_5 rfl (lv_at hl 2 rfl) ?_
    refine lv_bipush (v := (100 : Int32)) hx hb d_RS_damage_6 (by decide) ?_
    refine lv_icmp_gt (tgt := 18) hx hb d_RS_damage_8 (by decide) (fun g8 => ?_) (fun g8 => ?_)
    · have h := h.1 g8
      exact B18  P_lost P_current H locs ls h hP hD hS (lv_sub hl [] rfl)
    · have h := h.2 g8
      refine lv_iload_n hx hb d_RS_damage_11 rfl (lv_at hl 3 rfl) ?_
      refine mt_i (va_runS (As := [.int p3]) (rest := []) ⟨hx, hb, hml, hown, hts⟩ (ct_RS_mayFollow l dC dI  cI cZ p3 _ h _) (tb_cS hts ok_RS_mayFollow tb_490 rfl rfl ⟨Nat.le_of_ble_eq_true rfl, Nat.le_of_ble_eq_true rfl⟩) (mt_preS hK hP hD [.int p3] [] rfl (by decide)) rfl rfl hl.1 rfl (lv_room (Nat.le_of_ble_eq_true rfl)) d_RS_damage_12 ⟨Nat.zero_le _, Nat.zero_le _⟩) hP hD hS hA [] rfl (fun _ => rfl) (fun r_12 u H locs h hP hD hS => ?_)
      have hP : va_P (dC, dI) vwCl (wd_RS_damage aP aP_block aP_original aP_lost aV aP_current aR aF aW aS aC aH cI cZ P_size P_stripes P_sentCount P_lost P_current) H := hP
      have hD : va_D A (wd_RS_damage aP aP_block aP_original aP_lost aV aP_current aR aF aW aS aC aH cI cZ P_size P_stripes P_sentCount P_lost P_current) := hD
      refine lv_if_ne (tgt := 20) hx hb d_RS_damage_15 (by decide) (fun g15 => ?_) (fun g15 => ?_)
      · have h := h.1 g15
        refine lv_aload_n hx hb d_RS_damage_20 rfl (lv_at hl 0 rfl) ?_
        refine va_get (D := (dC, dI)) (ci := 6) (v := .ref aP) (C := "ReedSets") (T := T_RS) (N := 6) hx hb hts in_RS hown hK hP 3 rfl rfl 4 (by decide) (hts _ tb_279) (fun _ h9 => h9) rfl d_RS_damage_21 ?_
        refine lv_iload_n hx hb d_RS_damage_24 rfl (lv_at hl 1 rfl) ?_
        refine mt_i (va_runV (As := [.int p1]) (rest := []) ⟨hx, hb, hml, hown, hts⟩ (ct_St_hasSent l dC dI aP aP_block aP_original aP_lost aV aP_current cI cZ P_size P_stripes P_sentCount p1 _ h _) (tb_cV hts ok_St_hasSent tb_535 rfl rfl ⟨Nat.le_of_ble_eq_true rfl, Nat.le_of_ble_eq_true rfl⟩) (mt_preV hK hP hD [.int p1] [0] rfl (by decide) (ci := 4) (q0 := 0) rfl rfl) rfl rfl hl.1 rfl (lv_room (Nat.le_of_ble_eq_true rfl)) d_RS_damage_25 ⟨Nat.zero_le _, Nat.zero_le _⟩) hP hD hS hA [0] rfl (fun _ => rfl) (fun r_25 u H locs h hP hD hS => ?_)
        have hP : va_P (dC, dI) vwCl (wd_RS_damage aP aP_block aP_original aP_lost aV aP_current aR aF aW aS aC aH cI cZ P_size P_stripes P_sentCount P_lost P_current) H := hP
        have hD : va_D A (wd_RS_damage aP aP_block aP_original aP_lost aV aP_current aR aF aW aS aC aH cI cZ P_size P_stripes P_sentCount P_lost P_current) := hD
        refine lv_if_eq (tgt := 44) hx hb d_RS_damage_28 (by decide) (fun g28 => ?_) (fun g28 => ?_)
        · have h := h.1 g28
          exact B44  P_lost P_current H locs ls h hP hD hS (lv_sub hl [] rfl)
        · have h := h.2 g28
          refine lv_iload_n hx hb d_RS_damage_31 rfl (lv_at hl 2 rfl) ?_
          refine lv_aload_n hx hb d_RS_damage_32 rfl (lv_at hl 0 rfl) ?_
          refine va_get (D := (dC, dI)) (ci := 6) (v := .ref aP) (C := "ReedSets") (T := T_RS) (N := 6) hx hb hts in_RS hown hK hP 3 rfl rfl 4 (by decide) (hts _ tb_279) (fun _ h9 => h9) rfl d_RS_damage_33 ?_
          refine va_get (D := (dC, dI)) (ci := 4) (v := .int P_sentCount) (C := "ReedSets$Striped") (T := T_St) (N := 8) hx hb hts in_St hown hK hP 0 rfl rfl 7 (by decide) (hts _ tb_214) (fun _ h9 => h9) rfl d_RS_damage_36 ?_
          refine lv_iload_n hx hb d_RS_damage_39 rfl (lv_at hl 1 rfl) ?_
          refine lv_isub hx hb d_RS_damage_40 ?_
          refine lv_icmp_le (tgt := 46) hx hb d_RS_damage_41 (by decide) (fun g41 => ?_) (fun g41 => ?_)
          · have h := h.1 g41
            refine lv_aload_n hx hb d_RS_damage_46 rfl (lv_at hl 0 rfl) ?_
            refine va_get (D := (dC, dI)) (ci := 6) (v := .ref aP) (C := "ReedSets") (T := T_RS) (N := 6) hx hb hts in_RS hown hK hP 3 rfl rfl 4 (by decide) (hts _ tb_279) (fun _ h9 => h9) rfl d_RS_damage_47 ?_
            refine lv_iload_n hx hb d_RS_damage_50 rfl (lv_at hl 1 rfl) ?_
            refine lv_iload_n hx hb d_RS_damage_51 rfl (lv_at hl 2 rfl) ?_
            refine lv_iload_n hx hb d_RS_damage_52 rfl (lv_at hl 3 rfl) ?_
            refine mt_v (va_runV (As := [.int p1, .int p2, .int p3]) (rest := []) ⟨hx, hb, hml, hown, hts⟩ (ct_St_harm l dC dI aP aP_block aP_original aP_lost aV aP_current cI cZ P_size P_stripes P_sentCount P_lost P_current p1 p2 p3 _ h _) (tb_cV hts ok_St_harm tb_543 rfl rfl ⟨Nat.le_of_ble_eq_true rfl, Nat.le_of_ble_eq_true rfl⟩) (mt_preV hK hP hD [.int p1, .int p2, .int p3] [0, 1, 2] rfl (by decide) (ci := 4) (q0 := 0) rfl rfl) rfl rfl hl.1 rfl (lv_room (Nat.le_of_ble_eq_true rfl)) d_RS_damage_53 ⟨Nat.zero_le _, Nat.zero_le _⟩) hP hD hS hA [0, 1, 2] rfl (fun _ => rfl) (fun u H locs h hP hD hS => ?_)
            obtain ⟨P_lost_53, P_current_53⟩ := u
            have hP : va_P (dC, dI) vwCl (wd_RS_damage aP aP_block aP_original aP_lost aV aP_current aR aF aW aS aC aH cI cZ P_size P_stripes P_sentCount P_lost_53 P_current_53) H := hP
            have hD : va_D A (wd_RS_damage aP aP_block aP_original aP_lost aV aP_current aR aF aW aS aC aH cI cZ P_size P_stripes P_sentCount P_lost_53 P_current_53) := hD
            refine lv_iconst (v := (1 : Int32)) hx hb d_RS_damage_56 (by decide) ?_
            exact RET (1 : Int32) P_lost_53 P_current_53 H locs ls 57 d_RS_damage_57 h hP hD hS
          · have h := h.2 g41
            exact B44  P_lost P_current H locs ls h hP hD hS (lv_sub hl [] rfl)
      · have h := h.2 g15
        exact B18  P_lost P_current H locs ls h hP hD hS (lv_sub hl [] rfl)
