abbrev wd_Ch_forgetAll (aC aC_places aC_differences : Nat) (cI cZ : ClassId) (C_count : Int32) : va_W := [(aC, .inr (0, [.ref aC_places, .ref aC_differences, .int C_count]))]
def wp_Ch_forgetAll (C_count : Int32) (post : Int32 → Prop) : Prop := post (0 : Int32)
abbrev rm_Ch_forgetAll : Room := { frames := 0, cells := 0, slots := 0, locals := 0 }
set_option maxHeartbeats 4000000 in
set_option maxRecDepth 100000 in
theorem ct_Ch_forgetAll (l : Launch) (dC : Nat → ClassId) (dI : Nat → Nat → Nat) (aC aC_places aC_differences : Nat) (cI cZ : ClassId) (C_count : Int32)  (post : Int32 → Prop) (h : wp_Ch_forgetAll C_count post) (sz : Nat) : Met l y_Ch_forgetAll (Cond.code y_Ch_forgetAll c_Ch_forgetAll 1 none :: tb) rm_Ch_forgetAll (mt_P (dC, dI) vwCl [(cI, .int), (cZ, .boolean)] [.ref aC] (wd_Ch_forgetAll aC aC_places aC_differences cI cZ C_count) sz) (va_Qv (fun (u : Int32) => post u) (mt_B (dC, dI) vwCl [(cI, .int), (cZ, .boolean)] (wd_Ch_forgetAll aC aC_places aC_differences cI cZ C_count) sz (fun u : Int32 => wd_Ch_forgetAll aC aC_places aC_differences cI cZ u)) (va_A (wd_Ch_forgetAll aC aC_places aC_differences cI cZ C_count) sz)) 0 0 (va_A (wd_Ch_forgetAll aC aC_places aC_differences cI cZ C_count) sz) := by
  refine mt_bd (by decide +kernel) (Nat.le_of_ble_eq_true rfl) ?_
  intro p e s m args below meth c hx hb hml hown hts hr hlk hnm hsz hP hK hD hA hS ls hl
  subst hsz
  have hown : s.vm.findClass "ReedSets$Changes" = some m.cls := hown
  have hl : lv_has ls 1 [(0, .ref aC)] := hl
  refine lz_Q (fun Q hQ => ?_)
  obtain ⟨A, hAe⟩ : ∃ A : Nat → Prop, A = va_A (wd_Ch_forgetAll aC aC_places aC_differences cI cZ C_count) s.heap.size := ⟨_, rfl⟩
  rw [← hAe] at hD hA hS
  have RET : ∀ (C_count : Int32) (H : Heap) (locs : List Loc) (ls : Array Slot) (pc : Nat), decode c_Ch_forgetAll pc = .ok (.return_, 1) → post C_count → va_P (dC, dI) vwCl (wd_Ch_forgetAll aC aC_places aC_differences cI cZ C_count) H → va_D A (wd_Ch_forgetAll aC aC_places aC_differences cI cZ C_count) → va_S A s.heap H locs → W p l e rm_Ch_forgetAll s m args below meth c H locs 0 0 Q (F0 m pc ls []) := by
    intro C_count H locs ls pc hd hp h1 h2 h3
    rw [hQ]
    rw [hAe] at h2 h3
    exact mt_retv (C_count) hx hb hr hlk hd hK h1 h2 h3 hp
  obtain ⟨H, hH⟩ : ∃ H : Heap, H = s.heap := ⟨_, rfl⟩
  obtain ⟨locs, hlo⟩ : ∃ x : List Loc, x = [] := ⟨_, rfl⟩
  have hS : va_S A s.heap H locs := by rw [hH, hlo]; exact hS
  rw [← hH] at hP
  rw [← hlo]
  show W p l e rm_Ch_forgetAll s m args below meth c s.heap locs 0 0 Q (F0 m 0 ls [])
  rw [← hH]
  refine lv_aload_n hx hb d_Ch_forgetAll_0 rfl (lv_at hl 0 rfl) ?_
  refine lv_iconst (v := (0 : Int32)) hx hb d_Ch_forgetAll_1 (by decide) ?_
  refine va_put (D := (dC, dI)) (ci := 0) (v := .int (0 : Int32)) (ty := .int) (C := "ReedSets$Changes") (T := T_Ch) (N := 3) hx hb hts in_Ch ty_Ch tk_Ch nm_Ch hown hK hP hD hS 0 rfl rfl 2 (by decide) (hts _ tb_187) (fun _ h9 => h9) rfl (by decide +kernel) rfl rfl (Nat.le_of_ble_eq_true rfl) d_Ch_forgetAll_2 (fun H locs hP hD hS => ?_)
  have hP : va_P (dC, dI) vwCl (wd_Ch_forgetAll aC aC_places aC_differences cI cZ (0 : Int32)) H := hP
  have hD : va_D A (wd_Ch_forgetAll aC aC_places aC_differences cI cZ (0 : Int32)) := hD
  exact RET (0 : Int32) H locs ls 5 d_Ch_forgetAll_5 h hP hD hS
abbrev wd_Ch_note (aC aC_places aC_differences : Nat) (cI cZ : ClassId) (C_count : Int32) (C_places : Nat → Int32) (C_differences : Nat → Int32) : va_W := [(aC, .inr (0, [.ref aC_places, .ref aC_differences, .int C_count])), (aC_places, .inl (cI, 40, .inl C_places)), (aC_differences, .inl (cI, 40, .inl C_differences))]
def wp_Ch_note_b43  (post : Int32 → (Nat → Int32) → (Nat → Int32) → Prop)  (C_count : Int32) (C_places : Nat → Int32) (C_differences : Nat → Int32) : Prop := post C_count C_places C_differences
def wp_Ch_note (C_count : Int32) (C_places : Nat → Int32) (C_differences : Nat → Int32) (p1 : Int32) (p2 : Int32) (post : Int32 → (Nat → Int32) → (Nat → Int32) → Prop) : Prop := (p2 = 0 → (wp_Ch_note_b43 post  C_count C_places C_differences)) ∧ (¬ p2 = 0 → (((40 : Int32) ≤ C_count → (wp_Ch_note_b43 post  C_count C_places C_differences)) ∧ (¬ (40 : Int32) ≤ C_count → (vp_in C_count 40 ∧ (vp_in C_count 40 ∧ (∀ y_40 : Int32, y_40 = (C_count + (1 : Int32)) → (wp_Ch_note_b43 post  y_40 (upd C_places C_count.toNatClampNeg p1) (upd C_differences C_count.toNatClampNeg p2))))))))
abbrev rm_Ch_note : Room := { frames := 0, cells := 0, slots := 0, locals := 0 }
set_option maxHeartbeats 4000000 in
set_option maxRecDepth 100000 in
theorem ct_Ch_note (l : Launch) (dC : Nat → ClassId) (dI : Nat → Nat → Nat) (aC aC_places aC_differences : Nat) (cI cZ : ClassId) (C_count : Int32) (C_places : Nat → Int32) (C_differences : Nat → Int32) (p1 : Int32) (p2 : Int32) (post : Int32 → (Nat → Int32) → (Nat → Int32) → Prop) (h : wp_Ch_note C_count C_places C_differences p1 p2 post) (sz : Nat) : Met l y_Ch_note (Cond.code y_Ch_note c_Ch_note 3 none :: tb) rm_Ch_note (mt_P (dC, dI) vwCl [(cI, .int), (cZ, .boolean)] [.ref aC, .int p1, .int p2] (wd_Ch_note aC aC_places aC_differences cI cZ C_count C_places C_differences) sz) (va_Qv (fun (u : Int32 × (Nat → Int32) × (Nat → Int32)) => post u.1 u.2.1 u.2.2) (mt_B (dC, dI) vwCl [(cI, .int), (cZ, .boolean)] (wd_Ch_note aC aC_places aC_differences cI cZ C_count C_places C_differences) sz (fun u : Int32 × (Nat → Int32) × (Nat → Int32) => wd_Ch_note aC aC_places aC_differences cI cZ u.1 u.2.1 u.2.2)) (va_A (wd_Ch_note aC aC_places aC_differences cI cZ C_count C_places C_differences) sz)) 0 0 (va_A (wd_Ch_note aC aC_places aC_differences cI cZ C_count C_places C_differences) sz) := by
  refine mt_bd (by decide +kernel) (Nat.le_of_ble_eq_true rfl) ?_
  intro p e s m args below meth c hx hb hml hown hts hr hlk hnm hsz hP hK hD hA hS ls hl
  subst hsz
  have hown : s.vm.findClass "ReedSets$Changes" = some m.cls := hown
  have hl : lv_has ls 3 [(0, .ref aC), (1, .int p1), (2, .int p2)] := hl
  refine lz_Q (fun Q hQ => ?_)
  obtain ⟨A, hAe⟩ : ∃ A : Nat → Prop, A = va_A (wd_Ch_note aC aC_places aC_differences cI cZ C_count C_places C_differences) s.heap.size := ⟨_, rfl⟩
  rw [← hAe] at hD hA hS
  have RET : ∀ (C_count : Int32) (C_places : Nat → Int32) (C_differences : Nat → Int32) (H : Heap) (locs : List Loc) (ls : Array Slot) (pc : Nat), decode c_Ch_note pc = .ok (.return_, 1) → post C_count C_places C_differences → va_P (dC, dI) vwCl (wd_Ch_note aC aC_places aC_differences cI cZ C_count C_places C_differences) H → va_D A (wd_Ch_note aC aC_places aC_differences cI cZ C_count C_places C_differences) → va_S A s.heap H locs → W p l e rm_Ch_note s m args below meth c H locs 0 0 Q (F0 m pc ls []) := by
    intro C_count C_places C_differences H locs ls pc hd hp h1 h2 h3
    rw [hQ]
    rw [hAe] at h2 h3
    exact mt_retv (C_count, C_places, C_differences) hx hb hr hlk hd hK h1 h2 h3 hp
  have B43 : ∀ (C_count : Int32) (C_places : Nat → Int32) (C_differences : Nat → Int32) (H : Heap) (locs : List Loc) (ls : Array Slot), wp_Ch_note_b43 post  C_count C_places C_differences → va_P (dC, dI) vwCl (wd_Ch_note aC aC_places aC_differences cI cZ C_count C_places C_differences) H → va_D A (wd_Ch_note aC aC_places aC_differences cI cZ C_count C_places C_differences) → va_S A s.heap H locs → lv_has ls 3 [] → W p l e rm_Ch_note s m args below meth c H locs 0 0 Q (F0 m 43 ls []) := by
    intro  C_count C_places C_differences H locs ls h hP hD hS hl
    exact RET C_count C_places C_differences H locs ls 43 d_Ch_note_43 h hP hD hS
  obtain ⟨H, hH⟩ : ∃ H : Heap, H = s.heap := ⟨_, rfl⟩
  obtain ⟨locs, hlo⟩ : ∃ x : List Loc, x = [] := ⟨_, rfl⟩
  have hS : va_S A s.heap H locs := by rw [hH, hlo]; exact hS
  rw [← hH] at hP
  rw [← hlo]
  show W p l e rm_Ch_note s m args below meth c s.heap locs 0 0 Q (F0 m 0 ls [])
  rw [← hH]
  refine lv_iload_n hx hb d_Ch_note_0 rfl (lv_at hl 2 rfl) ?_
  refine lv_if_eq (tgt := 43) hx hb d_Ch_note_1 (by decide) (fun g1 => ?_) (fun g1 => ?_)
  · have h := h.1 g1
    exact B43  C_count C_places C_differences H locs ls h hP hD hS (lv_sub hl [] rfl)
  · have h := h.2 g1
    refine lv_aload_n hx hb d_Ch_note_4 rfl (lv_at hl 0 rfl) ?_
    refine va_get (D := (dC, dI)) (ci := 0) (v := .int C_count) (C := "ReedSets$Changes") (T := T_Ch) (N := 3) hx hb hts in_Ch hown hK hP 0 rfl rfl 2 (by decide) (hts _ tb_187) (fun _ h9 => h9) rfl d_Ch_note_5 ?_
    refine lv_bipush (v := (40 : Int32)) hx hb d_Ch_note_8 (by decide) ?_
    refine lv_icmp_ge (tgt := 43) hx hb d_Ch_note_10 (by decide) (fun g10 => ?_) (fun g10 => ?_)
    · have h := h.1 g10
      exact B43  C_count C_places C_differences H locs ls h hP hD hS (lv_sub hl [] rfl)
    · have h := h.2 g10
      refine lv_aload_n hx hb d_Ch_note_13 rfl (lv_at hl 0 rfl) ?_
      refine va_get (D := (dC, dI)) (ci := 0) (v := .ref aC_places) (C := "ReedSets$Changes") (T := T_Ch) (N := 3) hx hb hts in_Ch hown hK hP 0 rfl rfl 0 (by decide) (hts _ tb_183) (fun _ h9 => h9) rfl d_Ch_note_14 ?_
      refine lv_aload_n hx hb d_Ch_note_17 rfl (lv_at hl 0 rfl) ?_
      refine va_get (D := (dC, dI)) (ci := 0) (v := .int C_count) (C := "ReedSets$Changes") (T := T_Ch) (N := 3) hx hb hts in_Ch hown hK hP 0 rfl rfl 2 (by decide) (hts _ tb_187) (fun _ h9 => h9) rfl d_Ch_note_18 ?_
      refine lv_iload_n hx hb d_Ch_note_21 rfl (lv_at hl 1 rfl) ?_
      obtain ⟨hi, h⟩ := h
      refine va_iast hx hb hK hP hD hS 1 0 rfl rfl hi d_Ch_note_22 (fun H locs hP hD hS => ?_)
      have hP : va_P (dC, dI) vwCl (wd_Ch_note aC aC_places aC_differences cI cZ C_count (upd C_places C_count.toNatClampNeg p1) C_differences) H := hP
      have hD : va_D A (wd_Ch_note aC aC_places aC_differences cI cZ C_count (upd C_places C_count.toNatClampNeg p1) C_differences) := hD
      refine lv_aload_n hx hb d_Ch_note_23 rfl (lv_at hl 0 rfl) ?_
      refine va_get (D := (dC, dI)) (ci := 0) (v := .ref aC_differences) (C := "ReedSets$Changes") (T := T_Ch) (N := 3) hx hb hts in_Ch hown hK hP 0 rfl rfl 1 (by decide) (hts _ tb_185) (fun _ h9 => h9) rfl d_Ch_note_24 ?_
      refine lv_aload_n hx hb d_Ch_note_27 rfl (lv_at hl 0 rfl) ?_
      refine va_get (D := (dC, dI)) (ci := 0) (v := .int C_count) (C := "ReedSets$Changes") (T := T_Ch) (N := 3) hx hb hts in_Ch hown hK hP 0 rfl rfl 2 (by decide) (hts _ tb_187) (fun _ h9 => h9) rfl d_Ch_note_28 ?_
      refine lv_iload_n hx hb d_Ch_note_31 rfl (lv_at hl 2 rfl) ?_
      obtain ⟨hi, h⟩ := h
      refine va_iast hx hb hK hP hD hS 2 0 rfl rfl hi d_Ch_note_32 (fun H locs hP hD hS => ?_)
      have hP : va_P (dC, dI) vwCl (wd_Ch_note aC aC_places aC_differences cI cZ C_count (upd C_places C_count.toNatClampNeg p1) (upd C_differences C_count.toNatClampNeg p2)) H := hP
      have hD : va_D A (wd_Ch_note aC aC_places aC_differences cI cZ C_count (upd C_places C_count.toNatClampNeg p1) (upd C_differences C_count.toNatClampNeg p2)) := hD
      refine lv_aload_n hx hb d_Ch_note_33 rfl (lv_at hl 0 rfl) ?_
      refine lv_dup hx hb d_Ch_note_34 rfl ?_
      refine va_get (D := (dC, dI)) (ci := 0) (v := .int C_count) (C := "ReedSets$Changes") (T := T_Ch) (N := 3) hx hb hts in_Ch hown hK hP 0 rfl rfl 2 (by decide) (hts _ tb_187) (fun _ h9 => h9) rfl d_Ch_note_35 ?_
      refine lv_iconst (v := (1 : Int32)) hx hb d_Ch_note_38 (by decide) ?_
      refine lv_iadd hx hb d_Ch_note_39 ?_
      refine lv_topi (fun y_40 ey_40 => ?_)
      have h := h y_40 ey_40
      refine va_put (D := (dC, dI)) (ci := 0) (v := .int y_40) (ty := .int) (C := "ReedSets$Changes") (T := T_Ch) (N := 3) hx hb hts in_Ch ty_Ch tk_Ch nm_Ch hown hK hP hD hS 0 rfl rfl 2 (by decide) (hts _ tb_187) (fun _ h9 => h9) rfl (by decide +kernel) rfl rfl (Nat.le_of_ble_eq_true rfl) d_Ch_note_40 (fun H locs hP hD hS => ?_)
      have hP : va_P (dC, dI) vwCl (wd_Ch_note aC aC_places aC_differences cI cZ y_40 (upd C_places C_count.toNatClampNeg p1) (upd C_differences C_count.toNatClampNeg p2)) H := hP
      have hD : va_D A (wd_Ch_note aC aC_places aC_differences cI cZ y_40 (upd C_places C_count.toNatClampNeg p1) (upd C_differences C_count.toNatClampNeg p2)) := hD
      exact B43  y_40 (upd C_places C_count.toNatClampNeg p1) (upd C_differences C_count.toNatClampNeg p2) H locs ls h hP hD hS (lv_sub hl [] rfl)
abbrev wd_St_append (aP aP_block aP_original aP_lost aV aP_current : Nat) (cI cZ : ClassId) (P_size : Int32) (P_stripes : Int32) (P_sentCount : Int32) (P_block : Nat → Int32) : va_W := [(aP, .inr (4, [.ref aP_block, .ref aP_original, .ref aP_lost, .ref aV, .ref aP_current, .int P_size, .int P_stripes, .int P_sentCount])), (aP_block, .inl (cI, 800, .inl P_block))]
def wp_St_append_b35  (post : Int32 → (Nat → Int32) → Prop)  (P_size : Int32) (P_block : Nat → Int32) : Prop := post P_size P_block
def wp_St_append (P_size : Int32) (P_block : Nat → Int32) (p1 : Int32) (post : Int32 → (Nat → Int32) → Prop) : Prop := (p1 = (-1 : Int32) → (wp_St_append_b35 post  P_size P_block)) ∧ (¬ p1 = (-1 : Int32) → (((800 : Int32) ≤ P_size → (wp_St_append_b35 post  P_size P_block)) ∧ (¬ (800 : Int32) ≤ P_size → (vp_in P_size 800 ∧ (∀ y_32 : Int32, y_32 = (P_size + (1 : Int32)) → (wp_St_append_b35 post  y_32 (upd P_block P_size.toNatClampNeg p1)))))))
abbrev rm_St_append : Room := { frames := 0, cells := 0, slots := 0, locals := 0 }
set_option maxHeartbeats 4000000 in
set_option maxRecDepth 100000 in
theorem ct_St_append (l : Launch) (dC : Nat → ClassId) (dI : Nat → Nat → Nat) (aP aP_block aP_original aP_lost aV aP_current : Nat) (cI cZ : ClassId) (P_size : Int32) (P_stripes : Int32) (P_sentCount : Int32) (P_block : Nat → Int32) (p1 : Int32) (post : Int32 → (Nat → Int32) → Prop) (h : wp_St_append P_size P_block p1 post) (sz : Nat) : Met l y_St_append (Cond.code y_St_append c_St_append 2 none :: tb) rm_St_append (mt_P (dC, dI) vwCl [(cI, .int), (cZ, .boolean)] [.ref aP, .int p1] (wd_St_append aP aP_block aP_original aP_lost aV aP_current cI cZ P_size P_stripes P_sentCount P_block) sz) (va_Qv (fun (u : Int32 × (Nat → Int32)) => post u.1 u.2) (mt_B (dC, dI) vwCl [(cI, .int), (cZ, .boolean)] (wd_St_append aP aP_block aP_original aP_lost aV aP_current cI cZ P_size P_stripes P_sentCount P_block) sz (fun u : Int32 × (Nat → Int32) => wd_St_append aP aP_block aP_original aP_lost aV aP_current cI cZ u.1 P_stripes P_sentCount u.2)) (va_A (wd_St_append aP aP_block aP_original aP_lost aV aP_current cI cZ P_size P_stripes P_sentCount P_block) sz)) 0 0 (va_A (wd_St_append aP aP_block aP_original aP_lost aV aP_current cI cZ P_size P_stripes P_sentCount P_block) sz) := by
  refine mt_bd (by decide +kernel) (Nat.le_of_ble_eq_true rfl) ?_
  intro p e s m args below meth c hx hb hml hown hts hr hlk hnm hsz hP hK hD hA hS ls hl
  subst hsz
  have hown : s.vm.findClass "ReedSets$Striped" = some m.cls := hown
  have hl : lv_has ls 2 [(0, .ref aP), (1, .int p1)] := hl
  refine lz_Q (fun Q hQ => ?_)
  obtain ⟨A, hAe⟩ : ∃ A : Nat → Prop, A = va_A (wd_St_append aP aP_block aP_original aP_lost aV aP_current cI cZ P_size P_stripes P_sentCount P_block) s.heap.size := ⟨_, rfl⟩
  rw [← hAe] at hD hA hS
  have RET : ∀ (P_size : Int32) (P_block : Nat → Int32) (H : Heap) (locs : List Loc) (ls : Array Slot) (pc : Nat), decode c_St_append pc = .ok (.return_, 1) → post P_size P_block → va_P (dC, dI) vwCl (wd_St_append aP aP_block aP_original aP_lost aV aP_current cI cZ P_size P_stripes P_sentCount P_block) H → va_D A (wd_St_append aP aP_block aP_original aP_lost aV aP_current cI cZ P_size P_stripes P_sentCount P_block) → va_S A s.heap H locs → W p l e rm_St_append s m args below meth c H locs 0 0 Q (F0 m pc ls []) := by
    intro P_size P_block H locs ls pc hd hp h1 h2 h3
    rw [hQ]
    rw [hAe] at h2 h3
    exact mt_retv (P_size, P_block) hx hb hr hlk hd hK h1 h2 h3 hp
  have B35 : ∀ (P_size : Int32) (P_block : Nat → Int32) (H : Heap) (locs : List Loc) (ls : Array Slot), wp_St_append_b35 post  P_size P_block → va_P (dC, dI) vwCl (wd_St_append aP aP_block aP_original aP_lost aV aP_current cI cZ P_size P_stripes P_sentCount P_block) H → va_D A (wd_St_append aP aP_block aP_original aP_lost aV aP_current cI cZ P_size P_stripes P_sentCount P_block) → va_S A s.heap H locs → lv_has ls 2 [] → W p l e rm_St_append s m args below meth c H locs 0 0 Q (F0 m 35 ls []) := by
    intro  P_size P_block H locs ls h hP hD hS hl
    exact RET P_size P_block H locs ls 35 d_St_append_35 h hP hD hS
  obtain ⟨H, hH⟩ : ∃ H : Heap, H = s.heap := ⟨_, rfl⟩
  obtain ⟨locs, hlo⟩ : ∃ x : List Loc, x = [] := ⟨_, rfl⟩
  have hS : va_S A s.heap H locs := by rw [hH, hlo]; exact hS
  rw [← hH] at hP
  rw [← hlo]
  show W p l e rm_St_append s m args below meth c s.heap locs 0 0 Q (F0 m 0 ls [])
  rw [← hH]
  refine lv_iload_n hx hb d_St_append_0 rfl (lv_at hl 1 rfl) ?_
  refine lv_iconst (v := (-1 : Int32)) hx hb d_St_append_1 (by decide) ?_
  refine lv_icmp_eq (tgt := 35) hx hb d_St_append_2 (by decide) (fun g2 => ?_) (fun g2 => ?_)
  · have h := h.1 g2
    exact B35  P_size P_block H locs ls h hP hD hS (lv_sub hl [] rfl)
  · have h := h.2 g2
    refine lv_aload_n hx hb d_St_append_5 rfl (lv_at hl 0 rfl) ?_
    refine va_get (D := (dC, dI)) (ci := 4) (v := .int P_size) (C := "ReedSets$Striped") (T := T_St) (N := 8) hx hb hts in_St hown hK hP 0 rfl rfl 5 (by decide) (hts _ tb_210) (fun _ h9 => h9) rfl d_St_append_6 ?_
    refine lv_sipush (v := (800 : Int32)) hx hb d_St_append_9 (by decide) ?_
    refine lv_icmp_ge (tgt := 35) hx hb d_St_append_12 (by decide) (fun g12 => ?_) (fun g12 => ?_)
    · have h := h.1 g12
      exact B35  P_size P_block H locs ls h hP hD hS (lv_sub hl [] rfl)
    · have h := h.2 g12
      refine lv_aload_n hx hb d_St_append_15 rfl (lv_at hl 0 rfl) ?_
      refine va_get (D := (dC, dI)) (ci := 4) (v := .ref aP_block) (C := "ReedSets$Striped") (T := T_St) (N := 8) hx hb hts in_St hown hK hP 0 rfl rfl 0 (by decide) (hts _ tb_204) (fun _ h9 => h9) rfl d_St_append_16 ?_
      refine lv_aload_n hx hb d_St_append_19 rfl (lv_at hl 0 rfl) ?_
      refine va_get (D := (dC, dI)) (ci := 4) (v := .int P_size) (C := "ReedSets$Striped") (T := T_St) (N := 8) hx hb hts in_St hown hK hP 0 rfl rfl 5 (by decide) (hts _ tb_210) (fun _ h9 => h9) rfl d_St_append_20 ?_
      refine lv_iload_n hx hb d_St_append_23 rfl (lv_at hl 1 rfl) ?_
      obtain ⟨hi, h⟩ := h
      refine va_iast hx hb hK hP hD hS 1 0 rfl rfl hi d_St_append_24 (fun H locs hP hD hS => ?_)
      have hP : va_P (dC, dI) vwCl (wd_St_append aP aP_block aP_original aP_lost aV aP_current cI cZ P_size P_stripes P_sentCount (upd P_block P_size.toNatClampNeg p1)) H := hP
      have hD : va_D A (wd_St_append aP aP_block aP_original aP_lost aV aP_current cI cZ P_size P_stripes P_sentCount (upd P_block P_size.toNatClampNeg p1)) := hD
      refine lv_aload_n hx hb d_St_append_25 rfl (lv_at hl 0 rfl) ?_
      refine lv_dup hx hb d_St_append_26 rfl ?_
      refine va_get (D := (dC, dI)) (ci := 4) (v := .int P_size) (C := "ReedSets$Striped") (T := T_St) (N := 8) hx hb hts in_St hown hK hP 0 rfl rfl 5 (by decide) (hts _ tb_210) (fun _ h9 => h9) rfl d_St_append_27 ?_
      refine lv_iconst (v := (1 : Int32)) hx hb d_St_append_30 (by decide) ?_
      refine lv_iadd hx hb d_St_append_31 ?_
      refine lv_topi (fun y_32 ey_32 => ?_)
      have h := h y_32 ey_32
      refine va_put (D := (dC, dI)) (ci := 4) (v := .int y_32) (ty := .int) (C := "ReedSets$Striped") (T := T_St) (N := 8) hx hb hts in_St ty_St tk_St nm_St hown hK hP hD hS 0 rfl rfl 5 (by decide) (hts _ tb_210) (fun _ h9 => h9) rfl (by decide +kernel) rfl rfl (Nat.le_of_ble_eq_true rfl) d_St_append_32 (fun H locs hP hD hS => ?_)
      have hP : va_P (dC, dI) vwCl (wd_St_append aP aP_block aP_original aP_lost aV aP_current cI cZ y_32 P_stripes P_sentCount (upd P_block P_size.toNatClampNeg p1)) H := hP
      have hD : va_D A (wd_St_append aP aP_block aP_original aP_lost aV aP_current cI cZ y_32 P_stripes P_sentCount (upd P_block P_size.toNatClampNeg p1)) := hD
      exact B35  y_32 (upd P_block P_size.toNatClampNeg p1) H locs ls h hP hD hS (lv_sub hl [] rfl)
abbrev wd_St_takeUp (aP aP_block aP_original aP_lost aV aP_current : Nat) (cI cZ : ClassId) (P_size : Int32) (P_stripes : Int32) (P_sentCount : Int32) : va_W := [(aP, .inr (4, [.ref aP_block, .ref aP_original, .ref aP_lost, .ref aV, .ref aP_current, .int P_size, .int P_stripes, .int P_sentCount]))]
def wp_St_takeUp (P_stripes : Int32) (P_sentCount : Int32) (post : Int32 → Int32 → Prop) : Prop := post (0 : Int32) (0 : Int32)
abbrev rm_St_takeUp : Room := { frames := 0, cells := 0, slots := 0, locals := 0 }
set_option maxHeartbeats 4000000 in
set_option maxRecDepth 100000 in
theorem ct_St_takeUp (l : Launch) (dC : Nat → ClassId) (dI : Nat → Nat → Nat) (aP aP_block aP_original aP_lost aV aP_current : Nat) (cI cZ : ClassId) (P_size : Int32) (P_stripes : Int32) (P_sentCount : Int32)  (post : Int32 → Int32 → Prop) (h : wp_St_takeUp P_stripes P_sentCount post) (sz : Nat) : Met l y_St_takeUp (Cond.code y_St_takeUp c_St_takeUp 1 none :: tb) rm_St_takeUp (mt_P (dC, dI) vwCl [(cI, .int), (cZ, .boolean)] [.ref aP] (wd_St_takeUp aP aP_block aP_original aP_lost aV aP_current cI cZ P_size P_stripes P_sentCount) sz) (va_Qv (fun (u : Int32 × Int32) => post u.1 u.2) (mt_B (dC, dI) vwCl [(cI, .int), (cZ, .boolean)] (wd_St_takeUp aP aP_block aP_original aP_lost aV aP_current cI cZ P_size P_stripes P_sentCount) sz (fun u : Int32 × Int32 => wd_St_takeUp aP aP_block aP_original aP_lost aV aP_current cI cZ P_size u.1 u.2)) (va_A (wd_St_takeUp aP aP_block aP_original aP_lost aV aP_current cI cZ P_size P_stripes P_sentCount) sz)) 0 0 (va_A (wd_St_takeUp aP aP_block aP_original aP_lost aV aP_current cI cZ P_size P_stripes P_sentCount) sz) := by
  refine mt_bd (by decide +kernel) (Nat.le_of_ble_eq_true rfl) ?_
  intro p e s m args below meth c hx hb hml hown hts hr hlk hnm hsz hP hK hD hA hS ls hl
  subst hsz
  have hown : s.vm.findClass "ReedSets$Striped" = some m.cls := hown
  have hl : lv_has ls 1 [(0, .ref aP)] := hl
  refine lz_Q (fun Q hQ => ?_)
  obtain ⟨A, hAe⟩ : ∃ A : Nat → Prop, A = va_A (wd_St_takeUp aP aP_block aP_original aP_lost aV aP_current cI cZ P_size P_stripes P_sentCount) s.heap.size := ⟨_, rfl⟩
  rw [← hAe] at hD hA hS
  have RET : ∀ (P_stripes : Int32) (P_sentCount : Int32) (H : Heap) (locs : List Loc) (ls : Array Slot) (pc : Nat), decode c_St_takeUp pc = .ok (.return_, 1) → post P_stripes P_sentCount → va_P (dC, dI) vwCl (wd_St_takeUp aP aP_block aP_original aP_lost aV aP_current cI cZ P_size P_stripes P_sentCount) H → va_D A (wd_St_takeUp aP aP_block aP_original aP_lost aV aP_current cI cZ P_size P_stripes P_sentCount) → va_S A s.heap H locs → W p l e rm_St_takeUp s m args below meth c H locs 0 0 Q (F0 m pc ls []) := by
    intro P_stripes P_sentCount H locs ls pc hd hp h1 h2 h3
    rw [hQ]
    rw [hAe] at h2 h3
    exact mt_retv (P_stripes, P_sentCount) hx hb hr hlk hd hK h1 h2 h3 hp
  obtain ⟨H, hH⟩ : ∃ H : Heap, H = s.heap := ⟨_, rfl⟩
  obtain ⟨locs, hlo⟩ : ∃ x : List Loc, x = [] := ⟨_, rfl⟩
  have hS : va_S A s.heap H locs := by rw [hH, hlo]; exact hS
  rw [← hH] at hP
  rw [← hlo]
  show W p l e rm_St_takeUp s m args below meth c s.heap locs 0 0 Q (F0 m 0 ls [])
  rw [← hH]
  refine lv_aload_n hx hb d_St_takeUp_0 rfl (lv_at hl 0 rfl) ?_
  refine lv_iconst (v := (0 : Int32)) hx hb d_St_takeUp_1 (by decide) ?_
  refine va_put (D := (dC, dI)) (ci := 4) (v := .int (0 : Int32)) (ty := .int) (C := "ReedSets$Striped") (T := T_St) (N := 8) hx hb hts in_St ty_St tk_St nm_St hown hK hP hD hS 0 rfl rfl 6 (by decide) (hts _ tb_212) (fun _ h9 => h9) rfl (by decide +kernel) rfl rfl (Nat.le_of_ble_eq_true rfl) d_St_takeUp_2 (fun H locs hP hD hS => ?_)
  have hP : va_P (dC, dI) vwCl (wd_St_takeUp aP aP_block aP_original aP_lost aV aP_current cI cZ P_size (0 : Int32) P_sentCount) H := hP
  have hD : va_D A (wd_St_takeUp aP aP_block aP_original aP_lost aV aP_current cI cZ P_size (0 : Int32) P_sentCount) := hD
  refine lv_aload_n hx hb d_St_takeUp_5 rfl (lv_at hl 0 rfl) ?_
  refine lv_iconst (v := (0 : Int32)) hx hb d_St_takeUp_6 (by decide) ?_
  refine va_put (D := (dC, dI)) (ci := 4) (v := .int (0 : Int32)) (ty := .int) (C := "ReedSets$Striped") (T := T_St) (N := 8) hx hb hts in_St ty_St tk_St nm_St hown hK hP hD hS 0 rfl rfl 7 (by decide) (hts _ tb_213) (fun _ h9 => h9) rfl (by decide +kernel) rfl rfl (Nat.le_of_ble_eq_true rfl) d_St_takeUp_7 (fun H locs hP hD hS => ?_)
  have hP : va_P (dC, dI) vwCl (wd_St_takeUp aP aP_block aP_original aP_lost aV aP_current cI cZ P_size (0 : Int32) (0 : Int32)) H := hP
  have hD : va_D A (wd_St_takeUp aP aP_block aP_original aP_lost aV aP_current cI cZ P_size (0 : Int32) (0 : Int32)) := hD
  exact RET (0 : Int32) (0 : Int32) H locs ls 10 d_St_takeUp_10 h hP hD hS
abbrev wd_St_slotOf (aV aF aV_bytes aV_lost aV_factors aP aP_block aP_original aP_lost aP_current : Nat) (cI cZ : ClassId) (V_lostCount : Int32) (V_data : Int32) (V_repairs : Int32) (V_first : Int32) (P_size : Int32) (P_stripes : Int32) (P_sentCount : Int32) : va_W := [(aV, .inr (5, [.ref aF, .ref aV_bytes, .ref aV_lost, .ref aV_factors, .int V_lostCount, .int V_data, .int V_repairs, .int V_first])), (aP, .inr (4, [.ref aP_block, .ref aP_original, .ref aP_lost, .ref aV, .ref aP_current, .int P_size, .int P_stripes, .int P_sentCount]))]
def wp_St_slotOf_b55 (V_data : Int32) (P_size : Int32) (P_stripes : Int32) (post : Int32 → Prop)  (t0 : Int32) : Prop := post t0
def wp_St_slotOf (V_data : Int32) (P_size : Int32) (P_stripes : Int32) (p1 : Int32) (p2 : Int32) (post : Int32 → Prop) : Prop := (p2 < V_data → (∀ x3_41 : Int32, x3_41 = ((p2 * P_stripes) + p1) → ((P_size ≤ x3_41 → (wp_St_slotOf_b55 V_data P_size P_stripes post  (-1 : Int32))) ∧ (¬ P_size ≤ x3_41 → (wp_St_slotOf_b55 V_data P_size P_stripes post  x3_41))))) ∧ (¬ p2 < V_data → (post ((P_size + ((p2 - V_data) * P_stripes)) + p1)))
abbrev rm_St_slotOf : Room := { frames := 0, cells := 0, slots := 0, locals := 0 }
set_option maxHeartbeats 4000000 in
set_option maxRecDepth 100000 in
theorem ct_St_slotOf (l : Launch) (dC : Nat → ClassId) (dI : Nat → Nat → Nat) (aV aF aV_bytes aV_lost aV_factors aP aP_block aP_original aP_lost aP_current : Nat) (cI cZ : ClassId) (V_lostCount : Int32) (V_data : Int32) (V_repairs : Int32) (V_first : Int32) (P_size : Int32) (P_stripes : Int32) (P_sentCount : Int32) (p1 : Int32) (p2 : Int32) (post : Int32 → Prop) (h : wp_St_slotOf V_data P_size P_stripes p1 p2 post) (sz : Nat) : Met l y_St_slotOf (Cond.code y_St_slotOf c_St_slotOf 4 (some .int) :: tb) rm_St_slotOf (mt_P (dC, dI) vwCl [(cI, .int), (cZ, .boolean)] [.ref aP, .int p1, .int p2] (wd_St_slotOf aV aF aV_bytes aV_lost aV_factors aP aP_block aP_original aP_lost aP_current cI cZ V_lostCount V_data V_repairs V_first P_size P_stripes P_sentCount) sz) (va_Qi (fun (r : Int32) (u : Unit) => post r) (mt_B (dC, dI) vwCl [(cI, .int), (cZ, .boolean)] (wd_St_slotOf aV aF aV_bytes aV_lost aV_factors aP aP_block aP_original aP_lost aP_current cI cZ V_lostCount V_data V_repairs V_first P_size P_stripes P_sentCount) sz (fun u : Unit => wd_St_slotOf aV aF aV_bytes aV_lost aV_factors aP aP_block aP_original aP_lost aP_current cI cZ V_lostCount V_data V_repairs V_first P_size P_stripes P_sentCount)) (va_A (wd_St_slotOf aV aF aV_bytes aV_lost aV_factors aP aP_block aP_original aP_lost aP_current cI cZ V_lostCount V_data V_repairs V_first P_size P_stripes P_sentCount) sz)) 0 0 (va_A (wd_St_slotOf aV aF aV_bytes aV_lost aV_factors aP aP_block aP_original aP_lost aP_current cI cZ V_lostCount V_data V_repairs V_first P_size P_stripes P_sentCount) sz) := by
  refine mt_bd (by decide +kernel) (Nat.le_of_ble_eq_true rfl) ?_
  intro p e s m args below meth c hx hb hml hown hts hr hlk hnm hsz hP hK hD hA hS ls hl
  subst hsz
  have hown : s.vm.findClass "ReedSets$Striped" = some m.cls := hown
  have hl : lv_has ls 4 [(0, .ref aP), (1, .int p1), (2, .int p2)] := hl
  refine lz_Q (fun Q hQ => ?_)
  obtain ⟨A, hAe⟩ : ∃ A : Nat → Prop, A = va_A (wd_St_slotOf aV aF aV_bytes aV_lost aV_factors aP aP_block aP_original aP_lost aP_current cI cZ V_lostCount V_data V_repairs V_first P_size P_stripes P_sentCount) s.heap.size := ⟨_, rfl⟩
  rw [← hAe] at hD hA hS
  have RET : ∀ (v : Int32)  (H : Heap) (locs : List Loc) (ls : Array Slot) (pc : Nat), decode c_St_slotOf pc = .ok (.ireturn, 1) → post v  → va_P (dC, dI) vwCl (wd_St_slotOf aV aF aV_bytes aV_lost aV_factors aP aP_block aP_original aP_lost aP_current cI cZ V_lostCount V_data V_repairs V_first P_size P_stripes P_sentCount) H → va_D A (wd_St_slotOf aV aF aV_bytes aV_lost aV_factors aP aP_block aP_original aP_lost aP_current cI cZ V_lostCount V_data V_repairs V_first P_size P_stripes P_sentCount) → va_S A s.heap H locs → W p l e rm_St_slotOf s m args below meth c H locs 0 0 Q (F0 m pc ls [.int v]) := by
    intro v  H locs ls pc hd hp h1 h2 h3
    rw [hQ]
    rw [hAe] at h2 h3
    exact mt_reti () hx hb hr hlk hd hK h1 h2 h3 hp
  have B55 : ∀ (t0 : Int32) (H : Heap) (locs : List Loc) (ls : Array Slot), wp_St_slotOf_b55 V_data P_size P_stripes post  t0 → va_P (dC, dI) vwCl (wd_St_slotOf aV aF aV_bytes aV_lost aV_factors aP aP_block aP_original aP_lost aP_current cI cZ V_lostCount V_data V_repairs V_first P_size P_stripes P_sentCount) H → va_D A (wd_St_slotOf aV aF aV_bytes aV_lost aV_factors aP aP_block aP_original aP_lost aP_current cI cZ V_lostCount V_data V_repairs V_first P_size P_stripes P_sentCount) → va_S A s.heap H locs → lv_has ls 4 [] → W p l e rm_St_slotOf s m args below meth c H locs 0 0 Q (F0 m 55 ls [.int t0]) := by
    intro  t0 H locs ls h hP hD hS hl
    exact RET t0 H locs ls 55 d_St_slotOf_55 h hP hD hS
  obtain ⟨H, hH⟩ : ∃ H : Heap, H = s.heap := ⟨_, rfl⟩
  obtain ⟨locs, hlo⟩ : ∃ x : List Loc, x = [] := ⟨_, rfl⟩
  have hS : va_S A s.heap H locs := by rw [hH, hlo]; exact hS
  rw [← hH] at hP
  rw [← hlo]
  show W p l e rm_St_slotOf s m args below meth c s.heap locs 0 0 Q (F0 m 0 ls [])
  rw [← hH]
  refine lv_iload_n hx hb d_St_slotOf_0 rfl (lv_at hl 2 rfl) ?_
  refine lv_aload_n hx hb d_St_slotOf_1 rfl (lv_at hl 0 rfl) ?_
  refine va_get (D := (dC, dI)) (ci := 4) (v := .ref aV) (C := "ReedSets$Striped") (T := T_St) (N := 8) hx hb hts in_St hown hK hP 1 rfl rfl 3 (by decide) (hts _ tb_207) (fun _ h9 => h9) rfl d_St_slotOf_2 ?_
  refine va_get (D := (dC, dI)) (ci := 5) (v := .int V_data) (C := "ReedSets$Word") (T := T_Wo) (N := 8) hx hb hts in_Wo hown hK hP 0 rfl rfl 5 (by decide) (hts _ tb_116) (fun _ h9 => h9) rfl d_St_slotOf_5 ?_
  refine lv_icmp_lt (tgt := 33) hx hb d_St_slotOf_8 (by decide) (fun g8 => ?_) (fun g8 => ?_)
  · have h := h.1 g8
    refine lv_iload_n hx hb d_St_slotOf_33 rfl (lv_at hl 2 rfl) ?_
    refine lv_aload_n hx hb d_St_slotOf_34 rfl (lv_at hl 0 rfl) ?_
    refine va_get (D := (dC, dI)) (ci := 4) (v := .int P_stripes) (C := "ReedSets$Striped") (T := T_St) (N := 8) hx hb hts in_St hown hK hP 1 rfl rfl 6 (by decide) (hts _ tb_212) (fun _ h9 => h9) rfl d_St_slotOf_35 ?_
    refine lv_imul hx hb d_St_slotOf_38 ?_
    refine lv_iload_n hx hb d_St_slotOf_39 rfl (lv_at hl 1 rfl) ?_
    refine lv_iadd hx hb d_St_slotOf_40 ?_
    refine lv_topi (fun x3_41 ex3_41 => ?_)
    have h := h x3_41 ex3_41
    refine lv_istore_n (lv' := [(3, .int x3_41), (0, .ref aP), (1, .int p1), (2, .int p2)]) hx hb d_St_slotOf_41 rfl hl (by decide) rfl (fun ls hl => ?_)
    refine lv_iload_n hx hb d_St_slotOf_42 rfl (lv_at hl 0 rfl) ?_
    refine lv_aload_n hx hb d_St_slotOf_43 rfl (lv_at hl 1 rfl) ?_
    refine va_get (D := (dC, dI)) (ci := 4) (v := .int P_size) (C := "ReedSets$Striped") (T := T_St) (N := 8) hx hb hts in_St hown hK hP 1 rfl rfl 5 (by decide) (hts _ tb_210) (fun _ h9 => h9) rfl d_St_slotOf_44 ?_
    refine lv_icmp_ge (tgt := 54) hx hb d_St_slotOf_47 (by decide) (fun g47 => ?_) (fun g47 => ?_)
    · have h := h.1 g47
      refine lv_iconst (v := (-1 : Int32)) hx hb d_St_slotOf_54 (by decide) ?_
      exact B55  (-1 : Int32) H locs ls h hP hD hS (lv_sub hl [] rfl)
    · have h := h.2 g47
      refine lv_iload_n hx hb d_St_slotOf_50 rfl (lv_at hl 0 rfl) ?_
      refine lv_goto (tgt := 55) hx hb d_St_slotOf_51 (by decide) ?_
      exact B55  x3_41 H locs ls h hP hD hS (lv_sub hl [] rfl)
  · have h := h.2 g8
    refine lv_aload_n hx hb d_St_slotOf_11 rfl (lv_at hl 0 rfl) ?_
    refine va_get (D := (dC, dI)) (ci := 4) (v := .int P_size) (C := "ReedSets$Striped") (T := T_St) (N := 8) hx hb hts in_St hown hK hP 1 rfl rfl 5 (by decide) (hts _ tb_210) (fun _ h9 => h9) rfl d_St_slotOf_12 ?_
    refine lv_iload_n hx hb d_St_slotOf_15 rfl (lv_at hl 2 rfl) ?_
    refine lv_aload_n hx hb d_St_slotOf_16 rfl (lv_at hl 0 rfl) ?_
    refine va_get (D := (dC, dI)) (ci := 4) (v := .ref aV) (C := "ReedSets$Striped") (T := T_St) (N := 8) hx hb hts in_St hown hK hP 1 rfl rfl 3 (by decide) (hts _ tb_207) (fun _ h9 => h9) rfl d_St_slotOf_17 ?_
    refine va_get (D := (dC, dI)) (ci := 5) (v := .int V_data) (C := "ReedSets$Word") (T := T_Wo) (N := 8) hx hb hts in_Wo hown hK hP 0 rfl rfl 5 (by decide) (hts _ tb_116) (fun _ h9 => h9) rfl d_St_slotOf_20 ?_
    refine lv_isub hx hb d_St_slotOf_23 ?_
    refine lv_aload_n hx hb d_St_slotOf_24 rfl (lv_at hl 0 rfl) ?_
    refine va_get (D := (dC, dI)) (ci := 4) (v := .int P_stripes) (C := "ReedSets$Striped") (T := T_St) (N := 8) hx hb hts in_St hown hK hP 1 rfl rfl 6 (by decide) (hts _ tb_212) (fun _ h9 => h9) rfl d_St_slotOf_25 ?_
    refine lv_imul hx hb d_St_slotOf_28 ?_
    refine lv_iadd hx hb d_St_slotOf_29 ?_
    refine lv_iload_n hx hb d_St_slotOf_30 rfl (lv_at hl 1 rfl) ?_
    refine lv_iadd hx hb d_St_slotOf_31 ?_
    exact RET ((P_size + ((p2 - V_data) * P_stripes)) + p1) H locs ls 32 d_St_slotOf_32 h hP hD hS
abbrev wd_St_storeStripe (aV aF aV_bytes aV_lost aV_factors aP aP_block aP_original aP_lost aP_current : Nat) (cI cZ : ClassId) (V_lostCount : Int32) (V_data : Int32) (V_repairs : Int32) (V_first : Int32) (V_bytes : Nat → Int32) (P_size : Int32) (P_stripes : Int32) (P_sentCount : Int32) (P_lost : Nat → Int32) (P_current : Nat → Int32) : va_W := [(aV, .inr (5, [.ref aF, .ref aV_bytes, .ref aV_lost, .ref aV_factors, .int V_lostCount, .int V_data, .int V_repairs, .int V_first])), (aV_bytes, .inl (cI, 240, .inl V_bytes)), (aP, .inr (4, [.ref aP_block, .ref aP_original, .ref aP_lost, .ref aV, .ref aP_current, .int P_size, .int P_stripes, .int P_sentCount])), (aP_lost, .inl (cZ, 1440, .inl P_lost)), (aP_current, .inl (cI, 1440, .inl P_current))]
def wp_St_storeStripe_b47 (V_data : Int32) (V_repairs : Int32) (V_bytes : Nat → Int32) (P_size : Int32) (P_stripes : Int32) (post : (Nat → Int32) → (Nat → Int32) → Prop) (K2 : (Nat → Int32) → (Nat → Int32) → Int32 → Int32 → Prop) (P_lost : Nat → Int32) (P_current : Nat → Int32) (x1 : Int32) (x2 : Int32) : Prop := ∀ x2_47 : Int32, x2_47 = (x2 + (1 : Int32)) → (K2 P_lost P_current x1 x2_47)
def wp_St_storeStripe_b2 (V_data : Int32) (V_repairs : Int32) (V_bytes : Nat → Int32) (P_size : Int32) (P_stripes : Int32) (post : (Nat → Int32) → (Nat → Int32) → Prop) (K2 : (Nat → Int32) → (Nat → Int32) → Int32 → Int32 → Prop) (P_lost : Nat → Int32) (P_current : Nat → Int32) (x1 : Int32) (x2 : Int32) : Prop := wp_Wo_size V_data V_repairs (fun r_7 => ((r_7 ≤ x2 → (post P_lost P_current)) ∧ (¬ r_7 ≤ x2 → (wp_St_slotOf V_data P_size P_stripes x1 x2 (fun r_16 => ((r_16 = (-1 : Int32) → (wp_St_storeStripe_b47 V_data V_repairs V_bytes P_size P_stripes post K2 P_lost P_current x1 x2)) ∧ (¬ r_16 = (-1 : Int32) → (vp_in x2 240 ∧ (vp_in r_16 1440 ∧ (vp_in r_16 1440 ∧ (wp_St_storeStripe_b47 V_data V_repairs V_bytes P_size P_stripes post K2 (upd P_lost r_16.toNatClampNeg (0 : Int32)) (upd P_current r_16.toNatClampNeg (V_bytes x2.toNatClampNeg)) x1 x2)))))))))))
def wp_St_storeStripe_L2 (V_data : Int32) (V_repairs : Int32) (V_bytes : Nat → Int32) (P_size : Int32) (P_stripes : Int32) (post : (Nat → Int32) → (Nat → Int32) → Prop)  : Nat → (Nat → Int32) → (Nat → Int32) → Int32 → Int32 → Prop
  | 0 => fun _ _ _ _ => False
  | n + 1 => wp_St_storeStripe_b2 V_data V_repairs V_bytes P_size P_stripes post (wp_St_storeStripe_L2 V_data V_repairs V_bytes P_size P_stripes post n)
def wp_St_storeStripe (V_data : Int32) (V_repairs : Int32) (V_bytes : Nat → Int32) (P_size : Int32) (P_stripes : Int32) (P_lost : Nat → Int32) (P_current : Nat → Int32) (p1 : Int32) (post : (Nat → Int32) → (Nat → Int32) → Prop) : Prop := ∃ n : Nat, wp_St_storeStripe_L2 V_data V_repairs V_bytes P_size P_stripes post  n P_lost P_current p1 (0 : Int32)
abbrev rm_St_storeStripe : Room := { frames := 1, cells := 0, slots := 0, locals := 23 }
set_option maxHeartbeats 4000000 in
set_option maxRecDepth 100000 in
theorem ct_St_storeStripe (l : Launch) (dC : Nat → ClassId) (dI : Nat → Nat → Nat) (aV aF aV_bytes aV_lost aV_factors aP aP_block aP_original aP_lost aP_current : Nat) (cI cZ : ClassId) (V_lostCount : Int32) (V_data : Int32) (V_repairs : Int32) (V_first : Int32) (V_bytes : Nat → Int32) (P_size : Int32) (P_stripes : Int32) (P_sentCount : Int32) (P_lost : Nat → Int32) (P_current : Nat → Int32) (p1 : Int32) (post : (Nat → Int32) → (Nat → Int32) → Prop) (h : wp_St_storeStripe V_data V_repairs V_bytes P_size P_stripes P_lost P_current p1 post) (sz : Nat) : Met l y_St_storeStripe (Cond.code y_St_storeStripe c_St_storeStripe 4 none :: tb) rm_St_storeStripe (mt_P (dC, dI) vwCl [(cI, .int), (cZ, .boolean)] [.ref aP, .int p1] (wd_St_storeStripe aV aF aV_bytes aV_lost aV_factors aP aP_block aP_original aP_lost aP_current cI cZ V_lostCount V_data V_repairs V_first V_bytes P_size P_stripes P_sentCount P_lost P_current) sz) (va_Qv (fun (u : (Nat → Int32) × (Nat → Int32)) => post u.1 u.2) (mt_B (dC, dI) vwCl [(cI, .int), (cZ, .boolean)] (wd_St_storeStripe aV aF aV_bytes aV_lost aV_factors aP aP_block aP_original aP_lost aP_current cI cZ V_lostCount V_data V_repairs V_first V_bytes P_size P_stripes P_sentCount P_lost P_current) sz (fun u : (Nat → Int32) × (Nat → Int32) => wd_St_storeStripe aV aF aV_bytes aV_lost aV_factors aP aP_block aP_original aP_lost aP_current cI cZ V_lostCount V_data V_repairs V_first V_bytes P_size P_stripes P_sentCount u.1 u.2)) (va_A (wd_St_storeStripe aV aF aV_bytes aV_lost aV_factors aP aP_block aP_original aP_lost aP_current cI cZ V_lostCount V_data V_repairs V_first V_bytes P_size P_stripes P_sentCount P_lost P_current) sz)) 0 0 (va_A (wd_St_storeStripe aV aF aV_bytes aV_lost aV_factors aP aP_block aP_original aP_lost aP_current cI cZ V_lostCount V_data V_repairs V_first V_bytes P_size P_stripes P_sentCount P_lost P_current) sz) := by
  refine mt_bd (by decide +kernel) (Nat.le_of_ble_eq_true rfl) ?_
  intro p e s m args below meth c hx hb hml hown hts hr hlk hnm hsz hP hK hD hA hS ls hl
  subst hsz
  have hown : s.vm.findClass "ReedSets$Striped" = some m.cls := hown
  have hl : lv_has ls 4 [(0, .ref aP), (1, .int p1)] := hl
  refine lz_Q (fun Q hQ => ?_)
  obtain ⟨A, hAe⟩ : ∃ A : Nat → Prop, A = va_A (wd_St_storeStripe aV aF aV_bytes aV_lost aV_factors aP aP_block aP_original aP_lost aP_current cI cZ V_lostCount V_data V_repairs V_first V_bytes P_size P_stripes P_sentCount P_lost P_current) s.heap.size := ⟨_, rfl⟩
  rw [← hAe] at hD hA hS
  have RET : ∀ (P_lost : Nat → Int32) (P_current : Nat → Int32) (H : Heap) (locs : List Loc) (ls : Array Slot) (pc : Nat), decode c_St_storeStripe pc = .ok (.return_, 1) → post P_lost P_current → va_P (dC, dI) vwCl (wd_St_storeStripe aV aF aV_bytes aV_lost aV_factors aP aP_block aP_original aP_lost aP_current cI cZ V_lostCount V_data V_repairs V_first V_bytes P_size P_stripes P_sentCount P_lost P_current) H → va_D A (wd_St_storeStripe aV aF aV_bytes aV_lost aV_factors aP aP_block aP_original aP_lost aP_current cI cZ V_lostCount V_data V_repairs V_first V_bytes P_size P_stripes P_sentCount P_lost P_current) → va_S A s.heap H locs → W p l e rm_St_storeStripe s m args below meth c H locs 0 0 Q (F0 m pc ls []) := by
    intro P_lost P_current H locs ls pc hd hp h1 h2 h3
    rw [hQ]
    rw [hAe] at h2 h3
    exact mt_retv (P_lost, P_current) hx hb hr hlk hd hK h1 h2 h3 hp
  have B47 : ∀ (K2 : (Nat → Int32) → (Nat → Int32) → Int32 → Int32 → Prop) (HK2 : ∀ (P_lost : Nat → Int32) (P_current : Nat → Int32) (x1 : Int32) (x2 : Int32) (H : Heap) (locs : List Loc) (ls : Array Slot), K2 P_lost P_current x1 x2 → va_P (dC, dI) vwCl (wd_St_storeStripe aV aF aV_bytes aV_lost aV_factors aP aP_block aP_original aP_lost aP_current cI cZ V_lostCount V_data V_repairs V_first V_bytes P_size P_stripes P_sentCount P_lost P_current) H → va_D A (wd_St_storeStripe aV aF aV_bytes aV_lost aV_factors aP aP_block aP_original aP_lost aP_current cI cZ V_lostCount V_data V_repairs V_first V_bytes P_size P_stripes P_sentCount P_lost P_current) → va_S A s.heap H locs → lv_has ls 4 [(0, .ref aP), (1, .int x1), (2, .int x2)] → W p l e rm_St_storeStripe s m args below meth c H locs 0 0 Q (F0 m 2 ls [])), ∀ (P_lost : Nat → Int32) (P_current : Nat → Int32) (x1 : Int32) (x2 : Int32) (H : Heap) (locs : List Loc) (ls : Array Slot), wp_St_storeStripe_b47 V_data V_repairs V_bytes P_size P_stripes post K2 P_lost P_current x1 x2 → va_P (dC, dI) vwCl (wd_St_storeStripe aV aF aV_bytes aV_lost aV_factors aP aP_block aP_original aP_lost aP_current cI cZ V_lostCount V_data V_repairs V_first V_bytes P_size P_stripes P_sentCount P_lost P_current) H → va_D A (wd_St_storeStripe aV aF aV_bytes aV_lost aV_factors aP aP_block aP_original aP_lost aP_current cI cZ V_lostCount V_data V_repairs V_first V_bytes P_size P_stripes P_sentCount P_lost P_current) → va_S A s.heap H locs → lv_has ls 4 [(0, .ref aP), (1, .int x1), (2, .int x2)] → W p l e rm_St_storeStripe s m args below meth c H locs 0 0 Q (F0 m 47 ls []) := by
    intro K2 HK2 P_lost P_current x1 x2 H locs ls h hP hD hS hl
    obtain ⟨x2_47, ex2_47⟩ : ∃ y : Int32, y = (x2 + (1 : Int32)) := ⟨_, rfl⟩
    have h := h x2_47 ex2_47
    refine lv_iinc (v := x2_47) (lv' := [(2, .int x2_47), (0, .ref aP), (1, .int x1)]) hx hb d_St_storeStripe_47 hl (k := 2) rfl (by rw [ex2_47]; rfl) (by decide) rfl (fun ls hl => ?_)
    refine lv_goto (tgt := 2) hx hb d_St_storeStripe_50 (by decide) ?_
    exact HK2 P_lost P_current x1 x2_47 H locs ls h hP hD hS (lv_sub hl [1, 2, 0] rfl)
  have B2 : ∀ (K2 : (Nat → Int32) → (Nat → Int32) → Int32 → Int32 → Prop) (HK2 : ∀ (P_lost : Nat → Int32) (P_current : Nat → Int32) (x1 : Int32) (x2 : Int32) (H : Heap) (locs : List Loc) (ls : Array Slot), K2 P_lost P_current x1 x2 → va_P (dC, dI) vwCl (wd_St_storeStripe aV aF aV_bytes aV_lost aV_factors aP aP_block aP_original aP_lost aP_current cI cZ V_lostCount V_data V_repairs V_first V_bytes P_size P_stripes P_sentCount P_lost P_current) H → va_D A (wd_St_storeStripe aV aF aV_bytes aV_lost aV_factors aP aP_block aP_original aP_lost aP_current cI cZ V_lostCount V_data V_repairs V_first V_bytes P_size P_stripes P_sentCount P_lost P_current) → va_S A s.heap H locs → lv_has ls 4 [(0, .ref aP), (1, .int x1), (2, .int x2)] → W p l e rm_St_storeStripe s m args below meth c H locs 0 0 Q (F0 m 2 ls [])), ∀ (P_lost : Nat → Int32) (P_current : Nat → Int32) (x1 : Int32) (x2 : Int32) (H : Heap) (locs : List Loc) (ls : Array Slot), wp_St_storeStripe_b2 V_data V_repairs V_bytes P_size P_stripes post K2 P_lost P_current x1 x2 → va_P (dC, dI) vwCl (wd_St_storeStripe aV aF aV_bytes aV_lost aV_factors aP aP_block aP_original aP_lost aP_current cI cZ V_lostCount V_data V_repairs V_first V_bytes P_size P_stripes P_sentCount P_lost P_current) H → va_D A (wd_St_storeStripe aV aF aV_bytes aV_lost aV_factors aP aP_block aP_original aP_lost aP_current cI cZ V_lostCount V_data V_repairs V_first V_bytes P_size P_stripes P_sentCount P_lost P_current) → va_S A s.heap H locs → lv_has ls 4 [(0, .ref aP), (1, .int x1), (2, .int x2)] → W p l e rm_St_storeStripe s m args below meth c H locs 0 0 Q (F0 m 2 ls []) := by
    intro K2 HK2 P_lost P_current x1 x2 H locs ls h hP hD hS hl
    refine lv_iload_n hx hb d_St_storeStripe_2 rfl (lv_at hl 2 rfl) ?_
    refine lv_aload_n hx hb d_St_storeStripe_3 rfl (lv_at hl 0 rfl) ?_
    refine va_get (D := (dC, dI)) (ci := 4) (v := .ref aV) (C := "ReedSets$Striped") (T := T_St) (N := 8) hx hb hts in_St hown hK hP 2 rfl rfl 3 (by decide) (hts _ tb_207) (fun _ h9 => h9) rfl d_St_storeStripe_4 ?_
    refine mt_i (va_runV (As := []) (rest := [.int x2]) ⟨hx, hb, hml, hown, hts⟩ (ct_Wo_size l dC dI aV aF aV_bytes aV_lost aV_factors cI cZ V_lostCount V_data V_repairs V_first _ h _) (tb_cV hts ok_Wo_size tb_530 rfl rfl ⟨Nat.le_of_ble_eq_true rfl, Nat.le_of_ble_eq_true rfl⟩) (mt_preV hK hP hD [] [0] rfl (by decide) (ci := 5) (q0 := 0) rfl rfl) rfl rfl hl.1 rfl (lv_room (Nat.le_of_ble_eq_true rfl)) d_St_storeStripe_7 ⟨Nat.zero_le _, Nat.zero_le _⟩) hP hD hS hA [0] rfl (fun _ => rfl) (fun r_7 u H locs h hP hD hS => ?_)
    have hP : va_P (dC, dI) vwCl (wd_St_storeStripe aV aF aV_bytes aV_lost aV_factors aP aP_block aP_original aP_lost aP_current cI cZ V_lostCount V_data V_repairs V_first V_bytes P_size P_stripes P_sentCount P_lost P_current) H := hP
    have hD : va_D A (wd_St_storeStripe aV aF aV_bytes aV_lost aV_factors aP aP_block aP_original aP_lost aP_current cI cZ V_lostCount V_data V_repairs V_first V_bytes P_size P_stripes P_sentCount P_lost P_current) := hD
    refine lv_icmp_ge (tgt := 53) hx hb d_St_storeStripe_10 (by decide) (fun g10 => ?_) (fun g10 => ?_)
    · have h := h.1 g10
      exact RET P_lost P_current H locs ls 53 d_St_storeStripe_53 h hP hD hS
    · have h := h.2 g10
      refine lv_aload_n hx hb d_St_storeStripe_13 rfl (lv_at hl 0 rfl) ?_
      refine lv_iload_n hx hb d_St_storeStripe_14 rfl (lv_at hl 1 rfl) ?_
      refine lv_iload_n hx hb d_St_storeStripe_15 rfl (lv_at hl 2 rfl) ?_
      refine mt_i (va_runV (As := [.int x1, .int x2]) (rest := []) ⟨hx, hb, hml, hown, hts⟩ (ct_St_slotOf l dC dI aV aF aV_bytes aV_lost aV_factors aP aP_block aP_original aP_lost aP_current cI cZ V_lostCount V_data V_repairs V_first P_size P_stripes P_sentCount x1 x2 _ h _) (tb_cV hts ok_St_slotOf tb_521 rfl rfl ⟨Nat.le_of_ble_eq_true rfl, Nat.le_of_ble_eq_true rfl⟩) (mt_preV hK hP hD [.int x1, .int x2] [0, 2] rfl (by decide) (ci := 4) (q0 := 2) rfl rfl) rfl rfl hl.1 rfl (lv_room (Nat.le_of_ble_eq_true rfl)) d_St_storeStripe_16 ⟨Nat.zero_le _, Nat.zero_le _⟩) hP hD hS hA [0, 2] rfl (fun _ => rfl) (fun r_16 u H locs h hP hD hS => ?_)
      have hP : va_P (dC, dI) vwCl (wd_St_storeStripe aV aF aV_bytes aV_lost aV_factors aP aP_block aP_original aP_lost aP_current cI cZ V_lostCount V_data V_repairs V_first V_bytes P_size P_stripes P_sentCount P_lost P_current) H := hP
      have hD : va_D A (wd_St_storeStripe aV aF aV_bytes aV_lost aV_factors aP aP_block aP_original aP_lost aP_current cI cZ V_lostCount V_data V_repairs V_first V_bytes P_size P_stripes P_sentCount P_lost P_current) := hD
      refine lv_istore_n (lv' := [(3, .int r_16), (0, .ref aP), (1, .int x1), (2, .int x2)]) hx hb d_St_storeStripe_19 rfl hl (by decide) rfl (fun ls hl => ?_)
      refine lv_iload_n hx hb d_St_storeStripe_20 rfl (lv_at hl 0 rfl) ?_
      refine lv_iconst (v := (-1 : Int32)) hx hb d_St_storeStripe_21 (by decide) ?_
      refine lv_icmp_eq (tgt := 47) hx hb d_St_storeStripe_22 (by decide) (fun g22 => ?_) (fun g22 => ?_)
      · have h := h.1 g22
        exact B47 K2 HK2 P_lost P_current x1 x2 H locs ls h hP hD hS (lv_sub hl [1, 2, 3] rfl)
      · have h := h.2 g22
        refine lv_aload_n hx hb d_St_storeStripe_25 rfl (lv_at hl 1 rfl) ?_
        refine va_get (D := (dC, dI)) (ci := 4) (v := .ref aP_current) (C := "ReedSets$Striped") (T := T_St) (N := 8) hx hb hts in_St hown hK hP 2 rfl rfl 4 (by decide) (hts _ tb_208) (fun _ h9 => h9) rfl d_St_storeStripe_26 ?_
        refine lv_iload_n hx hb d_St_storeStripe_29 rfl (lv_at hl 0 rfl) ?_
        refine lv_aload_n hx hb d_St_storeStripe_30 rfl (lv_at hl 1 rfl) ?_
        refine va_get (D := (dC, dI)) (ci := 4) (v := .ref aV) (C := "ReedSets$Striped") (T := T_St) (N := 8) hx hb hts in_St hown hK hP 2 rfl rfl 3 (by decide) (hts _ tb_207) (fun _ h9 => h9) rfl d_St_storeStripe_31 ?_
        refine va_get (D := (dC, dI)) (ci := 5) (v := .ref aV_bytes) (C := "ReedSets$Word") (T := T_Wo) (N := 8) hx hb hts in_Wo hown hK hP 0 rfl rfl 1 (by decide) (hts _ tb_104) (fun _ h9 => h9) rfl d_St_storeStripe_34 ?_
        refine lv_iload_n hx hb d_St_storeStripe_37 rfl (lv_at hl 3 rfl) ?_
        obtain ⟨hi, h⟩ := h
        refine va_iald hx hb hK hP 1 0 rfl rfl hi d_St_storeStripe_38 ?_
        obtain ⟨hi, h⟩ := h
        refine va_iast hx hb hK hP hD hS 4 0 rfl rfl hi d_St_storeStripe_39 (fun H locs hP hD hS => ?_)
        have hP : va_P (dC, dI) vwCl (wd_St_storeStripe aV aF aV_bytes aV_lost aV_factors aP aP_block aP_original aP_lost aP_current cI cZ V_lostCount V_data V_repairs V_first V_bytes P_size P_stripes P_sentCount P_lost (upd P_current r_16.toNatClampNeg (V_bytes x2.toNatClampNeg))) H := hP
        have hD : va_D A (wd_St_storeStripe aV aF aV_bytes aV_lost aV_factors aP aP_block aP_original aP_lost aP_current cI cZ V_lostCount V_data V_repairs V_first V_bytes P_size P_stripes P_sentCount P_lost (upd P_current r_16.toNatClampNeg (V_bytes x2.toNatClampNeg))) := hD
        refine lv_aload_n hx hb d_St_storeStripe_40 rfl (lv_at hl 1 rfl) ?_
        refine va_get (D := (dC, dI)) (ci := 4) (v := .ref aP_lost) (C := "ReedSets$Striped") (T := T_St) (N := 8) hx hb hts in_St hown hK hP 2 rfl rfl 2 (by decide) (hts _ tb_206) (fun _ h9 => h9) rfl d_St_storeStripe_41 ?_
        refine lv_iload_n hx hb d_St_storeStripe_44 rfl (lv_at hl 0 rfl) ?_
        refine lv_iconst (v := (0 : Int32)) hx hb d_St_storeStripe_45 (by decide) ?_
        obtain ⟨hi, h⟩ := h
        refine va_zast hx hb hK hP hD hS 3 1 rfl rfl hi d_St_storeStripe_46 (fun H locs hP hD hS => ?_)
        have hP : va_P (dC, dI) vwCl (wd_St_storeStripe aV aF aV_bytes aV_lost aV_factors aP aP_block aP_original aP_lost aP_current cI cZ V_lostCount V_data V_repairs V_first V_bytes P_size P_stripes P_sentCount (upd P_lost r_16.toNatClampNeg (0 : Int32)) (upd P_current r_16.toNatClampNeg (V_bytes x2.toNatClampNeg))) H := hP
        have hD : va_D A (wd_St_storeStripe aV aF aV_bytes aV_lost aV_factors aP aP_block aP_original aP_lost aP_current cI cZ V_lostCount V_data V_repairs V_first V_bytes P_size P_stripes P_sentCount (upd P_lost r_16.toNatClampNeg (0 : Int32)) (upd P_current r_16.toNatClampNeg (V_bytes x2.toNatClampNeg))) := hD
        exact B47 K2 HK2 (upd P_lost r_16.toNatClampNeg (0 : Int32)) (upd P_current r_16.toNatClampNeg (V_bytes x2.toNatClampNeg)) x1 x2 H locs ls h hP hD hS (lv_sub hl [1, 2, 3] rfl)
  have L2 : ∀  (n : Nat), ∀ (P_lost : Nat → Int32) (P_current : Nat → Int32) (x1 : Int32) (x2 : Int32) (H : Heap) (locs : List Loc) (ls : Array Slot), wp_St_storeStripe_L2 V_data V_repairs V_bytes P_size P_stripes post  n P_lost P_current x1 x2 → va_P (dC, dI) vwCl (wd_St_storeStripe aV aF aV_bytes aV_lost aV_factors aP aP_block aP_original aP_lost aP_current cI cZ V_lostCount V_data V_repairs V_first V_bytes P_size P_stripes P_sentCount P_lost P_current) H → va_D A (wd_St_storeStripe aV aF aV_bytes aV_lost aV_factors aP aP_block aP_original aP_lost aP_current cI cZ V_lostCount V_data V_repairs V_first V_bytes P_size P_stripes P_sentCount P_lost P_current) → va_S A s.heap H locs → lv_has ls 4 [(0, .ref aP), (1, .int x1), (2, .int x2)] → W p l e rm_St_storeStripe s m args below meth c H locs 0 0 Q (F0 m 2 ls []) := by
    intro  n
    induction n with
    | zero => intro P_lost P_current x1 x2 H locs ls h hP hD hS hl; exact False.elim h
    | succ n ih => intro P_lost P_current x1 x2 H locs ls h hP hD hS hl; exact B2  (wp_St_storeStripe_L2 V_data V_repairs V_bytes P_size P_stripes post  n) ih P_lost P_current x1 x2 H locs ls h hP hD hS hl
  obtain ⟨H, hH⟩ : ∃ H : Heap, H = s.heap := ⟨_, rfl⟩
  obtain ⟨locs, hlo⟩ : ∃ x : List Loc, x = [] := ⟨_, rfl⟩
  have hS : va_S A s.heap H locs := by rw [hH, hlo]; exact hS
  rw [← hH] at hP
  rw [← hlo]
  show W p l e rm_St_storeStripe s m args below meth c s.heap locs 0 0 Q (F0 m 0 ls [])
  rw [← hH]
  refine lv_iconst (v := (0 : Int32)) hx hb d_St_storeStripe_0 (by decide) ?_
  refine lv_istore_n (lv' := [(2, .int (0 : Int32)), (0, .ref aP), (1, .int p1)]) hx hb d_St_storeStripe_1 rfl hl (by decide) rfl (fun ls hl => ?_)
  obtain ⟨n, h⟩ := h
  exact L2  n P_lost P_current p1 (0 : Int32) H locs ls h hP hD hS (lv_sub hl [1, 2, 0] rfl)
abbrev wd_St_layStripe (aF aF_powers aF_logs aV aV_bytes aV_lost aV_factors aP aP_block aP_original aP_lost aP_current : Nat) (cI cZ : ClassId) (F_powers : Nat → Int32) (F_logs : Nat → Int32) (V_lostCount : Int32) (V_data : Int32) (V_repairs : Int32) (V_first : Int32) (V_bytes : Nat → Int32) (V_factors : Nat → Int32) (P_size : Int32) (P_stripes : Int32) (P_sentCount : Int32) (P_block : Nat → Int32) (P_original : Nat → Int32) (P_lost : Nat → Int32) (P_current : Nat → Int32) : va_W := [(aF, .inr (1, [.ref aF_powers, .ref aF_logs])), (aF_powers, .inl (cI, 512, .inl F_powers)), (aF_logs, .inl (cI, 256, .inl F_logs)), (aV, .inr (5, [.ref aF, .ref aV_bytes, .ref aV_lost, .ref aV_factors, .int V_lostCount, .int V_data, .int V_repairs, .int V_first])), (aV_bytes, .inl (cI, 240, .inl V_bytes)), (aV_factors, .inl (cI, 41, .inl V_factors)), (aP, .inr (4, [.ref aP_block, .ref aP_original, .ref aP_lost, .ref aV, .ref aP_current, .int P_size, .int P_stripes, .int P_sentCount])), (aP_block, .inl (cI, 800, .inl P_block)), (aP_original, .inl (cI, 1440, .inl P_original)), (aP_lost, .inl (cZ, 1440, .inl P_lost)), (aP_current, .inl (cI, 1440, .inl P_current))]
def wp_St_layStripe_b43 (F_powers : Nat → Int32) (F_logs : Nat → Int32) (V_data : Int32) (V_repairs : Int32) (V_factors : Nat → Int32) (P_size : Int32) (P_stripes : Int32) (P_block : Nat → Int32) (post : (Nat → Int32) → (Nat → Int32) → (Nat → Int32) → (Nat → Int32) → Prop) (K2 : (Nat → Int32) → (Nat → Int32) → (Nat → Int32) → (Nat → Int32) → Int32 → Int32 → Prop) (V_bytes : Nat → Int32) (P_original : Nat → Int32) (P_lost : Nat → Int32) (P_current : Nat → Int32) (x1 : Int32) (x2 : Int32) (t0 : Int32) (t1 : Int32) : Prop := vp_in t1 240 ∧ (∀ x2_44 : Int32, x2_44 = (x2 + (1 : Int32)) → (K2 (upd V_bytes t1.toNatClampNeg t0) P_original P_lost P_current x1 x2_44))
def wp_St_layStripe_b99 (F_powers : Nat → Int32) (F_logs : Nat → Int32) (V_data : Int32) (V_repairs : Int32) (V_factors : Nat → Int32) (P_size : Int32) (P_stripes : Int32) (P_block : Nat → Int32) (post : (Nat → Int32) → (Nat → Int32) → (Nat → Int32) → (Nat → Int32) → Prop) (K64 : (Nat → Int32) → (Nat → Int32) → (Nat → Int32) → (Nat → Int32) → Int32 → Int32 → Prop) (V_bytes : Nat → Int32) (P_original : Nat → Int32) (P_lost : Nat → Int32) (P_current : Nat → Int32) (x1 : Int32) (x2 : Int32) : Prop := ∀ x2_99 : Int32, x2_99 = (x2 + (1 : Int32)) → (K64 V_bytes P_original P_lost P_current x1 x2_99)
def wp_St_layStripe_b64 (F_powers : Nat → Int32) (F_logs : Nat → Int32) (V_data : Int32) (V_repairs : Int32) (V_factors : Nat → Int32) (P_size : Int32) (P_stripes : Int32) (P_block : Nat → Int32) (post : (Nat → Int32) → (Nat → Int32) → (Nat → Int32) → (Nat → Int32) → Prop) (K64 : (Nat → Int32) → (Nat → Int32) → (Nat → Int32) → (Nat → Int32) → Int32 → Int32 → Prop) (V_bytes : Nat → Int32) (P_original : Nat → Int32) (P_lost : Nat → Int32) (P_current : Nat → Int32) (x1 : Int32) (x2 : Int32) : Prop := wp_Wo_size V_data V_repairs (fun r_69 => ((r_69 ≤ x2 → (post V_bytes P_original P_lost P_current)) ∧ (¬ r_69 ≤ x2 → (wp_St_slotOf V_data P_size P_stripes x1 x2 (fun r_78 => ((r_78 = (-1 : Int32) → (wp_St_layStripe_b99 F_powers F_logs V_data V_repairs V_factors P_size P_stripes P_block post K64 V_bytes P_original P_lost P_current x1 x2)) ∧ (¬ r_78 = (-1 : Int32) → (vp_in r_78 1440 ∧ (vp_in r_78 1440 ∧ (wp_St_layStripe_b99 F_powers F_logs V_data V_repairs V_factors P_size P_stripes P_block post K64 V_bytes (upd P_original r_78.toNatClampNeg (P_current r_78.toNatClampNeg)) P_lost P_current x1 x2))))))))))
def wp_St_layStripe_L64 (F_powers : Nat → Int32) (F_logs : Nat → Int32) (V_data : Int32) (V_repairs : Int32) (V_factors : Nat → Int32) (P_size : Int32) (P_stripes : Int32) (P_block : Nat → Int32) (post : (Nat → Int32) → (Nat → Int32) → (Nat → Int32) → (Nat → Int32) → Prop)  : Nat → (Nat → Int32) → (Nat → Int32) → (Nat → Int32) → (Nat → Int32) → Int32 → Int32 → Prop
  | 0 => fun _ _ _ _ _ _ => False
  | n + 1 => wp_St_layStripe_b64 F_powers F_logs V_data V_repairs V_factors P_size P_stripes P_block post (wp_St_layStripe_L64 F_powers F_logs V_data V_repairs V_factors P_size P_stripes P_block post n)
def wp_St_layStripe_b2 (F_powers : Nat → Int32) (F_logs : Nat → Int32) (V_data : Int32) (V_repairs : Int32) (V_factors : Nat → Int32) (P_size : Int32) (P_stripes : Int32) (P_block : Nat → Int32) (post : (Nat → Int32) → (Nat → Int32) → (Nat → Int32) → (Nat → Int32) → Prop) (K2 : (Nat → Int32) → (Nat → Int32) → (Nat → Int32) → (Nat → Int32) → Int32 → Int32 → Prop) (V_bytes : Nat → Int32) (P_original : Nat → Int32) (P_lost : Nat → Int32) (P_current : Nat → Int32) (x1 : Int32) (x2 : Int32) : Prop := (V_data ≤ x2 → (wp_Wo_fillRepairs F_powers F_logs V_data V_repairs V_bytes V_factors (fun V_bytes_54 => (wp_St_storeStripe V_data V_repairs V_bytes_54 P_size P_stripes P_lost P_current x1 (fun P_lost_59 P_current_59 => (∃ n : Nat, wp_St_layStripe_L64 F_powers F_logs V_data V_repairs V_factors P_size P_stripes P_block post  n V_bytes_54 P_original P_lost_59 P_current_59 x1 (0 : Int32))))))) ∧ (¬ V_data ≤ x2 → (wp_St_slotOf V_data P_size P_stripes x1 x2 (fun r_16 => ((¬ r_16 = (-1 : Int32) → (vp_in r_16 800 ∧ (wp_St_layStripe_b43 F_powers F_logs V_data V_repairs V_factors P_size P_stripes P_block post K2 V_bytes P_original P_lost P_current x1 x2 (P_block r_16.toNatClampNeg) x2))) ∧ (r_16 = (-1 : Int32) → (wp_St_layStripe_b43 F_powers F_logs V_data V_repairs V_factors P_size P_stripes P_block post K2 V_bytes P_original P_lost P_current x1 x2 (0 : Int32) x2))))))
def wp_St_layStripe_L2 (F_powers : Nat → Int32) (F_logs : Nat → Int32) (V_data : Int32) (V_repairs : Int32) (V_factors : Nat → Int32) (P_size : Int32) (P_stripes : Int32) (P_block : Nat → Int32) (post : (Nat → Int32) → (Nat → Int32) → (Nat → Int32) → (Nat → Int32) → Prop)  : Nat → (Nat → Int32) → (Nat → Int32) → (Nat → Int32) → (Nat → Int32) → Int32 → Int32 → Prop
  | 0 => fun _ _ _ _ _ _ => False
  | n + 1 => wp_St_layStripe_b2 F_powers F_logs V_data V_repairs V_factors P_size P_stripes P_block post (wp_St_layStripe_L2 F_powers F_logs V_data V_repairs V_factors P_size P_stripes P_block post n)
def wp_St_layStripe (F_powers : Nat → Int32) (F_logs : Nat → Int32) (V_data : Int32) (V_repairs : Int32) (V_bytes : Nat → Int32) (V_factors : Nat → Int32) (P_size : Int32) (P_stripes : Int32) (P_block : Nat → Int32) (P_original : Nat → Int32) (P_lost : Nat → Int32) (P_current : Nat → Int32) (p1 : Int32) (post : (Nat → Int32) → (Nat → Int32) → (Nat → Int32) → (Nat → Int32) → Prop) : Prop := ∃ n : Nat, wp_St_layStripe_L2 F_powers F_logs V_data V_repairs V_factors P_size P_stripes P_block post  n V_bytes P_original P_lost P_current p1 (0 : Int32)
abbrev rm_St_layStripe : Room := { frames := 3, cells := 0, slots := 0, locals := 70 }
set_option maxHeartbeats 4000000 in
set_option maxRecDepth 100000 in
theorem ct_St_layStripe (l : Launch) (dC : Nat → ClassId) (dI : Nat → Nat → Nat) (aF aF_powers aF_logs aV aV_bytes aV_lost aV_factors aP aP_block aP_original aP_lost aP_current : Nat) (cI cZ : ClassId) (F_powers : Nat → Int32) (F_logs : Nat → Int32) (V_lostCount : Int32) (V_data : Int32) (V_repairs : Int32) (V_first : Int32) (V_bytes : Nat → Int32) (V_factors : Nat → Int32) (P_size : Int32) (P_stripes : Int32) (P_sentCount : Int32) (P_block : Nat → Int32) (P_original : Nat → Int32) (P_lost : Nat → Int32) (P_current : Nat → Int32) (p1 : Int32) (post : (Nat → Int32) → (Nat → Int32) → (Nat → Int32) → (Nat → Int32) → Prop) (h : wp_St_layStripe F_powers F_logs V_data V_repairs V_bytes V_factors P_size P_stripes P_block P_original P_lost P_current p1 post) (sz : Nat) : Met l y_St_layStripe (Cond.code y_St_layStripe c_St_layStripe 4 none :: tb) rm_St_layStripe (mt_P (dC, dI) vwCl [(cI, .int), (cZ, .boolean)] [.ref aP, .int p1] (wd_St_layStripe aF aF_powers aF_logs aV aV_bytes aV_lost aV_factors aP aP_block aP_original aP_lost aP_current cI cZ F_powers F_logs V_lostCount V_data V_repairs V_first V_bytes V_factors P_size P_stripes P_sentCount P_block P_original P_lost P_current) sz) (va_Qv (fun (u : (Nat → Int32) × (Nat → Int32) × (Nat → Int32) × (Nat → Int32)) => post u.1 u.2.1 u.2.2.1 u.2.2.2) (mt_B (dC, dI) vwCl [(cI, .int), (cZ, .boolean)] (wd_St_layStripe aF aF_powers aF_logs aV aV_bytes aV_lost aV_factors aP aP_block aP_original aP_lost aP_current cI cZ F_powers F_logs V_lostCount V_data V_repairs V_first V_bytes V_factors P_size P_stripes P_sentCount P_block P_original P_lost P_current) sz (fun u : (Nat → Int32) × (Nat → Int32) × (Nat → Int32) × (Nat → Int32) => wd_St_layStripe aF aF_powers aF_logs aV aV_bytes aV_lost aV_factors aP aP_block aP_original aP_lost aP_current cI cZ F_powers F_logs V_lostCount V_data V_repairs V_first u.1 V_factors P_size P_stripes P_sentCount P_block u.2.1 u.2.2.1 u.2.2.2)) (va_A (wd_St_layStripe aF aF_powers aF_logs aV aV_bytes aV_lost aV_factors aP aP_block aP_original aP_lost aP_current cI cZ F_powers F_logs V_lostCount V_data V_repairs V_first V_bytes V_factors P_size P_stripes P_sentCount P_block P_original P_lost P_current) sz)) 0 0 (va_A (wd_St_layStripe aF aF_powers aF_logs aV aV_bytes aV_lost aV_factors aP aP_block aP_original aP_lost aP_current cI cZ F_powers F_logs V_lostCount V_data V_repairs V_first V_bytes V_factors P_size P_stripes P_sentCount P_block P_original P_lost P_current) sz) := by
  refine mt_bd (by decide +kernel) (Nat.le_of_ble_eq_true rfl) ?_
  intro p e s m args below meth c hx hb hml hown hts hr hlk hnm hsz hP hK hD hA hS ls hl
  subst hsz
  have hown : s.vm.findClass "ReedSets$Striped" = some m.cls := hown
  have hl : lv_has ls 4 [(0, .ref aP), (1, .int p1)] := hl
  refine lz_Q (fun Q hQ => ?_)
  obtain ⟨A, hAe⟩ : ∃ A : Nat → Prop, A = va_A (wd_St_layStripe aF aF_powers aF_logs aV aV_bytes aV_lost aV_factors aP aP_block aP_original aP_lost aP_current cI cZ F_powers F_logs V_lostCount V_data V_repairs V_first V_bytes V_factors P_size P_stripes P_sentCount P_block P_original P_lost P_current) s.heap.size := ⟨_, rfl⟩
  rw [← hAe] at hD hA hS
  have RET : ∀ (V_bytes : Nat → Int32) (P_original : Nat → Int32) (P_lost : Nat → Int32) (P_current : Nat → Int32) (H : Heap) (locs : List Loc) (ls : Array Slot) (pc : Nat), decode c_St_layStripe pc = .ok (.return_, 1) → post V_bytes P_original P_lost P_current → va_P (dC, dI) vwCl (wd_St_layStripe aF aF_powers aF_logs aV aV_bytes aV_lost aV_factors aP aP_block aP_original aP_lost aP_current cI cZ F_powers F_logs V_lostCount V_data V_repairs V_first V_bytes V_factors P_size P_stripes P_sentCount P_block P_original P_lost P_current) H → va_D A (wd_St_layStripe aF aF_powers aF_logs aV aV_bytes aV_lost aV_factors aP aP_block aP_original aP_lost aP_current cI cZ F_powers F_logs V_lostCount V_data V_repairs V_first V_bytes V_factors P_size P_stripes P_sentCount P_block P_original P_lost P_current) → va_S A s.heap H locs → W p l e rm_St_layStripe s m args below meth c H locs 0 0 Q (F0 m pc ls []) := by
    intro V_bytes P_original P_lost P_current H locs ls pc hd hp h1 h2 h3
    rw [hQ]
    rw [hAe] at h2 h3
    exact mt_retv (V_bytes, P_original, P_lost, P_current) hx hb hr hlk hd hK h1 h2 h3 hp
  have B43 : ∀ (K2 : (Nat → Int32) → (Nat → Int32) → (Nat → Int32) → (Nat → Int32) → Int32 → Int32 → Prop) (HK2 : ∀ (V_bytes : Nat → Int32) (P_original : Nat → Int32) (P_lost : Nat → Int32) (P_current : Nat → Int32) (x1 : Int32) (x2 : Int32) (H : Heap) (locs : List Loc) (ls : Array Slot), K2 V_bytes P_original P_lost P_current x1 x2 → va_P (dC, dI) vwCl (wd_St_layStripe aF aF_powers aF_logs aV aV_bytes aV_lost aV_factors aP aP_block aP_original aP_lost aP_current cI cZ F_powers F_logs V_lostCount V_data V_repairs V_first V_bytes V_factors P_size P_stripes P_sentCount P_block P_original P_lost P_current) H → va_D A (wd_St_layStripe aF aF_powers aF_logs aV aV_bytes aV_lost aV_factors aP aP_block aP_original aP_lost aP_current cI cZ F_powers F_logs V_lostCount V_data V_repairs V_first V_bytes V_factors P_size P_stripes P_sentCount P_block P_original P_lost P_current) → va_S A s.heap H locs → lv_has ls 4 [(0, .ref aP), (1, .int x1), (2, .int x2)] → W p l e rm_St_layStripe s m args below meth c H locs 0 0 Q (F0 m 2 ls [])), ∀ (V_bytes : Nat → Int32) (P_original : Nat → Int32) (P_lost : Nat → Int32) (P_current : Nat → Int32) (x1 : Int32) (x2 : Int32) (t0 : Int32) (t1 : Int32) (H : Heap) (locs : List Loc) (ls : Array Slot), wp_St_layStripe_b43 F_powers F_logs V_data V_repairs V_factors P_size P_stripes P_block post K2 V_bytes P_original P_lost P_current x1 x2 t0 t1 → va_P (dC, dI) vwCl (wd_St_layStripe aF aF_powers aF_logs aV aV_bytes aV_lost aV_factors aP aP_block aP_original aP_lost aP_current cI cZ F_powers F_logs V_lostCount V_data V_repairs V_first V_bytes V_factors P_size P_stripes P_sentCount P_block P_original P_lost P_current) H → va_D A (wd_St_layStripe aF aF_powers aF_logs aV aV_bytes aV_lost aV_factors aP aP_block aP_original aP_lost aP_current cI cZ F_powers F_logs V_lostCount V_data V_repairs V_first V_bytes V_factors P_size P_stripes P_sentCount P_block P_original P_lost P_current) → va_S A s.heap H locs → lv_has ls 4 [(0, .ref aP), (1, .int x1), (2, .int x2)] → W p l e rm_St_layStripe s m args below meth c H locs 0 0 Q (F0 m 43 ls [.int t0, .int t1, .ref aV_bytes]) := by
    intro K2 HK2 V_bytes P_original P_lost P_current x1 x2 t0 t1 H locs ls h hP hD hS hl
    obtain ⟨hi, h⟩ := h
    refine va_iast hx hb hK hP hD hS 4 0 rfl rfl hi d_St_layStripe_43 (fun H locs hP hD hS => ?_)
    have hP : va_P (dC, dI) vwCl (wd_St_layStripe aF aF_powers aF_logs aV aV_bytes aV_lost aV_factors aP aP_block aP_original aP_lost aP_current cI cZ F_powers F_logs V_lostCount V_data V_repairs V_first (upd V_bytes t1.toNatClampNeg t0) V_factors P_size P_stripes P_sentCount P_block P_original P_lost P_current) H := hP
    have hD : va_D A (wd_St_layStripe aF aF_powers aF_logs aV aV_bytes aV_lost aV_factors aP aP_block aP_original aP_lost aP_current cI cZ F_powers F_logs V_lostCount V_data V_repairs V_first (upd V_bytes t1.toNatClampNeg t0) V_factors P_size P_stripes P_sentCount P_block P_original P_lost P_current) := hD
    obtain ⟨x2_44, ex2_44⟩ : ∃ y : Int32, y = (x2 + (1 : Int32)) := ⟨_, rfl⟩
    have h := h x2_44 ex2_44
    refine lv_iinc (v := x2_44) (lv' := [(2, .int x2_44), (0, .ref aP), (1, .int x1)]) hx hb d_St_layStripe_44 hl (k := 2) rfl (by rw [ex2_44]; rfl) (by decide) rfl (fun ls hl => ?_)
    refine lv_goto (tgt := 2) hx hb d_St_layStripe_47 (by decide) ?_
    exact HK2 (upd V_bytes t1.toNatClampNeg t0) P_original P_lost P_current x1 x2_44 H locs ls h hP hD hS (lv_sub hl [1, 2, 0] rfl)
  have B99 : ∀ (K64 : (Nat → Int32) → (Nat → Int32) → (Nat → Int32) → (Nat → Int32) → Int32 → Int32 → Prop) (HK64 : ∀ (V_bytes : Nat → Int32) (P_original : Nat → Int32) (P_lost : Nat → Int32) (P_current : Nat → Int32) (x1 : Int32) (x2 : Int32) (H : Heap) (locs : List Loc) (ls : Array Slot), K64 V_bytes P_original P_lost P_current x1 x2 → va_P (dC, dI) vwCl (wd_St_layStripe aF aF_powers aF_logs aV aV_bytes aV_lost aV_factors aP aP_block aP_original aP_lost aP_current cI cZ F_powers F_logs V_lostCount V_data V_repairs V_first V_bytes V_factors P_size P_stripes P_sentCount P_block P_original P_lost P_current) H → va_D A (wd_St_layStripe aF aF_powers aF_logs aV aV_bytes aV_lost aV_factors aP aP_block aP_original aP_lost aP_current cI cZ F_powers F_logs V_lostCount V_data V_repairs V_first V_bytes V_factors P_size P_stripes P_sentCount P_block P_original P_lost P_current) → va_S A s.heap H locs → lv_has ls 4 [(0, .ref aP), (1, .int x1), (2, .int x2)] → W p l e rm_St_layStripe s m args below meth c H locs 0 0 Q (F0 m 64 ls [])), ∀ (V_bytes : Nat → Int32) (P_original : Nat → Int32) (P_lost : Nat → Int32) (P_current : Nat → Int32) (x1 : Int32) (x2 : Int32) (H : Heap) (locs : List Loc) (ls : Array Slot), wp_St_layStripe_b99 F_powers F_logs V_data V_repairs V_factors P_size P_stripes P_block post K64 V_bytes P_original P_lost P_current x1 x2 → va_P (dC, dI) vwCl (wd_St_layStripe aF aF_powers aF_logs aV aV_bytes aV_lost aV_factors aP aP_block aP_original aP_lost aP_current cI cZ F_powers F_logs V_lostCount V_data V_repairs V_first V_bytes V_factors P_size P_stripes P_sentCount P_block P_original P_lost P_current) H → va_D A (wd_St_layStripe aF aF_powers aF_logs aV aV_bytes aV_lost aV_factors aP aP_block aP_original aP_lost aP_current cI cZ F_powers F_logs V_lostCount V_data V_repairs V_first V_bytes V_factors P_size P_stripes P_sentCount P_block P_original P_lost P_current) → va_S A s.heap H locs → lv_has ls 4 [(0, .ref aP), (1, .int x1), (2, .int x2)] → W p l e rm_St_layStripe s m args below meth c H locs 0 0 Q (F0 m 99 ls []) := by
    intro K64 HK64 V_bytes P_original P_lost P_current x1 x2 H locs ls h hP hD hS hl
    obtain ⟨x2_99, ex2_99⟩ : ∃ y : Int32, y = (x2 + (1 : Int32)) := ⟨_, rfl⟩
    have h := h x2_99 ex2_99
    refine lv_iinc (v := x2_99) (lv' := [(2, .int x2_99), (0, .ref aP), (1, .int x1)]) hx hb d_St_layStripe_99 hl (k := 2) rfl (by rw [ex2_99]; rfl) (by decide) rfl (fun ls hl => ?_)
    refine lv_goto (tgt := 64) hx hb d_St_layStripe_102 (by decide) ?_
    exact HK64 V_bytes P_original P_lost P_current x1 x2_99 H locs ls h hP hD hS (lv_sub hl [1, 2, 0] rfl)
  have B64 : ∀ (K64 : (Nat → Int32) → (Nat → Int32) → (Nat → Int32) → (Nat → Int32) → Int32 → Int32 → Prop) (HK64 : ∀ (V_bytes : Nat → Int32) (P_original : Nat → Int32) (P_lost : Nat → Int32) (P_current : Nat → Int32) (x1 : Int32) (x2 : Int32) (H : Heap) (locs : List Loc) (ls : Array Slot), K64 V_bytes P_original P_lost P_current x1 x2 → va_P (dC, dI) vwCl (wd_St_layStripe aF aF_powers aF_logs aV aV_bytes aV_lost aV_factors aP aP_block aP_original aP_lost aP_current cI cZ F_powers F_logs V_lostCount V_data V_repairs V_first V_bytes V_factors P_size P_stripes P_sentCount P_block P_original P_lost P_current) H → va_D A (wd_St_layStripe aF aF_powers aF_logs aV aV_bytes aV_lost aV_factors aP aP_block aP_original aP_lost aP_current cI cZ F_powers F_logs V_lostCount V_data V_repairs V_first V_bytes V_factors P_size P_stripes P_sentCount P_block P_original P_lost P_current) → va_S A s.heap H locs → lv_has ls 4 [(0, .ref aP), (1, .int x1), (2, .int x2)] → W p l e rm_St_layStripe s m args below meth c H locs 0 0 Q (F0 m 64 ls [])), ∀ (V_bytes : Nat → Int32) (P_original : Nat → Int32) (P_lost : Nat → Int32) (P_current : Nat → Int32) (x1 : Int32) (x2 : Int32) (H : Heap) (locs : List Loc) (ls : Array Slot), wp_St_layStripe_b64 F_powers F_logs V_data V_repairs V_factors P_size P_stripes P_block post K64 V_bytes P_original P_lost P_current x1 x2 → va_P (dC, dI) vwCl (wd_St_layStripe aF aF_powers aF_logs aV aV_bytes aV_lost aV_factors aP aP_block aP_original aP_lost aP_current cI cZ F_powers F_logs V_lostCount V_data V_repairs V_first V_bytes V_factors P_size P_stripes P_sentCount P_block P_original P_lost P_current) H → va_D A (wd_St_layStripe aF aF_powers aF_logs aV aV_bytes aV_lost aV_factors aP aP_block aP_original aP_lost aP_current cI cZ F_powers F_logs V_lostCount V_data V_repairs V_first V_bytes V_factors P_size P_stripes P_sentCount P_block P_original P_lost P_current) → va_S A s.heap H locs → lv_has ls 4 [(0, .ref aP), (1, .int x1), (2, .int x2)] → W p l e rm_St_layStripe s m args below meth c H locs 0 0 Q (F0 m 64 ls []) := by
    intro K64 HK64 V_bytes P_original P_lost P_current x1 x2 H locs ls h hP hD hS hl
    refine lv_iload_n hx hb d_St_layStripe_64 rfl (lv_at hl 2 rfl) ?_
    refine lv_aload_n hx hb d_St_layStripe_65 rfl (lv_at hl 0 rfl) ?_
    refine va_get (D := (dC, dI)) (ci := 4) (v := .ref aV) (C := "ReedSets$Striped") (T := T_St) (N := 8) hx hb hts in_St hown hK hP 6 rfl rfl 3 (by decide) (hts _ tb_207) (fun _ h9 => h9) rfl d_St_layStripe_66 ?_
    refine mt_i (va_runV (As := []) (rest := [.int x2]) ⟨hx, hb, hml, hown, hts⟩ (ct_Wo_size l dC dI aV aF aV_bytes aV_lost aV_factors cI cZ V_lostCount V_data V_repairs V_first _ h _) (tb_cV hts ok_Wo_size tb_530 rfl rfl ⟨Nat.le_of_ble_eq_true rfl, Nat.le_of_ble_eq_true rfl⟩) (mt_preV hK hP hD [] [3] rfl (by decide) (ci := 5) (q0 := 3) rfl rfl) rfl rfl hl.1 rfl (lv_room (Nat.le_of_ble_eq_true rfl)) d_St_layStripe_69 ⟨Nat.zero_le _, Nat.zero_le _⟩) hP hD hS hA [3] rfl (fun _ => rfl) (fun r_69 u H locs h hP hD hS => ?_)
    have hP : va_P (dC, dI) vwCl (wd_St_layStripe aF aF_powers aF_logs aV aV_bytes aV_lost aV_factors aP aP_block aP_original aP_lost aP_current cI cZ F_powers F_logs V_lostCount V_data V_repairs V_first V_bytes V_factors P_size P_stripes P_sentCount P_block P_original P_lost P_current) H := hP
    have hD : va_D A (wd_St_layStripe aF aF_powers aF_logs aV aV_bytes aV_lost aV_factors aP aP_block aP_original aP_lost aP_current cI cZ F_powers F_logs V_lostCount V_data V_repairs V_first V_bytes V_factors P_size P_stripes P_sentCount P_block P_original P_lost P_current) := hD
    refine lv_icmp_ge (tgt := 105) hx hb d_St_layStripe_72 (by decide) (fun g72 => ?_) (fun g72 => ?_)
    · have h := h.1 g72
      exact RET V_bytes P_original P_lost P_current H locs ls 105 d_St_layStripe_105 h hP hD hS
    · have h := h.2 g72
      refine lv_aload_n hx hb d_St_layStripe_75 rfl (lv_at hl 0 rfl) ?_
      refine lv_iload_n hx hb d_St_layStripe_76 rfl (lv_at hl 1 rfl) ?_
      refine lv_iload_n hx hb d_St_layStripe_77 rfl (lv_at hl 2 rfl) ?_
      refine mt_i (va_runV (As := [.int x1, .int x2]) (rest := []) ⟨hx, hb, hml, hown, hts⟩ (ct_St_slotOf l dC dI aV aF aV_bytes aV_lost aV_factors aP aP_block aP_original aP_lost aP_current cI cZ V_lostCount V_data V_repairs V_first P_size P_stripes P_sentCount x1 x2 _ h _) (tb_cV hts ok_St_slotOf tb_521 rfl rfl ⟨Nat.le_of_ble_eq_true rfl, Nat.le_of_ble_eq_true rfl⟩) (mt_preV hK hP hD [.int x1, .int x2] [3, 6] rfl (by decide) (ci := 4) (q0 := 6) rfl rfl) rfl rfl hl.1 rfl (lv_room (Nat.le_of_ble_eq_true rfl)) d_St_layStripe_78 ⟨Nat.zero_le _, Nat.zero_le _⟩) hP hD hS hA [3, 6] rfl (fun _ => rfl) (fun r_78 u H locs h hP hD hS => ?_)
      have hP : va_P (dC, dI) vwCl (wd_St_layStripe aF aF_powers aF_logs aV aV_bytes aV_lost aV_factors aP aP_block aP_original aP_lost aP_current cI cZ F_powers F_logs V_lostCount V_data V_repairs V_first V_bytes V_factors P_size P_stripes P_sentCount P_block P_original P_lost P_current) H := hP
      have hD : va_D A (wd_St_layStripe aF aF_powers aF_logs aV aV_bytes aV_lost aV_factors aP aP_block aP_original aP_lost aP_current cI cZ F_powers F_logs V_lostCount V_data V_repairs V_first V_bytes V_factors P_size P_stripes P_sentCount P_block P_original P_lost P_current) := hD
      refine lv_istore_n (lv' := [(3, .int r_78), (0, .ref aP), (1, .int x1), (2, .int x2)]) hx hb d_St_layStripe_81 rfl hl (by decide) rfl (fun ls hl => ?_)
      refine lv_iload_n hx hb d_St_layStripe_82 rfl (lv_at hl 0 rfl) ?_
      refine lv_iconst (v := (-1 : Int32)) hx hb d_St_layStripe_83 (by decide) ?_
      refine lv_icmp_eq (tgt := 99) hx hb d_St_layStripe_84 (by decide) (fun g84 => ?_) (fun g84 => ?_)
      · have h := h.1 g84
        exact B99 K64 HK64 V_bytes P_original P_lost P_current x1 x2 H locs ls h hP hD hS (lv_sub hl [1, 2, 3] rfl)
      · have h := h.2 g84
        refine lv_aload_n hx hb d_St_layStripe_87 rfl (lv_at hl 1 rfl) ?_
        refine va_get (D := (dC, dI)) (ci := 4) (v := .ref aP_original) (C := "ReedSets$Striped") (T := T_St) (N := 8) hx hb hts in_St hown hK hP 6 rfl rfl 1 (by decide) (hts _ tb_205) (fun _ h9 => h9) rfl d_St_layStripe_88 ?_
        refine lv_iload_n hx hb d_St_layStripe_91 rfl (lv_at hl 0 rfl) ?_
        refine lv_aload_n hx hb d_St_layStripe_92 rfl (lv_at hl 1 rfl) ?_
        refine va_get (D := (dC, dI)) (ci := 4) (v := .ref aP_current) (C := "ReedSets$Striped") (T := T_St) (N := 8) hx hb hts in_St hown hK hP 6 rfl rfl 4 (by decide) (hts _ tb_208) (fun _ h9 => h9) rfl d_St_layStripe_93 ?_
        refine lv_iload_n hx hb d_St_layStripe_96 rfl (lv_at hl 0 rfl) ?_
        obtain ⟨hi, h⟩ := h
        refine va_iald hx hb hK hP 10 0 rfl rfl hi d_St_layStripe_97 ?_
        obtain ⟨hi, h⟩ := h
        refine va_iast hx hb hK hP hD hS 8 0 rfl rfl hi d_St_layStripe_98 (fun H locs hP hD hS => ?_)
        have hP : va_P (dC, dI) vwCl (wd_St_layStripe aF aF_powers aF_logs aV aV_bytes aV_lost aV_factors aP aP_block aP_original aP_lost aP_current cI cZ F_powers F_logs V_lostCount V_data V_repairs V_first V_bytes V_factors P_size P_stripes P_sentCount P_block (upd P_original r_78.toNatClampNeg (P_current r_78.toNatClampNeg)) P_lost P_current) H := hP
        have hD : va_D A (wd_St_layStripe aF aF_powers aF_logs aV aV_bytes aV_lost aV_factors aP aP_block aP_original aP_lost aP_current cI cZ F_powers F_logs V_lostCount V_data V_repairs V_first V_bytes V_factors P_size P_stripes P_sentCount P_block (upd P_original r_78.toNatClampNeg (P_current r_78.toNatClampNeg)) P_lost P_current) := hD
        exact B99 K64 HK64 V_bytes (upd P_original r_78.toNatClampNeg (P_current r_78.toNatClampNeg)) P_lost P_current x1 x2 H locs ls h hP hD hS (lv_sub hl [1, 2, 3] rfl)
  have L64 : ∀  (n : Nat), ∀ (V_bytes : Nat → Int32) (P_original : Nat → Int32) (P_lost : Nat → Int32) (P_current : Nat → Int32) (x1 : Int32) (x2 : Int32) (H : Heap) (locs : List Loc) (ls : Array Slot), wp_St_layStripe_L64 F_powers F_logs V_data V_repairs V_factors P_size P_stripes P_block post  n V_bytes P_original P_lost P_current x1 x2 → va_P (dC, dI) vwCl (wd_St_layStripe aF aF_powers aF_logs aV aV_bytes aV_lost aV_factors aP aP_block aP_original aP_lost aP_current cI cZ F_powers F_logs V_lostCount V_data V_repairs V_first V_bytes V_factors P_size P_stripes P_sentCount P_block P_original P_lost P_current) H → va_D A (wd_St_layStripe aF aF_powers aF_logs aV aV_bytes aV_lost aV_factors aP aP_block aP_original aP_lost aP_current cI cZ F_powers F_logs V_lostCount V_data V_repairs V_first V_bytes V_factors P_size P_stripes P_sentCount P_block P_original P_lost P_current) → va_S A s.heap H locs → lv_has ls 4 [(0, .ref aP), (1, .int x1), (2, .int x2)] → W p l e rm_St_layStripe s m args below meth c H locs 0 0 Q (F0 m 64 ls []) := by
    intro  n
    induction n with
    | zero => intro V_bytes P_original P_lost P_current x1 x2 H locs ls h hP hD hS hl; exact False.elim h
    | succ n ih => intro V_bytes P_original P_lost P_current x1 x2 H locs ls h hP hD hS hl; exact B64  (wp_St_layStripe_L64 F_powers F_logs V_data V_repairs V_factors P_size P_stripes P_block post  n) ih V_bytes P_original P_lost P_current x1 x2 H locs ls h hP hD hS hl
  have B2 : ∀ (K2 : (Nat → Int32) → (Nat → Int32) → (Nat → Int32) → (Nat → Int32) → Int32 → Int32 → Prop) (HK2 : ∀ (V_bytes : Nat → Int32) (P_original : Nat → Int32) (P_lost : Nat → Int32) (P_current : Nat → Int32) (x1 : Int32) (x2 : Int32) (H : Heap) (locs : List Loc) (ls : Array Slot), K2 V_bytes P_original P_lost P_current x1 x2 → va_P (dC, dI) vwCl (wd_St_layStripe aF aF_powers aF_logs aV aV_bytes aV_lost aV_factors aP aP_block aP_original aP_lost aP_current cI cZ F_powers F_logs V_lostCount V_data V_repairs V_first V_bytes V_factors P_size P_stripes P_sentCount P_block P_original P_lost P_current) H → va_D A (wd_St_layStripe aF aF_powers aF_logs aV aV_bytes aV_lost aV_factors aP aP_block aP_original aP_lost aP_current cI cZ F_powers F_logs V_lostCount V_data V_repairs V_first V_bytes V_factors P_size P_stripes P_sentCount P_block P_original P_lost P_current) → va_S A s.heap H locs → lv_has ls 4 [(0, .ref aP), (1, .int x1), (2, .int x2)] → W p l e rm_St_layStripe s m args below meth c H locs 0 0 Q (F0 m 2 ls [])), ∀ (V_bytes : Nat → Int32) (P_original : Nat → Int32) (P_lost : Nat → Int32) (P_current : Nat → Int32) (x1 : Int32) (x2 : Int32) (H : Heap) (locs : List Loc) (ls : Array Slot), wp_St_layStripe_b2 F_powers F_logs V_data V_repairs V_factors P_size P_stripes P_block post K2 V_bytes P_original P_lost P_current x1 x2 → va_P (dC, dI) vwCl (wd_St_layStripe aF aF_powers aF_logs aV aV_bytes aV_lost aV_factors aP aP_block aP_original aP_lost aP_current cI cZ F_powers F_logs V_lostCount V_data V_repairs V_first V_bytes V_factors P_size P_stripes P_sentCount P_block P_original P_lost P_current) H → va_D A (wd_St_layStripe aF aF_powers aF_logs aV aV_bytes aV_lost aV_factors aP aP_block aP_original aP_lost aP_current cI cZ F_powers F_logs V_lostCount V_data V_repairs V_first V_bytes V_factors P_size P_stripes P_sentCount P_block P_original P_lost P_current) → va_S A s.heap H locs → lv_has ls 4 [(0, .ref aP), (1, .int x1), (2, .int x2)] → W p l e rm_St_layStripe s m args below meth c H locs 0 0 Q (F0 m 2 ls []) := by
    intro K2 HK2 V_bytes P_original P_lost P_current x1 x2 H locs ls h hP hD hS hl
    refine lv_iload_n hx hb d_St_layStripe_2 rfl (lv_at hl 2 rfl) ?_
    refine lv_aload_n hx hb d_St_layStripe_3 rfl (lv_at hl 0 rfl) ?_
    refine va_get (D := (dC, dI)) (ci := 4) (v := .ref aV) (C := "ReedSets$Striped") (T := T_St) (N := 8) hx hb hts in_St hown hK hP 6 rfl rfl 3 (by decide) (hts _ tb_207) (fun _ h9 => h9) rfl d_St_layStripe_4 ?_
    refine va_get (D := (dC, dI)) (ci := 5) (v := .int V_data) (C := "ReedSets$Word") (T := T_Wo) (N := 8) hx hb hts in_Wo hown hK hP 3 rfl rfl 5 (by decide) (hts _ tb_116) (fun _ h9 => h9) rfl d_St_layStripe_7 ?_
    refine lv_icmp_ge (tgt := 50) hx hb d_St_layStripe_10 (by decide) (fun g10 => ?_) (fun g10 => ?_)
    · have h := h.1 g10
      refine lv_aload_n hx hb d_St_layStripe_50 rfl (lv_at hl 0 rfl) ?_
      refine va_get (D := (dC, dI)) (ci := 4) (v := .ref aV) (C := "ReedSets$Striped") (T := T_St) (N := 8) hx hb hts in_St hown hK hP 6 rfl rfl 3 (by decide) (hts _ tb_207) (fun _ h9 => h9) rfl d_St_layStripe_51 ?_
      refine mt_v (va_runV (As := []) (rest := []) ⟨hx, hb, hml, hown, hts⟩ (ct_Wo_fillRepairs l dC dI aF aF_powers aF_logs aV aV_bytes aV_lost aV_factors cI cZ F_powers F_logs V_lostCount V_data V_repairs V_first V_bytes V_factors _ h _) (tb_cV hts ok_Wo_fillRepairs tb_525 rfl rfl ⟨Nat.le_of_ble_eq_true rfl, Nat.le_of_ble_eq_true rfl⟩) (mt_preV hK hP hD [] [0, 1, 2, 3, 4, 5] rfl (by decide) (ci := 5) (q0 := 3) rfl rfl) rfl rfl hl.1 rfl (lv_room (Nat.le_of_ble_eq_true rfl)) d_St_layStripe_54 ⟨Nat.zero_le _, Nat.zero_le _⟩) hP hD hS hA [0, 1, 2, 3, 4, 5] rfl (fun _ => rfl) (fun u H locs h hP hD hS => ?_)
      obtain ⟨V_bytes_54, rfl⟩ : ∃ z, z = u := ⟨_, rfl⟩
      have hP : va_P (dC, dI) vwCl (wd_St_layStripe aF aF_powers aF_logs aV aV_bytes aV_lost aV_factors aP aP_block aP_original aP_lost aP_current cI cZ F_powers F_logs V_lostCount V_data V_repairs V_first V_bytes_54 V_factors P_size P_stripes P_sentCount P_block P_original P_lost P_current) H := hP
      have hD : va_D A (wd_St_layStripe aF aF_powers aF_logs aV aV_bytes aV_lost aV_factors aP aP_block aP_original aP_lost aP_current cI cZ F_powers F_logs V_lostCount V_data V_repairs V_first V_bytes_54 V_factors P_size P_stripes P_sentCount P_block P_original P_lost P_current) := hD
      refine lv_aload_n hx hb d_St_layStripe_57 rfl (lv_at hl 0 rfl) ?_
      refine lv_iload_n hx hb d_St_layStripe_58 rfl (lv_at hl 1 rfl) ?_
      refine mt_v (va_runV (As := [.int x1]) (rest := []) ⟨hx, hb, hml, hown, hts⟩ (ct_St_storeStripe l dC dI aV aF aV_bytes aV_lost aV_factors aP aP_block aP_original aP_lost aP_current cI cZ V_lostCount V_data V_repairs V_first V_bytes_54 P_size P_stripes P_sentCount P_lost P_current x1 _ h _) (tb_cV hts ok_St_storeStripe tb_526 rfl rfl ⟨Nat.le_of_ble_eq_true rfl, Nat.le_of_ble_eq_true rfl⟩) (mt_preV hK hP hD [.int x1] [3, 4, 6, 9, 10] rfl (by decide) (ci := 4) (q0 := 6) rfl rfl) rfl rfl hl.1 rfl (lv_room (Nat.le_of_ble_eq_true rfl)) d_St_layStripe_59 ⟨Nat.zero_le _, Nat.zero_le _⟩) hP hD hS hA [3, 4, 6, 9, 10] rfl (fun _ => rfl) (fun u H locs h hP hD hS => ?_)
      obtain ⟨P_lost_59, P_current_59⟩ := u
      have hP : va_P (dC, dI) vwCl (wd_St_layStripe aF aF_powers aF_logs aV aV_bytes aV_lost aV_factors aP aP_block aP_original aP_lost aP_current cI cZ F_powers F_logs V_lostCount V_data V_repairs V_first V_bytes_54 V_factors P_size P_stripes P_sentCount P_block P_original P_lost_59 P_current_59) H := hP
      have hD : va_D A (wd_St_layStripe aF aF_powers aF_logs aV aV_bytes aV_lost aV_factors aP aP_block aP_original aP_lost aP_current cI cZ F_powers F_logs V_lostCount V_data V_repairs V_first V_bytes_54 V_factors P_size P_stripes P_sentCount P_block P_original P_lost_59 P_current_59) := hD
      refine lv_iconst (v := (0 : Int32)) hx hb d_St_layStripe_62 (by decide) ?_
      refine lv_istore_n (lv' := [(2, .int (0 : Int32)), (0, .ref aP), (1, .int x1)]) hx hb d_St_layStripe_63 rfl hl (by decide) rfl (fun ls hl => ?_)
      obtain ⟨n, h⟩ := h
      exact L64  n V_bytes_54 P_original P_lost_59 P_current_59 x1 (0 : Int32) H locs ls h hP hD hS (lv_sub hl [1, 2, 0] rfl)
    · have h := h.2 g10
      refine lv_aload_n hx hb d_St_layStripe_13 rfl (lv_at hl 0 rfl) ?_
      refine lv_iload_n hx hb d_St_layStripe_14 rfl (lv_at hl 1 rfl) ?_
      refine lv_iload_n hx hb d_St_layStripe_15 rfl (lv_at hl 2 rfl) ?_
      refine mt_i (va_runV (As := [.int x1, .int x2]) (rest := []) ⟨hx, hb, hml, hown, hts⟩ (ct_St_slotOf l dC dI aV aF aV_bytes aV_lost aV_factors aP aP_block aP_original aP_lost aP_current cI cZ V_lostCount V_data V_repairs V_first P_size P_stripes P_sentCount x1 x2 _ h _) (tb_cV hts ok_St_slotOf tb_521 rfl rfl ⟨Nat.le_of_ble_eq_true rfl, Nat.le_of_ble_eq_true rfl⟩) (mt_preV hK hP hD [.int x1, .int x2] [3, 6] rfl (by decide) (ci := 4) (q0 := 6) rfl rfl) rfl rfl hl.1 rfl (lv_room (Nat.le_of_ble_eq_true rfl)) d_St_layStripe_16 ⟨Nat.zero_le _, Nat.zero_le _⟩) hP hD hS hA [3, 6] rfl (fun _ => rfl) (fun r_16 u H locs h hP hD hS => ?_)
      have hP : va_P (dC, dI) vwCl (wd_St_layStripe aF aF_powers aF_logs aV aV_bytes aV_lost aV_factors aP aP_block aP_original aP_lost aP_current cI cZ F_powers F_logs V_lostCount V_data V_repairs V_first V_bytes V_factors P_size P_stripes P_sentCount P_block P_original P_lost P_current) H := hP
      have hD : va_D A (wd_St_layStripe aF aF_powers aF_logs aV aV_bytes aV_lost aV_factors aP aP_block aP_original aP_lost aP_current cI cZ F_powers F_logs V_lostCount V_data V_repairs V_first V_bytes V_factors P_size P_stripes P_sentCount P_block P_original P_lost P_current) := hD
      refine lv_istore_n (lv' := [(3, .int r_16), (0, .ref aP), (1, .int x1), (2, .int x2)]) hx hb d_St_layStripe_19 rfl hl (by decide) rfl (fun ls hl => ?_)
      refine lv_aload_n hx hb d_St_layStripe_20 rfl (lv_at hl 1 rfl) ?_
      refine va_get (D := (dC, dI)) (ci := 4) (v := .ref aV) (C := "ReedSets$Striped") (T := T_St) (N := 8) hx hb hts in_St hown hK hP 6 rfl rfl 3 (by decide) (hts _ tb_207) (fun _ h9 => h9) rfl d_St_layStripe_21 ?_
      refine va_get (D := (dC, dI)) (ci := 5) (v := .ref aV_bytes) (C := "ReedSets$Word") (T := T_Wo) (N := 8) hx hb hts in_Wo hown hK hP 3 rfl rfl 1 (by decide) (hts _ tb_104) (fun _ h9 => h9) rfl d_St_layStripe_24 ?_
      refine lv_iload_n hx hb d_St_layStripe_27 rfl (lv_at hl 3 rfl) ?_
      refine lv_iload_n hx hb d_St_layStripe_28 rfl (lv_at hl 0 rfl) ?_
      refine lv_iconst (v := (-1 : Int32)) hx hb d_St_layStripe_29 (by decide) ?_
      refine lv_icmp_ne (tgt := 37) hx hb d_St_layStripe_30 (by decide) (fun g30 => ?_) (fun g30 => ?_)
      · have h := h.1 g30
        refine lv_aload_n hx hb d_St_layStripe_37 rfl (lv_at hl 1 rfl) ?_
        refine va_get (D := (dC, dI)) (ci := 4) (v := .ref aP_block) (C := "ReedSets$Striped") (T := T_St) (N := 8) hx hb hts in_St hown hK hP 6 rfl rfl 0 (by decide) (hts _ tb_204) (fun _ h9 => h9) rfl d_St_layStripe_38 ?_
        refine lv_iload_n hx hb d_St_layStripe_41 rfl (lv_at hl 0 rfl) ?_
        obtain ⟨hi, h⟩ := h
        refine va_iald hx hb hK hP 7 0 rfl rfl hi d_St_layStripe_42 ?_
        exact B43 K2 HK2 V_bytes P_original P_lost P_current x1 x2 (P_block r_16.toNatClampNeg) x2 H locs ls h hP hD hS (lv_sub hl [1, 2, 3] rfl)
      · have h := h.2 g30
        refine lv_iconst (v := (0 : Int32)) hx hb d_St_layStripe_33 (by decide) ?_
        refine lv_goto (tgt := 43) hx hb d_St_layStripe_34 (by decide) ?_
        exact B43 K2 HK2 V_bytes P_original P_lost P_current x1 x2 (0 : Int32) x2 H locs ls h hP hD hS (lv_sub hl [1, 2, 3] rfl)
  have L2 : ∀  (n : Nat), ∀ (V_bytes : Nat → Int32) (P_original : Nat → Int32) (P_lost : Nat → Int32) (P_current : Nat → Int32) (x1 : Int32) (x2 : Int32) (H : Heap) (locs : List Loc) (ls : Array Slot), wp_St_layStripe_L2 F_powers F_logs V_data V_repairs V_factors P_size P_stripes P_block post  n V_bytes P_original P_lost P_current x1 x2 → va_P (dC, dI) vwCl (wd_St_layStripe aF aF_powers aF_logs aV aV_bytes aV_lost aV_factors aP aP_block aP_original aP_lost aP_current cI cZ F_powers F_logs V_lostCount V_data V_repairs V_first V_bytes V_factors P_size P_stripes P_sentCount P_block P_original P_lost P_current) H → va_D A (wd_St_layStripe aF aF_powers aF_logs aV aV_bytes aV_lost aV_factors aP aP_block aP_original aP_lost aP_current cI cZ F_powers F_logs V_lostCount V_data V_repairs V_first V_bytes V_factors P_size P_stripes P_sentCount P_block P_original P_lost P_current) → va_S A s.heap H locs → lv_has ls 4 [(0, .ref aP), (1, .int x1), (2, .int x2)] → W p l e rm_St_layStripe s m args below meth c H locs 0 0 Q (F0 m 2 ls []) := by
    intro  n
    induction n with
    | zero => intro V_bytes P_original P_lost P_current x1 x2 H locs ls h hP hD hS hl; exact False.elim h
    | succ n ih => intro V_bytes P_original P_lost P_current x1 x2 H locs ls h hP hD hS hl; exact B2  (wp_St_layStripe_L2 F_powers F_logs V_data V_repairs V_factors P_size P_stripes P_block post  n) ih V_bytes P_original P_lost P_current x1 x2 H locs ls h hP hD hS hl
  obtain ⟨H, hH⟩ : ∃ H : Heap, H = s.heap := ⟨_, rfl⟩
  obtain ⟨locs, hlo⟩ : ∃ x : List Loc, x = [] := ⟨_, rfl⟩
  have hS : va_S A s.heap H locs := by rw [hH, hlo]; exact hS
  rw [← hH] at hP
  rw [← hlo]
  show W p l e rm_St_layStripe s m args below meth c s.heap locs 0 0 Q (F0 m 0 ls [])
  rw [← hH]
  refine lv_iconst (v := (0 : Int32)) hx hb d_St_layStripe_0 (by decide) ?_
  refine lv_istore_n (lv' := [(2, .int (0 : Int32)), (0, .ref aP), (1, .int p1)]) hx hb d_St_layStripe_1 rfl hl (by decide) rfl (fun ls hl => ?_)
  obtain ⟨n, h⟩ := h
  exact L2  n V_bytes P_original P_lost P_current p1 (0 : Int32) H locs ls h hP hD hS (lv_sub hl [1, 2, 0] rfl)
abbrev wd_St_layIn (aF aF_powers aF_logs aV aV_bytes aV_lost aV_factors aP aP_block aP_original aP_lost aP_current : Nat) (cI cZ : ClassId) (F_powers : Nat → Int32) (F_logs : Nat → Int32) (V_lostCount : Int32) (V_data : Int32) (V_repairs : Int32) (V_first : Int32) (V_bytes : Nat → Int32) (V_lost : Nat → Int32) (V_factors : Nat → Int32) (P_size : Int32) (P_stripes : Int32) (P_sentCount : Int32) (P_block : Nat → Int32) (P_original : Nat → Int32) (P_lost : Nat → Int32) (P_current : Nat → Int32) : va_W := [(aF, .inr (1, [.ref aF_powers, .ref aF_logs])), (aF_powers, .inl (cI, 512, .inl F_powers)), (aF_logs, .inl (cI, 256, .inl F_logs)), (aV, .inr (5, [.ref aF, .ref aV_bytes, .ref aV_lost, .ref aV_factors, .int V_lostCount, .int V_data, .int V_repairs, .int V_first])), (aV_bytes, .inl (cI, 240, .inl V_bytes)), (aV_lost, .inl (cZ, 240, .inl V_lost)), (aV_factors, .inl (cI, 41, .inl V_factors)), (aP, .inr (4, [.ref aP_block, .ref aP_original, .ref aP_lost, .ref aV, .ref aP_current, .int P_size, .int P_stripes, .int P_sentCount])), (aP_block, .inl (cI, 800, .inl P_block)), (aP_original, .inl (cI, 1440, .inl P_original)), (aP_lost, .inl (cZ, 1440, .inl P_lost)), (aP_current, .inl (cI, 1440, .inl P_current))]
def wp_St_layIn_b19 (F_powers : Nat → Int32) (F_logs : Nat → Int32) (P_size : Int32) (P_block : Nat → Int32) (post : Int32 → Int32 → Int32 → Int32 → Int32 → (Nat → Int32) → (Nat → Int32) → (Nat → Int32) → Int32 → Int32 → (Nat → Int32) → (Nat → Int32) → (Nat → Int32) → Prop)  (V_lostCount : Int32) (V_data : Int32) (V_repairs : Int32) (V_first : Int32) (V_bytes : Nat → Int32) (V_lost : Nat → Int32) (V_factors : Nat → Int32) (P_stripes : Int32) (P_sentCount : Int32) (P_original : Nat → Int32) (P_lost : Nat → Int32) (P_current : Nat → Int32) : Prop := post (-1 : Int32) V_lostCount V_data V_repairs V_first V_bytes V_lost V_factors P_stripes P_sentCount P_original P_lost P_current
def wp_St_layIn_b51 (F_powers : Nat → Int32) (F_logs : Nat → Int32) (P_size : Int32) (P_block : Nat → Int32) (post : Int32 → Int32 → Int32 → Int32 → Int32 → (Nat → Int32) → (Nat → Int32) → (Nat → Int32) → Int32 → Int32 → (Nat → Int32) → (Nat → Int32) → (Nat → Int32) → Prop)  (V_lostCount : Int32) (V_data : Int32) (V_repairs : Int32) (V_first : Int32) (V_bytes : Nat → Int32) (V_lost : Nat → Int32) (V_factors : Nat → Int32) (P_stripes : Int32) (P_sentCount : Int32) (P_original : Nat → Int32) (P_lost : Nat → Int32) (P_current : Nat → Int32) : Prop := post (-1 : Int32) V_lostCount V_data V_repairs V_first V_bytes V_lost V_factors P_stripes P_sentCount P_original P_lost P_current
def wp_St_layIn_b84 (F_powers : Nat → Int32) (F_logs : Nat → Int32) (P_size : Int32) (P_block : Nat → Int32) (post : Int32 → Int32 → Int32 → Int32 → Int32 → (Nat → Int32) → (Nat → Int32) → (Nat → Int32) → Int32 → Int32 → (Nat → Int32) → (Nat → Int32) → (Nat → Int32) → Prop) (K84 : Int32 → Int32 → Int32 → Int32 → (Nat → Int32) → (Nat → Int32) → (Nat → Int32) → Int32 → Int32 → (Nat → Int32) → (Nat → Int32) → (Nat → Int32) → Int32 → Int32 → Prop) (V_lostCount : Int32) (V_data : Int32) (V_repairs : Int32) (V_first : Int32) (V_bytes : Nat → Int32) (V_lost : Nat → Int32) (V_factors : Nat → Int32) (P_stripes : Int32) (P_sentCount : Int32) (P_original : Nat → Int32) (P_lost : Nat → Int32) (P_current : Nat → Int32) (x1 : Int32) (x5 : Int32) : Prop := (x1 ≤ x5 → (post P_sentCount V_lostCount V_data V_repairs V_first V_bytes V_lost V_factors P_stripes P_sentCount P_original P_lost P_current)) ∧ (¬ x1 ≤ x5 → (wp_St_layStripe F_powers F_logs V_data V_repairs V_bytes V_factors P_size P_stripes P_block P_original P_lost P_current x5 (fun V_bytes_93 P_original_93 P_lost_93 P_current_93 => (∀ x5_96 : Int32, x5_96 = (x5 + (1 : Int32)) → (K84 V_lostCount V_data V_repairs V_first V_bytes_93 V_lost V_factors P_stripes P_sentCount P_original_93 P_lost_93 P_current_93 x1 x5_96)))))
def wp_St_layIn_L84 (F_powers : Nat → Int32) (F_logs : Nat → Int32) (P_size : Int32) (P_block : Nat → Int32) (post : Int32 → Int32 → Int32 → Int32 → Int32 → (Nat → Int32) → (Nat → Int32) → (Nat → Int32) → Int32 → Int32 → (Nat → Int32) → (Nat → Int32) → (Nat → Int32) → Prop)  : Nat → Int32 → Int32 → Int32 → Int32 → (Nat → Int32) → (Nat → Int32) → (Nat → Int32) → Int32 → Int32 → (Nat → Int32) → (Nat → Int32) → (Nat → Int32) → Int32 → Int32 → Prop
  | 0 => fun _ _ _ _ _ _ _ _ _ _ _ _ _ _ => False
  | n + 1 => wp_St_layIn_b84 F_powers F_logs P_size P_block post (wp_St_layIn_L84 F_powers F_logs P_size P_block post n)
def wp_St_layIn (F_powers : Nat → Int32) (F_logs : Nat → Int32) (V_lostCount : Int32) (V_data : Int32) (V_repairs : Int32) (V_first : Int32) (V_bytes : Nat → Int32) (V_lost : Nat → Int32) (V_factors : Nat → Int32) (P_size : Int32) (P_stripes : Int32) (P_sentCount : Int32) (P_block : Nat → Int32) (P_original : Nat → Int32) (P_lost : Nat → Int32) (P_current : Nat → Int32) (p1 : Int32) (p2 : Int32) (p3 : Int32) (post : Int32 → Int32 → Int32 → Int32 → Int32 → (Nat → Int32) → (Nat → Int32) → (Nat → Int32) → Int32 → Int32 → (Nat → Int32) → (Nat → Int32) → (Nat → Int32) → Prop) : Prop := (p1 < (1 : Int32) → (wp_St_layIn_b19 F_powers F_logs P_size P_block post  V_lostCount V_data V_repairs V_first V_bytes V_lost V_factors P_stripes P_sentCount P_original P_lost P_current)) ∧ (¬ p1 < (1 : Int32) → (((16 : Int32) < p1 → (wp_St_layIn_b19 F_powers F_logs P_size P_block post  V_lostCount V_data V_repairs V_first V_bytes V_lost V_factors P_stripes P_sentCount P_original P_lost P_current)) ∧ (¬ (16 : Int32) < p1 → ((p1 ≤ P_size → (¬ p1 = 0 ∧ (∀ x4_31 : Int32, x4_31 = (((P_size + p1) - (1 : Int32)) / p1) → (((200 : Int32) < x4_31 → (wp_St_layIn_b51 F_powers F_logs P_size P_block post  V_lostCount V_data V_repairs V_first V_bytes V_lost V_factors P_stripes P_sentCount P_original P_lost P_current)) ∧ (¬ (200 : Int32) < x4_31 → (((x4_31 + p2) ≤ (255 : Int32) → (∀ y_67 : Int32, y_67 = (P_size + (p1 * p2)) → (wp_Wo_shape F_powers F_logs V_lostCount V_data V_repairs V_first V_bytes V_lost V_factors x4_31 p2 p3 (fun V_lostCount_78 V_data_78 V_repairs_78 V_first_78 V_bytes_78 V_lost_78 V_factors_78 => (∃ n : Nat, wp_St_layIn_L84 F_powers F_logs P_size P_block post  n V_lostCount_78 V_data_78 V_repairs_78 V_first_78 V_bytes_78 V_lost_78 V_factors_78 p1 y_67 P_original P_lost P_current p1 (0 : Int32)))))) ∧ (¬ (x4_31 + p2) ≤ (255 : Int32) → (wp_St_layIn_b51 F_powers F_logs P_size P_block post  V_lostCount V_data V_repairs V_first V_bytes V_lost V_factors P_stripes P_sentCount P_original P_lost P_current)))))))) ∧ (¬ p1 ≤ P_size → (wp_St_layIn_b19 F_powers F_logs P_size P_block post  V_lostCount V_data V_repairs V_first V_bytes V_lost V_factors P_stripes P_sentCount P_original P_lost P_current))))))
abbrev rm_St_layIn : Room := { frames := 4, cells := 0, slots := 0, locals := 93 }
set_option maxHeartbeats 4000000 in
set_option maxRecDepth 100000 in
theorem ct_St_layIn (l : Launch) (dC : Nat → ClassId) (dI : Nat → Nat → Nat) (aF aF_powers aF_logs aV aV_bytes aV_lost aV_factors aP aP_block aP_original aP_lost aP_current : Nat) (cI cZ : ClassId) (F_powers : Nat → Int32) (F_logs : Nat → Int32) (V_lostCount : Int32) (V_data : Int32) (V_repairs : Int32) (V_first : Int32) (V_bytes : Nat → Int32) (V_lost : Nat → Int32) (V_factors : Nat → Int32) (P_size : Int32) (P_stripes : Int32) (P_sentCount : Int32) (P_block : Nat → Int32) (P_original : Nat → Int32) (P_lost : Nat → Int32) (P_current : Nat → Int32) (p1 : Int32) (p2 : Int32) (p3 : Int32) (post : Int32 → Int32 → Int32 → Int32 → Int32 → (Nat → Int32) → (Nat → Int32) → (Nat → Int32) → Int32 → Int32 → (Nat → Int32) → (Nat → Int32) → (Nat → Int32) → Prop) (h : wp_St_layIn F_powers F_logs V_lostCount V_data V_repairs V_first V_bytes V_lost V_factors P_size P_stripes P_sentCount P_block P_original P_lost P_current p1 p2 p3 post) (sz : Nat) : Met l y_St_layIn (Cond.code y_St_layIn c_St_layIn 6 (some .int) :: tb) rm_St_layIn (mt_P (dC, dI) vwCl [(cI, .int), (cZ, .boolean)] [.ref aP, .int p1, .int p2, .int p3] (wd_St_layIn aF aF_powers aF_logs aV aV_bytes aV_lost aV_factors aP aP_block aP_original aP_lost aP_current cI cZ F_powers F_logs V_lostCount V_data V_repairs V_first V_bytes V_lost V_factors P_size P_stripes P_sentCount P_block P_original P_lost P_current) sz) (va_Qi (fun (r : Int32) (u : Int32 × Int32 × Int32 × Int32 × (Nat → Int32) × (Nat → Int32) × (Nat → Int32) × Int32 × Int32 × (Nat → Int32) × (Nat → Int32) × (Nat → Int32)) => post r u.1 u.2.1 u.2.2.1 u.2.2.2.1 u.2.2.2.2.1 u.2.2.2.2.2.1 u.2.2.2.2.2.2.1 u.2.2.2.2.2.2.2.1 u.2.2.2.2.2.2.2.2.1 u.2.2.2.2.2.2.2.2.2.1 u.2.2.2.2.2.2.2.2.2.2.1 u.2.2.2.2.2.2.2.2.2.2.2) (mt_B (dC, dI) vwCl [(cI, .int), (cZ, .boolean)] (wd_St_layIn aF aF_powers aF_logs aV aV_bytes aV_lost aV_factors aP aP_block aP_original aP_lost aP_current cI cZ F_powers F_logs V_lostCount V_data V_repairs V_first V_bytes V_lost V_factors P_size P_stripes P_sentCount P_block P_original P_lost P_current) sz (fun u : Int32 × Int32 × Int32 × Int32 × (Nat → Int32) × (Nat → Int32) × (Nat → Int32) × Int32 × Int32 × (Nat → Int32) × (Nat → Int32) × (Nat → Int32) => wd_St_layIn aF aF_powers aF_logs aV aV_bytes aV_lost aV_factors aP aP_block aP_original aP_lost aP_current cI cZ F_powers F_logs u.1 u.2.1 u.2.2.1 u.2.2.2.1 u.2.2.2.2.1 u.2.2.2.2.2.1 u.2.2.2.2.2.2.1 P_size u.2.2.2.2.2.2.2.1 u.2.2.2.2.2.2.2.2.1 P_block u.2.2.2.2.2.2.2.2.2.1 u.2.2.2.2.2.2.2.2.2.2.1 u.2.2.2.2.2.2.2.2.2.2.2)) (va_A (wd_St_layIn aF aF_powers aF_logs aV aV_bytes aV_lost aV_factors aP aP_block aP_original aP_lost aP_current cI cZ F_powers F_logs V_lostCount V_data V_repairs V_first V_bytes V_lost V_factors P_size P_stripes P_sentCount P_block P_original P_lost P_current) sz)) 0 0 (va_A (wd_St_layIn aF aF_powers aF_logs aV aV_bytes aV_lost aV_factors aP aP_block aP_original aP_lost aP_current cI cZ F_powers F_logs V_lostCount V_data V_repairs V_first V_bytes V_lost V_factors P_size P_stripes P_sentCount P_block P_original P_lost P_current) sz) := by
  refine mt_bd (by decide +kernel) (Nat.le_of_ble_eq_true rfl) ?_
  intro p e s m args below meth c hx hb hml hown hts hr hlk hnm hsz hP hK hD hA hS ls hl
  subst hsz
  have hown : s.vm.findClass "ReedSets$Striped" = some m.cls := hown
  have hl : lv_has ls 6 [(0, .ref aP), (1, .int p1), (2, .int p2), (3, .int p3)] := hl
  refine lz_Q (fun Q hQ => ?_)
  obtain ⟨A, hAe⟩ : ∃ A : Nat → Prop, A = va_A (wd_St_layIn aF aF_powers aF_logs aV aV_bytes aV_lost aV_factors aP aP_block aP_original aP_lost aP_current cI cZ F_powers F_logs V_lostCount V_data V_repairs V_first V_bytes V_lost V_factors P_size P_stripes P_sentCount P_block P_original P_lost P_current) s.heap.size := ⟨_, rfl⟩
  rw [← hAe] at hD hA hS
  have RET : ∀ (v : Int32) (V_lostCount : Int32) (V_data : Int32) (V_repairs : Int32) (V_first : Int32) (V_bytes : Nat → Int32) (V_lost : Nat → Int32) (V_factors : Nat → Int32) (P_stripes : Int32) (P_sentCount : Int32) (P_original : Nat → Int32) (P_lost : Nat → Int32) (P_current : Nat → Int32) (H : Heap) (locs : List Loc) (ls : Array Slot) (pc : Nat), decode c_St_layIn pc = .ok (.ireturn, 1) → post v V_lostCount V_data V_repairs V_first V_bytes V_lost V_factors P_stripes P_sentCount P_original P_lost P_current → va_P (dC, dI) vwCl (wd_St_layIn aF aF_powers aF_logs aV aV_bytes aV_lost aV_factors aP aP_block aP_original aP_lost aP_current cI cZ F_powers F_logs V_lostCount V_data V_repairs V_first V_bytes V_lost V_factors P_size P_stripes P_sentCount P_block P_original P_lost P_current) H → va_D A (wd_St_layIn aF aF_powers aF_logs aV aV_bytes aV_lost aV_factors aP aP_block aP_original aP_lost aP_current cI cZ F_powers F_logs V_lostCount V_data V_repairs V_first V_bytes V_lost V_factors P_size P_stripes P_sentCount P_block P_original P_lost P_current) → va_S A s.heap H locs → W p l e rm_St_layIn s m args below meth c H locs 0 0 Q (F0 m pc ls [.int v]) := by
    intro v V_lostCount V_data V_repairs V_first V_bytes V_lost V_factors P_stripes P_sentCount P_original P_lost P_current H locs ls pc hd hp h1 h2 h3
    rw [hQ]
    rw [hAe] at h2 h3
    exact mt_reti (V_lostCount, V_data, V_repairs, V_first, V_bytes, V_lost, V_factors, P_stripes, P_sentCount, P_original, P_lost, P_current) hx hb hr hlk hd hK h1 h2 h3 hp
  have B19 : ∀ (V_lostCount : Int32) (V_data : Int32) (V_repairs : Int32) (V_first : Int32) (V_bytes : Nat → Int32) (V_lost : Nat → Int32) (V_factors : Nat → Int32) (P_stripes : Int32) (P_sentCount : Int32) (P_original : Nat → Int32) (P_lost : Nat → Int32) (P_current : Nat → Int32) (H : Heap) (locs : List Loc) (ls : Array Slot), wp_St_layIn_b19 F_powers F_logs P_size P_block post  V_lostCount V_data V_repairs V_first V_bytes V_lost V_factors P_stripes P_sentCount P_original P_lost P_current → va_P (dC, dI) vwCl (wd_St_layIn aF aF_powers aF_logs aV aV_bytes aV_lost aV_factors aP aP_block aP_original aP_lost aP_current cI cZ F_powers F_logs V_lostCount V_data V_repairs V_first V_bytes V_lost V_factors P_size P_stripes P_sentCount P_block P_original P_lost P_current) H → va_D A (wd_St_layIn aF aF_powers aF_logs aV aV_bytes aV_lost aV_factors aP aP_block aP_original aP_lost aP_current cI cZ F_powers F_logs V_lostCount V_data V_repairs V_first V_bytes V_lost V_factors P_size P_stripes P_sentCount P_block P_original P_lost P_current) → va_S A s.heap H locs → lv_has ls 6 [] → W p l e rm_St_layIn s m args below meth c H locs 0 0 Q (F0 m 19 ls []) := by
    intro  V_lostCount V_data V_repairs V_first V_bytes V_lost V_factors P_stripes P_sentCount P_original P_lost P_current H locs ls h hP hD hS hl
    refine lv_iconst (v := (-1 : Int32)) hx hb d_St_layIn_19 (by decide) ?_
    exact RET (-1 : Int32) V_lostCount V_data V_repairs V_first V_bytes V_lost V_factors P_stripes P_sentCount P_original P_lost P_current H locs ls 20 d_St_layIn_20 h hP hD hS
  have B51 : ∀ (V_lostCount : Int32) (V_data : Int32) (V_repairs : Int32) (V_first : Int32) (V_bytes : Nat → Int32) (V_lost : Nat → Int32) (V_factors : Nat → Int32) (P_stripes : Int32) (P_sentCount : Int32) (P_original : Nat → Int32) (P_lost : Nat → Int32) (P_current : Nat → Int32) (H : Heap) (locs : List Loc) (ls : Array Slot), wp_St_layIn_b51 F_powers F_logs P_size P_block post  V_lostCount V_data V_repairs V_first V_bytes V_lost V_factors P_stripes P_sentCount P_original P_lost P_current → va_P (dC, dI) vwCl (wd_St_layIn aF aF_powers aF_logs aV aV_bytes aV_lost aV_factors aP aP_block aP_original aP_lost aP_current cI cZ F_powers F_logs V_lostCount V_data V_repairs V_first V_bytes V_lost V_factors P_size P_stripes P_sentCount P_block P_original P_lost P_current) H → va_D A (wd_St_layIn aF aF_powers aF_logs aV aV_bytes aV_lost aV_factors aP aP_block aP_original aP_lost aP_current cI cZ F_powers F_logs V_lostCount V_data V_repairs V_first V_bytes V_lost V_factors P_size P_stripes P_sentCount P_block P_original P_lost P_current) → va_S A s.heap H locs → lv_has ls 6 [] → W p l e rm_St_layIn s m args below meth c H locs 0 0 Q (F0 m 51 ls []) := by
    intro  V_lostCount V_data V_repairs V_first V_bytes V_lost V_factors P_stripes P_sentCount P_original P_lost P_current H locs ls h hP hD hS hl
    refine lv_iconst (v := (-1 : Int32)) hx hb d_St_layIn_51 (by decide) ?_
    exact RET (-1 : Int32) V_lostCount V_data V_repairs V_first V_bytes V_lost V_factors P_stripes P_sentCount P_original P_lost P_current H locs ls 52 d_St_layIn_52 h hP hD hS
  have B84 : ∀ (K84 : Int32 → Int32 → Int32 → Int32 → (Nat → Int32) → (Nat → Int32) → (Nat → Int32) → Int32 → Int32 → (Nat → Int32) → (Nat → Int32) → (Nat → Int32) → Int32 → Int32 → Prop) (HK84 : ∀ (V_lostCount : Int32) (V_data : Int32) (V_repairs : Int32) (V_first : Int32) (V_bytes : Nat → Int32) (V_lost : Nat → Int32) (V_factors : Nat → Int32) (P_stripes : Int32) (P_sentCount : Int32) (P_original : Nat → Int32) (P_lost : Nat → Int32) (P_current : Nat → Int32) (x1 : Int32) (x5 : Int32) (H : Heap) (locs : List Loc) (ls : Array Slot), K84 V_lostCount V_data V_repairs V_first V_bytes V_lost V_factors P_stripes P_sentCount P_original P_lost P_current x1 x5 → va_P (dC, dI) vwCl (wd_St_layIn aF aF_powers aF_logs aV aV_bytes aV_lost aV_factors aP aP_block aP_original aP_lost aP_current cI cZ F_powers F_logs V_lostCount V_data V_repairs V_first V_bytes V_lost V_factors P_size P_stripes P_sentCount P_block P_original P_lost P_current) H → va_D A (wd_St_layIn aF aF_powers aF_logs aV aV_bytes aV_lost aV_factors aP aP_block aP_original aP_lost aP_current cI cZ F_powers F_logs V_lostCount V_data V_repairs V_first V_bytes V_lost V_factors P_size P_stripes P_sentCount P_block P_original P_lost P_current) → va_S A s.heap H locs → lv_has ls 6 [(0, .ref aP), (1, .int x1), (5, .int x5)] → W p l e rm_St_layIn s m args below meth c H locs 0 0 Q (F0 m 84 ls [])), ∀ (V_lostCount : Int32) (V_data : Int32) (V_repairs : Int32) (V_first : Int32) (V_bytes : Nat → Int32) (V_lost : Nat → Int32) (V_factors : Nat → Int32) (P_stripes : Int32) (P_sentCount : Int32) (P_original : Nat → Int32) (P_lost : Nat → Int32) (P_current : Nat → Int32) (x1 : Int32) (x5 : Int32) (H : Heap) (locs : List Loc) (ls : Array Slot), wp_St_layIn_b84 F_powers F_logs P_size P_block post K84 V_lostCount V_data V_repairs V_first V_bytes V_lost V_factors P_stripes P_sentCount P_original P_lost P_current x1 x5 → va_P (dC, dI) vwCl (wd_St_layIn aF aF_powers aF_logs aV aV_bytes aV_lost aV_factors aP aP_block aP_original aP_lost aP_current cI cZ F_powers F_logs V_lostCount V_data V_repairs V_first V_bytes V_lost V_factors P_size P_stripes P_sentCount P_block P_original P_lost P_current) H → va_D A (wd_St_layIn aF aF_powers aF_logs aV aV_bytes aV_lost aV_factors aP aP_block aP_original aP_lost aP_current cI cZ F_powers F_logs V_lostCount V_data V_repairs V_first V_bytes V_lost V_factors P_size P_stripes P_sentCount P_block P_original P_lost P_current) → va_S A s.heap H locs → lv_has ls 6 [(0, .ref aP), (1, .int x1), (5, .int x5)] → W p l e rm_St_layIn s m args below meth c H locs 0 0 Q (F0 m 84 ls []) := by
    intro K84 HK84 V_lostCount V_data V_repairs V_first V_bytes V_lost V_factors P_stripes P_sentCount P_original P_lost P_current x1 x5 H locs ls h hP hD hS hl
    refine lv_iload hx hb d_St_layIn_84 (lv_at hl 2 rfl) ?_
    refine lv_iload_n hx hb d_St_layIn_86 rfl (lv_at hl 1 rfl) ?_
    refine lv_icmp_ge (tgt := 102) hx hb d_St_layIn_87 (by decide) (fun g87 => ?_) (fun g87 => ?_)
    · have h := h.1 g87
      refine lv_aload_n hx hb d_St_layIn_102 rfl (lv_at hl 0 rfl) ?_
      refine va_get (D := (dC, dI)) (ci := 4) (v := .int P_sentCount) (C := "ReedSets$Striped") (T := T_St) (N := 8) hx hb hts in_St hown hK hP 7 rfl rfl 7 (by decide) (hts _ tb_213) (fun _ h9 => h9) rfl d_St_layIn_103 ?_
      exact RET P_sentCount V_lostCount V_data V_repairs V_first V_bytes V_lost V_factors P_stripes P_sentCount P_original P_lost P_current H locs ls 106 d_St_layIn_106 h hP hD hS
    · have h := h.2 g87
      refine lv_aload_n hx hb d_St_layIn_90 rfl (lv_at hl 0 rfl) ?_
      refine lv_iload hx hb d_St_layIn_91 (lv_at hl 2 rfl) ?_
      refine mt_v (va_runV (As := [.int x5]) (rest := []) ⟨hx, hb, hml, hown, hts⟩ (ct_St_layStripe l dC dI aF aF_powers aF_logs aV aV_bytes aV_lost aV_factors aP aP_block aP_original aP_lost aP_current cI cZ F_powers F_logs V_lostCount V_data V_repairs V_first V_bytes V_factors P_size P_stripes P_sentCount P_block P_original P_lost P_current x5 _ h _) (tb_cV hts ok_St_layStripe tb_517 rfl rfl ⟨Nat.le_of_ble_eq_true rfl, Nat.le_of_ble_eq_true rfl⟩) (mt_preV hK hP hD [.int x5] [0, 1, 2, 3, 4, 6, 7, 8, 9, 10, 11] rfl (by decide) (ci := 4) (q0 := 7) rfl rfl) rfl rfl hl.1 rfl (lv_room (Nat.le_of_ble_eq_true rfl)) d_St_layIn_93 ⟨Nat.zero_le _, Nat.zero_le _⟩) hP hD hS hA [0, 1, 2, 3, 4, 6, 7, 8, 9, 10, 11] rfl (fun _ => rfl) (fun u H locs h hP hD hS => ?_)
      obtain ⟨V_bytes_93, P_original_93, P_lost_93, P_current_93⟩ := u
      have hP : va_P (dC, dI) vwCl (wd_St_layIn aF aF_powers aF_logs aV aV_bytes aV_lost aV_factors aP aP_block aP_original aP_lost aP_current cI cZ F_powers F_logs V_lostCount V_data V_repairs V_first V_bytes_93 V_lost V_factors P_size P_stripes P_sentCount P_block P_original_93 P_lost_93 P_current_93) H := hP
      have hD : va_D A (wd_St_layIn aF aF_powers aF_logs aV aV_bytes aV_lost aV_factors aP aP_block aP_original aP_lost aP_current cI cZ F_powers F_logs V_lostCount V_data V_repairs V_first V_bytes_93 V_lost V_factors P_size P_stripes P_sentCount P_block P_original_93 P_lost_93 P_current_93) := hD
      obtain ⟨x5_96, ex5_96⟩ : ∃ y : Int32, y = (x5 + (1 : Int32)) := ⟨_, rfl⟩
      have h := h x5_96 ex5_96
      refine lv_iinc (v := x5_96) (lv' := [(5, .int x5_96), (0, .ref aP), (1, .int x1)]) hx hb d_St_layIn_96 hl (k := 2) rfl (by rw [ex5_96]; rfl) (by decide) rfl (fun ls hl => ?_)
      refine lv_goto (tgt := 84) hx hb d_St_layIn_99 (by decide) ?_
      exact HK84 V_lostCount V_data V_repairs V_first V_bytes_93 V_lost V_factors P_stripes P_sentCount P_original_93 P_lost_93 P_current_93 x1 x5_96 H locs ls h hP hD hS (lv_sub hl [1, 2, 0] rfl)
  have L84 : ∀  (n : Nat), ∀ (V_lostCount : Int32) (V_data : Int32) (V_repairs : Int32) (V_first : Int32) (V_bytes : Nat → Int32) (V_lost : Nat → Int32) (V_factors : Nat → Int32) (P_stripes : Int32) (P_sentCount : Int32) (P_original : Nat → Int32) (P_lost : Nat → Int32) (P_current : Nat → Int32) (x1 : Int32) (x5 : Int32) (H : Heap) (locs : List Loc) (ls : Array Slot), wp_St_layIn_L84 F_powers F_logs P_size P_block post  n V_lostCount V_data V_repairs V_first V_bytes V_lost V_factors P_stripes P_sentCount P_original P_lost P_current x1 x5 → va_P (dC, dI) vwCl (wd_St_layIn aF aF_powers aF_logs aV aV_bytes aV_lost aV_factors aP aP_block aP_original aP_lost aP_current cI cZ F_powers F_logs V_lostCount V_data V_repairs V_first V_bytes V_lost V_factors P_size P_stripes P_sentCount P_block P_original P_lost P_current) H → va_D A (wd_St_layIn aF aF_powers aF_logs aV aV_bytes aV_lost aV_factors aP aP_block aP_original aP_lost aP_current cI cZ F_powers F_logs V_lostCount V_data V_repairs V_first V_bytes V_lost V_factors P_size P_stripes P_sentCount P_block P_original P_lost P_current) → va_S A s.heap H locs → lv_has ls 6 [(0, .ref aP), (1, .int x1), (5, .int x5)] → W p l e rm_St_layIn s m args below meth c H locs 0 0 Q (F0 m 84 ls []) := by
    intro  n
    induction n with
    | zero => intro V_lostCount V_data V_repairs V_first V_bytes V_lost V_factors P_stripes P_sentCount P_original P_lost P_current x1 x5 H locs ls h hP hD hS hl; exact False.elim h
    | succ n ih => intro V_lostCount V_data V_repairs V_first V_bytes V_lost V_factors P_stripes P_sentCount P_original P_lost P_current x1 x5 H locs ls h hP hD hS hl; exact B84  (wp_St_layIn_L84 F_powers F_logs P_size P_block post  n) ih V_lostCount V_data V_repairs V_first V_bytes V_lost V_factors P_stripes P_sentCount P_original P_lost P_current x1 x5 H locs ls h hP hD hS hl
  obtain ⟨H, hH⟩ : ∃ H : Heap, H = s.heap := ⟨_, rfl⟩
  obtain ⟨locs, hlo⟩ : ∃ x : List Loc, x = [] := ⟨_, rfl⟩
  have hS : va_S A s.heap H locs := by rw [hH, hlo]; exact hS
  rw [← hH] at hP
  rw [← hlo]
  show W p l e rm_St_layIn s m args below meth c s.heap locs 0 0 Q (F0 m 0 ls [])
  rw [← hH]
  refine lv_iload_n hx hb d_St_layIn_0 rfl (lv_at hl 1 rfl) ?_
  refine lv_iconst (v := (1 : Int32)) hx hb d_St_layIn_1 (by decide) ?_
  refine lv_icmp_lt (tgt := 19) hx hb d_St_layIn_2 (by decide) (fun g2 => ?_) (fun g2 => ?_)
  · have h := h.1 g2
    exact B19  V_lostCount V_data V_repairs V_first V_bytes V_lost V_factors P_stripes P_sentCount P_original P_lost P_current H locs ls h hP hD hS (lv_sub hl [] rfl)
  · have h := h.2 g2
    refine lv_iload_n hx hb d_St_layIn_5 rfl (lv_at hl 1 rfl) ?_
    refine lv_bipush (v := (16 : Int32)) hx hb d_St_layIn_6 (by decide) ?_
    refine lv_icmp_gt (tgt := 19) hx hb d_St_layIn_8 (by decide) (fun g8 => ?_) (fun g8 => ?_)
    · have h := h.1 g8
      exact B19  V_lostCount V_data V_repairs V_first V_bytes V_lost V_factors P_stripes P_sentCount P_original P_lost P_current H locs ls h hP hD hS (lv_sub hl [] rfl)
    · have h := h.2 g8
      refine lv_iload_n hx hb d_St_layIn_11 rfl (lv_at hl 1 rfl) ?_
      refine lv_aload_n hx hb d_St_layIn_12 rfl (lv_at hl 0 rfl) ?_
      refine va_get (D := (dC, dI)) (ci := 4) (v := .int P_size) (C := "ReedSets$Striped") (T := T_St) (N := 8) hx hb hts in_St hown hK hP 7 rfl rfl 5 (by decide) (hts _ tb_210) (fun _ h9 => h9) rfl d_St_layIn_13 ?_
      refine lv_icmp_le (tgt := 21) hx hb d_St_layIn_16 (by decide) (fun g16 => ?_) (fun g16 => ?_)
      · have h := h.1 g16
        refine lv_aload_n hx hb d_St_layIn_21 rfl (lv_at hl 0 rfl) ?_
        refine va_get (D := (dC, dI)) (ci := 4) (v := .int P_size) (C := "ReedSets$Striped") (T := T_St) (N := 8) hx hb hts in_St hown hK hP 7 rfl rfl 5 (by decide) (hts _ tb_210) (fun _ h9 => h9) rfl d_St_layIn_22 ?_
        refine lv_iload_n hx hb d_St_layIn_25 rfl (lv_at hl 1 rfl) ?_
        refine lv_iadd hx hb d_St_layIn_26 ?_
        refine lv_iconst (v := (1 : Int32)) hx hb d_St_layIn_27 (by decide) ?_
        refine lv_isub hx hb d_St_layIn_28 ?_
        refine lv_iload_n hx hb d_St_layIn_29 rfl (lv_at hl 1 rfl) ?_
        obtain ⟨hi, h⟩ := h
        refine lv_idiv hx hb d_St_layIn_30 hi ?_
        refine lv_topi (fun x4_31 ex4_31 => ?_)
        have h := h x4_31 ex4_31
        refine lv_istore (lv' := [(4, .int x4_31), (0, .ref aP), (1, .int p1), (2, .int p2), (3, .int p3)]) hx hb d_St_layIn_31 hl (by decide) rfl (fun ls hl => ?_)
        refine lv_iload hx hb d_St_layIn_33 (lv_at hl 0 rfl) ?_
        refine lv_sipush (v := (200 : Int32)) hx hb d_St_layIn_35 (by decide) ?_
        refine lv_icmp_gt (tgt := 51) hx hb d_St_layIn_38 (by decide) (fun g38 => ?_) (fun g38 => ?_)
        · have h := h.1 g38
          exact B51  V_lostCount V_data V_repairs V_first V_bytes V_lost V_factors P_stripes P_sentCount P_original P_lost P_current H locs ls h hP hD hS (lv_sub hl [] rfl)
        · have h := h.2 g38
          refine lv_iload hx hb d_St_layIn_41 (lv_at hl 0 rfl) ?_
          refine lv_iload_n hx hb d_St_layIn_43 rfl (lv_at hl 3 rfl) ?_
          refine lv_iadd hx hb d_St_layIn_44 ?_
          refine lv_sipush (v := (255 : Int32)) hx hb d_St_layIn_45 (by decide) ?_
          refine lv_icmp_le (tgt := 53) hx hb d_St_layIn_48 (by decide) (fun g48 => ?_) (fun g48 => ?_)
          · have h := h.1 g48
            refine lv_aload_n hx hb d_St_layIn_53 rfl (lv_at hl 1 rfl) ?_
            refine lv_iload_n hx hb d_St_layIn_54 rfl (lv_at hl 2 rfl) ?_
            refine va_put (D := (dC, dI)) (ci := 4) (v := .int p1) (ty := .int) (C := "ReedSets$Striped") (T := T_St) (N := 8) hx hb hts in_St ty_St tk_St nm_St hown hK hP hD hS 7 rfl rfl 6 (by decide) (hts _ tb_212) (fun _ h9 => h9) rfl (by decide +kernel) rfl rfl (Nat.le_of_ble_eq_true rfl) d_St_layIn_55 (fun H locs hP hD hS => ?_)
            have hP : va_P (dC, dI) vwCl (wd_St_layIn aF aF_powers aF_logs aV aV_bytes aV_lost aV_factors aP aP_block aP_original aP_lost aP_current cI cZ F_powers F_logs V_lostCount V_data V_repairs V_first V_bytes V_lost V_factors P_size p1 P_sentCount P_block P_original P_lost P_current) H := hP
            have hD : va_D A (wd_St_layIn aF aF_powers aF_logs aV aV_bytes aV_lost aV_factors aP aP_block aP_original aP_lost aP_current cI cZ F_powers F_logs V_lostCount V_data V_repairs V_first V_bytes V_lost V_factors P_size p1 P_sentCount P_block P_original P_lost P_current) := hD
            refine lv_aload_n hx hb d_St_layIn_58 rfl (lv_at hl 1 rfl) ?_
            refine lv_aload_n hx hb d_St_layIn_59 rfl (lv_at hl 1 rfl) ?_
            refine va_get (D := (dC, dI)) (ci := 4) (v := .int P_size) (C := "ReedSets$Striped") (T := T_St) (N := 8) hx hb hts in_St hown hK hP 7 rfl rfl 5 (by decide) (hts _ tb_210) (fun _ h9 => h9) rfl d_St_layIn_60 ?_
            refine lv_iload_n hx hb d_St_layIn_63 rfl (lv_at hl 2 rfl) ?_
            refine lv_iload_n hx hb d_St_layIn_64 rfl (lv_at hl 3 rfl) ?_
            refine lv_imul hx hb d_St_layIn_65 ?_
            refine lv_iadd hx hb d_St_layIn_66 ?_
            refine lv_topi (fun y_67 ey_67 => ?_)
            have h := h y_67 ey_67
            refine va_put (D := (dC, dI)) (ci := 4) (v := .int y_67) (ty := .int) (C := "ReedSets$Striped") (T := T_St) (N := 8) hx hb hts in_St ty_St tk_St nm_St hown hK hP hD hS 7 rfl rfl 7 (by decide) (hts _ tb_213) (fun _ h9 => h9) rfl (by decide +kernel) rfl rfl (Nat.le_of_ble_eq_true rfl) d_St_layIn_67 (fun H locs hP hD hS => ?_)
            have hP : va_P (dC, dI) vwCl (wd_St_layIn aF aF_powers aF_logs aV aV_bytes aV_lost aV_factors aP aP_block aP_original aP_lost aP_current cI cZ F_powers F_logs V_lostCount V_data V_repairs V_first V_bytes V_lost V_factors P_size p1 y_67 P_block P_original P_lost P_current) H := hP
            have hD : va_D A (wd_St_layIn aF aF_powers aF_logs aV aV_bytes aV_lost aV_factors aP aP_block aP_original aP_lost aP_current cI cZ F_powers F_logs V_lostCount V_data V_repairs V_first V_bytes V_lost V_factors P_size p1 y_67 P_block P_original P_lost P_current) := hD
            refine lv_aload_n hx hb d_St_layIn_70 rfl (lv_at hl 1 rfl) ?_
            refine va_get (D := (dC, dI)) (ci := 4) (v := .ref aV) (C := "ReedSets$Striped") (T := T_St) (N := 8) hx hb hts in_St hown hK hP 7 rfl rfl 3 (by decide) (hts _ tb_207) (fun _ h9 => h9) rfl d_St_layIn_71 ?_
            refine lv_iload hx hb d_St_layIn_74 (lv_at hl 0 rfl) ?_
            refine lv_iload_n hx hb d_St_layIn_76 rfl (lv_at hl 3 rfl) ?_
            refine lv_iload_n hx hb d_St_layIn_77 rfl (lv_at hl 4 rfl) ?_
            refine mt_v (va_runV (As := [.int x4_31, .int p2, .int p3]) (rest := []) ⟨hx, hb, hml, hown, hts⟩ (ct_Wo_shape l dC dI aF aF_powers aF_logs aV aV_bytes aV_lost aV_factors cI cZ F_powers F_logs V_lostCount V_data V_repairs V_first V_bytes V_lost V_factors x4_31 p2 p3 _ h _) (tb_cV hts ok_Wo_shape tb_516 rfl rfl ⟨Nat.le_of_ble_eq_true rfl, Nat.le_of_ble_eq_true rfl⟩) (mt_preV hK hP hD [.int x4_31, .int p2, .int p3] [0, 1, 2, 3, 4, 5, 6] rfl (by decide) (ci := 5) (q0 := 3) rfl rfl) rfl rfl hl.1 rfl (lv_room (Nat.le_of_ble_eq_true rfl)) d_St_layIn_78 ⟨Nat.zero_le _, Nat.zero_le _⟩) hP hD hS hA [0, 1, 2, 3, 4, 5, 6] rfl (fun _ => rfl) (fun u H locs h hP hD hS => ?_)
            obtain ⟨V_lostCount_78, V_data_78, V_repairs_78, V_first_78, V_bytes_78, V_lost_78, V_factors_78⟩ := u
            have hP : va_P (dC, dI) vwCl (wd_St_layIn aF aF_powers aF_logs aV aV_bytes aV_lost aV_factors aP aP_block aP_original aP_lost aP_current cI cZ F_powers F_logs V_lostCount_78 V_data_78 V_repairs_78 V_first_78 V_bytes_78 V_lost_78 V_factors_78 P_size p1 y_67 P_block P_original P_lost P_current) H := hP
            have hD : va_D A (wd_St_layIn aF aF_powers aF_logs aV aV_bytes aV_lost aV_factors aP aP_block aP_original aP_lost aP_current cI cZ F_powers F_logs V_lostCount_78 V_data_78 V_repairs_78 V_first_78 V_bytes_78 V_lost_78 V_factors_78 P_size p1 y_67 P_block P_original P_lost P_current) := hD
            refine lv_iconst (v := (0 : Int32)) hx hb d_St_layIn_81 (by decide) ?_
            refine lv_istore (lv' := [(5, .int (0 : Int32)), (4, .int x4_31), (0, .ref aP), (1, .int p1), (2, .int p2), (3, .int p3)]) hx hb d_St_layIn_82 hl (by decide) rfl (fun ls hl => ?_)
            obtain ⟨n, h⟩ := h
            exact L84  n V_lostCount_78 V_data_78 V_repairs_78 V_first_78 V_bytes_78 V_lost_78 V_factors_78 p1 y_67 P_original P_lost P_current p1 (0 : Int32) H locs ls h hP hD hS (lv_sub hl [2, 3, 0] rfl)
          · have h := h.2 g48
            exact B51  V_lostCount V_data V_repairs V_first V_bytes V_lost V_factors P_stripes P_sentCount P_original P_lost P_current H locs ls h hP hD hS (lv_sub hl [] rfl)
      · have h := h.2 g16
        exact B19  V_lostCount V_data V_repairs V_first V_bytes V_lost V_factors P_stripes P_sentCount P_original P_lost P_current H locs ls h hP hD hS (lv_sub hl [] rfl)
abbrev wd_St_hasSent (aP aP_block aP_original aP_lost aV aP_current : Nat) (cI cZ : ClassId) (P_size : Int32) (P_stripes : Int32) (P_sentCount : Int32) : va_W := [(aP, .inr (4, [.ref aP_block, .ref aP_original, .ref aP_lost, .ref aV, .ref aP_current, .int P_size, .int P_stripes, .int P_sentCount]))]
def wp_St_hasSent_b17 (P_sentCount : Int32) (post : Int32 → Prop)  (t0 : Int32) : Prop := narrow .boolean (.int t0) = .int t0 ∧ (post t0)
def wp_St_hasSent_b16 (P_sentCount : Int32) (post : Int32 → Prop)   : Prop := wp_St_hasSent_b17 P_sentCount post  (0 : Int32)
def wp_St_hasSent (P_sentCount : Int32) (p1 : Int32) (post : Int32 → Prop) : Prop := (p1 < 0 → (wp_St_hasSent_b16 P_sentCount post  )) ∧ (¬ p1 < 0 → ((P_sentCount ≤ p1 → (wp_St_hasSent_b16 P_sentCount post  )) ∧ (¬ P_sentCount ≤ p1 → (wp_St_hasSent_b17 P_sentCount post  (1 : Int32)))))
abbrev rm_St_hasSent : Room := { frames := 0, cells := 0, slots := 0, locals := 0 }
set_option maxHeartbeats 4000000 in
set_option maxRecDepth 100000 in
theorem ct_St_hasSent (l : Launch) (dC : Nat → ClassId) (dI : Nat → Nat → Nat) (aP aP_block aP_original aP_lost aV aP_current : Nat) (cI cZ : ClassId) (P_size : Int32) (P_stripes : Int32) (P_sentCount : Int32) (p1 : Int32) (post : Int32 → Prop) (h : wp_St_hasSent P_sentCount p1 post) (sz : Nat) : Met l y_St_hasSent (Cond.code y_St_hasSent c_St_hasSent 2 (some .boolean) :: tb) rm_St_hasSent (mt_P (dC, dI) vwCl [(cI, .int), (cZ, .boolean)] [.ref aP, .int p1] (wd_St_hasSent aP aP_block aP_original aP_lost aV aP_current cI cZ P_size P_stripes P_sentCount) sz) (va_Qi (fun (r : Int32) (u : Unit) => post r) (mt_B (dC, dI) vwCl [(cI, .int), (cZ, .boolean)] (wd_St_hasSent aP aP_block aP_original aP_lost aV aP_current cI cZ P_size P_stripes P_sentCount) sz (fun u : Unit => wd_St_hasSent aP aP_block aP_original aP_lost aV aP_current cI cZ P_size P_stripes P_sentCount)) (va_A (wd_St_hasSent aP aP_block aP_original aP_lost aV aP_current cI cZ P_size P_stripes P_sentCount) sz)) 0 0 (va_A (wd_St_hasSent aP aP_block aP_original aP_lost aV aP_current cI cZ P_size P_stripes P_sentCount) sz) := by
  refine mt_bd (by decide +kernel) (Nat.le_of_ble_eq_true rfl) ?_
  intro p e s m args below meth c hx hb hml hown hts hr hlk hnm hsz hP hK hD hA hS ls hl
  subst hsz
  have hown : s.vm.findClass "ReedSets$Striped" = some m.cls := hown
  have hl : lv_has ls 2 [(0, .ref aP), (1, .int p1)] := hl
  refine lz_Q (fun Q hQ => ?_)
  obtain ⟨A, hAe⟩ : ∃ A : Nat → Prop, A = va_A (wd_St_hasSent aP aP_block aP_original aP_lost aV aP_current cI cZ P_size P_stripes P_sentCount) s.heap.size := ⟨_, rfl⟩
  rw [← hAe] at hD hA hS
  have RET : ∀ (v : Int32)  (H : Heap) (locs : List Loc) (ls : Array Slot) (pc : Nat), decode c_St_hasSent pc = .ok (.ireturn, 1) → narrow .boolean (.int v) = .int v → post v  → va_P (dC, dI) vwCl (wd_St_hasSent aP aP_block aP_original aP_lost aV aP_current cI cZ P_size P_stripes P_sentCount) H → va_D A (wd_St_hasSent aP aP_block aP_original aP_lost aV aP_current cI cZ P_size P_stripes P_sentCount) → va_S A s.heap H locs → W p l e rm_St_hasSent s m args below meth c H locs 0 0 Q (F0 m pc ls [.int v]) := by
    intro v  H locs ls pc hd hz hp h1 h2 h3
    rw [hQ]
    rw [hAe] at h2 h3
    exact mt_retz () hx hb hr hlk hd hK h1 h2 h3 hz hp
  have B17 : ∀ (t0 : Int32) (H : Heap) (locs : List Loc) (ls : Array Slot), wp_St_hasSent_b17 P_sentCount post  t0 → va_P (dC, dI) vwCl (wd_St_hasSent aP aP_block aP_original aP_lost aV aP_current cI cZ P_size P_stripes P_sentCount) H → va_D A (wd_St_hasSent aP aP_block aP_original aP_lost aV aP_current cI cZ P_size P_stripes P_sentCount) → va_S A s.heap H locs → lv_has ls 2 [] → W p l e rm_St_hasSent s m args below meth c H locs 0 0 Q (F0 m 17 ls [.int t0]) := by
    intro  t0 H locs ls h hP hD hS hl
    obtain ⟨hz, h⟩ := h
    exact RET t0 H locs ls 17 d_St_hasSent_17 hz h hP hD hS
  have B16 : ∀  (H : Heap) (locs : List Loc) (ls : Array Slot), wp_St_hasSent_b16 P_sentCount post   → va_P (dC, dI) vwCl (wd_St_hasSent aP aP_block aP_original aP_lost aV aP_current cI cZ P_size P_stripes P_sentCount) H → va_D A (wd_St_hasSent aP aP_block aP_original aP_lost aV aP_current cI cZ P_size P_stripes P_sentCount) → va_S A s.heap H locs → lv_has ls 2 [] → W p l e rm_St_hasSent s m args below meth c H locs 0 0 Q (F0 m 16 ls []) := by
    intro   H locs ls h hP hD hS hl
    refine lv_iconst (v := (0 : Int32)) hx hb d_St_hasSent_16 (by decide) ?_
    exact B17  (0 : Int32) H locs ls h hP hD hS (lv_sub hl [] rfl)
  obtain ⟨H, hH⟩ : ∃ H : Heap, H = s.heap := ⟨_, rfl⟩
  obtain ⟨locs, hlo⟩ : ∃ x : List Loc, x = [] := ⟨_, rfl⟩
  have hS : va_S A s.heap H locs := by rw [hH, hlo]; exact hS
  rw [← hH] at hP
  rw [← hlo]
  show W p l e rm_St_hasSent s m args below meth c s.heap locs 0 0 Q (F0 m 0 ls [])
  rw [← hH]
  refine lv_iload_n hx hb d_St_hasSent_0 rfl (lv_at hl 1 rfl) ?_
  refine lv_if_lt (tgt := 16) hx hb d_St_hasSent_1 (by decide) (fun g1 => ?_) (fun g1 => ?_)
  · have h := h.1 g1
    exact B16   H locs ls h hP hD hS (lv_sub hl [] rfl)
  · have h := h.2 g1
    refine lv_iload_n hx hb d_St_hasSent_4 rfl (lv_at hl 1 rfl) ?_
    refine lv_aload_n hx hb d_St_hasSent_5 rfl (lv_at hl 0 rfl) ?_
    refine va_get (D := (dC, dI)) (ci := 4) (v := .int P_sentCount) (C := "ReedSets$Striped") (T := T_St) (N := 8) hx hb hts in_St hown hK hP 0 rfl rfl 7 (by decide) (hts _ tb_213) (fun _ h9 => h9) rfl d_St_hasSent_6 ?_
    refine lv_icmp_ge (tgt := 16) hx hb d_St_hasSent_9 (by decide) (fun g9 => ?_) (fun g9 => ?_)
    · have h := h.1 g9
      exact B16   H locs ls h hP hD hS (lv_sub hl [] rfl)
    · have h := h.2 g9
      refine lv_iconst (v := (1 : Int32)) hx hb d_St_hasSent_12 (by decide) ?_
      refine lv_goto (tgt := 17) hx hb d_St_hasSent_13 (by decide) ?_
      exact B17  (1 : Int32) H locs ls h hP hD hS (lv_sub hl [] rfl)
abbrev wd_St_harm (aP aP_block aP_original aP_lost aV aP_current : Nat) (cI cZ : ClassId) (P_size : Int32) (P_stripes : Int32) (P_sentCount : Int32) (P_lost : Nat → Int32) (P_current : Nat → Int32) : va_W := [(aP, .inr (4, [.ref aP_block, .ref aP_original, .ref aP_lost, .ref aV, .ref aP_current, .int P_size, .int P_stripes, .int P_sentCount])), (aP_lost, .inl (cZ, 1440, .inl P_lost)), (aP_current, .inl (cI, 1440, .inl P_current))]
def wp_St_harm_b43  (post : (Nat → Int32) → (Nat → Int32) → Prop) (K3 : (Nat → Int32) → (Nat → Int32) → Int32 → Int32 → Int32 → Int32 → Prop) (P_lost : Nat → Int32) (P_current : Nat → Int32) (x1 : Int32) (x2 : Int32) (x3 : Int32) (x4 : Int32) : Prop := ∀ x4_43 : Int32, x4_43 = (x4 + (1 : Int32)) → (K3 P_lost P_current x1 x2 x3 x4_43)
def wp_St_harm_b3  (post : (Nat → Int32) → (Nat → Int32) → Prop) (K3 : (Nat → Int32) → (Nat → Int32) → Int32 → Int32 → Int32 → Int32 → Prop) (P_lost : Nat → Int32) (P_current : Nat → Int32) (x1 : Int32) (x2 : Int32) (x3 : Int32) (x4 : Int32) : Prop := ((x1 + x2) ≤ x4 → (post P_lost P_current)) ∧ (¬ (x1 + x2) ≤ x4 → ((¬ x3 = (-1 : Int32) → (vp_in x4 1440 ∧ (vp_in x4 1440 ∧ (wp_St_harm_b43 post K3 P_lost (upd P_current x4.toNatClampNeg ((P_current x4.toNatClampNeg) ^^^ x3)) x1 x2 x3 x4)))) ∧ (x3 = (-1 : Int32) → (vp_in x4 1440 ∧ (wp_St_harm_b43 post K3 (upd P_lost x4.toNatClampNeg (1 : Int32)) P_current x1 x2 x3 x4)))))
def wp_St_harm_L3  (post : (Nat → Int32) → (Nat → Int32) → Prop)  : Nat → (Nat → Int32) → (Nat → Int32) → Int32 → Int32 → Int32 → Int32 → Prop
  | 0 => fun _ _ _ _ _ _ => False
  | n + 1 => wp_St_harm_b3 post (wp_St_harm_L3 post n)
def wp_St_harm (P_lost : Nat → Int32) (P_current : Nat → Int32) (p1 : Int32) (p2 : Int32) (p3 : Int32) (post : (Nat → Int32) → (Nat → Int32) → Prop) : Prop := ∃ n : Nat, wp_St_harm_L3 post  n P_lost P_current p1 p2 p3 p1
abbrev rm_St_harm : Room := { frames := 0, cells := 0, slots := 0, locals := 0 }
set_option maxHeartbeats 4000000 in
set_option maxRecDepth 100000 in
theorem ct_St_harm (l : Launch) (dC : Nat → ClassId) (dI : Nat → Nat → Nat) (aP aP_block aP_original aP_lost aV aP_current : Nat) (cI cZ : ClassId) (P_size : Int32) (P_stripes : Int32) (P_sentCount : Int32) (P_lost : Nat → Int32) (P_current : Nat → Int32) (p1 : Int32) (p2 : Int32) (p3 : Int32) (post : (Nat → Int32) → (Nat → Int32) → Prop) (h : wp_St_harm P_lost P_current p1 p2 p3 post) (sz : Nat) : Met l y_St_harm (Cond.code y_St_harm c_St_harm 5 none :: tb) rm_St_harm (mt_P (dC, dI) vwCl [(cI, .int), (cZ, .boolean)] [.ref aP, .int p1, .int p2, .int p3] (wd_St_harm aP aP_block aP_original aP_lost aV aP_current cI cZ P_size P_stripes P_sentCount P_lost P_current) sz) (va_Qv (fun (u : (Nat → Int32) × (Nat → Int32)) => post u.1 u.2) (mt_B (dC, dI) vwCl [(cI, .int), (cZ, .boolean)] (wd_St_harm aP aP_block aP_original aP_lost aV aP_current cI cZ P_size P_stripes P_sentCount P_lost P_current) sz (fun u : (Nat → Int32) × (Nat → Int32) => wd_St_harm aP aP_block aP_original aP_lost aV aP_current cI cZ P_size P_stripes P_sentCount u.1 u.2)) (va_A (wd_St_harm aP aP_block aP_original aP_lost aV aP_current cI cZ P_size P_stripes P_sentCount P_lost P_current) sz)) 0 0 (va_A (wd_St_harm aP aP_block aP_original aP_lost aV aP_current cI cZ P_size P_stripes P_sentCount P_lost P_current) sz) := by
  refine mt_bd (by decide +kernel) (Nat.le_of_ble_eq_true rfl) ?_
  intro p e s m args below meth c hx hb hml hown hts hr hlk hnm hsz hP hK hD hA hS ls hl
  subst hsz
  have hown : s.vm.findClass "ReedSets$Striped" = some m.cls := hown
  have hl : lv_has ls 5 [(0, .ref aP), (1, .int p1), (2, .int p2), (3, .int p3)] := hl
  refine lz_Q (fun Q hQ => ?_)
  obtain ⟨A, hAe⟩ : ∃ A : Nat → Prop, A = va_A (wd_St_harm aP aP_block aP_original aP_lost aV aP_current cI cZ P_size P_stripes P_sentCount P_lost P_current) s.heap.size := ⟨_, rfl⟩
  rw [← hAe] at hD hA hS
  have RET : ∀ (P_lost : Nat → Int32) (P_current : Nat → Int32) (H : Heap) (locs : List Loc) (ls : Array Slot) (pc : Nat), decode c_St_harm pc = .ok (.return_, 1) → post P_lost P_current → va_P (dC, dI) vwCl (wd_St_harm aP aP_block aP_original aP_lost aV aP_current cI cZ P_size P_stripes P_sentCount P_lost P_current) H → va_D A (wd_St_harm aP aP_block aP_original aP_lost aV aP_current cI cZ P_size P_stripes P_sentCount P_lost P_current) → va_S A s.heap H locs → W p l e rm_St_harm s m args below meth c H locs 0 0 Q (F0 m pc ls []) := by
    intro P_lost P_current H locs ls pc hd hp h1 h2 h3
    rw [hQ]
    rw [hAe] at h2 h3
    exact mt_retv (P_lost, P_current) hx hb hr hlk hd hK h1 h2 h3 hp
  have B43 : ∀ (K3 : (Nat → Int32) → (Nat → Int32) → Int32 → Int32 → Int32 → Int32 → Prop) (HK3 : ∀ (P_lost : Nat → Int32) (P_current : Nat → Int32) (x1 : Int32) (x2 : Int32) (x3 : Int32) (x4 : Int32) (H : Heap) (locs : List Loc) (ls : Array Slot), K3 P_lost P_current x1 x2 x3 x4 → va_P (dC, dI) vwCl (wd_St_harm aP aP_block aP_original aP_lost aV aP_current cI cZ P_size P_stripes P_sentCount P_lost P_current) H → va_D A (wd_St_harm aP aP_block aP_original aP_lost aV aP_current cI cZ P_size P_stripes P_sentCount P_lost P_current) → va_S A s.heap H locs → lv_has ls 5 [(0, .ref aP), (1, .int x1), (2, .int x2), (3, .int x3), (4, .int x4)] → W p l e rm_St_harm s m args below meth c H locs 0 0 Q (F0 m 3 ls [])), ∀ (P_lost : Nat → Int32) (P_current : Nat → Int32) (x1 : Int32) (x2 : Int32) (x3 : Int32) (x4 : Int32) (H : Heap) (locs : List Loc) (ls : Array Slot), wp_St_harm_b43 post K3 P_lost P_current x1 x2 x3 x4 → va_P (dC, dI) vwCl (wd_St_harm aP aP_block aP_original aP_lost aV aP_current cI cZ P_size P_stripes P_sentCount P_lost P_current) H → va_D A (wd_St_harm aP aP_block aP_original aP_lost aV aP_current cI cZ P_size P_stripes P_sentCount P_lost P_current) → va_S A s.heap H locs → lv_has ls 5 [(0, .ref aP), (1, .int x1), (2, .int x2), (3, .int x3), (4, .int x4)] → W p l e rm_St_harm s m args below meth c H locs 0 0 Q (F0 m 43 ls []) := by
    intro K3 HK3 P_lost P_current x1 x2 x3 x4 H locs ls h hP hD hS hl
    obtain ⟨x4_43, ex4_43⟩ : ∃ y : Int32, y = (x4 + (1 : Int32)) := ⟨_, rfl⟩
    have h := h x4_43 ex4_43
    refine lv_iinc (v := x4_43) (lv' := [(4, .int x4_43), (0, .ref aP), (1, .int x1), (2, .int x2), (3, .int x3)]) hx hb d_St_harm_43 hl (k := 4) rfl (by rw [ex4_43]; rfl) (by decide) rfl (fun ls hl => ?_)
    refine lv_goto (tgt := 3) hx hb d_St_harm_46 (by decide) ?_
    exact HK3 P_lost P_current x1 x2 x3 x4_43 H locs ls h hP hD hS (lv_sub hl [1, 2, 3, 4, 0] rfl)
  have B3 : ∀ (K3 : (Nat → Int32) → (Nat → Int32) → Int32 → Int32 → Int32 → Int32 → Prop) (HK3 : ∀ (P_lost : Nat → Int32) (P_current : Nat → Int32) (x1 : Int32) (x2 : Int32) (x3 : Int32) (x4 : Int32) (H : Heap) (locs : List Loc) (ls : Array Slot), K3 P_lost P_current x1 x2 x3 x4 → va_P (dC, dI) vwCl (wd_St_harm aP aP_block aP_original aP_lost aV aP_current cI cZ P_size P_stripes P_sentCount P_lost P_current) H → va_D A (wd_St_harm aP aP_block aP_original aP_lost aV aP_current cI cZ P_size P_stripes P_sentCount P_lost P_current) → va_S A s.heap H locs → lv_has ls 5 [(0, .ref aP), (1, .int x1), (2, .int x2), (3, .int x3), (4, .int x4)] → W p l e rm_St_harm s m args below meth c H locs 0 0 Q (F0 m 3 ls [])), ∀ (P_lost : Nat → Int32) (P_current : Nat → Int32) (x1 : Int32) (x2 : Int32) (x3 : Int32) (x4 : Int32) (H : Heap) (locs : List Loc) (ls : Array Slot), wp_St_harm_b3 post K3 P_lost P_current x1 x2 x3 x4 → va_P (dC, dI) vwCl (wd_St_harm aP aP_block aP_original aP_lost aV aP_current cI cZ P_size P_stripes P_sentCount P_lost P_current) H → va_D A (wd_St_harm aP aP_block aP_original aP_lost aV aP_current cI cZ P_size P_stripes P_sentCount P_lost P_current) → va_S A s.heap H locs → lv_has ls 5 [(0, .ref aP), (1, .int x1), (2, .int x2), (3, .int x3), (4, .int x4)] → W p l e rm_St_harm s m args below meth c H locs 0 0 Q (F0 m 3 ls []) := by
    intro K3 HK3 P_lost P_current x1 x2 x3 x4 H locs ls h hP hD hS hl
    refine lv_iload hx hb d_St_harm_3 (lv_at hl 4 rfl) ?_
    refine lv_iload_n hx hb d_St_harm_5 rfl (lv_at hl 1 rfl) ?_
    refine lv_iload_n hx hb d_St_harm_6 rfl (lv_at hl 2 rfl) ?_
    refine lv_iadd hx hb d_St_harm_7 ?_
    refine lv_icmp_ge (tgt := 49) hx hb d_St_harm_8 (by decide) (fun g8 => ?_) (fun g8 => ?_)
    · have h := h.1 g8
      exact RET P_lost P_current H locs ls 49 d_St_harm_49 h hP hD hS
    · have h := h.2 g8
      refine lv_iload_n hx hb d_St_harm_11 rfl (lv_at hl 3 rfl) ?_
      refine lv_iconst (v := (-1 : Int32)) hx hb d_St_harm_12 (by decide) ?_
      refine lv_icmp_ne (tgt := 27) hx hb d_St_harm_13 (by decide) (fun g13 => ?_) (fun g13 => ?_)
      · have h := h.1 g13
        refine lv_aload_n hx hb d_St_harm_27 rfl (lv_at hl 0 rfl) ?_
        refine va_get (D := (dC, dI)) (ci := 4) (v := .ref aP_current) (C := "ReedSets$Striped") (T := T_St) (N := 8) hx hb hts in_St hown hK hP 0 rfl rfl 4 (by decide) (hts _ tb_208) (fun _ h9 => h9) rfl d_St_harm_28 ?_
        refine lv_iload hx hb d_St_harm_31 (lv_at hl 4 rfl) ?_
        refine lv_aload_n hx hb d_St_harm_33 rfl (lv_at hl 0 rfl) ?_
        refine va_get (D := (dC, dI)) (ci := 4) (v := .ref aP_current) (C := "ReedSets$Striped") (T := T_St) (N := 8) hx hb hts in_St hown hK hP 0 rfl rfl 4 (by decide) (hts _ tb_208) (fun _ h9 => h9) rfl d_St_harm_34 ?_
        refine lv_iload hx hb d_St_harm_37 (lv_at hl 4 rfl) ?_
        obtain ⟨hi, h⟩ := h
        refine va_iald hx hb hK hP 2 0 rfl rfl hi d_St_harm_39 ?_
        refine lv_iload_n hx hb d_St_harm_40 rfl (lv_at hl 3 rfl) ?_
        refine lv_ixor hx hb d_St_harm_41 ?_
        obtain ⟨hi, h⟩ := h
        refine va_iast hx hb hK hP hD hS 2 0 rfl rfl hi d_St_harm_42 (fun H locs hP hD hS => ?_)
        have hP : va_P (dC, dI) vwCl (wd_St_harm aP aP_block aP_original aP_lost aV aP_current cI cZ P_size P_stripes P_sentCount P_lost (upd P_current x4.toNatClampNeg ((P_current x4.toNatClampNeg) ^^^ x3))) H := hP
        have hD : va_D A (wd_St_harm aP aP_block aP_original aP_lost aV aP_current cI cZ P_size P_stripes P_sentCount P_lost (upd P_current x4.toNatClampNeg ((P_current x4.toNatClampNeg) ^^^ x3))) := hD
        exact B43 K3 HK3 P_lost (upd P_current x4.toNatClampNeg ((P_current x4.toNatClampNeg) ^^^ x3)) x1 x2 x3 x4 H locs ls h hP hD hS (lv_sub hl [0, 1, 2, 3, 4] rfl)
      · have h := h.2 g13
        refine lv_aload_n hx hb d_St_harm_16 rfl (lv_at hl 0 rfl) ?_
        refine va_get (D := (dC, dI)) (ci := 4) (v := .ref aP_lost) (C := "ReedSets$Striped") (T := T_St) (N := 8) hx hb hts in_St hown hK hP 0 rfl rfl 2 (by decide) (hts _ tb_206) (fun _ h9 => h9) rfl d_St_harm_17 ?_
        refine lv_iload hx hb d_St_harm_20 (lv_at hl 4 rfl) ?_
        refine lv_iconst (v := (1 : Int32)) hx hb d_St_harm_22 (by decide) ?_
        obtain ⟨hi, h⟩ := h
        refine va_zast hx hb hK hP hD hS 1 1 rfl rfl hi d_St_harm_23 (fun H locs hP hD hS => ?_)
        have hP : va_P (dC, dI) vwCl (wd_St_harm aP aP_block aP_original aP_lost aV aP_current cI cZ P_size P_stripes P_sentCount (upd P_lost x4.toNatClampNeg (1 : Int32)) P_current) H := hP
        have hD : va_D A (wd_St_harm aP aP_block aP_original aP_lost aV aP_current cI cZ P_size P_stripes P_sentCount (upd P_lost x4.toNatClampNeg (1 : Int32)) P_current) := hD
        refine lv_goto (tgt := 43) hx hb d_St_harm_24 (by decide) ?_
        exact B43 K3 HK3 (upd P_lost x4.toNatClampNeg (1 : Int32)) P_current x1 x2 x3 x4 H locs ls h hP hD hS (lv_sub hl [0, 1, 2, 3, 4] rfl)
  have L3 : ∀  (n : Nat), ∀ (P_lost : Nat → Int32) (P_current : Nat → Int32) (x1 : Int32) (x2 : Int32) (x3 : Int32) (x4 : Int32) (H : Heap) (locs : List Loc) (ls : Array Slot), wp_St_harm_L3 post  n P_lost P_current x1 x2 x3 x4 → va_P (dC, dI) vwCl (wd_St_harm aP aP_block aP_original aP_lost aV aP_current cI cZ P_size P_stripes P_sentCount P_lost P_current) H → va_D A (wd_St_harm aP aP_block aP_original aP_lost aV aP_current cI cZ P_size P_stripes P_sentCount P_lost P_current) → va_S A s.heap H locs → lv_has ls 5 [(0, .ref aP), (1, .int x1), (2, .int x2), (3, .int x3), (4, .int x4)] → W p l e rm_St_harm s m args below meth c H locs 0 0 Q (F0 m 3 ls []) := by
    intro  n
    induction n with
    | zero => intro P_lost P_current x1 x2 x3 x4 H locs ls h hP hD hS hl; exact False.elim h
    | succ n ih => intro P_lost P_current x1 x2 x3 x4 H locs ls h hP hD hS hl; exact B3  (wp_St_harm_L3 post  n) ih P_lost P_current x1 x2 x3 x4 H locs ls h hP hD hS hl
  obtain ⟨H, hH⟩ : ∃ H : Heap, H = s.heap := ⟨_, rfl⟩
  obtain ⟨locs, hlo⟩ : ∃ x : List Loc, x = [] := ⟨_, rfl⟩
  have hS : va_S A s.heap H locs := by rw [hH, hlo]; exact hS
  rw [← hH] at hP
  rw [← hlo]
  show W p l e rm_St_harm s m args below meth c s.heap locs 0 0 Q (F0 m 0 ls [])
  rw [← hH]
  refine lv_iload_n hx hb d_St_harm_0 rfl (lv_at hl 1 rfl) ?_
  refine lv_istore (lv' := [(4, .int p1), (0, .ref aP), (1, .int p1), (2, .int p2), (3, .int p3)]) hx hb d_St_harm_1 hl (by decide) rfl (fun ls hl => ?_)
  obtain ⟨n, h⟩ := h
  exact L3  n P_lost P_current p1 p2 p3 p1 H locs ls h hP hD hS (lv_sub hl [1, 2, 3, 4, 0] rfl)
abbrev wd_St_isLaid (aP aP_block aP_original aP_lost aV aP_current : Nat) (cI cZ : ClassId) (P_size : Int32) (P_stripes : Int32) (P_sentCount : Int32) : va_W := [(aP, .inr (4, [.ref aP_block, .ref aP_original, .ref aP_lost, .ref aV, .ref aP_current, .int P_size, .int P_stripes, .int P_sentCount]))]
def wp_St_isLaid_b12 (P_stripes : Int32) (post : Int32 → Prop)  (t0 : Int32) : Prop := narrow .boolean (.int t0) = .int t0 ∧ (post t0)
def wp_St_isLaid (P_stripes : Int32) (post : Int32 → Prop) : Prop := (P_stripes ≤ 0 → (wp_St_isLaid_b12 P_stripes post  (0 : Int32))) ∧ (¬ P_stripes ≤ 0 → (wp_St_isLaid_b12 P_stripes post  (1 : Int32)))
abbrev rm_St_isLaid : Room := { frames := 0, cells := 0, slots := 0, locals := 0 }
set_option maxHeartbeats 4000000 in
set_option maxRecDepth 100000 in
theorem ct_St_isLaid (l : Launch) (dC : Nat → ClassId) (dI : Nat → Nat → Nat) (aP aP_block aP_original aP_lost aV aP_current : Nat) (cI cZ : ClassId) (P_size : Int32) (P_stripes : Int32) (P_sentCount : Int32)  (post : Int32 → Prop) (h : wp_St_isLaid P_stripes post) (sz : Nat) : Met l y_St_isLaid (Cond.code y_St_isLaid c_St_isLaid 1 (some .boolean) :: tb) rm_St_isLaid (mt_P (dC, dI) vwCl [(cI, .int), (cZ, .boolean)] [.ref aP] (wd_St_isLaid aP aP_block aP_original aP_lost aV aP_current cI cZ P_size P_stripes P_sentCount) sz) (va_Qi (fun (r : Int32) (u : Unit) => post r) (mt_B (dC, dI) vwCl [(cI, .int), (cZ, .boolean)] (wd_St_isLaid aP aP_block aP_original aP_lost aV aP_current cI cZ P_size P_stripes P_sentCount) sz (fun u : Unit => wd_St_isLaid aP aP_block aP_original aP_lost aV aP_current cI cZ P_size P_stripes P_sentCount)) (va_A (wd_St_isLaid aP aP_block aP_original aP_lost aV aP_current cI cZ P_size P_stripes P_sentCount) sz)) 0 0 (va_A (wd_St_isLaid aP aP_block aP_original aP_lost aV aP_current cI cZ P_size P_stripes P_sentCount) sz) := by
  refine mt_bd (by decide +kernel) (Nat.le_of_ble_eq_true rfl) ?_
  intro p e s m args below meth c hx hb hml hown hts hr hlk hnm hsz hP hK hD hA hS ls hl
  subst hsz
  have hown : s.vm.findClass "ReedSets$Striped" = some m.cls := hown
  have hl : lv_has ls 1 [(0, .ref aP)] := hl
  refine lz_Q (fun Q hQ => ?_)
  obtain ⟨A, hAe⟩ : ∃ A : Nat → Prop, A = va_A (wd_St_isLaid aP aP_block aP_original aP_lost aV aP_current cI cZ P_size P_stripes P_sentCount) s.heap.size := ⟨_, rfl⟩
  rw [← hAe] at hD hA hS
  have RET : ∀ (v : Int32)  (H : Heap) (locs : List Loc) (ls : Array Slot) (pc : Nat), decode c_St_isLaid pc = .ok (.ireturn, 1) → narrow .boolean (.int v) = .int v → post v  → va_P (dC, dI) vwCl (wd_St_isLaid aP aP_block aP_original aP_lost aV aP_current cI cZ P_size P_stripes P_sentCount) H → va_D A (wd_St_isLaid aP aP_block aP_original aP_lost aV aP_current cI cZ P_size P_stripes P_sentCount) → va_S A s.heap H locs → W p l e rm_St_isLaid s m args below meth c H locs 0 0 Q (F0 m pc ls [.int v]) := by
    intro v  H locs ls pc hd hz hp h1 h2 h3
    rw [hQ]
    rw [hAe] at h2 h3
    exact mt_retz () hx hb hr hlk hd hK h1 h2 h3 hz hp
  have B12 : ∀ (t0 : Int32) (H : Heap) (locs : List Loc) (ls : Array Slot), wp_St_isLaid_b12 P_stripes post  t0 → va_P (dC, dI) vwCl (wd_St_isLaid aP aP_block aP_original aP_lost aV aP_current cI cZ P_size P_stripes P_sentCount) H → va_D A (wd_St_isLaid aP aP_block aP_original aP_lost aV aP_current cI cZ P_size P_stripes P_sentCount) → va_S A s.heap H locs → lv_has ls 1 [] → W p l e rm_St_isLaid s m args below meth c H locs 0 0 Q (F0 m 12 ls [.int t0]) := by
    intro  t0 H locs ls h hP hD hS hl
    obtain ⟨hz, h⟩ := h
    exact RET t0 H locs ls 12 d_St_isLaid_12 hz h hP hD hS
  obtain ⟨H, hH⟩ : ∃ H : Heap, H = s.heap := ⟨_, rfl⟩
  obtain ⟨locs, hlo⟩ : ∃ x : List Loc, x = [] := ⟨_, rfl⟩
  have hS : va_S A s.heap H locs := by rw [hH, hlo]; exact hS
  rw [← hH] at hP
  rw [← hlo]
  show W p l e rm_St_isLaid s m args below meth c s.heap locs 0 0 Q (F0 m 0 ls [])
  rw [← hH]
  refine lv_aload_n hx hb d_St_isLaid_0 rfl (lv_at hl 0 rfl) ?_
  refine va_get (D := (dC, dI)) (ci := 4) (v := .int P_stripes) (C := "ReedSets$Striped") (T := T_St) (N := 8) hx hb hts in_St hown hK hP 0 rfl rfl 6 (by decide) (hts _ tb_212) (fun _ h9 => h9) rfl d_St_isLaid_1 ?_
  refine lv_if_le (tgt := 11) hx hb d_St_isLaid_4 (by decide) (fun g4 => ?_) (fun g4 => ?_)
  · have h := h.1 g4
    refine lv_iconst (v := (0 : Int32)) hx hb d_St_isLaid_11 (by decide) ?_
    exact B12  (0 : Int32) H locs ls h hP hD hS (lv_sub hl [] rfl)
  · have h := h.2 g4
    refine lv_iconst (v := (1 : Int32)) hx hb d_St_isLaid_7 (by decide) ?_
    refine lv_goto (tgt := 12) hx hb d_St_isLaid_8 (by decide) ?_
    exact B12  (1 : Int32) H locs ls h hP hD hS (lv_sub hl [] rfl)
abbrev wd_St_loadStripe (aV aF aV_bytes aV_lost aV_factors aP aP_block aP_original aP_lost aP_current : Nat) (cI cZ : ClassId) (V_lostCount : Int32) (V_data : Int32) (V_repairs : Int32) (V_first : Int32) (V_bytes : Nat → Int32) (V_lost : Nat → Int32) (P_size : Int32) (P_stripes : Int32) (P_sentCount : Int32) (P_lost : Nat → Int32) (P_current : Nat → Int32) : va_W := [(aV, .inr (5, [.ref aF, .ref aV_bytes, .ref aV_lost, .ref aV_factors, .int V_lostCount, .int V_data, .int V_repairs, .int V_first])), (aV_bytes, .inl (cI, 240, .inl V_bytes)), (aV_lost, .inl (cZ, 240, .inl V_lost)), (aP, .inr (4, [.ref aP_block, .ref aP_original, .ref aP_lost, .ref aV, .ref aP_current, .int P_size, .int P_stripes, .int P_sentCount])), (aP_lost, .inl (cZ, 1440, .inl P_lost)), (aP_current, .inl (cI, 1440, .inl P_current))]
def wp_St_loadStripe_b65 (V_data : Int32) (V_repairs : Int32) (P_size : Int32) (P_stripes : Int32) (P_lost : Nat → Int32) (P_current : Nat → Int32) (post : Int32 → (Nat → Int32) → (Nat → Int32) → Prop) (K9 : Int32 → (Nat → Int32) → (Nat → Int32) → Int32 → Int32 → Prop) (V_lostCount : Int32) (V_bytes : Nat → Int32) (V_lost : Nat → Int32) (x1 : Int32) (x2 : Int32) : Prop := ∀ x2_65 : Int32, x2_65 = (x2 + (1 : Int32)) → (K9 V_lostCount V_bytes V_lost x1 x2_65)
def wp_St_loadStripe_b9 (V_data : Int32) (V_repairs : Int32) (P_size : Int32) (P_stripes : Int32) (P_lost : Nat → Int32) (P_current : Nat → Int32) (post : Int32 → (Nat → Int32) → (Nat → Int32) → Prop) (K9 : Int32 → (Nat → Int32) → (Nat → Int32) → Int32 → Int32 → Prop) (V_lostCount : Int32) (V_bytes : Nat → Int32) (V_lost : Nat → Int32) (x1 : Int32) (x2 : Int32) : Prop := wp_Wo_size V_data V_repairs (fun r_14 => ((r_14 ≤ x2 → (post V_lostCount V_bytes V_lost)) ∧ (¬ r_14 ≤ x2 → (wp_St_slotOf V_data P_size P_stripes x1 x2 (fun r_23 => ((¬ r_23 = (-1 : Int32) → (vp_in r_23 1440 ∧ (vp_in r_23 1440 ∧ (wp_Wo_take V_lostCount V_bytes V_lost x2 (P_current r_23.toNatClampNeg) (P_lost r_23.toNatClampNeg) (fun V_lostCount_62 V_bytes_62 V_lost_62 => (wp_St_loadStripe_b65 V_data V_repairs P_size P_stripes P_lost P_current post K9 V_lostCount_62 V_bytes_62 V_lost_62 x1 x2)))))) ∧ (r_23 = (-1 : Int32) → (wp_Wo_take V_lostCount V_bytes V_lost x2 (0 : Int32) (0 : Int32) (fun V_lostCount_39 V_bytes_39 V_lost_39 => (wp_St_loadStripe_b65 V_data V_repairs P_size P_stripes P_lost P_current post K9 V_lostCount_39 V_bytes_39 V_lost_39 x1 x2))))))))))
def wp_St_loadStripe_L9 (V_data : Int32) (V_repairs : Int32) (P_size : Int32) (P_stripes : Int32) (P_lost : Nat → Int32) (P_current : Nat → Int32) (post : Int32 → (Nat → Int32) → (Nat → Int32) → Prop)  : Nat → Int32 → (Nat → Int32) → (Nat → Int32) → Int32 → Int32 → Prop
  | 0 => fun _ _ _ _ _ => False
  | n + 1 => wp_St_loadStripe_b9 V_data V_repairs P_size P_stripes P_lost P_current post (wp_St_loadStripe_L9 V_data V_repairs P_size P_stripes P_lost P_current post n)
def wp_St_loadStripe (V_lostCount : Int32) (V_data : Int32) (V_repairs : Int32) (V_bytes : Nat → Int32) (V_lost : Nat → Int32) (P_size : Int32) (P_stripes : Int32) (P_lost : Nat → Int32) (P_current : Nat → Int32) (p1 : Int32) (post : Int32 → (Nat → Int32) → (Nat → Int32) → Prop) : Prop := wp_Wo_findAll V_lostCount V_lost (fun V_lostCount_4 V_lost_4 => (∃ n : Nat, wp_St_loadStripe_L9 V_data V_repairs P_size P_stripes P_lost P_current post  n V_lostCount_4 V_bytes V_lost_4 p1 (0 : Int32)))
abbrev rm_St_loadStripe : Room := { frames := 1, cells := 0, slots := 0, locals := 23 }
set_option maxHeartbeats 4000000 in
set_option maxRecDepth 100000 in
theorem ct_St_loadStripe (l : Launch) (dC : Nat → ClassId) (dI : Nat → Nat → Nat) (aV aF aV_bytes aV_lost aV_factors aP aP_block aP_original aP_lost aP_current : Nat) (cI cZ : ClassId) (V_lostCount : Int32) (V_data : Int32) (V_repairs : Int32) (V_first : Int32) (V_bytes : Nat → Int32) (V_lost : Nat → Int32) (P_size : Int32) (P_stripes : Int32) (P_sentCount : Int32) (P_lost : Nat → Int32) (P_current : Nat → Int32) (p1 : Int32) (post : Int32 → (Nat → Int32) → (Nat → Int32) → Prop) (h : wp_St_loadStripe V_lostCount V_data V_repairs V_bytes V_lost P_size P_stripes P_lost P_current p1 post) (sz : Nat) : Met l y_St_loadStripe (Cond.code y_St_loadStripe c_St_loadStripe 4 none :: tb) rm_St_loadStripe (mt_P (dC, dI) vwCl [(cI, .int), (cZ, .boolean)] [.ref aP, .int p1] (wd_St_loadStripe aV aF aV_bytes aV_lost aV_factors aP aP_block aP_original aP_lost aP_current cI cZ V_lostCount V_data V_repairs V_first V_bytes V_lost P_size P_stripes P_sentCount P_lost P_current) sz) (va_Qv (fun (u : Int32 × (Nat → Int32) × (Nat → Int32)) => post u.1 u.2.1 u.2.2) (mt_B (dC, dI) vwCl [(cI, .int), (cZ, .boolean)] (wd_St_loadStripe aV aF aV_bytes aV_lost aV_factors aP aP_block aP_original aP_lost aP_current cI cZ V_lostCount V_data V_repairs V_first V_bytes V_lost P_size P_stripes P_sentCount P_lost P_current) sz (fun u : Int32 × (Nat → Int32) × (Nat → Int32) => wd_St_loadStripe aV aF aV_bytes aV_lost aV_factors aP aP_block aP_original aP_lost aP_current cI cZ u.1 V_data V_repairs V_first u.2.1 u.2.2 P_size P_stripes P_sentCount P_lost P_current)) (va_A (wd_St_loadStripe aV aF aV_bytes aV_lost aV_factors aP aP_block aP_original aP_lost aP_current cI cZ V_lostCount V_data V_repairs V_first V_bytes V_lost P_size P_stripes P_sentCount P_lost P_current) sz)) 0 0 (va_A (wd_St_loadStripe aV aF aV_bytes aV_lost aV_factors aP aP_block aP_original aP_lost aP_current cI cZ V_lostCount V_data V_repairs V_first V_bytes V_lost P_size P_stripes P_sentCount P_lost P_current) sz) := by
  refine mt_bd (by decide +kernel) (Nat.le_of_ble_eq_true rfl) ?_
  intro p e s m args below meth c hx hb hml hown hts hr hlk hnm hsz hP hK hD hA hS ls hl
  subst hsz
  have hown : s.vm.findClass "ReedSets$Striped" = some m.cls := hown
  have hl : lv_has ls 4 [(0, .ref aP), (1, .int p1)] := hl
  refine lz_Q (fun Q hQ => ?_)
  obtain ⟨A, hAe⟩ : ∃ A : Nat → Prop, A = va_A (wd_St_loadStripe aV aF aV_bytes aV_lost aV_factors aP aP_block aP_original aP_lost aP_current cI cZ V_lostCount V_data V_repairs V_first V_bytes V_lost P_size P_stripes P_sentCount P_lost P_current) s.heap.size := ⟨_, rfl⟩
  rw [← hAe] at hD hA hS
  have RET : ∀ (V_lostCount : Int32) (V_bytes : Nat → Int32) (V_lost : Nat → Int32) (H : Heap) (locs : List Loc) (ls : Array Slot) (pc : Nat), decode c_St_loadStripe pc = .ok (.return_, 1) → post V_lostCount V_bytes V_lost → va_P (dC, dI) vwCl (wd_St_loadStripe aV aF aV_bytes aV_lost aV_factors aP aP_block aP_original aP_lost aP_current cI cZ V_lostCount V_data V_repairs V_first V_bytes V_lost P_size P_stripes P_sentCount P_lost P_current) H → va_D A (wd_St_loadStripe aV aF aV_bytes aV_lost aV_factors aP aP_block aP_original aP_lost aP_current cI cZ V_lostCount V_data V_repairs V_first V_bytes V_lost P_size P_stripes P_sentCount P_lost P_current) → va_S A s.heap H locs → W p l e rm_St_loadStripe s m args below meth c H locs 0 0 Q (F0 m pc ls []) := by
    intro V_lostCount V_bytes V_lost H locs ls pc hd hp h1 h2 h3
    rw [hQ]
    rw [hAe] at h2 h3
    exact mt_retv (V_lostCount, V_bytes, V_lost) hx hb hr hlk hd hK h1 h2 h3 hp
  have B65 : ∀ (K9 : Int32 → (Nat → Int32) → (Nat → Int32) → Int32 → Int32 → Prop) (HK9 : ∀ (V_lostCount : Int32) (V_bytes : Nat → Int32) (V_lost : Nat → Int32) (x1 : Int32) (x2 : Int32) (H : Heap) (locs : List Loc) (ls : Array Slot), K9 V_lostCount V_bytes V_lost x1 x2 → va_P (dC, dI) vwCl (wd_St_loadStripe aV aF aV_bytes aV_lost aV_factors aP aP_block aP_original aP_lost aP_current cI cZ V_lostCount V_data V_repairs V_first V_bytes V_lost P_size P_stripes P_sentCount P_lost P_current) H → va_D A (wd_St_loadStripe aV aF aV_bytes aV_lost aV_factors aP aP_block aP_original aP_lost aP_current cI cZ V_lostCount V_data V_repairs V_first V_bytes V_lost P_size P_stripes P_sentCount P_lost P_current) → va_S A s.heap H locs → lv_has ls 4 [(0, .ref aP), (1, .int x1), (2, .int x2)] → W p l e rm_St_loadStripe s m args below meth c H locs 0 0 Q (F0 m 9 ls [])), ∀ (V_lostCount : Int32) (V_bytes : Nat → Int32) (V_lost : Nat → Int32) (x1 : Int32) (x2 : Int32) (H : Heap) (locs : List Loc) (ls : Array Slot), wp_St_loadStripe_b65 V_data V_repairs P_size P_stripes P_lost P_current post K9 V_lostCount V_bytes V_lost x1 x2 → va_P (dC, dI) vwCl (wd_St_loadStripe aV aF aV_bytes aV_lost aV_factors aP aP_block aP_original aP_lost aP_current cI cZ V_lostCount V_data V_repairs V_first V_bytes V_lost P_size P_stripes P_sentCount P_lost P_current) H → va_D A (wd_St_loadStripe aV aF aV_bytes aV_lost aV_factors aP aP_block aP_original aP_lost aP_current cI cZ V_lostCount V_data V_repairs V_first V_bytes V_lost P_size P_stripes P_sentCount P_lost P_current) → va_S A s.heap H locs → lv_has ls 4 [(0, .ref aP), (1, .int x1), (2, .int x2)] → W p l e rm_St_loadStripe s m args below meth c H locs 0 0 Q (F0 m 65 ls []) := by
    intro K9 HK9 V_lostCount V_bytes V_lost x1 x2 H locs ls h hP hD hS hl
    obtain ⟨x2_65, ex2_65⟩ : ∃ y : Int32, y = (x2 + (1 : Int32)) := ⟨_, rfl⟩
    have h := h x2_65 ex2_65
    refine lv_iinc (v := x2_65) (lv' := [(2, .int x2_65), (0, .ref aP), (1, .int x1)]) hx hb d_St_loadStripe_65 hl (k := 2) rfl (by rw [ex2_65]; rfl) (by decide) rfl (fun ls hl => ?_)
    refine lv_goto (tgt := 9) hx hb d_St_loadStripe_68 (by decide) ?_
    exact HK9 V_lostCount V_bytes V_lost x1 x2_65 H locs ls h hP hD hS (lv_sub hl [1, 2, 0] rfl)
  have B9 : ∀ (K9 : Int32 → (Nat → Int32) → (Nat → Int32) → Int32 → Int32 → Prop) (HK9 : ∀ (V_lostCount : Int32) (V_bytes : Nat → Int32) (V_lost : Nat → Int32) (x1 : Int32) (x2 : Int32) (H : Heap) (locs : List Loc) (ls : Array Slot), K9 V_lostCount V_bytes V_lost x1 x2 → va_P (dC, dI) vwCl (wd_St_loadStripe aV aF aV_bytes aV_lost aV_factors aP aP_block aP_original aP_lost aP_current cI cZ V_lostCount V_data V_repairs V_first V_bytes V_lost P_size P_stripes P_sentCount P_lost P_current) H → va_D A (wd_St_loadStripe aV aF aV_bytes aV_lost aV_factors aP aP_block aP_original aP_lost aP_current cI cZ V_lostCount V_data V_repairs V_first V_bytes V_lost P_size P_stripes P_sentCount P_lost P_current) → va_S A s.heap H locs → lv_has ls 4 [(0, .ref aP), (1, .int x1), (2, .int x2)] → W p l e rm_St_loadStripe s m args below meth c H locs 0 0 Q (F0 m 9 ls [])), ∀ (V_lostCount : Int32) (V_bytes : Nat → Int32) (V_lost : Nat → Int32) (x1 : Int32) (x2 : Int32) (H : Heap) (locs : List Loc) (ls : Array Slot), wp_St_loadStripe_b9 V_data V_repairs P_size P_stripes P_lost P_current post K9 V_lostCount V_bytes V_lost x1 x2 → va_P (dC, dI) vwCl (wd_St_loadStripe aV aF aV_bytes aV_lost aV_factors aP aP_block aP_original aP_lost aP_current cI cZ V_lostCount V_data V_repairs V_first V_bytes V_lost P_size P_stripes P_sentCount P_lost P_current) H → va_D A (wd_St_loadStripe aV aF aV_bytes aV_lost aV_factors aP aP_block aP_original aP_lost aP_current cI cZ V_lostCount V_data V_repairs V_first V_bytes V_lost P_size P_stripes P_sentCount P_lost P_current) → va_S A s.heap H locs → lv_has ls 4 [(0, .ref aP), (1, .int x1), (2, .int x2)] → W p l e rm_St_loadStripe s m args below meth c H locs 0 0 Q (F0 m 9 ls []) := by
    intro K9 HK9 V_lostCount V_bytes V_lost x1 x2 H locs ls h hP hD hS hl
    refine lv_iload_n hx hb d_St_loadStripe_9 rfl (lv_at hl 2 rfl) ?_
    refine lv_aload_n hx hb d_St_loadStripe_10 rfl (lv_at hl 0 rfl) ?_
    refine va_get (D := (dC, dI)) (ci := 4) (v := .ref aV) (C := "ReedSets$Striped") (T := T_St) (N := 8) hx hb hts in_St hown hK hP 3 rfl rfl 3 (by decide) (hts _ tb_207) (fun _ h9 => h9) rfl d_St_loadStripe_11 ?_
    refine mt_i (va_runV (As := []) (rest := [.int x2]) ⟨hx, hb, hml, hown, hts⟩ (ct_Wo_size l dC dI aV aF aV_bytes aV_lost aV_factors cI cZ V_lostCount V_data V_repairs V_first _ h _) (tb_cV hts ok_Wo_size tb_530 rfl rfl ⟨Nat.le_of_ble_eq_true rfl, Nat.le_of_ble_eq_true rfl⟩) (mt_preV hK hP hD [] [0] rfl (by decide) (ci := 5) (q0 := 0) rfl rfl) rfl rfl hl.1 rfl (lv_room (Nat.le_of_ble_eq_true rfl)) d_St_loadStripe_14 ⟨Nat.zero_le _, Nat.zero_le _⟩) hP hD hS hA [0] rfl (fun _ => rfl) (fun r_14 u H locs h hP hD hS => ?_)
    have hP : va_P (dC, dI) vwCl (wd_St_loadStripe aV aF aV_bytes aV_lost aV_factors aP aP_block aP_original aP_lost aP_current cI cZ V_lostCount V_data V_repairs V_first V_bytes V_lost P_size P_stripes P_sentCount P_lost P_current) H := hP
    have hD : va_D A (wd_St_loadStripe aV aF aV_bytes aV_lost aV_factors aP aP_block aP_original aP_lost aP_current cI cZ V_lostCount V_data V_repairs V_first V_bytes V_lost P_size P_stripes P_sentCount P_lost P_current) := hD
    refine lv_icmp_ge (tgt := 71) hx hb d_St_loadStripe_17 (by decide) (fun g17 => ?_) (fun g17 => ?_)
    · have h := h.1 g17
      exact RET V_lostCount V_bytes V_lost H locs ls 71 d_St_loadStripe_71 h hP hD hS
    · have h := h.2 g17
      refine lv_aload_n hx hb d_St_loadStripe_20 rfl (lv_at hl 0 rfl) ?_
      refine lv_iload_n hx hb d_St_loadStripe_21 rfl (lv_at hl 1 rfl) ?_
      refine lv_iload_n hx hb d_St_loadStripe_22 rfl (lv_at hl 2 rfl) ?_
      refine mt_i (va_runV (As := [.int x1, .int x2]) (rest := []) ⟨hx, hb, hml, hown, hts⟩ (ct_St_slotOf l dC dI aV aF aV_bytes aV_lost aV_factors aP aP_block aP_original aP_lost aP_current cI cZ V_lostCount V_data V_repairs V_first P_size P_stripes P_sentCount x1 x2 _ h _) (tb_cV hts ok_St_slotOf tb_521 rfl rfl ⟨Nat.le_of_ble_eq_true rfl, Nat.le_of_ble_eq_true rfl⟩) (mt_preV hK hP hD [.int x1, .int x2] [0, 3] rfl (by decide) (ci := 4) (q0 := 3) rfl rfl) rfl rfl hl.1 rfl (lv_room (Nat.le_of_ble_eq_true rfl)) d_St_loadStripe_23 ⟨Nat.zero_le _, Nat.zero_le _⟩) hP hD hS hA [0, 3] rfl (fun _ => rfl) (fun r_23 u H locs h hP hD hS => ?_)
      have hP : va_P (dC, dI) vwCl (wd_St_loadStripe aV aF aV_bytes aV_lost aV_factors aP aP_block aP_original aP_lost aP_current cI cZ V_lostCount V_data V_repairs V_first V_bytes V_lost P_size P_stripes P_sentCount P_lost P_current) H := hP
      have hD : va_D A (wd_St_loadStripe aV aF aV_bytes aV_lost aV_factors aP aP_block aP_original aP_lost aP_current cI cZ V_lostCount V_data V_repairs V_first V_bytes V_lost P_size P_stripes P_sentCount P_lost P_current) := hD
      refine lv_istore_n (lv' := [(3, .int r_23), (0, .ref aP), (1, .int x1), (2, .int x2)]) hx hb d_St_loadStripe_26 rfl hl (by decide) rfl (fun ls hl => ?_)
      refine lv_iload_n hx hb d_St_loadStripe_27 rfl (lv_at hl 0 rfl) ?_
      refine lv_iconst (v := (-1 : Int32)) hx hb d_St_loadStripe_28 (by decide) ?_
      refine lv_icmp_ne (tgt := 45) hx hb d_St_loadStripe_29 (by decide) (fun g29 => ?_) (fun g29 => ?_)
      · have h := h.1 g29
        refine lv_aload_n hx hb d_St_loadStripe_45 rfl (lv_at hl 1 rfl) ?_
        refine va_get (D := (dC, dI)) (ci := 4) (v := .ref aV) (C := "ReedSets$Striped") (T := T_St) (N := 8) hx hb hts in_St hown hK hP 3 rfl rfl 3 (by decide) (hts _ tb_207) (fun _ h9 => h9) rfl d_St_loadStripe_46 ?_
        refine lv_iload_n hx hb d_St_loadStripe_49 rfl (lv_at hl 3 rfl) ?_
        refine lv_aload_n hx hb d_St_loadStripe_50 rfl (lv_at hl 1 rfl) ?_
        refine va_get (D := (dC, dI)) (ci := 4) (v := .ref aP_current) (C := "ReedSets$Striped") (T := T_St) (N := 8) hx hb hts in_St hown hK hP 3 rfl rfl 4 (by decide) (hts _ tb_208) (fun _ h9 => h9) rfl d_St_loadStripe_51 ?_
        refine lv_iload_n hx hb d_St_loadStripe_54 rfl (lv_at hl 0 rfl) ?_
        obtain ⟨hi, h⟩ := h
        refine va_iald hx hb hK hP 5 0 rfl rfl hi d_St_loadStripe_55 ?_
        refine lv_aload_n hx hb d_St_loadStripe_56 rfl (lv_at hl 1 rfl) ?_
        refine va_get (D := (dC, dI)) (ci := 4) (v := .ref aP_lost) (C := "ReedSets$Striped") (T := T_St) (N := 8) hx hb hts in_St hown hK hP 3 rfl rfl 2 (by decide) (hts _ tb_206) (fun _ h9 => h9) rfl d_St_loadStripe_57 ?_
        refine lv_iload_n hx hb d_St_loadStripe_60 rfl (lv_at hl 0 rfl) ?_
        obtain ⟨hi, h⟩ := h
        refine va_zald hx hb hK hP 4 1 rfl rfl hi d_St_loadStripe_61 ?_
        refine mt_v (va_runV (As := [.int x2, .int (P_current r_23.toNatClampNeg), .int (P_lost r_23.toNatClampNeg)]) (rest := []) ⟨hx, hb, hml, hown, hts⟩ (ct_Wo_take l dC dI aV aF aV_bytes aV_lost aV_factors cI cZ V_lostCount V_data V_repairs V_first V_bytes V_lost x2 (P_current r_23.toNatClampNeg) (P_lost r_23.toNatClampNeg) _ h _) (tb_cV hts ok_Wo_take tb_568 rfl rfl ⟨Nat.le_of_ble_eq_true rfl, Nat.le_of_ble_eq_true rfl⟩) (mt_preV hK hP hD [.int x2, .int (P_current r_23.toNatClampNeg), .int (P_lost r_23.toNatClampNeg)] [0, 1, 2] rfl (by decide) (ci := 5) (q0 := 0) rfl rfl) rfl rfl hl.1 rfl (lv_room (Nat.le_of_ble_eq_true rfl)) d_St_loadStripe_62 ⟨Nat.zero_le _, Nat.zero_le _⟩) hP hD hS hA [0, 1, 2] rfl (fun _ => rfl) (fun u H locs h hP hD hS => ?_)
        obtain ⟨V_lostCount_62, V_bytes_62, V_lost_62⟩ := u
        have hP : va_P (dC, dI) vwCl (wd_St_loadStripe aV aF aV_bytes aV_lost aV_factors aP aP_block aP_original aP_lost aP_current cI cZ V_lostCount_62 V_data V_repairs V_first V_bytes_62 V_lost_62 P_size P_stripes P_sentCount P_lost P_current) H := hP
        have hD : va_D A (wd_St_loadStripe aV aF aV_bytes aV_lost aV_factors aP aP_block aP_original aP_lost aP_current cI cZ V_lostCount_62 V_data V_repairs V_first V_bytes_62 V_lost_62 P_size P_stripes P_sentCount P_lost P_current) := hD
        exact B65 K9 HK9 V_lostCount_62 V_bytes_62 V_lost_62 x1 x2 H locs ls h hP hD hS (lv_sub hl [1, 2, 3] rfl)
      · have h := h.2 g29
        refine lv_aload_n hx hb d_St_loadStripe_32 rfl (lv_at hl 1 rfl) ?_
        refine va_get (D := (dC, dI)) (ci := 4) (v := .ref aV) (C := "ReedSets$Striped") (T := T_St) (N := 8) hx hb hts in_St hown hK hP 3 rfl rfl 3 (by decide) (hts _ tb_207) (fun _ h9 => h9) rfl d_St_loadStripe_33 ?_
        refine lv_iload_n hx hb d_St_loadStripe_36 rfl (lv_at hl 3 rfl) ?_
        refine lv_iconst (v := (0 : Int32)) hx hb d_St_loadStripe_37 (by decide) ?_
        refine lv_iconst (v := (0 : Int32)) hx hb d_St_loadStripe_38 (by decide) ?_
        refine mt_v (va_runV (As := [.int x2, .int (0 : Int32), .int (0 : Int32)]) (rest := []) ⟨hx, hb, hml, hown, hts⟩ (ct_Wo_take l dC dI aV aF aV_bytes aV_lost aV_factors cI cZ V_lostCount V_data V_repairs V_first V_bytes V_lost x2 (0 : Int32) (0 : Int32) _ h _) (tb_cV hts ok_Wo_take tb_568 rfl rfl ⟨Nat.le_of_ble_eq_true rfl, Nat.le_of_ble_eq_true rfl⟩) (mt_preV hK hP hD [.int x2, .int (0 : Int32), .int (0 : Int32)] [0, 1, 2] rfl (by decide) (ci := 5) (q0 := 0) rfl rfl) rfl rfl hl.1 rfl (lv_room (Nat.le_of_ble_eq_true rfl)) d_St_loadStripe_39 ⟨Nat.zero_le _, Nat.zero_le _⟩) hP hD hS hA [0, 1, 2] rfl (fun _ => rfl) (fun u H locs h hP hD hS => ?_)
        obtain ⟨V_lostCount_39, V_bytes_39, V_lost_39⟩ := u
        have hP : va_P (dC, dI) vwCl (wd_St_loadStripe aV aF aV_bytes aV_lost aV_factors aP aP_block aP_original aP_lost aP_current cI cZ V_lostCount_39 V_data V_repairs V_first V_bytes_39 V_lost_39 P_size P_stripes P_sentCount P_lost P_current) H := hP
        have hD : va_D A (wd_St_loadStripe aV aF aV_bytes aV_lost aV_factors aP aP_block aP_original aP_lost aP_current cI cZ V_lostCount_39 V_data V_repairs V_first V_bytes_39 V_lost_39 P_size P_stripes P_sentCount P_lost P_current) := hD
        refine lv_goto (tgt := 65) hx hb d_St_loadStripe_42 (by decide) ?_
        exact B65 K9 HK9 V_lostCount_39 V_bytes_39 V_lost_39 x1 x2 H locs ls h hP hD hS (lv_sub hl [1, 2, 3] rfl)
  have L9 : ∀  (n : Nat), ∀ (V_lostCount : Int32) (V_bytes : Nat → Int32) (V_lost : Nat → Int32) (x1 : Int32) (x2 : Int32) (H : Heap) (locs : List Loc) (ls : Array Slot), wp_St_loadStripe_L9 V_data V_repairs P_size P_stripes P_lost P_current post  n V_lostCount V_bytes V_lost x1 x2 → va_P (dC, dI) vwCl (wd_St_loadStripe aV aF aV_bytes aV_lost aV_factors aP aP_block aP_original aP_lost aP_current cI cZ V_lostCount V_data V_repairs V_first V_bytes V_lost P_size P_stripes P_sentCount P_lost P_current) H → va_D A (wd_St_loadStripe aV aF aV_bytes aV_lost aV_factors aP aP_block aP_original aP_lost aP_current cI cZ V_lostCount V_data V_repairs V_first V_bytes V_lost P_size P_stripes P_sentCount P_lost P_current) → va_S A s.heap H locs → lv_has ls 4 [(0, .ref aP), (1, .int x1), (2, .int x2)] → W p l e rm_St_loadStripe s m args below meth c H locs 0 0 Q (F0 m 9 ls []) := by
    intro  n
    induction n with
    | zero => intro V_lostCount V_bytes V_lost x1 x2 H locs ls h hP hD hS hl; exact False.elim h
    | succ n ih => intro V_lostCount V_bytes V_lost x1 x2 H locs ls h hP hD hS hl; exact B9  (wp_St_loadStripe_L9 V_data V_repairs P_size P_stripes P_lost P_current post  n) ih V_lostCount V_bytes V_lost x1 x2 H locs ls h hP hD hS hl
  obtain ⟨H, hH⟩ : ∃ H : Heap, H = s.heap := ⟨_, rfl⟩
  obtain ⟨locs, hlo⟩ : ∃ x : List Loc, x = [] := ⟨_, rfl⟩
  have hS : va_S A s.heap H locs := by rw [hH, hlo]; exact hS
  rw [← hH] at hP
  rw [← hlo]
  show W p l e rm_St_loadStripe s m args below meth c s.heap locs 0 0 Q (F0 m 0 ls [])
  rw [← hH]
  refine lv_aload_n hx hb d_St_loadStripe_0 rfl (lv_at hl 0 rfl) ?_
  refine va_get (D := (dC, dI)) (ci := 4) (v := .ref aV) (C := "ReedSets$Striped") (T := T_St) (N := 8) hx hb hts in_St hown hK hP 3 rfl rfl 3 (by decide) (hts _ tb_207) (fun _ h9 => h9) rfl d_St_loadStripe_1 ?_
  refine mt_v (va_runV (As := []) (rest := []) ⟨hx, hb, hml, hown, hts⟩ (ct_Wo_findAll l dC dI aV aF aV_bytes aV_lost aV_factors cI cZ V_lostCount V_data V_repairs V_first V_lost _ h _) (tb_cV hts ok_Wo_findAll tb_567 rfl rfl ⟨Nat.le_of_ble_eq_true rfl, Nat.le_of_ble_eq_true rfl⟩) (mt_preV hK hP hD [] [0, 2] rfl (by decide) (ci := 5) (q0 := 0) rfl rfl) rfl rfl hl.1 rfl (lv_room (Nat.le_of_ble_eq_true rfl)) d_St_loadStripe_4 ⟨Nat.zero_le _, Nat.zero_le _⟩) hP hD hS hA [0, 2] rfl (fun _ => rfl) (fun u H locs h hP hD hS => ?_)
  obtain ⟨V_lostCount_4, V_lost_4⟩ := u
  have hP : va_P (dC, dI) vwCl (wd_St_loadStripe aV aF aV_bytes aV_lost aV_factors aP aP_block aP_original aP_lost aP_current cI cZ V_lostCount_4 V_data V_repairs V_first V_bytes V_lost_4 P_size P_stripes P_sentCount P_lost P_current) H := hP
  have hD : va_D A (wd_St_loadStripe aV aF aV_bytes aV_lost aV_factors aP aP_block aP_original aP_lost aP_current cI cZ V_lostCount_4 V_data V_repairs V_first V_bytes V_lost_4 P_size P_stripes P_sentCount P_lost P_current) := hD
  refine lv_iconst (v := (0 : Int32)) hx hb d_St_loadStripe_7 (by decide) ?_
  refine lv_istore_n (lv' := [(2, .int (0 : Int32)), (0, .ref aP), (1, .int p1)]) hx hb d_St_loadStripe_8 rfl hl (by decide) rfl (fun ls hl => ?_)
  obtain ⟨n, h⟩ := h
  exact L9  n V_lostCount_4 V_bytes V_lost_4 p1 (0 : Int32) H locs ls h hP hD hS (lv_sub hl [1, 2, 0] rfl)
abbrev wd_St_mendStripe (aF aF_powers aF_logs aS aS_syndromes aS_locator aS_helper aS_kept aS_evaluator aS_places aS_fixes aV aV_bytes aV_lost aV_factors aP aP_block aP_original aP_lost aP_current : Nat) (cI cZ : ClassId) (F_powers : Nat → Int32) (F_logs : Nat → Int32) (S_found : Int32) (S_syndromes : Nat → Int32) (S_locator : Nat → Int32) (S_helper : Nat → Int32) (S_kept : Nat → Int32) (S_evaluator : Nat → Int32) (S_places : Nat → Int32) (S_fixes : Nat → Int32) (V_lostCount : Int32) (V_data : Int32) (V_repairs : Int32) (V_first : Int32) (V_bytes : Nat → Int32) (V_lost : Nat → Int32) (P_size : Int32) (P_stripes : Int32) (P_sentCount : Int32) (P_lost : Nat → Int32) (P_current : Nat → Int32) : va_W := [(aF, .inr (1, [.ref aF_powers, .ref aF_logs])), (aF_powers, .inl (cI, 512, .inl F_powers)), (aF_logs, .inl (cI, 256, .inl F_logs)), (aS, .inr (3, [.ref aF, .ref aS_syndromes, .ref aS_locator, .ref aS_helper, .ref aS_kept, .ref aS_evaluator, .ref aS_places, .ref aS_fixes, .int S_found])), (aS_syndromes, .inl (cI, 40, .inl S_syndromes)), (aS_locator, .inl (cI, 41, .inl S_locator)), (aS_helper, .inl (cI, 41, .inl S_helper)), (aS_kept, .inl (cI, 41, .inl S_kept)), (aS_evaluator, .inl (cI, 41, .inl S_evaluator)), (aS_places, .inl (cI, 40, .inl S_places)), (aS_fixes, .inl (cI, 40, .inl S_fixes)), (aV, .inr (5, [.ref aF, .ref aV_bytes, .ref aV_lost, .ref aV_factors, .int V_lostCount, .int V_data, .int V_repairs, .int V_first])), (aV_bytes, .inl (cI, 240, .inl V_bytes)), (aV_lost, .inl (cZ, 240, .inl V_lost)), (aP, .inr (4, [.ref aP_block, .ref aP_original, .ref aP_lost, .ref aV, .ref aP_current, .int P_size, .int P_stripes, .int P_sentCount])), (aP_lost, .inl (cZ, 1440, .inl P_lost)), (aP_current, .inl (cI, 1440, .inl P_current))]
def wp_St_mendStripe_b62 (F_powers : Nat → Int32) (F_logs : Nat → Int32) (V_data : Int32) (V_repairs : Int32) (V_first : Int32) (P_size : Int32) (P_stripes : Int32) (post : Int32 → Int32 → (Nat → Int32) → (Nat → Int32) → (Nat → Int32) → (Nat → Int32) → (Nat → Int32) → (Nat → Int32) → (Nat → Int32) → Int32 → (Nat → Int32) → (Nat → Int32) → (Nat → Int32) → (Nat → Int32) → Prop)  (S_found : Int32) (S_syndromes : Nat → Int32) (S_locator : Nat → Int32) (S_helper : Nat → Int32) (S_kept : Nat → Int32) (S_evaluator : Nat → Int32) (S_places : Nat → Int32) (S_fixes : Nat → Int32) (V_lostCount : Int32) (V_bytes : Nat → Int32) (V_lost : Nat → Int32) (P_lost : Nat → Int32) (P_current : Nat → Int32) : Prop := post (-1 : Int32) S_found S_syndromes S_locator S_helper S_kept S_evaluator S_places S_fixes V_lostCount V_bytes V_lost P_lost P_current
def wp_St_mendStripe_b64 (F_powers : Nat → Int32) (F_logs : Nat → Int32) (V_data : Int32) (V_repairs : Int32) (V_first : Int32) (P_size : Int32) (P_stripes : Int32) (post : Int32 → Int32 → (Nat → Int32) → (Nat → Int32) → (Nat → Int32) → (Nat → Int32) → (Nat → Int32) → (Nat → Int32) → (Nat → Int32) → Int32 → (Nat → Int32) → (Nat → Int32) → (Nat → Int32) → (Nat → Int32) → Prop)  (S_found : Int32) (S_syndromes : Nat → Int32) (S_locator : Nat → Int32) (S_helper : Nat → Int32) (S_kept : Nat → Int32) (S_evaluator : Nat → Int32) (S_places : Nat → Int32) (S_fixes : Nat → Int32) (V_lostCount : Int32) (V_bytes : Nat → Int32) (V_lost : Nat → Int32) (P_lost : Nat → Int32) (P_current : Nat → Int32) (x1 : Int32) (x3 : Int32) : Prop := wp_So_settle V_lostCount V_bytes V_lost S_found S_places S_fixes (fun V_lostCount_69 V_bytes_69 V_lost_69 => (wp_St_storeStripe V_data V_repairs V_bytes_69 P_size P_stripes P_lost P_current x1 (fun P_lost_74 P_current_74 => (post x3 S_found S_syndromes S_locator S_helper S_kept S_evaluator S_places S_fixes V_lostCount_69 V_bytes_69 V_lost_69 P_lost_74 P_current_74))))
def wp_St_mendStripe_b41 (F_powers : Nat → Int32) (F_logs : Nat → Int32) (V_data : Int32) (V_repairs : Int32) (V_first : Int32) (P_size : Int32) (P_stripes : Int32) (post : Int32 → Int32 → (Nat → Int32) → (Nat → Int32) → (Nat → Int32) → (Nat → Int32) → (Nat → Int32) → (Nat → Int32) → (Nat → Int32) → Int32 → (Nat → Int32) → (Nat → Int32) → (Nat → Int32) → (Nat → Int32) → Prop)  (S_found : Int32) (S_syndromes : Nat → Int32) (S_locator : Nat → Int32) (S_helper : Nat → Int32) (S_kept : Nat → Int32) (S_evaluator : Nat → Int32) (S_places : Nat → Int32) (S_fixes : Nat → Int32) (V_lostCount : Int32) (V_bytes : Nat → Int32) (V_lost : Nat → Int32) (P_lost : Nat → Int32) (P_current : Nat → Int32) (x1 : Int32) (x3 : Int32) (x4 : Int32) (t0 : Int32) : Prop := (x3 = (-1 : Int32) → (wp_St_mendStripe_b62 F_powers F_logs V_data V_repairs V_first P_size P_stripes post  S_found S_syndromes S_locator S_helper S_kept S_evaluator S_places S_fixes V_lostCount V_bytes V_lost P_lost P_current)) ∧ (¬ x3 = (-1 : Int32) → ((t0 = 0 → (wp_St_mendStripe_b64 F_powers F_logs V_data V_repairs V_first P_size P_stripes post  S_found S_syndromes S_locator S_helper S_kept S_evaluator S_places S_fixes V_lostCount V_bytes V_lost P_lost P_current x1 x3)) ∧ (¬ t0 = 0 → (wp_So_alters S_found S_places S_fixes x4 (fun r_56 => ((r_56 = 0 → (wp_St_mendStripe_b64 F_powers F_logs V_data V_repairs V_first P_size P_stripes post  S_found S_syndromes S_locator S_helper S_kept S_evaluator S_places S_fixes V_lostCount V_bytes V_lost P_lost P_current x1 x3)) ∧ (¬ r_56 = 0 → (wp_St_mendStripe_b62 F_powers F_logs V_data V_repairs V_first P_size P_stripes post  S_found S_syndromes S_locator S_helper S_kept S_evaluator S_places S_fixes V_lostCount V_bytes V_lost P_lost P_current))))))))
def wp_St_mendStripe (F_powers : Nat → Int32) (F_logs : Nat → Int32) (S_found : Int32) (S_syndromes : Nat → Int32) (S_locator : Nat → Int32) (S_helper : Nat → Int32) (S_kept : Nat → Int32) (S_evaluator : Nat → Int32) (S_places : Nat → Int32) (S_fixes : Nat → Int32) (V_lostCount : Int32) (V_data : Int32) (V_repairs : Int32) (V_first : Int32) (V_bytes : Nat → Int32) (V_lost : Nat → Int32) (P_size : Int32) (P_stripes : Int32) (P_lost : Nat → Int32) (P_current : Nat → Int32) (p1 : Int32) (post : Int32 → Int32 → (Nat → Int32) → (Nat → Int32) → (Nat → Int32) → (Nat → Int32) → (Nat → Int32) → (Nat → Int32) → (Nat → Int32) → Int32 → (Nat → Int32) → (Nat → Int32) → (Nat → Int32) → (Nat → Int32) → Prop) : Prop := wp_St_loadStripe V_lostCount V_data V_repairs V_bytes V_lost P_size P_stripes P_lost P_current p1 (fun V_lostCount_2 V_bytes_2 V_lost_2 => (wp_So_solve F_powers F_logs V_lostCount_2 V_data V_repairs V_first V_bytes_2 V_lost_2 S_found S_syndromes S_locator S_helper S_kept S_evaluator S_places S_fixes (fun r_10 S_found_10 S_syndromes_10 S_locator_10 S_helper_10 S_kept_10 S_evaluator_10 S_places_10 S_fixes_10 => (∀ x4_23 : Int32, x4_23 = (V_data - (1 : Int32)) → (wp_St_slotOf V_data P_size P_stripes p1 x4_23 (fun r_29 => ((¬ r_29 = (-1 : Int32) → (wp_St_mendStripe_b41 F_powers F_logs V_data V_repairs V_first P_size P_stripes post  S_found_10 S_syndromes_10 S_locator_10 S_helper_10 S_kept_10 S_evaluator_10 S_places_10 S_fixes_10 V_lostCount_2 V_bytes_2 V_lost_2 P_lost P_current p1 r_10 x4_23 (0 : Int32))) ∧ (r_29 = (-1 : Int32) → (wp_St_mendStripe_b41 F_powers F_logs V_data V_repairs V_first P_size P_stripes post  S_found_10 S_syndromes_10 S_locator_10 S_helper_10 S_kept_10 S_evaluator_10 S_places_10 S_fixes_10 V_lostCount_2 V_bytes_2 V_lost_2 P_lost P_current p1 r_10 x4_23 (1 : Int32))))))))))
abbrev rm_St_mendStripe : Room := { frames := 4, cells := 0, slots := 0, locals := 94 }
set_option maxHeartbeats 4000000 in
set_option maxRecDepth 100000 in
theorem ct_St_mendStripe (l : Launch) (dC : Nat → ClassId) (dI : Nat → Nat → Nat) (aF aF_powers aF_logs aS aS_syndromes aS_locator aS_helper aS_kept aS_evaluator aS_places aS_fixes aV aV_bytes aV_lost aV_factors aP aP_block aP_original aP_lost aP_current : Nat) (cI cZ : ClassId) (F_powers : Nat → Int32) (F_logs : Nat → Int32) (S_found : Int32) (S_syndromes : Nat → Int32) (S_locator : Nat → Int32) (S_helper : Nat → Int32) (S_kept : Nat → Int32) (S_evaluator : Nat → Int32) (S_places : Nat → Int32) (S_fixes : Nat → Int32) (V_lostCount : Int32) (V_data : Int32) (V_repairs : Int32) (V_first : Int32) (V_bytes : Nat → Int32) (V_lost : Nat → Int32) (P_size : Int32) (P_stripes : Int32) (P_sentCount : Int32) (P_lost : Nat → Int32) (P_current : Nat → Int32) (p1 : Int32) (post : Int32 → Int32 → (Nat → Int32) → (Nat → Int32) → (Nat → Int32) → (Nat → Int32) → (Nat → Int32) → (Nat → Int32) → (Nat → Int32) → Int32 → (Nat → Int32) → (Nat → Int32) → (Nat → Int32) → (Nat → Int32) → Prop) (h : wp_St_mendStripe F_powers F_logs S_found S_syndromes S_locator S_helper S_kept S_evaluator S_places S_fixes V_lostCount V_data V_repairs V_first V_bytes V_lost P_size P_stripes P_lost P_current p1 post) (sz : Nat) : Met l y_St_mendStripe (Cond.code y_St_mendStripe c_St_mendStripe 6 (some .int) :: tb) rm_St_mendStripe (mt_P (dC, dI) vwCl [(cI, .int), (cZ, .boolean)] [.ref aP, .int p1, .ref aS] (wd_St_mendStripe aF aF_powers aF_logs aS aS_syndromes aS_locator aS_helper aS_kept aS_evaluator aS_places aS_fixes aV aV_bytes aV_lost aV_factors aP aP_block aP_original aP_lost aP_current cI cZ F_powers F_logs S_found S_syndromes S_locator S_helper S_kept S_evaluator S_places S_fixes V_lostCount V_data V_repairs V_first V_bytes V_lost P_size P_stripes P_sentCount P_lost P_current) sz) (va_Qi (fun (r : Int32) (u : Int32 × (Nat → Int32) × (Nat → Int32) × (Nat → Int32) × (Nat → Int32) × (Nat → Int32) × (Nat → Int32) × (Nat → Int32) × Int32 × (Nat → Int32) × (Nat → Int32) × (Nat → Int32) × (Nat → Int32)) => post r u.1 u.2.1 u.2.2.1 u.2.2.2.1 u.2.2.2.2.1 u.2.2.2.2.2.1 u.2.2.2.2.2.2.1 u.2.2.2.2.2.2.2.1 u.2.2.2.2.2.2.2.2.1 u.2.2.2.2.2.2.2.2.2.1 u.2.2.2.2.2.2.2.2.2.2.1 u.2.2.2.2.2.2.2.2.2.2.2.1 u.2.2.2.2.2.2.2.2.2.2.2.2) (mt_B (dC, dI) vwCl [(cI, .int), (cZ, .boolean)] (wd_St_mendStripe aF aF_powers aF_logs aS aS_syndromes aS_locator aS_helper aS_kept aS_evaluator aS_places aS_fixes aV aV_bytes aV_lost aV_factors aP aP_block aP_original aP_lost aP_current cI cZ F_powers F_logs S_found S_syndromes S_locator S_helper S_kept S_evaluator S_places S_fixes V_lostCount V_data V_repairs V_first V_bytes V_lost P_size P_stripes P_sentCount P_lost P_current) sz (fun u : Int32 × (Nat → Int32) × (Nat → Int32) × (Nat → Int32) × (Nat → Int32) × (Nat → Int32) × (Nat → Int32) × (Nat → Int32) × Int32 × (Nat → Int32) × (Nat → Int32) × (Nat → Int32) × (Nat → Int32) => wd_St_mendStripe aF aF_powers aF_logs aS aS_syndromes aS_locator aS_helper aS_kept aS_evaluator aS_places aS_fixes aV aV_bytes aV_lost aV_factors aP aP_block aP_original aP_lost aP_current cI cZ F_powers F_logs u.1 u.2.1 u.2.2.1 u.2.2.2.1 u.2.2.2.2.1 u.2.2.2.2.2.1 u.2.2.2.2.2.2.1 u.2.2.2.2.2.2.2.1 u.2.2.2.2.2.2.2.2.1 V_data V_repairs V_first u.2.2.2.2.2.2.2.2.2.1 u.2.2.2.2.2.2.2.2.2.2.1 P_size P_stripes P_sentCount u.2.2.2.2.2.2.2.2.2.2.2.1 u.2.2.2.2.2.2.2.2.2.2.2.2)) (va_A (wd_St_mendStripe aF aF_powers aF_logs aS aS_syndromes aS_locator aS_helper aS_kept aS_evaluator aS_places aS_fixes aV aV_bytes aV_lost aV_factors aP aP_block aP_original aP_lost aP_current cI cZ F_powers F_logs S_found S_syndromes S_locator S_helper S_kept S_evaluator S_places S_fixes V_lostCount V_data V_repairs V_first V_bytes V_lost P_size P_stripes P_sentCount P_lost P_current) sz)) 0 0 (va_A (wd_St_mendStripe aF aF_powers aF_logs aS aS_syndromes aS_locator aS_helper aS_kept aS_evaluator aS_places aS_fixes aV aV_bytes aV_lost aV_factors aP aP_block aP_original aP_lost aP_current cI cZ F_powers F_logs S_found S_syndromes S_locator S_helper S_kept S_evaluator S_places S_fixes V_lostCount V_data V_repairs V_first V_bytes V_lost P_size P_stripes P_sentCount P_lost P_current) sz) := by
  refine mt_bd (by decide +kernel) (Nat.le_of_ble_eq_true rfl) ?_
  intro p e s m args below meth c hx hb hml hown hts hr hlk hnm hsz hP hK hD hA hS ls hl
  subst hsz
  have hown : s.vm.findClass "ReedSets$Striped" = some m.cls := hown
  have hl : lv_has ls 6 [(0, .ref aP), (1, .int p1), (2, .ref aS)] := hl
  refine lz_Q (fun Q hQ => ?_)
  obtain ⟨A, hAe⟩ : ∃ A : Nat → Prop, A = va_A (wd_St_mendStripe aF aF_powers aF_logs aS aS_syndromes aS_locator aS_helper aS_kept aS_evaluator aS_places aS_fixes aV aV_bytes aV_lost aV_factors aP aP_block aP_original aP_lost aP_current cI cZ F_powers F_logs S_found S_syndromes S_locator S_helper S_kept S_evaluator S_places S_fixes V_lostCount V_data V_repairs V_first V_bytes V_lost P_size P_stripes P_sentCount P_lost P_current) s.heap.size := ⟨_, rfl⟩
  rw [← hAe] at hD hA hS
  have RET : ∀ (v : Int32) (S_found : Int32) (S_syndromes : Nat → Int32) (S_locator : Nat → Int32) (S_helper : Nat → Int32) (S_kept : Nat → Int32) (S_evaluator : Nat → Int32) (S_places : Nat → Int32) (S_fixes : Nat → Int32) (V_lostCount : Int32) (V_bytes : Nat → Int32) (V_lost : Nat → Int32) (P_lost : Nat → Int32) (P_current : Nat → Int32) (H : Heap) (locs : List Loc) (ls : Array Slot) (pc : Nat), decode c_St_mendStripe pc = .ok (.ireturn, 1) → post v S_found S_syndromes S_locator S_helper S_kept S_evaluator S_places S_fixes V_lostCount V_bytes V_lost P_lost P_current → va_P (dC, dI) vwCl (wd_St_mendStripe aF aF_powers aF_logs aS aS_syndromes aS_locator aS_helper aS_kept aS_evaluator aS_places aS_fixes aV aV_bytes aV_lost aV_factors aP aP_block aP_original aP_lost aP_current cI cZ F_powers F_logs S_found S_syndromes S_locator S_helper S_kept S_evaluator S_places S_fixes V_lostCount V_data V_repairs V_first V_bytes V_lost P_size P_stripes P_sentCount P_lost P_current) H → va_D A (wd_St_mendStripe aF aF_powers aF_logs aS aS_syndromes aS_locator aS_helper aS_kept aS_evaluator aS_places aS_fixes aV aV_bytes aV_lost aV_factors aP aP_block aP_original aP_lost aP_current cI cZ F_powers F_logs S_found S_syndromes S_locator S_helper S_kept S_evaluator S_places S_fixes V_lostCount V_data V_repairs V_first V_bytes V_lost P_size P_stripes P_sentCount P_lost P_current) → va_S A s.heap H locs → W p l e rm_St_mendStripe s m args below meth c H locs 0 0 Q (F0 m pc ls [.int v]) := by
    intro v S_found S_syndromes S_locator S_helper S_kept S_evaluator S_places S_fixes V_lostCount V_bytes V_lost P_lost P_current H locs ls pc hd hp h1 h2 h3
    rw [hQ]
    rw [hAe] at h2 h3
    exact mt_reti (S_found, S_syndromes, S_locator, S_helper, S_kept, S_evaluator, S_places, S_fixes, V_lostCount, V_bytes, V_lost, P_lost, P_current) hx hb hr hlk hd hK h1 h2 h3 hp
  have B62 : ∀ (S_found : Int32) (S_syndromes : Nat → Int32) (S_locator : Nat → Int32) (S_helper : Nat → Int32) (S_kept : Nat → Int32) (S_evaluator : Nat → Int32) (S_places : Nat → Int32) (S_fixes : Nat → Int32) (V_lostCount : Int32) (V_bytes : Nat → Int32) (V_lost : Nat → Int32) (P_lost : Nat → Int32) (P_current : Nat → Int32) (H : Heap) (locs : List Loc) (ls : Array Slot), wp_St_mendStripe_b62 F_powers F_logs V_data V_repairs V_first P_size P_stripes post  S_found S_syndromes S_locator S_helper S_kept S_evaluator S_places S_fixes V_lostCount V_bytes V_lost P_lost P_current → va_P (dC, dI) vwCl (wd_St_mendStripe aF aF_powers aF_logs aS aS_syndromes aS_locator aS_helper aS_kept aS_evaluator aS_places aS_fixes aV aV_bytes aV_lost aV_factors aP aP_block aP_original aP_lost aP_current cI cZ F_powers F_logs S_found S_syndromes S_locator S_helper S_kept S_evaluator S_places S_fixes V_lostCount V_data V_repairs V_first V_bytes V_lost P_size P_stripes P_sentCount P_lost P_current) H → va_D A (wd_St_mendStripe aF aF_powers aF_logs aS aS_syndromes aS_locator aS_helper aS_kept aS_evaluator aS_places aS_fixes aV aV_bytes aV_lost aV_factors aP aP_block aP_original aP_lost aP_current cI cZ F_powers F_logs S_found S_syndromes S_locator S_helper S_kept S_evaluator S_places S_fixes V_lostCount V_data V_repairs V_first V_bytes V_lost P_size P_stripes P_sentCount P_lost P_current) → va_S A s.heap H locs → lv_has ls 6 [] → W p l e rm_St_mendStripe s m args below meth c H locs 0 0 Q (F0 m 62 ls []) := by
    intro  S_found S_syndromes S_locator S_helper S_kept S_evaluator S_places S_fixes V_lostCount V_bytes V_lost P_lost P_current H locs ls h hP hD hS hl
    refine lv_iconst (v := (-1 : Int32)) hx hb d_St_mendStripe_62 (by decide) ?_
    exact RET (-1 : Int32) S_found S_syndromes S_locator S_helper S_kept S_evaluator S_places S_fixes V_lostCount V_bytes V_lost P_lost P_current H locs ls 63 d_St_mendStripe_63 h hP hD hS
  have B64 : ∀ (S_found : Int32) (S_syndromes : Nat → Int32) (S_locator : Nat → Int32) (S_helper : Nat → Int32) (S_kept : Nat → Int32) (S_evaluator : Nat → Int32) (S_places : Nat → Int32) (S_fixes : Nat → Int32) (V_lostCount : Int32) (V_bytes : Nat → Int32) (V_lost : Nat → Int32) (P_lost : Nat → Int32) (P_current : Nat → Int32) (x1 : Int32) (x3 : Int32) (H : Heap) (locs : List Loc) (ls : Array Slot), wp_St_mendStripe_b64 F_powers F_logs V_data V_repairs V_first P_size P_stripes post  S_found S_syndromes S_locator S_helper S_kept S_evaluator S_places S_fixes V_lostCount V_bytes V_lost P_lost P_current x1 x3 → va_P (dC, dI) vwCl (wd_St_mendStripe aF aF_powers aF_logs aS aS_syndromes aS_locator aS_helper aS_kept aS_evaluator aS_places aS_fixes aV aV_bytes aV_lost aV_factors aP aP_block aP_original aP_lost aP_current cI cZ F_powers F_logs S_found S_syndromes S_locator S_helper S_kept S_evaluator S_places S_fixes V_lostCount V_data V_repairs V_first V_bytes V_lost P_size P_stripes P_sentCount P_lost P_current) H → va_D A (wd_St_mendStripe aF aF_powers aF_logs aS aS_syndromes aS_locator aS_helper aS_kept aS_evaluator aS_places aS_fixes aV aV_bytes aV_lost aV_factors aP aP_block aP_original aP_lost aP_current cI cZ F_powers F_logs S_found S_syndromes S_locator S_helper S_kept S_evaluator S_places S_fixes V_lostCount V_data V_repairs V_first V_bytes V_lost P_size P_stripes P_sentCount P_lost P_current) → va_S A s.heap H locs → lv_has ls 6 [(0, .ref aP), (1, .int x1), (2, .ref aS), (3, .int x3)] → W p l e rm_St_mendStripe s m args below meth c H locs 0 0 Q (F0 m 64 ls []) := by
    intro  S_found S_syndromes S_locator S_helper S_kept S_evaluator S_places S_fixes V_lostCount V_bytes V_lost P_lost P_current x1 x3 H locs ls h hP hD hS hl
    refine lv_aload_n hx hb d_St_mendStripe_64 rfl (lv_at hl 2 rfl) ?_
    refine lv_aload_n hx hb d_St_mendStripe_65 rfl (lv_at hl 0 rfl) ?_
    refine va_get (D := (dC, dI)) (ci := 4) (v := .ref aV) (C := "ReedSets$Striped") (T := T_St) (N := 8) hx hb hts in_St hown hK hP 14 rfl rfl 3 (by decide) (hts _ tb_207) (fun _ h9 => h9) rfl d_St_mendStripe_66 ?_
    refine mt_v (va_runV (As := [.ref aV]) (rest := []) ⟨hx, hb, hml, hown, hts⟩ (ct_So_settle l dC dI aV aF aV_bytes aV_lost aV_factors aS aS_syndromes aS_locator aS_helper aS_kept aS_evaluator aS_places aS_fixes cI cZ V_lostCount V_data V_repairs V_first V_bytes V_lost S_found S_places S_fixes _ h _) (tb_cV hts ok_So_settle tb_577 rfl rfl ⟨Nat.le_of_ble_eq_true rfl, Nat.le_of_ble_eq_true rfl⟩) (mt_preV hK hP hD [.ref aV] [11, 12, 13, 3, 9, 10] rfl (by decide) (ci := 3) (q0 := 3) rfl rfl) rfl rfl hl.1 rfl (lv_room (Nat.le_of_ble_eq_true rfl)) d_St_mendStripe_69 ⟨Nat.zero_le _, Nat.zero_le _⟩) hP hD hS hA [11, 12, 13, 3, 9, 10] rfl (fun _ => rfl) (fun u H locs h hP hD hS => ?_)
    obtain ⟨V_lostCount_69, V_bytes_69, V_lost_69⟩ := u
    have hP : va_P (dC, dI) vwCl (wd_St_mendStripe aF aF_powers aF_logs aS aS_syndromes aS_locator aS_helper aS_kept aS_evaluator aS_places aS_fixes aV aV_bytes aV_lost aV_factors aP aP_block aP_original aP_lost aP_current cI cZ F_powers F_logs S_found S_syndromes S_locator S_helper S_kept S_evaluator S_places S_fixes V_lostCount_69 V_data V_repairs V_first V_bytes_69 V_lost_69 P_size P_stripes P_sentCount P_lost P_current) H := hP
    have hD : va_D A (wd_St_mendStripe aF aF_powers aF_logs aS aS_syndromes aS_locator aS_helper aS_kept aS_evaluator aS_places aS_fixes aV aV_bytes aV_lost aV_factors aP aP_block aP_original aP_lost aP_current cI cZ F_powers F_logs S_found S_syndromes S_locator S_helper S_kept S_evaluator S_places S_fixes V_lostCount_69 V_data V_repairs V_first V_bytes_69 V_lost_69 P_size P_stripes P_sentCount P_lost P_current) := hD
    refine lv_aload_n hx hb d_St_mendStripe_72 rfl (lv_at hl 0 rfl) ?_
    refine lv_iload_n hx hb d_St_mendStripe_73 rfl (lv_at hl 1 rfl) ?_
    refine mt_v (va_runV (As := [.int x1]) (rest := []) ⟨hx, hb, hml, hown, hts⟩ (ct_St_storeStripe l dC dI aV aF aV_bytes aV_lost aV_factors aP aP_block aP_original aP_lost aP_current cI cZ V_lostCount_69 V_data V_repairs V_first V_bytes_69 P_size P_stripes P_sentCount P_lost P_current x1 _ h _) (tb_cV hts ok_St_storeStripe tb_526 rfl rfl ⟨Nat.le_of_ble_eq_true rfl, Nat.le_of_ble_eq_true rfl⟩) (mt_preV hK hP hD [.int x1] [11, 12, 14, 15, 16] rfl (by decide) (ci := 4) (q0 := 14) rfl rfl) rfl rfl hl.1 rfl (lv_room (Nat.le_of_ble_eq_true rfl)) d_St_mendStripe_74 ⟨Nat.zero_le _, Nat.zero_le _⟩) hP hD hS hA [11, 12, 14, 15, 16] rfl (fun _ => rfl) (fun u H locs h hP hD hS => ?_)
    obtain ⟨P_lost_74, P_current_74⟩ := u
    have hP : va_P (dC, dI) vwCl (wd_St_mendStripe aF aF_powers aF_logs aS aS_syndromes aS_locator aS_helper aS_kept aS_evaluator aS_places aS_fixes aV aV_bytes aV_lost aV_factors aP aP_block aP_original aP_lost aP_current cI cZ F_powers F_logs S_found S_syndromes S_locator S_helper S_kept S_evaluator S_places S_fixes V_lostCount_69 V_data V_repairs V_first V_bytes_69 V_lost_69 P_size P_stripes P_sentCount P_lost_74 P_current_74) H := hP
    have hD : va_D A (wd_St_mendStripe aF aF_powers aF_logs aS aS_syndromes aS_locator aS_helper aS_kept aS_evaluator aS_places aS_fixes aV aV_bytes aV_lost aV_factors aP aP_block aP_original aP_lost aP_current cI cZ F_powers F_logs S_found S_syndromes S_locator S_helper S_kept S_evaluator S_places S_fixes V_lostCount_69 V_data V_repairs V_first V_bytes_69 V_lost_69 P_size P_stripes P_sentCount P_lost_74 P_current_74) := hD
    refine lv_iload_n hx hb d_St_mendStripe_77 rfl (lv_at hl 3 rfl) ?_
    exact RET x3 S_found S_syndromes S_locator S_helper S_kept S_evaluator S_places S_fixes V_lostCount_69 V_bytes_69 V_lost_69 P_lost_74 P_current_74 H locs ls 78 d_St_mendStripe_78 h hP hD hS
  have B41 : ∀ (S_found : Int32) (S_syndromes : Nat → Int32) (S_locator : Nat → Int32) (S_helper : Nat → Int32) (S_kept : Nat → Int32) (S_evaluator : Nat → Int32) (S_places : Nat → Int32) (S_fixes : Nat → Int32) (V_lostCount : Int32) (V_bytes : Nat → Int32) (V_lost : Nat → Int32) (P_lost : Nat → Int32) (P_current : Nat → Int32) (x1 : Int32) (x3 : Int32) (x4 : Int32) (t0 : Int32) (H : Heap) (locs : List Loc) (ls : Array Slot), wp_St_mendStripe_b41 F_powers F_logs V_data V_repairs V_first P_size P_stripes post  S_found S_syndromes S_locator S_helper S_kept S_evaluator S_places S_fixes V_lostCount V_bytes V_lost P_lost P_current x1 x3 x4 t0 → va_P (dC, dI) vwCl (wd_St_mendStripe aF aF_powers aF_logs aS aS_syndromes aS_locator aS_helper aS_kept aS_evaluator aS_places aS_fixes aV aV_bytes aV_lost aV_factors aP aP_block aP_original aP_lost aP_current cI cZ F_powers F_logs S_found S_syndromes S_locator S_helper S_kept S_evaluator S_places S_fixes V_lostCount V_data V_repairs V_first V_bytes V_lost P_size P_stripes P_sentCount P_lost P_current) H → va_D A (wd_St_mendStripe aF aF_powers aF_logs aS aS_syndromes aS_locator aS_helper aS_kept aS_evaluator aS_places aS_fixes aV aV_bytes aV_lost aV_factors aP aP_block aP_original aP_lost aP_current cI cZ F_powers F_logs S_found S_syndromes S_locator S_helper S_kept S_evaluator S_places S_fixes V_lostCount V_data V_repairs V_first V_bytes V_lost P_size P_stripes P_sentCount P_lost P_current) → va_S A s.heap H locs → lv_has ls 6 [(0, .ref aP), (1, .int x1), (2, .ref aS), (3, .int x3), (4, .int x4)] → W p l e rm_St_mendStripe s m args below meth c H locs 0 0 Q (F0 m 41 ls [.int t0]) := by
    intro  S_found S_syndromes S_locator S_helper S_kept S_evaluator S_places S_fixes V_lostCount V_bytes V_lost P_lost P_current x1 x3 x4 t0 H locs ls h hP hD hS hl
    refine lv_istore (lv' := [(5, .int t0), (0, .ref aP), (1, .int x1), (2, .ref aS), (3, .int x3), (4, .int x4)]) hx hb d_St_mendStripe_41 hl (by decide) rfl (fun ls hl => ?_)
    refine lv_iload_n hx hb d_St_mendStripe_43 rfl (lv_at hl 4 rfl) ?_
    refine lv_iconst (v := (-1 : Int32)) hx hb d_St_mendStripe_44 (by decide) ?_
    refine lv_icmp_eq (tgt := 62) hx hb d_St_mendStripe_45 (by decide) (fun g45 => ?_) (fun g45 => ?_)
    · have h := h.1 g45
      exact B62  S_found S_syndromes S_locator S_helper S_kept S_evaluator S_places S_fixes V_lostCount V_bytes V_lost P_lost P_current H locs ls h hP hD hS (lv_sub hl [] rfl)
    · have h := h.2 g45
      refine lv_iload hx hb d_St_mendStripe_48 (lv_at hl 0 rfl) ?_
      refine lv_if_eq (tgt := 64) hx hb d_St_mendStripe_50 (by decide) (fun g50 => ?_) (fun g50 => ?_)
      · have h := h.1 g50
        exact B64  S_found S_syndromes S_locator S_helper S_kept S_evaluator S_places S_fixes V_lostCount V_bytes V_lost P_lost P_current x1 x3 H locs ls h hP hD hS (lv_sub hl [1, 2, 3, 4] rfl)
      · have h := h.2 g50
        refine lv_aload_n hx hb d_St_mendStripe_53 rfl (lv_at hl 3 rfl) ?_
        refine lv_iload hx hb d_St_mendStripe_54 (lv_at hl 5 rfl) ?_
        refine mt_i (va_runV (As := [.int x4]) (rest := []) ⟨hx, hb, hml, hown, hts⟩ (ct_So_alters l dC dI aS aF aS_syndromes aS_locator aS_helper aS_kept aS_evaluator aS_places aS_fixes cI cZ S_found S_places S_fixes x4 _ h _) (tb_cV hts ok_So_alters tb_573 rfl rfl ⟨Nat.le_of_ble_eq_true rfl, Nat.le_of_ble_eq_true rfl⟩) (mt_preV hK hP hD [.int x4] [3, 9, 10] rfl (by decide) (ci := 3) (q0 := 3) rfl rfl) rfl rfl hl.1 rfl (lv_room (Nat.le_of_ble_eq_true rfl)) d_St_mendStripe_56 ⟨Nat.zero_le _, Nat.zero_le _⟩) hP hD hS hA [3, 9, 10] rfl (fun _ => rfl) (fun r_56 u H locs h hP hD hS => ?_)
        have hP : va_P (dC, dI) vwCl (wd_St_mendStripe aF aF_powers aF_logs aS aS_syndromes aS_locator aS_helper aS_kept aS_evaluator aS_places aS_fixes aV aV_bytes aV_lost aV_factors aP aP_block aP_original aP_lost aP_current cI cZ F_powers F_logs S_found S_syndromes S_locator S_helper S_kept S_evaluator S_places S_fixes V_lostCount V_data V_repairs V_first V_bytes V_lost P_size P_stripes P_sentCount P_lost P_current) H := hP
        have hD : va_D A (wd_St_mendStripe aF aF_powers aF_logs aS aS_syndromes aS_locator aS_helper aS_kept aS_evaluator aS_places aS_fixes aV aV_bytes aV_lost aV_factors aP aP_block aP_original aP_lost aP_current cI cZ F_powers F_logs S_found S_syndromes S_locator S_helper S_kept S_evaluator S_places S_fixes V_lostCount V_data V_repairs V_first V_bytes V_lost P_size P_stripes P_sentCount P_lost P_current) := hD
        refine lv_if_eq (tgt := 64) hx hb d_St_mendStripe_59 (by decide) (fun g59 => ?_) (fun g59 => ?_)
        · have h := h.1 g59
          exact B64  S_found S_syndromes S_locator S_helper S_kept S_evaluator S_places S_fixes V_lostCount V_bytes V_lost P_lost P_current x1 x3 H locs ls h hP hD hS (lv_sub hl [1, 2, 3, 4] rfl)
        · have h := h.2 g59
          exact B62  S_found S_syndromes S_locator S_helper S_kept S_evaluator S_places S_fixes V_lostCount V_bytes V_lost P_lost P_current H locs ls h hP hD hS (lv_sub hl [] rfl)
  obtain ⟨H, hH⟩ : ∃ H : Heap, H = s.heap := ⟨_, rfl⟩
  obtain ⟨locs, hlo⟩ : ∃ x : List Loc, x = [] := ⟨_, rfl⟩
  have hS : va_S A s.heap H locs := by rw [hH, hlo]; exact hS
  rw [← hH] at hP
  rw [← hlo]
  show W p l e rm_St_mendStripe s m args below meth c s.heap locs 0 0 Q (F0 m 0 ls [])
  rw [← hH]
  refine lv_aload_n hx hb d_St_mendStripe_0 rfl (lv_at hl 0 rfl) ?_
  refine lv_iload_n hx hb d_St_mendStripe_1 rfl (lv_at hl 1 rfl) ?_
  refine mt_v (va_runV (As := [.int p1]) (rest := []) ⟨hx, hb, hml, hown, hts⟩ (ct_St_loadStripe l dC dI aV aF aV_bytes aV_lost aV_factors aP aP_block aP_original aP_lost aP_current cI cZ V_lostCount V_data V_repairs V_first V_bytes V_lost P_size P_stripes P_sentCount P_lost P_current p1 _ h _) (tb_cV hts ok_St_loadStripe tb_563 rfl rfl ⟨Nat.le_of_ble_eq_true rfl, Nat.le_of_ble_eq_true rfl⟩) (mt_preV hK hP hD [.int p1] [11, 12, 13, 14, 15, 16] rfl (by decide) (ci := 4) (q0 := 14) rfl rfl) rfl rfl hl.1 rfl (lv_room (Nat.le_of_ble_eq_true rfl)) d_St_mendStripe_2 ⟨Nat.zero_le _, Nat.zero_le _⟩) hP hD hS hA [11, 12, 13, 14, 15, 16] rfl (fun _ => rfl) (fun u H locs h hP hD hS => ?_)
  obtain ⟨V_lostCount_2, V_bytes_2, V_lost_2⟩ := u
  have hP : va_P (dC, dI) vwCl (wd_St_mendStripe aF aF_powers aF_logs aS aS_syndromes aS_locator aS_helper aS_kept aS_evaluator aS_places aS_fixes aV aV_bytes aV_lost aV_factors aP aP_block aP_original aP_lost aP_current cI cZ F_powers F_logs S_found S_syndromes S_locator S_helper S_kept S_evaluator S_places S_fixes V_lostCount_2 V_data V_repairs V_first V_bytes_2 V_lost_2 P_size P_stripes P_sentCount P_lost P_current) H := hP
  have hD : va_D A (wd_St_mendStripe aF aF_powers aF_logs aS aS_syndromes aS_locator aS_helper aS_kept aS_evaluator aS_places aS_fixes aV aV_bytes aV_lost aV_factors aP aP_block aP_original aP_lost aP_current cI cZ F_powers F_logs S_found S_syndromes S_locator S_helper S_kept S_evaluator S_places S_fixes V_lostCount_2 V_data V_repairs V_first V_bytes_2 V_lost_2 P_size P_stripes P_sentCount P_lost P_current) := hD
  refine lv_aload_n hx hb d_St_mendStripe_5 rfl (lv_at hl 2 rfl) ?_
  refine lv_aload_n hx hb d_St_mendStripe_6 rfl (lv_at hl 0 rfl) ?_
  refine va_get (D := (dC, dI)) (ci := 4) (v := .ref aV) (C := "ReedSets$Striped") (T := T_St) (N := 8) hx hb hts in_St hown hK hP 14 rfl rfl 3 (by decide) (hts _ tb_207) (fun _ h9 => h9) rfl d_St_mendStripe_7 ?_
  refine mt_i (va_runV (As := [.ref aV]) (rest := []) ⟨hx, hb, hml, hown, hts⟩ (ct_So_solve l dC dI aF aF_powers aF_logs aV aV_bytes aV_lost aV_factors aS aS_syndromes aS_locator aS_helper aS_kept aS_evaluator aS_places aS_fixes cI cZ F_powers F_logs V_lostCount_2 V_data V_repairs V_first V_bytes_2 V_lost_2 S_found S_syndromes S_locator S_helper S_kept S_evaluator S_places S_fixes _ h _) (tb_cV hts ok_So_solve tb_572 rfl rfl ⟨Nat.le_of_ble_eq_true rfl, Nat.le_of_ble_eq_true rfl⟩) (mt_preV hK hP hD [.ref aV] [0, 1, 2, 11, 12, 13, 3, 4, 5, 6, 7, 8, 9, 10] rfl (by decide) (ci := 3) (q0 := 3) rfl rfl) rfl rfl hl.1 rfl (lv_room (Nat.le_of_ble_eq_true rfl)) d_St_mendStripe_10 ⟨Nat.zero_le _, Nat.zero_le _⟩) hP hD hS hA [0, 1, 2, 11, 12, 13, 3, 4, 5, 6, 7, 8, 9, 10] rfl (fun _ => rfl) (fun r_10 u H locs h hP hD hS => ?_)
  obtain ⟨S_found_10, S_syndromes_10, S_locator_10, S_helper_10, S_kept_10, S_evaluator_10, S_places_10, S_fixes_10⟩ := u
  have hP : va_P (dC, dI) vwCl (wd_St_mendStripe aF aF_powers aF_logs aS aS_syndromes aS_locator aS_helper aS_kept aS_evaluator aS_places aS_fixes aV aV_bytes aV_lost aV_factors aP aP_block aP_original aP_lost aP_current cI cZ F_powers F_logs S_found_10 S_syndromes_10 S_locator_10 S_helper_10 S_kept_10 S_evaluator_10 S_places_10 S_fixes_10 V_lostCount_2 V_data V_repairs V_first V_bytes_2 V_lost_2 P_size P_stripes P_sentCount P_lost P_current) H := hP
  have hD : va_D A (wd_St_mendStripe aF aF_powers aF_logs aS aS_syndromes aS_locator aS_helper aS_kept aS_evaluator aS_places aS_fixes aV aV_bytes aV_lost aV_factors aP aP_block aP_original aP_lost aP_current cI cZ F_powers F_logs S_found_10 S_syndromes_10 S_locator_10 S_helper_10 S_kept_10 S_evaluator_10 S_places_10 S_fixes_10 V_lostCount_2 V_data V_repairs V_first V_bytes_2 V_lost_2 P_size P_stripes P_sentCount P_lost P_current) := hD
  refine lv_istore_n (lv' := [(3, .int r_10), (0, .ref aP), (1, .int p1), (2, .ref aS)]) hx hb d_St_mendStripe_13 rfl hl (by decide) rfl (fun ls hl => ?_)
  refine lv_aload_n hx hb d_St_mendStripe_14 rfl (lv_at hl 1 rfl) ?_
  refine va_get (D := (dC, dI)) (ci := 4) (v := .ref aV) (C := "ReedSets$Striped") (T := T_St) (N := 8) hx hb hts in_St hown hK hP 14 rfl rfl 3 (by decide) (hts _ tb_207) (fun _ h9 => h9) rfl d_St_mendStripe_15 ?_
  refine va_get (D := (dC, dI)) (ci := 5) (v := .int V_data) (C := "ReedSets$Word") (T := T_Wo) (N := 8) hx hb hts in_Wo hown hK hP 11 rfl rfl 5 (by decide) (hts _ tb_116) (fun _ h9 => h9) rfl d_St_mendStripe_18 ?_
  refine lv_iconst (v := (1 : Int32)) hx hb d_St_mendStripe_21 (by decide) ?_
  refine lv_isub hx hb d_St_mendStripe_22 ?_
  refine lv_topi (fun x4_23 ex4_23 => ?_)
  have h := h x4_23 ex4_23
  refine lv_istore (lv' := [(4, .int x4_23), (3, .int r_10), (0, .ref aP), (1, .int p1), (2, .ref aS)]) hx hb d_St_mendStripe_23 hl (by decide) rfl (fun ls hl => ?_)
  refine lv_aload_n hx hb d_St_mendStripe_25 rfl (lv_at hl 2 rfl) ?_
  refine lv_iload_n hx hb d_St_mendStripe_26 rfl (lv_at hl 3 rfl) ?_
  refine lv_iload hx hb d_St_mendStripe_27 (lv_at hl 0 rfl) ?_
  refine mt_i (va_runV (As := [.int p1, .int x4_23]) (rest := []) ⟨hx, hb, hml, hown, hts⟩ (ct_St_slotOf l dC dI aV aF aV_bytes aV_lost aV_factors aP aP_block aP_original aP_lost aP_current cI cZ V_lostCount_2 V_data V_repairs V_first P_size P_stripes P_sentCount p1 x4_23 _ h _) (tb_cV hts ok_St_slotOf tb_521 rfl rfl ⟨Nat.le_of_ble_eq_true rfl, Nat.le_of_ble_eq_true rfl⟩) (mt_preV hK hP hD [.int p1, .int x4_23] [11, 14] rfl (by decide) (ci := 4) (q0 := 14) rfl rfl) rfl rfl hl.1 rfl (lv_room (Nat.le_of_ble_eq_true rfl)) d_St_mendStripe_29 ⟨Nat.zero_le _, Nat.zero_le _⟩) hP hD hS hA [11, 14] rfl (fun _ => rfl) (fun r_29 u H locs h hP hD hS => ?_)
  have hP : va_P (dC, dI) vwCl (wd_St_mendStripe aF aF_powers aF_logs aS aS_syndromes aS_locator aS_helper aS_kept aS_evaluator aS_places aS_fixes aV aV_bytes aV_lost aV_factors aP aP_block aP_original aP_lost aP_current cI cZ F_powers F_logs S_found_10 S_syndromes_10 S_locator_10 S_helper_10 S_kept_10 S_evaluator_10 S_places_10 S_fixes_10 V_lostCount_2 V_data V_repairs V_first V_bytes_2 V_lost_2 P_size P_stripes P_sentCount P_lost P_current) H := hP
  have hD : va_D A (wd_St_mendStripe aF aF_powers aF_logs aS aS_syndromes aS_locator aS_helper aS_kept aS_evaluator aS_places aS_fixes aV aV_bytes aV_lost aV_factors aP aP_block aP_original aP_lost aP_current cI cZ F_powers F_logs S_found_10 S_syndromes_10 S_locator_10 S_helper_10 S_kept_10 S_evaluator_10 S_places_10 S_fixes_10 V_lostCount_2 V_data V_repairs V_first V_bytes_2 V_lost_2 P_size P_stripes P_sentCount P_lost P_current) := hD
  refine lv_iconst (v := (-1 : Int32)) hx hb d_St_mendStripe_32 (by decide) ?_
  refine lv_icmp_ne (tgt := 40) hx hb d_St_mendStripe_33 (by decide) (fun g33 => ?_) (fun g33 => ?_)
  · have h := h.1 g33
    refine lv_iconst (v := (0 : Int32)) hx hb d_St_mendStripe_40 (by decide) ?_
    exact B41  S_found_10 S_syndromes_10 S_locator_10 S_helper_10 S_kept_10 S_evaluator_10 S_places_10 S_fixes_10 V_lostCount_2 V_bytes_2 V_lost_2 P_lost P_current p1 r_10 x4_23 (0 : Int32) H locs ls h hP hD hS (lv_sub hl [2, 3, 4, 1, 0] rfl)
  · have h := h.2 g33
    refine lv_iconst (v := (1 : Int32)) hx hb d_St_mendStripe_36 (by decide) ?_
    refine lv_goto (tgt := 41) hx hb d_St_mendStripe_37 (by decide) ?_
    exact B41  S_found_10 S_syndromes_10 S_locator_10 S_helper_10 S_kept_10 S_evaluator_10 S_places_10 S_fixes_10 V_lostCount_2 V_bytes_2 V_lost_2 P_lost P_current p1 r_10 x4_23 (1 : Int32) H locs ls h hP hD hS (lv_sub hl [2, 3, 4, 1, 0] rfl)
