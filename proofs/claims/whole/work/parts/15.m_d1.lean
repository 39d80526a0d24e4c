abbrev wd_Sh_start (aH aF aH_values aH_base aH_weights aH_parts aH_told : Nat) (cI cZ : ClassId) (H_lastApart : Int32) (H_needed : Int32) (H_width : Int32) (H_count : Int32) (H_told : Nat → Int32) : va_W := [(aH, .inr (2, [.ref aF, .ref aH_values, .ref aH_base, .ref aH_weights, .ref aH_parts, .int H_lastApart, .int H_needed, .int H_width, .ref aH_told, .int H_count])), (aH_told, .inl (cZ, 256, .inl H_told))]
def wp_Sh_start_b17  (post : Int32 → Int32 → Int32 → (Nat → Int32) → Prop) (K17 : Int32 → Int32 → Int32 → (Nat → Int32) → Int32 → Prop) (H_needed : Int32) (H_width : Int32) (H_count : Int32) (H_told : Nat → Int32) (x3 : Int32) : Prop := ((256 : Int32) ≤ x3 → (post H_needed H_width H_count H_told)) ∧ (¬ (256 : Int32) ≤ x3 → (vp_in x3 256 ∧ (∀ x3_31 : Int32, x3_31 = (x3 + (1 : Int32)) → (K17 H_needed H_width H_count (upd H_told x3.toNatClampNeg (0 : Int32)) x3_31))))
def wp_Sh_start_L17  (post : Int32 → Int32 → Int32 → (Nat → Int32) → Prop)  : Nat → Int32 → Int32 → Int32 → (Nat → Int32) → Int32 → Prop
  | 0 => fun _ _ _ _ _ => False
  | n + 1 => wp_Sh_start_b17 post (wp_Sh_start_L17 post n)
def wp_Sh_start (H_needed : Int32) (H_width : Int32) (H_count : Int32) (H_told : Nat → Int32) (p1 : Int32) (p2 : Int32) (post : Int32 → Int32 → Int32 → (Nat → Int32) → Prop) : Prop := ∃ n : Nat, wp_Sh_start_L17 post  n p1 p2 (0 : Int32) H_told (0 : Int32)
abbrev rm_Sh_start : Room := { frames := 0, cells := 0, slots := 0, locals := 0 }
set_option maxHeartbeats 4000000 in
set_option maxRecDepth 100000 in
theorem ct_Sh_start (l : Launch) (dC : Nat → ClassId) (dI : Nat → Nat → Nat) (aH aF aH_values aH_base aH_weights aH_parts aH_told : Nat) (cI cZ : ClassId) (H_lastApart : Int32) (H_needed : Int32) (H_width : Int32) (H_count : Int32) (H_told : Nat → Int32) (p1 : Int32) (p2 : Int32) (post : Int32 → Int32 → Int32 → (Nat → Int32) → Prop) (h : wp_Sh_start H_needed H_width H_count H_told p1 p2 post) (sz : Nat) : Met l y_Sh_start (Cond.code y_Sh_start c_Sh_start 4 none :: tb) rm_Sh_start (mt_P (dC, dI) vwCl [(cI, .int), (cZ, .boolean)] [.ref aH, .int p1, .int p2] (wd_Sh_start aH aF aH_values aH_base aH_weights aH_parts aH_told cI cZ H_lastApart H_needed H_width H_count H_told) sz) (va_Qv (fun (u : Int32 × Int32 × Int32 × (Nat → Int32)) => post u.1 u.2.1 u.2.2.1 u.2.2.2) (mt_B (dC, dI) vwCl [(cI, .int), (cZ, .boolean)] (wd_Sh_start aH aF aH_values aH_base aH_weights aH_parts aH_told cI cZ H_lastApart H_needed H_width H_count H_told) sz (fun u : Int32 × Int32 × Int32 × (Nat → Int32) => wd_Sh_start aH aF aH_values aH_base aH_weights aH_parts aH_told cI cZ H_lastApart u.1 u.2.1 u.2.2.1 u.2.2.2)) (va_A (wd_Sh_start aH aF aH_values aH_base aH_weights aH_parts aH_told cI cZ H_lastApart H_needed H_width H_count H_told) sz)) 0 0 (va_A (wd_Sh_start aH aF aH_values aH_base aH_weights aH_parts aH_told cI cZ H_lastApart H_needed H_width H_count H_told) sz) := by
  refine mt_bd (by decide +kernel) (Nat.le_of_ble_eq_true rfl) ?_
  intro p e s m args below meth c hx hb hml hown hts hr hlk hnm hsz hP hK hD hA hS ls hl
  subst hsz
  have hown : s.vm.findClass "ReedSets$Sharing" = some m.cls := hown
  have hl : lv_has ls 4 [(0, .ref aH), (1, .int p1), (2, .int p2)] := hl
  refine lz_Q (fun Q hQ => ?_)
  obtain ⟨A, hAe⟩ : ∃ A : Nat → Prop, A = va_A (wd_Sh_start aH aF aH_values aH_base aH_weights aH_parts aH_told cI cZ H_lastApart H_needed H_width H_count H_told) s.heap.size := ⟨_, rfl⟩
  rw [← hAe] at hD hA hS
  have RET : ∀ (H_needed : Int32) (H_width : Int32) (H_count : Int32) (H_told : Nat → Int32) (H : Heap) (locs : List Loc) (ls : Array Slot) (pc : Nat), decode c_Sh_start pc = .ok (.return_, 1) → post H_needed H_width H_count H_told → va_P (dC, dI) vwCl (wd_Sh_start aH aF aH_values aH_base aH_weights aH_parts aH_told cI cZ H_lastApart H_needed H_width H_count H_told) H → va_D A (wd_Sh_start aH aF aH_values aH_base aH_weights aH_parts aH_told cI cZ H_lastApart H_needed H_width H_count H_told) → va_S A s.heap H locs → W p l e rm_Sh_start s m args below meth c H locs 0 0 Q (F0 m pc ls []) := by
    intro H_needed H_width H_count H_told H locs ls pc hd hp h1 h2 h3
    rw [hQ]
    rw [hAe] at h2 h3
    exact mt_retv (H_needed, H_width, H_count, H_told) hx hb hr hlk hd hK h1 h2 h3 hp
  have B17 : ∀ (K17 : Int32 → Int32 → Int32 → (Nat → Int32) → Int32 → Prop) (HK17 : ∀ (H_needed : Int32) (H_width : Int32) (H_count : Int32) (H_told : Nat → Int32) (x3 : Int32) (H : Heap) (locs : List Loc) (ls : Array Slot), K17 H_needed H_width H_count H_told x3 → va_P (dC, dI) vwCl (wd_Sh_start aH aF aH_values aH_base aH_weights aH_parts aH_told cI cZ H_lastApart H_needed H_width H_count H_told) H → va_D A (wd_Sh_start aH aF aH_values aH_base aH_weights aH_parts aH_told cI cZ H_lastApart H_needed H_width H_count H_told) → va_S A s.heap H locs → lv_has ls 4 [(0, .ref aH), (3, .int x3)] → W p l e rm_Sh_start s m args below meth c H locs 0 0 Q (F0 m 17 ls [])), ∀ (H_needed : Int32) (H_width : Int32) (H_count : Int32) (H_told : Nat → Int32) (x3 : Int32) (H : Heap) (locs : List Loc) (ls : Array Slot), wp_Sh_start_b17 post K17 H_needed H_width H_count H_told x3 → va_P (dC, dI) vwCl (wd_Sh_start aH aF aH_values aH_base aH_weights aH_parts aH_told cI cZ H_lastApart H_needed H_width H_count H_told) H → va_D A (wd_Sh_start aH aF aH_values aH_base aH_weights aH_parts aH_told cI cZ H_lastApart H_needed H_width H_count H_told) → va_S A s.heap H locs → lv_has ls 4 [(0, .ref aH), (3, .int x3)] → W p l e rm_Sh_start s m args below meth c H locs 0 0 Q (F0 m 17 ls []) := by
    intro K17 HK17 H_needed H_width H_count H_told x3 H locs ls h hP hD hS hl
    refine lv_iload_n hx hb d_Sh_start_17 rfl (lv_at hl 1 rfl) ?_
    refine lv_sipush (v := (256 : Int32)) hx hb d_Sh_start_18 (by decide) ?_
    refine lv_icmp_ge (tgt := 37) hx hb d_Sh_start_21 (by decide) (fun g21 => ?_) (fun g21 => ?_)
    · have h := h.1 g21
      exact RET H_needed H_width H_count H_told H locs ls 37 d_Sh_start_37 h hP hD hS
    · have h := h.2 g21
      refine lv_aload_n hx hb d_Sh_start_24 rfl (lv_at hl 0 rfl) ?_
      refine va_get (D := (dC, dI)) (ci := 2) (v := .ref aH_told) (C := "ReedSets$Sharing") (T := T_Sh) (N := 10) hx hb hts in_Sh hown hK hP 0 rfl rfl 8 (by decide) (hts _ tb_250) (fun _ h9 => h9) rfl d_Sh_start_25 ?_
      refine lv_iload_n hx hb d_Sh_start_28 rfl (lv_at hl 1 rfl) ?_
      refine lv_iconst (v := (0 : Int32)) hx hb d_Sh_start_29 (by decide) ?_
      obtain ⟨hi, h⟩ := h
      refine va_zast hx hb hK hP hD hS 1 1 rfl rfl hi d_Sh_start_30 (fun H locs hP hD hS => ?_)
      have hP : va_P (dC, dI) vwCl (wd_Sh_start aH aF aH_values aH_base aH_weights aH_parts aH_told cI cZ H_lastApart H_needed H_width H_count (upd H_told x3.toNatClampNeg (0 : Int32))) H := hP
      have hD : va_D A (wd_Sh_start aH aF aH_values aH_base aH_weights aH_parts aH_told cI cZ H_lastApart H_needed H_width H_count (upd H_told x3.toNatClampNeg (0 : Int32))) := hD
      obtain ⟨x3_31, ex3_31⟩ : ∃ y : Int32, y = (x3 + (1 : Int32)) := ⟨_, rfl⟩
      have h := h x3_31 ex3_31
      refine lv_iinc (v := x3_31) (lv' := [(3, .int x3_31), (0, .ref aH)]) hx hb d_Sh_start_31 hl (k := 1) rfl (by rw [ex3_31]; rfl) (by decide) rfl (fun ls hl => ?_)
      refine lv_goto (tgt := 17) hx hb d_Sh_start_34 (by decide) ?_
      exact HK17 H_needed H_width H_count (upd H_told x3.toNatClampNeg (0 : Int32)) x3_31 H locs ls h hP hD hS (lv_sub hl [1, 0] rfl)
  have L17 : ∀  (n : Nat), ∀ (H_needed : Int32) (H_width : Int32) (H_count : Int32) (H_told : Nat → Int32) (x3 : Int32) (H : Heap) (locs : List Loc) (ls : Array Slot), wp_Sh_start_L17 post  n H_needed H_width H_count H_told x3 → va_P (dC, dI) vwCl (wd_Sh_start aH aF aH_values aH_base aH_weights aH_parts aH_told cI cZ H_lastApart H_needed H_width H_count H_told) H → va_D A (wd_Sh_start aH aF aH_values aH_base aH_weights aH_parts aH_told cI cZ H_lastApart H_needed H_width H_count H_told) → va_S A s.heap H locs → lv_has ls 4 [(0, .ref aH), (3, .int x3)] → W p l e rm_Sh_start s m args below meth c H locs 0 0 Q (F0 m 17 ls []) := by
    intro  n
    induction n with
    | zero => intro H_needed H_width H_count H_told x3 H locs ls h hP hD hS hl; exact False.elim h
    | succ n ih => intro H_needed H_width H_count H_told x3 H locs ls h hP hD hS hl; exact B17  (wp_Sh_start_L17 post  n) ih H_needed H_width H_count H_told x3 H locs ls h hP hD hS hl
  obtain ⟨H, hH⟩ : ∃ H : Heap, H = s.heap := ⟨_, rfl⟩
  obtain ⟨locs, hlo⟩ : ∃ x : List Loc, x = [] := ⟨_, rfl⟩
  have hS : va_S A s.heap H locs := by rw [hH, hlo]; exact hS
  rw [← hH] at hP
  rw [← hlo]
  show W p l e rm_Sh_start s m args below meth c s.heap locs 0 0 Q (F0 m 0 ls [])
  rw [← hH]
  refine lv_aload_n hx hb d_Sh_start_0 rfl (lv_at hl 0 rfl) ?_
  refine lv_iload_n hx hb d_Sh_start_1 rfl (lv_at hl 1 rfl) ?_
  refine va_put (D := (dC, dI)) (ci := 2) (v := .int p1) (ty := .int) (C := "ReedSets$Sharing") (T := T_Sh) (N := 10) hx hb hts in_Sh ty_Sh tk_Sh nm_Sh hown hK hP hD hS 0 rfl rfl 6 (by decide) (hts _ tb_248) (fun _ h9 => h9) rfl (by decide +kernel) rfl rfl (Nat.le_of_ble_eq_true rfl) d_Sh_start_2 (fun H locs hP hD hS => ?_)
  have hP : va_P (dC, dI) vwCl (wd_Sh_start aH aF aH_values aH_base aH_weights aH_parts aH_told cI cZ H_lastApart p1 H_width H_count H_told) H := hP
  have hD : va_D A (wd_Sh_start aH aF aH_values aH_base aH_weights aH_parts aH_told cI cZ H_lastApart p1 H_width H_count H_told) := hD
  refine lv_aload_n hx hb d_Sh_start_5 rfl (lv_at hl 0 rfl) ?_
  refine lv_iload_n hx hb d_Sh_start_6 rfl (lv_at hl 2 rfl) ?_
  refine va_put (D := (dC, dI)) (ci := 2) (v := .int p2) (ty := .int) (C := "ReedSets$Sharing") (T := T_Sh) (N := 10) hx hb hts in_Sh ty_Sh tk_Sh nm_Sh hown hK hP hD hS 0 rfl rfl 7 (by decide) (hts _ tb_249) (fun _ h9 => h9) rfl (by decide +kernel) rfl rfl (Nat.le_of_ble_eq_true rfl) d_Sh_start_7 (fun H locs hP hD hS => ?_)
  have hP : va_P (dC, dI) vwCl (wd_Sh_start aH aF aH_values aH_base aH_weights aH_parts aH_told cI cZ H_lastApart p1 p2 H_count H_told) H := hP
  have hD : va_D A (wd_Sh_start aH aF aH_values aH_base aH_weights aH_parts aH_told cI cZ H_lastApart p1 p2 H_count H_told) := hD
  refine lv_aload_n hx hb d_Sh_start_10 rfl (lv_at hl 0 rfl) ?_
  refine lv_iconst (v := (0 : Int32)) hx hb d_Sh_start_11 (by decide) ?_
  refine va_put (D := (dC, dI)) (ci := 2) (v := .int (0 : Int32)) (ty := .int) (C := "ReedSets$Sharing") (T := T_Sh) (N := 10) hx hb hts in_Sh ty_Sh tk_Sh nm_Sh hown hK hP hD hS 0 rfl rfl 9 (by decide) (hts _ tb_252) (fun _ h9 => h9) rfl (by decide +kernel) rfl rfl (Nat.le_of_ble_eq_true rfl) d_Sh_start_12 (fun H locs hP hD hS => ?_)
  have hP : va_P (dC, dI) vwCl (wd_Sh_start aH aF aH_values aH_base aH_weights aH_parts aH_told cI cZ H_lastApart p1 p2 (0 : Int32) H_told) H := hP
  have hD : va_D A (wd_Sh_start aH aF aH_values aH_base aH_weights aH_parts aH_told cI cZ H_lastApart p1 p2 (0 : Int32) H_told) := hD
  refine lv_iconst (v := (0 : Int32)) hx hb d_Sh_start_15 (by decide) ?_
  refine lv_istore_n (lv' := [(3, .int (0 : Int32)), (0, .ref aH), (1, .int p1), (2, .int p2)]) hx hb d_Sh_start_16 rfl hl (by decide) rfl (fun ls hl => ?_)
  obtain ⟨n, h⟩ := h
  exact L17  n p1 p2 (0 : Int32) H_told (0 : Int32) H locs ls h hP hD hS (lv_sub hl [1, 0] rfl)
abbrev wd_Sh_hasPlace (aH aF aH_values aH_base aH_weights aH_parts aH_told : Nat) (cI cZ : ClassId) (H_lastApart : Int32) (H_needed : Int32) (H_width : Int32) (H_count : Int32) : va_W := [(aH, .inr (2, [.ref aF, .ref aH_values, .ref aH_base, .ref aH_weights, .ref aH_parts, .int H_lastApart, .int H_needed, .int H_width, .ref aH_told, .int H_count]))]
def wp_Sh_hasPlace_b17 (H_width : Int32) (post : Int32 → Prop)  (t0 : Int32) : Prop := narrow .boolean (.int t0) = .int t0 ∧ (post t0)
def wp_Sh_hasPlace_b16 (H_width : Int32) (post : Int32 → Prop)   : Prop := wp_Sh_hasPlace_b17 H_width post  (0 : Int32)
def wp_Sh_hasPlace (H_width : Int32) (p1 : Int32) (post : Int32 → Prop) : Prop := (p1 < 0 → (wp_Sh_hasPlace_b16 H_width post  )) ∧ (¬ p1 < 0 → ((H_width ≤ p1 → (wp_Sh_hasPlace_b16 H_width post  )) ∧ (¬ H_width ≤ p1 → (wp_Sh_hasPlace_b17 H_width post  (1 : Int32)))))
abbrev rm_Sh_hasPlace : Room := { frames := 0, cells := 0, slots := 0, locals := 0 }
set_option maxHeartbeats 4000000 in
set_option maxRecDepth 100000 in
theorem ct_Sh_hasPlace (l : Launch) (dC : Nat → ClassId) (dI : Nat → Nat → Nat) (aH aF aH_values aH_base aH_weights aH_parts aH_told : Nat) (cI cZ : ClassId) (H_lastApart : Int32) (H_needed : Int32) (H_width : Int32) (H_count : Int32) (p1 : Int32) (post : Int32 → Prop) (h : wp_Sh_hasPlace H_width p1 post) (sz : Nat) : Met l y_Sh_hasPlace (Cond.code y_Sh_hasPlace c_Sh_hasPlace 2 (some .boolean) :: tb) rm_Sh_hasPlace (mt_P (dC, dI) vwCl [(cI, .int), (cZ, .boolean)] [.ref aH, .int p1] (wd_Sh_hasPlace aH aF aH_values aH_base aH_weights aH_parts aH_told cI cZ H_lastApart H_needed H_width H_count) sz) (va_Qi (fun (r : Int32) (u : Unit) => post r) (mt_B (dC, dI) vwCl [(cI, .int), (cZ, .boolean)] (wd_Sh_hasPlace aH aF aH_values aH_base aH_weights aH_parts aH_told cI cZ H_lastApart H_needed H_width H_count) sz (fun u : Unit => wd_Sh_hasPlace aH aF aH_values aH_base aH_weights aH_parts aH_told cI cZ H_lastApart H_needed H_width H_count)) (va_A (wd_Sh_hasPlace aH aF aH_values aH_base aH_weights aH_parts aH_told cI cZ H_lastApart H_needed H_width H_count) sz)) 0 0 (va_A (wd_Sh_hasPlace aH aF aH_values aH_base aH_weights aH_parts aH_told cI cZ H_lastApart H_needed H_width H_count) sz) := by
  refine mt_bd (by decide +kernel) (Nat.le_of_ble_eq_true rfl) ?_
  intro p e s m args below meth c hx hb hml hown hts hr hlk hnm hsz hP hK hD hA hS ls hl
  subst hsz
  have hown : s.vm.findClass "ReedSets$Sharing" = some m.cls := hown
  have hl : lv_has ls 2 [(0, .ref aH), (1, .int p1)] := hl
  refine lz_Q (fun Q hQ => ?_)
  obtain ⟨A, hAe⟩ : ∃ A : Nat → Prop, A = va_A (wd_Sh_hasPlace aH aF aH_values aH_base aH_weights aH_parts aH_told cI cZ H_lastApart H_needed H_width H_count) s.heap.size := ⟨_, rfl⟩
  rw [← hAe] at hD hA hS
  have RET : ∀ (v : Int32)  (H : Heap) (locs : List Loc) (ls : Array Slot) (pc : Nat), decode c_Sh_hasPlace pc = .ok (.ireturn, 1) → narrow .boolean (.int v) = .int v → post v  → va_P (dC, dI) vwCl (wd_Sh_hasPlace aH aF aH_values aH_base aH_weights aH_parts aH_told cI cZ H_lastApart H_needed H_width H_count) H → va_D A (wd_Sh_hasPlace aH aF aH_values aH_base aH_weights aH_parts aH_told cI cZ H_lastApart H_needed H_width H_count) → va_S A s.heap H locs → W p l e rm_Sh_hasPlace s m args below meth c H locs 0 0 Q (F0 m pc ls [.int v]) := by
    intro v  H locs ls pc hd hz hp h1 h2 h3
    rw [hQ]
    rw [hAe] at h2 h3
    exact mt_retz () hx hb hr hlk hd hK h1 h2 h3 hz hp
  have B17 : ∀ (t0 : Int32) (H : Heap) (locs : List Loc) (ls : Array Slot), wp_Sh_hasPlace_b17 H_width post  t0 → va_P (dC, dI) vwCl (wd_Sh_hasPlace aH aF aH_values aH_base aH_weights aH_parts aH_told cI cZ H_lastApart H_needed H_width H_count) H → va_D A (wd_Sh_hasPlace aH aF aH_values aH_base aH_weights aH_parts aH_told cI cZ H_lastApart H_needed H_width H_count) → va_S A s.heap H locs → lv_has ls 2 [] → W p l e rm_Sh_hasPlace s m args below meth c H locs 0 0 Q (F0 m 17 ls [.int t0]) := by
    intro  t0 H locs ls h hP hD hS hl
    obtain ⟨hz, h⟩ := h
    exact RET t0 H locs ls 17 d_Sh_hasPlace_17 hz h hP hD hS
  have B16 : ∀  (H : Heap) (locs : List Loc) (ls : Array Slot), wp_Sh_hasPlace_b16 H_width post   → va_P (dC, dI) vwCl (wd_Sh_hasPlace aH aF aH_values aH_base aH_weights aH_parts aH_told cI cZ H_lastApart H_needed H_width H_count) H → va_D A (wd_Sh_hasPlace aH aF aH_values aH_base aH_weights aH_parts aH_told cI cZ H_lastApart H_needed H_width H_count) → va_S A s.heap H locs → lv_has ls 2 [] → W p l e rm_Sh_hasPlace s m args below meth c H locs 0 0 Q (F0 m 16 ls []) := by
    intro   H locs ls h hP hD hS hl
    refine lv_iconst (v := (0 : Int32)) hx hb d_Sh_hasPlace_16 (by decide) ?_
    exact B17  (0 : Int32) H locs ls h hP hD hS (lv_sub hl [] rfl)
  obtain ⟨H, hH⟩ : ∃ H : Heap, H = s.heap := ⟨_, rfl⟩
  obtain ⟨locs, hlo⟩ : ∃ x : List Loc, x = [] := ⟨_, rfl⟩
  have hS : va_S A s.heap H locs := by rw [hH, hlo]; exact hS
  rw [← hH] at hP
  rw [← hlo]
  show W p l e rm_Sh_hasPlace s m args below meth c s.heap locs 0 0 Q (F0 m 0 ls [])
  rw [← hH]
  refine lv_iload_n hx hb d_Sh_hasPlace_0 rfl (lv_at hl 1 rfl) ?_
  refine lv_if_lt (tgt := 16) hx hb d_Sh_hasPlace_1 (by decide) (fun g1 => ?_) (fun g1 => ?_)
  · have h := h.1 g1
    exact B16   H locs ls h hP hD hS (lv_sub hl [] rfl)
  · have h := h.2 g1
    refine lv_iload_n hx hb d_Sh_hasPlace_4 rfl (lv_at hl 1 rfl) ?_
    refine lv_aload_n hx hb d_Sh_hasPlace_5 rfl (lv_at hl 0 rfl) ?_
    refine va_get (D := (dC, dI)) (ci := 2) (v := .int H_width) (C := "ReedSets$Sharing") (T := T_Sh) (N := 10) hx hb hts in_Sh hown hK hP 0 rfl rfl 7 (by decide) (hts _ tb_249) (fun _ h9 => h9) rfl d_Sh_hasPlace_6 ?_
    refine lv_icmp_ge (tgt := 16) hx hb d_Sh_hasPlace_9 (by decide) (fun g9 => ?_) (fun g9 => ?_)
    · have h := h.1 g9
      exact B16   H locs ls h hP hD hS (lv_sub hl [] rfl)
    · have h := h.2 g9
      refine lv_iconst (v := (1 : Int32)) hx hb d_Sh_hasPlace_12 (by decide) ?_
      refine lv_goto (tgt := 17) hx hb d_Sh_hasPlace_13 (by decide) ?_
      exact B17  (1 : Int32) H locs ls h hP hD hS (lv_sub hl [] rfl)
abbrev wd_Sh_tell (aH aF aH_values aH_base aH_weights aH_parts aH_told : Nat) (cI cZ : ClassId) (H_lastApart : Int32) (H_needed : Int32) (H_width : Int32) (H_count : Int32) (H_values : Nat → Int32) (H_told : Nat → Int32) : va_W := [(aH, .inr (2, [.ref aF, .ref aH_values, .ref aH_base, .ref aH_weights, .ref aH_parts, .int H_lastApart, .int H_needed, .int H_width, .ref aH_told, .int H_count])), (aH_values, .inl (cI, 4096, .inl H_values)), (aH_told, .inl (cZ, 256, .inl H_told))]
def wp_Sh_tell_b47  (post : Int32 → (Nat → Int32) → (Nat → Int32) → Prop)  (H_count : Int32) (H_values : Nat → Int32) (H_told : Nat → Int32) (x2 : Int32) (x3 : Int32) (x4 : Int32) : Prop := vp_in (x4 + x2) 4096 ∧ (post H_count (upd H_values (x4 + x2).toNatClampNeg x3) H_told)
def wp_Sh_tell (H_count : Int32) (H_values : Nat → Int32) (H_told : Nat → Int32) (p1 : Int32) (p2 : Int32) (p3 : Int32) (post : Int32 → (Nat → Int32) → (Nat → Int32) → Prop) : Prop := ∀ x4_4 : Int32, x4_4 = (p1 * (16 : Int32)) → (vp_in p1 256 ∧ ((¬ (H_told p1.toNatClampNeg) = 0 → (wp_Sh_tell_b47 post  H_count H_values H_told p2 p3 x4_4)) ∧ ((H_told p1.toNatClampNeg) = 0 → (wp_Arr_fill4 4096 H_values x4_4 (x4_4 + (16 : Int32)) (0 : Int32) (fun H_values_27 => (vp_in p1 256 ∧ (∀ y_44 : Int32, y_44 = (H_count + (1 : Int32)) → (wp_Sh_tell_b47 post  y_44 H_values_27 (upd H_told p1.toNatClampNeg (1 : Int32)) p2 p3 x4_4))))))))
abbrev rm_Sh_tell : Room := { frames := 2, cells := 0, slots := 0, locals := 46 }
set_option maxHeartbeats 4000000 in
set_option maxRecDepth 100000 in
theorem ct_Sh_tell (l : Launch) (dC : Nat → ClassId) (dI : Nat → Nat → Nat) (aH aF aH_values aH_base aH_weights aH_parts aH_told : Nat) (cI cZ : ClassId) (H_lastApart : Int32) (H_needed : Int32) (H_width : Int32) (H_count : Int32) (H_values : Nat → Int32) (H_told : Nat → Int32) (p1 : Int32) (p2 : Int32) (p3 : Int32) (post : Int32 → (Nat → Int32) → (Nat → Int32) → Prop) (h : wp_Sh_tell H_count H_values H_told p1 p2 p3 post) (sz : Nat) : Met l y_Sh_tell (Cond.code y_Sh_tell c_Sh_tell 5 none :: tb) rm_Sh_tell (mt_P (dC, dI) vwCl [(cI, .int), (cZ, .boolean)] [.ref aH, .int p1, .int p2, .int p3] (wd_Sh_tell aH aF aH_values aH_base aH_weights aH_parts aH_told cI cZ H_lastApart H_needed H_width H_count H_values H_told) sz) (va_Qv (fun (u : Int32 × (Nat → Int32) × (Nat → Int32)) => post u.1 u.2.1 u.2.2) (mt_B (dC, dI) vwCl [(cI, .int), (cZ, .boolean)] (wd_Sh_tell aH aF aH_values aH_base aH_weights aH_parts aH_told cI cZ H_lastApart H_needed H_width H_count H_values H_told) sz (fun u : Int32 × (Nat → Int32) × (Nat → Int32) => wd_Sh_tell aH aF aH_values aH_base aH_weights aH_parts aH_told cI cZ H_lastApart H_needed H_width u.1 u.2.1 u.2.2)) (va_A (wd_Sh_tell aH aF aH_values aH_base aH_weights aH_parts aH_told cI cZ H_lastApart H_needed H_width H_count H_values H_told) sz)) 0 0 (va_A (wd_Sh_tell aH aF aH_values aH_base aH_weights aH_parts aH_told cI cZ H_lastApart H_needed H_width H_count H_values H_told) sz) := by
  refine mt_bd (by decide +kernel) (Nat.le_of_ble_eq_true rfl) ?_
  intro p e s m args below meth c hx hb hml hown hts hr hlk hnm hsz hP hK hD hA hS ls hl
  subst hsz
  have hown : s.vm.findClass "ReedSets$Sharing" = some m.cls := hown
  have hl : lv_has ls 5 [(0, .ref aH), (1, .int p1), (2, .int p2), (3, .int p3)] := hl
  refine lz_Q (fun Q hQ => ?_)
  obtain ⟨A, hAe⟩ : ∃ A : Nat → Prop, A = va_A (wd_Sh_tell aH aF aH_values aH_base aH_weights aH_parts aH_told cI cZ H_lastApart H_needed H_width H_count H_values H_told) s.heap.size := ⟨_, rfl⟩
  rw [← hAe] at hD hA hS
  have RET : ∀ (H_count : Int32) (H_values : Nat → Int32) (H_told : Nat → Int32) (H : Heap) (locs : List Loc) (ls : Array Slot) (pc : Nat), decode c_Sh_tell pc = .ok (.return_, 1) → post H_count H_values H_told → va_P (dC, dI) vwCl (wd_Sh_tell aH aF aH_values aH_base aH_weights aH_parts aH_told cI cZ H_lastApart H_needed H_width H_count H_values H_told) H → va_D A (wd_Sh_tell aH aF aH_values aH_base aH_weights aH_parts aH_told cI cZ H_lastApart H_needed H_width H_count H_values H_told) → va_S A s.heap H locs → W p l e rm_Sh_tell s m args below meth c H locs 0 0 Q (F0 m pc ls []) := by
    intro H_count H_values H_told H locs ls pc hd hp h1 h2 h3
    rw [hQ]
    rw [hAe] at h2 h3
    exact mt_retv (H_count, H_values, H_told) hx hb hr hlk hd hK h1 h2 h3 hp
  have B47 : ∀ (H_count : Int32) (H_values : Nat → Int32) (H_told : Nat → Int32) (x2 : Int32) (x3 : Int32) (x4 : Int32) (H : Heap) (locs : List Loc) (ls : Array Slot), wp_Sh_tell_b47 post  H_count H_values H_told x2 x3 x4 → va_P (dC, dI) vwCl (wd_Sh_tell aH aF aH_values aH_base aH_weights aH_parts aH_told cI cZ H_lastApart H_needed H_width H_count H_values H_told) H → va_D A (wd_Sh_tell aH aF aH_values aH_base aH_weights aH_parts aH_told cI cZ H_lastApart H_needed H_width H_count H_values H_told) → va_S A s.heap H locs → lv_has ls 5 [(0, .ref aH), (2, .int x2), (3, .int x3), (4, .int x4)] → W p l e rm_Sh_tell s m args below meth c H locs 0 0 Q (F0 m 47 ls []) := by
    intro  H_count H_values H_told x2 x3 x4 H locs ls h hP hD hS hl
    refine lv_aload_n hx hb d_Sh_tell_47 rfl (lv_at hl 0 rfl) ?_
    refine va_get (D := (dC, dI)) (ci := 2) (v := .ref aH_values) (C := "ReedSets$Sharing") (T := T_Sh) (N := 10) hx hb hts in_Sh hown hK hP 0 rfl rfl 1 (by decide) (hts _ tb_243) (fun _ h9 => h9) rfl d_Sh_tell_48 ?_
    refine lv_iload hx hb d_Sh_tell_51 (lv_at hl 3 rfl) ?_
    refine lv_iload_n hx hb d_Sh_tell_53 rfl (lv_at hl 1 rfl) ?_
    refine lv_iadd hx hb d_Sh_tell_54 ?_
    refine lv_iload_n hx hb d_Sh_tell_55 rfl (lv_at hl 2 rfl) ?_
    obtain ⟨hi, h⟩ := h
    refine va_iast hx hb hK hP hD hS 1 0 rfl rfl hi d_Sh_tell_56 (fun H locs hP hD hS => ?_)
    have hP : va_P (dC, dI) vwCl (wd_Sh_tell aH aF aH_values aH_base aH_weights aH_parts aH_told cI cZ H_lastApart H_needed H_width H_count (upd H_values (x4 + x2).toNatClampNeg x3) H_told) H := hP
    have hD : va_D A (wd_Sh_tell aH aF aH_values aH_base aH_weights aH_parts aH_told cI cZ H_lastApart H_needed H_width H_count (upd H_values (x4 + x2).toNatClampNeg x3) H_told) := hD
    exact RET H_count (upd H_values (x4 + x2).toNatClampNeg x3) H_told H locs ls 57 d_Sh_tell_57 h hP hD hS
  obtain ⟨H, hH⟩ : ∃ H : Heap, H = s.heap := ⟨_, rfl⟩
  obtain ⟨locs, hlo⟩ : ∃ x : List Loc, x = [] := ⟨_, rfl⟩
  have hS : va_S A s.heap H locs := by rw [hH, hlo]; exact hS
  rw [← hH] at hP
  rw [← hlo]
  show W p l e rm_Sh_tell s m args below meth c s.heap locs 0 0 Q (F0 m 0 ls [])
  rw [← hH]
  refine lv_iload_n hx hb d_Sh_tell_0 rfl (lv_at hl 1 rfl) ?_
  refine lv_bipush (v := (16 : Int32)) hx hb d_Sh_tell_1 (by decide) ?_
  refine lv_imul hx hb d_Sh_tell_3 ?_
  refine lv_topi (fun x4_4 ex4_4 => ?_)
  have h := h x4_4 ex4_4
  refine lv_istore (lv' := [(4, .int x4_4), (0, .ref aH), (1, .int p1), (2, .int p2), (3, .int p3)]) hx hb d_Sh_tell_4 hl (by decide) rfl (fun ls hl => ?_)
  refine lv_aload_n hx hb d_Sh_tell_6 rfl (lv_at hl 1 rfl) ?_
  refine va_get (D := (dC, dI)) (ci := 2) (v := .ref aH_told) (C := "ReedSets$Sharing") (T := T_Sh) (N := 10) hx hb hts in_Sh hown hK hP 0 rfl rfl 8 (by decide) (hts _ tb_250) (fun _ h9 => h9) rfl d_Sh_tell_7 ?_
  refine lv_iload_n hx hb d_Sh_tell_10 rfl (lv_at hl 2 rfl) ?_
  obtain ⟨hi, h⟩ := h
  refine va_zald hx hb hK hP 2 1 rfl rfl hi d_Sh_tell_11 ?_
  refine lv_if_ne (tgt := 47) hx hb d_Sh_tell_12 (by decide) (fun g12 => ?_) (fun g12 => ?_)
  · have h := h.1 g12
    exact B47  H_count H_values H_told p2 p3 x4_4 H locs ls h hP hD hS (lv_sub hl [1, 3, 4, 0] rfl)
  · have h := h.2 g12
    refine lv_aload_n hx hb d_Sh_tell_15 rfl (lv_at hl 1 rfl) ?_
    refine va_get (D := (dC, dI)) (ci := 2) (v := .ref aH_values) (C := "ReedSets$Sharing") (T := T_Sh) (N := 10) hx hb hts in_Sh hown hK hP 0 rfl rfl 1 (by decide) (hts _ tb_243) (fun _ h9 => h9) rfl d_Sh_tell_16 ?_
    refine lv_iload hx hb d_Sh_tell_19 (lv_at hl 0 rfl) ?_
    refine lv_iload hx hb d_Sh_tell_21 (lv_at hl 0 rfl) ?_
    refine lv_bipush (v := (16 : Int32)) hx hb d_Sh_tell_23 (by decide) ?_
    refine lv_iadd hx hb d_Sh_tell_25 ?_
    refine lv_iconst (v := (0 : Int32)) hx hb d_Sh_tell_26 (by decide) ?_
    refine mt_v (va_runS (As := [.ref aH_values, .int x4_4, .int (x4_4 + (16 : Int32)), .int (0 : Int32)]) (rest := []) ⟨hx, hb, hml, hown, hts⟩ (ct_Arr_fill4 l dC dI aH_values cI cZ 4096 H_values x4_4 (x4_4 + (16 : Int32)) (0 : Int32) _ h _) (tb_cS hts ok_Arr_fill4 tb_603 rfl rfl ⟨Nat.le_of_ble_eq_true rfl, Nat.le_of_ble_eq_true rfl⟩) (mt_preS hK hP hD [.ref aH_values, .int x4_4, .int (x4_4 + (16 : Int32)), .int (0 : Int32)] [1] rfl (by decide)) rfl rfl hl.1 rfl (lv_room (Nat.le_of_ble_eq_true rfl)) d_Sh_tell_27 ⟨Nat.zero_le _, Nat.zero_le _⟩) hP hD hS hA [1] rfl (fun _ => rfl) (fun u H locs h hP hD hS => ?_)
    obtain ⟨H_values_27, rfl⟩ : ∃ z, z = u := ⟨_, rfl⟩
    have hP : va_P (dC, dI) vwCl (wd_Sh_tell aH aF aH_values aH_base aH_weights aH_parts aH_told cI cZ H_lastApart H_needed H_width H_count H_values_27 H_told) H := hP
    have hD : va_D A (wd_Sh_tell aH aF aH_values aH_base aH_weights aH_parts aH_told cI cZ H_lastApart H_needed H_width H_count H_values_27 H_told) := hD
    refine lv_aload_n hx hb d_Sh_tell_30 rfl (lv_at hl 1 rfl) ?_
    refine va_get (D := (dC, dI)) (ci := 2) (v := .ref aH_told) (C := "ReedSets$Sharing") (T := T_Sh) (N := 10) hx hb hts in_Sh hown hK hP 0 rfl rfl 8 (by decide) (hts _ tb_250) (fun _ h9 => h9) rfl d_Sh_tell_31 ?_
    refine lv_iload_n hx hb d_Sh_tell_34 rfl (lv_at hl 2 rfl) ?_
    refine lv_iconst (v := (1 : Int32)) hx hb d_Sh_tell_35 (by decide) ?_
    obtain ⟨hi, h⟩ := h
    refine va_zast hx hb hK hP hD hS 2 1 rfl rfl hi d_Sh_tell_36 (fun H locs hP hD hS => ?_)
    have hP : va_P (dC, dI) vwCl (wd_Sh_tell aH aF aH_values aH_base aH_weights aH_parts aH_told cI cZ H_lastApart H_needed H_width H_count H_values_27 (upd H_told p1.toNatClampNeg (1 : Int32))) H := hP
    have hD : va_D A (wd_Sh_tell aH aF aH_values aH_base aH_weights aH_parts aH_told cI cZ H_lastApart H_needed H_width H_count H_values_27 (upd H_told p1.toNatClampNeg (1 : Int32))) := hD
    refine lv_aload_n hx hb d_Sh_tell_37 rfl (lv_at hl 1 rfl) ?_
    refine lv_dup hx hb d_Sh_tell_38 rfl ?_
    refine va_get (D := (dC, dI)) (ci := 2) (v := .int H_count) (C := "ReedSets$Sharing") (T := T_Sh) (N := 10) hx hb hts in_Sh hown hK hP 0 rfl rfl 9 (by decide) (hts _ tb_252) (fun _ h9 => h9) rfl d_Sh_tell_39 ?_
    refine lv_iconst (v := (1 : Int32)) hx hb d_Sh_tell_42 (by decide) ?_
    refine lv_iadd hx hb d_Sh_tell_43 ?_
    refine lv_topi (fun y_44 ey_44 => ?_)
    have h := h y_44 ey_44
    refine va_put (D := (dC, dI)) (ci := 2) (v := .int y_44) (ty := .int) (C := "ReedSets$Sharing") (T := T_Sh) (N := 10) hx hb hts in_Sh ty_Sh tk_Sh nm_Sh hown hK hP hD hS 0 rfl rfl 9 (by decide) (hts _ tb_252) (fun _ h9 => h9) rfl (by decide +kernel) rfl rfl (Nat.le_of_ble_eq_true rfl) d_Sh_tell_44 (fun H locs hP hD hS => ?_)
    have hP : va_P (dC, dI) vwCl (wd_Sh_tell aH aF aH_values aH_base aH_weights aH_parts aH_told cI cZ H_lastApart H_needed H_width y_44 H_values_27 (upd H_told p1.toNatClampNeg (1 : Int32))) H := hP
    have hD : va_D A (wd_Sh_tell aH aF aH_values aH_base aH_weights aH_parts aH_told cI cZ H_lastApart H_needed H_width y_44 H_values_27 (upd H_told p1.toNatClampNeg (1 : Int32))) := hD
    exact B47  y_44 H_values_27 (upd H_told p1.toNatClampNeg (1 : Int32)) p2 p3 x4_4 H locs ls h hP hD hS (lv_sub hl [1, 3, 4, 0] rfl)
abbrev wd_Sh_weighBase (aF aF_powers aF_logs aH aH_values aH_base aH_weights aH_parts aH_told : Nat) (cI cZ : ClassId) (F_powers : Nat → Int32) (F_logs : Nat → Int32) (H_lastApart : Int32) (H_needed : Int32) (H_width : Int32) (H_count : Int32) (H_base : Nat → Int32) (H_weights : Nat → Int32) : va_W := [(aF, .inr (1, [.ref aF_powers, .ref aF_logs])), (aF_powers, .inl (cI, 512, .inl F_powers)), (aF_logs, .inl (cI, 256, .inl F_logs)), (aH, .inr (2, [.ref aF, .ref aH_values, .ref aH_base, .ref aH_weights, .ref aH_parts, .int H_lastApart, .int H_needed, .int H_width, .ref aH_told, .int H_count])), (aH_base, .inl (cI, 20, .inl H_base)), (aH_weights, .inl (cI, 20, .inl H_weights))]
def wp_Sh_weighBase_b49 (F_powers : Nat → Int32) (F_logs : Nat → Int32) (H_needed : Int32) (H_base : Nat → Int32) (post : (Nat → Int32) → Prop) (K2 : (Nat → Int32) → Int32 → Prop) (K14 : (Nat → Int32) → Int32 → Int32 → Int32 → Prop) (H_weights : Nat → Int32) (x1 : Int32) (x2 : Int32) (x3 : Int32) : Prop := ∀ x3_49 : Int32, x3_49 = (x3 + (1 : Int32)) → (K14 H_weights x1 x2 x3_49)
def wp_Sh_weighBase_b14 (F_powers : Nat → Int32) (F_logs : Nat → Int32) (H_needed : Int32) (H_base : Nat → Int32) (post : (Nat → Int32) → Prop) (K2 : (Nat → Int32) → Int32 → Prop) (K14 : (Nat → Int32) → Int32 → Int32 → Int32 → Prop) (H_weights : Nat → Int32) (x1 : Int32) (x2 : Int32) (x3 : Int32) : Prop := (H_needed ≤ x3 → (wp_Fi_quotient F_powers F_logs (1 : Int32) x2 (fun r_66 => (vp_in x1 20 ∧ (∀ x1_70 : Int32, x1_70 = (x1 + (1 : Int32)) → (K2 (upd H_weights x1.toNatClampNeg r_66) x1_70)))))) ∧ (¬ H_needed ≤ x3 → ((x3 = x1 → (wp_Sh_weighBase_b49 F_powers F_logs H_needed H_base post K2 K14 H_weights x1 x2 x3)) ∧ (¬ x3 = x1 → (vp_in x1 20 ∧ (vp_in x3 20 ∧ (wp_Fi_product F_powers F_logs x2 ((H_base x1.toNatClampNeg) ^^^ (H_base x3.toNatClampNeg)) (fun r_45 => (wp_Sh_weighBase_b49 F_powers F_logs H_needed H_base post K2 K14 H_weights x1 r_45 x3))))))))
def wp_Sh_weighBase_L14 (F_powers : Nat → Int32) (F_logs : Nat → Int32) (H_needed : Int32) (H_base : Nat → Int32) (post : (Nat → Int32) → Prop) (K2 : (Nat → Int32) → Int32 → Prop) : Nat → (Nat → Int32) → Int32 → Int32 → Int32 → Prop
  | 0 => fun _ _ _ _ => False
  | n + 1 => wp_Sh_weighBase_b14 F_powers F_logs H_needed H_base post K2 (wp_Sh_weighBase_L14 F_powers F_logs H_needed H_base post K2 n)
def wp_Sh_weighBase_b2 (F_powers : Nat → Int32) (F_logs : Nat → Int32) (H_needed : Int32) (H_base : Nat → Int32) (post : (Nat → Int32) → Prop) (K2 : (Nat → Int32) → Int32 → Prop) (H_weights : Nat → Int32) (x1 : Int32) : Prop := (H_needed ≤ x1 → (post H_weights)) ∧ (¬ H_needed ≤ x1 → (∃ n : Nat, wp_Sh_weighBase_L14 F_powers F_logs H_needed H_base post K2 n H_weights x1 (1 : Int32) (0 : Int32)))
def wp_Sh_weighBase_L2 (F_powers : Nat → Int32) (F_logs : Nat → Int32) (H_needed : Int32) (H_base : Nat → Int32) (post : (Nat → Int32) → Prop)  : Nat → (Nat → Int32) → Int32 → Prop
  | 0 => fun _ _ => False
  | n + 1 => wp_Sh_weighBase_b2 F_powers F_logs H_needed H_base post (wp_Sh_weighBase_L2 F_powers F_logs H_needed H_base post n)
def wp_Sh_weighBase (F_powers : Nat → Int32) (F_logs : Nat → Int32) (H_needed : Int32) (H_base : Nat → Int32) (H_weights : Nat → Int32) (post : (Nat → Int32) → Prop) : Prop := ∃ n : Nat, wp_Sh_weighBase_L2 F_powers F_logs H_needed H_base post  n H_weights (0 : Int32)
abbrev rm_Sh_weighBase : Room := { frames := 1, cells := 0, slots := 0, locals := 22 }
set_option maxHeartbeats 4000000 in
set_option maxRecDepth 100000 in
theorem ct_Sh_weighBase (l : Launch) (dC : Nat → ClassId) (dI : Nat → Nat → Nat) (aF aF_powers aF_logs aH aH_values aH_base aH_weights aH_parts aH_told : Nat) (cI cZ : ClassId) (F_powers : Nat → Int32) (F_logs : Nat → Int32) (H_lastApart : Int32) (H_needed : Int32) (H_width : Int32) (H_count : Int32) (H_base : Nat → Int32) (H_weights : Nat → Int32)  (post : (Nat → Int32) → Prop) (h : wp_Sh_weighBase F_powers F_logs H_needed H_base H_weights post) (sz : Nat) : Met l y_Sh_weighBase (Cond.code y_Sh_weighBase c_Sh_weighBase 4 none :: tb) rm_Sh_weighBase (mt_P (dC, dI) vwCl [(cI, .int), (cZ, .boolean)] [.ref aH] (wd_Sh_weighBase aF aF_powers aF_logs aH aH_values aH_base aH_weights aH_parts aH_told cI cZ F_powers F_logs H_lastApart H_needed H_width H_count H_base H_weights) sz) (va_Qv (fun (u : (Nat → Int32)) => post u) (mt_B (dC, dI) vwCl [(cI, .int), (cZ, .boolean)] (wd_Sh_weighBase aF aF_powers aF_logs aH aH_values aH_base aH_weights aH_parts aH_told cI cZ F_powers F_logs H_lastApart H_needed H_width H_count H_base H_weights) sz (fun u : (Nat → Int32) => wd_Sh_weighBase aF aF_powers aF_logs aH aH_values aH_base aH_weights aH_parts aH_told cI cZ F_powers F_logs H_lastApart H_needed H_width H_count H_base u)) (va_A (wd_Sh_weighBase aF aF_powers aF_logs aH aH_values aH_base aH_weights aH_parts aH_told cI cZ F_powers F_logs H_lastApart H_needed H_width H_count H_base H_weights) sz)) 0 0 (va_A (wd_Sh_weighBase aF aF_powers aF_logs aH aH_values aH_base aH_weights aH_parts aH_told cI cZ F_powers F_logs H_lastApart H_needed H_width H_count H_base H_weights) sz) := by
  refine mt_bd (by decide +kernel) (Nat.le_of_ble_eq_true rfl) ?_
  intro p e s m args below meth c hx hb hml hown hts hr hlk hnm hsz hP hK hD hA hS ls hl
  subst hsz
  have hown : s.vm.findClass "ReedSets$Sharing" = some m.cls := hown
  have hl : lv_has ls 4 [(0, .ref aH)] := hl
  refine lz_Q (fun Q hQ => ?_)
  obtain ⟨A, hAe⟩ : ∃ A : Nat → Prop, A = va_A (wd_Sh_weighBase aF aF_powers aF_logs aH aH_values aH_base aH_weights aH_parts aH_told cI cZ F_powers F_logs H_lastApart H_needed H_width H_count H_base H_weights) s.heap.size := ⟨_, rfl⟩
  rw [← hAe] at hD hA hS
  have RET : ∀ (H_weights : Nat → Int32) (H : Heap) (locs : List Loc) (ls : Array Slot) (pc : Nat), decode c_Sh_weighBase pc = .ok (.return_, 1) → post H_weights → va_P (dC, dI) vwCl (wd_Sh_weighBase aF aF_powers aF_logs aH aH_values aH_base aH_weights aH_parts aH_told cI cZ F_powers F_logs H_lastApart H_needed H_width H_count H_base H_weights) H → va_D A (wd_Sh_weighBase aF aF_powers aF_logs aH aH_values aH_base aH_weights aH_parts aH_told cI cZ F_powers F_logs H_lastApart H_needed H_width H_count H_base H_weights) → va_S A s.heap H locs → W p l e rm_Sh_weighBase s m args below meth c H locs 0 0 Q (F0 m pc ls []) := by
    intro H_weights H locs ls pc hd hp h1 h2 h3
    rw [hQ]
    rw [hAe] at h2 h3
    exact mt_retv (H_weights) hx hb hr hlk hd hK h1 h2 h3 hp
  have B49 : ∀ (K2 : (Nat → Int32) → Int32 → Prop) (HK2 : ∀ (H_weights : Nat → Int32) (x1 : Int32) (H : Heap) (locs : List Loc) (ls : Array Slot), K2 H_weights x1 → va_P (dC, dI) vwCl (wd_Sh_weighBase aF aF_powers aF_logs aH aH_values aH_base aH_weights aH_parts aH_told cI cZ F_powers F_logs H_lastApart H_needed H_width H_count H_base H_weights) H → va_D A (wd_Sh_weighBase aF aF_powers aF_logs aH aH_values aH_base aH_weights aH_parts aH_told cI cZ F_powers F_logs H_lastApart H_needed H_width H_count H_base H_weights) → va_S A s.heap H locs → lv_has ls 4 [(0, .ref aH), (1, .int x1)] → W p l e rm_Sh_weighBase s m args below meth c H locs 0 0 Q (F0 m 2 ls [])) (K14 : (Nat → Int32) → Int32 → Int32 → Int32 → Prop) (HK14 : ∀ (H_weights : Nat → Int32) (x1 : Int32) (x2 : Int32) (x3 : Int32) (H : Heap) (locs : List Loc) (ls : Array Slot), K14 H_weights x1 x2 x3 → va_P (dC, dI) vwCl (wd_Sh_weighBase aF aF_powers aF_logs aH aH_values aH_base aH_weights aH_parts aH_told cI cZ F_powers F_logs H_lastApart H_needed H_width H_count H_base H_weights) H → va_D A (wd_Sh_weighBase aF aF_powers aF_logs aH aH_values aH_base aH_weights aH_parts aH_told cI cZ F_powers F_logs H_lastApart H_needed H_width H_count H_base H_weights) → va_S A s.heap H locs → lv_has ls 4 [(0, .ref aH), (1, .int x1), (2, .int x2), (3, .int x3)] → W p l e rm_Sh_weighBase s m args below meth c H locs 0 0 Q (F0 m 14 ls [])), ∀ (H_weights : Nat → Int32) (x1 : Int32) (x2 : Int32) (x3 : Int32) (H : Heap) (locs : List Loc) (ls : Array Slot), wp_Sh_weighBase_b49 F_powers F_logs H_needed H_base post K2 K14 H_weights x1 x2 x3 → va_P (dC, dI) vwCl (wd_Sh_weighBase aF aF_powers aF_logs aH aH_values aH_base aH_weights aH_parts aH_told cI cZ F_powers F_logs H_lastApart H_needed H_width H_count H_base H_weights) H → va_D A (wd_Sh_weighBase aF aF_powers aF_logs aH aH_values aH_base aH_weights aH_parts aH_told cI cZ F_powers F_logs H_lastApart H_needed H_width H_count H_base H_weights) → va_S A s.heap H locs → lv_has ls 4 [(0, .ref aH), (1, .int x1), (2, .int x2), (3, .int x3)] → W p l e rm_Sh_weighBase s m args below meth c H locs 0 0 Q (F0 m 49 ls []) := by
    intro K2 HK2 K14 HK14 H_weights x1 x2 x3 H locs ls h hP hD hS hl
    obtain ⟨x3_49, ex3_49⟩ : ∃ y : Int32, y = (x3 + (1 : Int32)) := ⟨_, rfl⟩
    have h := h x3_49 ex3_49
    refine lv_iinc (v := x3_49) (lv' := [(3, .int x3_49), (0, .ref aH), (1, .int x1), (2, .int x2)]) hx hb d_Sh_weighBase_49 hl (k := 3) rfl (by rw [ex3_49]; rfl) (by decide) rfl (fun ls hl => ?_)
    refine lv_goto (tgt := 14) hx hb d_Sh_weighBase_52 (by decide) ?_
    exact HK14 H_weights x1 x2 x3_49 H locs ls h hP hD hS (lv_sub hl [1, 2, 3, 0] rfl)
  have B14 : ∀ (K2 : (Nat → Int32) → Int32 → Prop) (HK2 : ∀ (H_weights : Nat → Int32) (x1 : Int32) (H : Heap) (locs : List Loc) (ls : Array Slot), K2 H_weights x1 → va_P (dC, dI) vwCl (wd_Sh_weighBase aF aF_powers aF_logs aH aH_values aH_base aH_weights aH_parts aH_told cI cZ F_powers F_logs H_lastApart H_needed H_width H_count H_base H_weights) H → va_D A (wd_Sh_weighBase aF aF_powers aF_logs aH aH_values aH_base aH_weights aH_parts aH_told cI cZ F_powers F_logs H_lastApart H_needed H_width H_count H_base H_weights) → va_S A s.heap H locs → lv_has ls 4 [(0, .ref aH), (1, .int x1)] → W p l e rm_Sh_weighBase s m args below meth c H locs 0 0 Q (F0 m 2 ls [])) (K14 : (Nat → Int32) → Int32 → Int32 → Int32 → Prop) (HK14 : ∀ (H_weights : Nat → Int32) (x1 : Int32) (x2 : Int32) (x3 : Int32) (H : Heap) (locs : List Loc) (ls : Array Slot), K14 H_weights x1 x2 x3 → va_P (dC, dI) vwCl (wd_Sh_weighBase aF aF_powers aF_logs aH aH_values aH_base aH_weights aH_parts aH_told cI cZ F_powers F_logs H_lastApart H_needed H_width H_count H_base H_weights) H → va_D A (wd_Sh_weighBase aF aF_powers aF_logs aH aH_values aH_base aH_weights aH_parts aH_told cI cZ F_powers F_logs H_lastApart H_needed H_width H_count H_base H_weights) → va_S A s.heap H locs → lv_has ls 4 [(0, .ref aH), (1, .int x1), (2, .int x2), (3, .int x3)] → W p l e rm_Sh_weighBase s m args below meth c H locs 0 0 Q (F0 m 14 ls [])), ∀ (H_weights : Nat → Int32) (x1 : Int32) (x2 : Int32) (x3 : Int32) (H : Heap) (locs : List Loc) (ls : Array Slot), wp_Sh_weighBase_b14 F_powers F_logs H_needed H_base post K2 K14 H_weights x1 x2 x3 → va_P (dC, dI) vwCl (wd_Sh_weighBase aF aF_powers aF_logs aH aH_values aH_base aH_weights aH_parts aH_told cI cZ F_powers F_logs H_lastApart H_needed H_width H_count H_base H_weights) H → va_D A (wd_Sh_weighBase aF aF_powers aF_logs aH aH_values aH_base aH_weights aH_parts aH_told cI cZ F_powers F_logs H_lastApart H_needed H_width H_count H_base H_weights) → va_S A s.heap H locs → lv_has ls 4 [(0, .ref aH), (1, .int x1), (2, .int x2), (3, .int x3)] → W p l e rm_Sh_weighBase s m args below meth c H locs 0 0 Q (F0 m 14 ls []) := by
    intro K2 HK2 K14 HK14 H_weights x1 x2 x3 H locs ls h hP hD hS hl
    refine lv_iload_n hx hb d_Sh_weighBase_14 rfl (lv_at hl 3 rfl) ?_
    refine lv_aload_n hx hb d_Sh_weighBase_15 rfl (lv_at hl 0 rfl) ?_
    refine va_get (D := (dC, dI)) (ci := 2) (v := .int H_needed) (C := "ReedSets$Sharing") (T := T_Sh) (N := 10) hx hb hts in_Sh hown hK hP 3 rfl rfl 6 (by decide) (hts _ tb_248) (fun _ h9 => h9) rfl d_Sh_weighBase_16 ?_
    refine lv_icmp_ge (tgt := 55) hx hb d_Sh_weighBase_19 (by decide) (fun g19 => ?_) (fun g19 => ?_)
    · have h := h.1 g19
      refine lv_aload_n hx hb d_Sh_weighBase_55 rfl (lv_at hl 0 rfl) ?_
      refine va_get (D := (dC, dI)) (ci := 2) (v := .ref aH_weights) (C := "ReedSets$Sharing") (T := T_Sh) (N := 10) hx hb hts in_Sh hown hK hP 3 rfl rfl 3 (by decide) (hts _ tb_245) (fun _ h9 => h9) rfl d_Sh_weighBase_56 ?_
      refine lv_iload_n hx hb d_Sh_weighBase_59 rfl (lv_at hl 1 rfl) ?_
      refine lv_aload_n hx hb d_Sh_weighBase_60 rfl (lv_at hl 0 rfl) ?_
      refine va_get (D := (dC, dI)) (ci := 2) (v := .ref aF) (C := "ReedSets$Sharing") (T := T_Sh) (N := 10) hx hb hts in_Sh hown hK hP 3 rfl rfl 0 (by decide) (hts _ tb_242) (fun _ h9 => h9) rfl d_Sh_weighBase_61 ?_
      refine lv_iconst (v := (1 : Int32)) hx hb d_Sh_weighBase_64 (by decide) ?_
      refine lv_iload_n hx hb d_Sh_weighBase_65 rfl (lv_at hl 2 rfl) ?_
      refine mt_i (va_runV (As := [.int (1 : Int32), .int x2]) (rest := [.int x1, .ref aH_weights]) ⟨hx, hb, hml, hown, hts⟩ (ct_Fi_quotient l dC dI aF aF_powers aF_logs cI cZ F_powers F_logs (1 : Int32) x2 _ h _) (tb_cV hts ok_Fi_quotient tb_621 rfl rfl ⟨Nat.le_of_ble_eq_true rfl, Nat.le_of_ble_eq_true rfl⟩) (mt_preV hK hP hD [.int (1 : Int32), .int x2] [0, 1, 2] rfl (by decide) (ci := 1) (q0 := 0) rfl rfl) rfl rfl hl.1 rfl (lv_room (Nat.le_of_ble_eq_true rfl)) d_Sh_weighBase_66 ⟨Nat.zero_le _, Nat.zero_le _⟩) hP hD hS hA [0, 1, 2] rfl (fun _ => rfl) (fun r_66 u H locs h hP hD hS => ?_)
      have hP : va_P (dC, dI) vwCl (wd_Sh_weighBase aF aF_powers aF_logs aH aH_values aH_base aH_weights aH_parts aH_told cI cZ F_powers F_logs H_lastApart H_needed H_width H_count H_base H_weights) H := hP
      have hD : va_D A (wd_Sh_weighBase aF aF_powers aF_logs aH aH_values aH_base aH_weights aH_parts aH_told cI cZ F_powers F_logs H_lastApart H_needed H_width H_count H_base H_weights) := hD
      obtain ⟨hi, h⟩ := h
      refine va_iast hx hb hK hP hD hS 5 0 rfl rfl hi d_Sh_weighBase_69 (fun H locs hP hD hS => ?_)
      have hP : va_P (dC, dI) vwCl (wd_Sh_weighBase aF aF_powers aF_logs aH aH_values aH_base aH_weights aH_parts aH_told cI cZ F_powers F_logs H_lastApart H_needed H_width H_count H_base (upd H_weights x1.toNatClampNeg r_66)) H := hP
      have hD : va_D A (wd_Sh_weighBase aF aF_powers aF_logs aH aH_values aH_base aH_weights aH_parts aH_told cI cZ F_powers F_logs H_lastApart H_needed H_width H_count H_base (upd H_weights x1.toNatClampNeg r_66)) := hD
      obtain ⟨x1_70, ex1_70⟩ : ∃ y : Int32, y = (x1 + (1 : Int32)) := ⟨_, rfl⟩
      have h := h x1_70 ex1_70
      refine lv_iinc (v := x1_70) (lv' := [(1, .int x1_70), (0, .ref aH), (2, .int x2), (3, .int x3)]) hx hb d_Sh_weighBase_70 hl (k := 1) rfl (by rw [ex1_70]; rfl) (by decide) rfl (fun ls hl => ?_)
      refine lv_goto (tgt := 2) hx hb d_Sh_weighBase_73 (by decide) ?_
      exact HK2 (upd H_weights x1.toNatClampNeg r_66) x1_70 H locs ls h hP hD hS (lv_sub hl [1, 0] rfl)
    · have h := h.2 g19
      refine lv_iload_n hx hb d_Sh_weighBase_22 rfl (lv_at hl 3 rfl) ?_
      refine lv_iload_n hx hb d_Sh_weighBase_23 rfl (lv_at hl 1 rfl) ?_
      refine lv_icmp_eq (tgt := 49) hx hb d_Sh_weighBase_24 (by decide) (fun g24 => ?_) (fun g24 => ?_)
      · have h := h.1 g24
        exact B49 K2 HK2 K14 HK14 H_weights x1 x2 x3 H locs ls h hP hD hS (lv_sub hl [0, 1, 2, 3] rfl)
      · have h := h.2 g24
        refine lv_aload_n hx hb d_Sh_weighBase_27 rfl (lv_at hl 0 rfl) ?_
        refine va_get (D := (dC, dI)) (ci := 2) (v := .ref aF) (C := "ReedSets$Sharing") (T := T_Sh) (N := 10) hx hb hts in_Sh hown hK hP 3 rfl rfl 0 (by decide) (hts _ tb_242) (fun _ h9 => h9) rfl d_Sh_weighBase_28 ?_
        refine lv_iload_n hx hb d_Sh_weighBase_31 rfl (lv_at hl 2 rfl) ?_
        refine lv_aload_n hx hb d_Sh_weighBase_32 rfl (lv_at hl 0 rfl) ?_
        refine va_get (D := (dC, dI)) (ci := 2) (v := .ref aH_base) (C := "ReedSets$Sharing") (T := T_Sh) (N := 10) hx hb hts in_Sh hown hK hP 3 rfl rfl 2 (by decide) (hts _ tb_244) (fun _ h9 => h9) rfl d_Sh_weighBase_33 ?_
        refine lv_iload_n hx hb d_Sh_weighBase_36 rfl (lv_at hl 1 rfl) ?_
        obtain ⟨hi, h⟩ := h
        refine va_iald hx hb hK hP 4 0 rfl rfl hi d_Sh_weighBase_37 ?_
        refine lv_aload_n hx hb d_Sh_weighBase_38 rfl (lv_at hl 0 rfl) ?_
        refine va_get (D := (dC, dI)) (ci := 2) (v := .ref aH_base) (C := "ReedSets$Sharing") (T := T_Sh) (N := 10) hx hb hts in_Sh hown hK hP 3 rfl rfl 2 (by decide) (hts _ tb_244) (fun _ h9 => h9) rfl d_Sh_weighBase_39 ?_
        refine lv_iload_n hx hb d_Sh_weighBase_42 rfl (lv_at hl 3 rfl) ?_
        obtain ⟨hi, h⟩ := h
        refine va_iald hx hb hK hP 4 0 rfl rfl hi d_Sh_weighBase_43 ?_
        refine lv_ixor hx hb d_Sh_weighBase_44 ?_
        refine mt_i (va_runV (As := [.int x2, .int ((H_base x1.toNatClampNeg) ^^^ (H_base x3.toNatClampNeg))]) (rest := []) ⟨hx, hb, hml, hown, hts⟩ (ct_Fi_product l dC dI aF aF_powers aF_logs cI cZ F_powers F_logs x2 ((H_base x1.toNatClampNeg) ^^^ (H_base x3.toNatClampNeg)) _ h _) (tb_cV hts ok_Fi_product tb_620 rfl rfl ⟨Nat.le_of_ble_eq_true rfl, Nat.le_of_ble_eq_true rfl⟩) (mt_preV hK hP hD [.int x2, .int ((H_base x1.toNatClampNeg) ^^^ (H_base x3.toNatClampNeg))] [0, 1, 2] rfl (by decide) (ci := 1) (q0 := 0) rfl rfl) rfl rfl hl.1 rfl (lv_room (Nat.le_of_ble_eq_true rfl)) d_Sh_weighBase_45 ⟨Nat.zero_le _, Nat.zero_le _⟩) hP hD hS hA [0, 1, 2] rfl (fun _ => rfl) (fun r_45 u H locs h hP hD hS => ?_)
        have hP : va_P (dC, dI) vwCl (wd_Sh_weighBase aF aF_powers aF_logs aH aH_values aH_base aH_weights aH_parts aH_told cI cZ F_powers F_logs H_lastApart H_needed H_width H_count H_base H_weights) H := hP
        have hD : va_D A (wd_Sh_weighBase aF aF_powers aF_logs aH aH_values aH_base aH_weights aH_parts aH_told cI cZ F_powers F_logs H_lastApart H_needed H_width H_count H_base H_weights) := hD
        refine lv_istore_n (lv' := [(2, .int r_45), (0, .ref aH), (1, .int x1), (3, .int x3)]) hx hb d_Sh_weighBase_48 rfl hl (by decide) rfl (fun ls hl => ?_)
        exact B49 K2 HK2 K14 HK14 H_weights x1 r_45 x3 H locs ls h hP hD hS (lv_sub hl [1, 2, 0, 3] rfl)
  have L14 : ∀ (K2 : (Nat → Int32) → Int32 → Prop) (HK2 : ∀ (H_weights : Nat → Int32) (x1 : Int32) (H : Heap) (locs : List Loc) (ls : Array Slot), K2 H_weights x1 → va_P (dC, dI) vwCl (wd_Sh_weighBase aF aF_powers aF_logs aH aH_values aH_base aH_weights aH_parts aH_told cI cZ F_powers F_logs H_lastApart H_needed H_width H_count H_base H_weights) H → va_D A (wd_Sh_weighBase aF aF_powers aF_logs aH aH_values aH_base aH_weights aH_parts aH_told cI cZ F_powers F_logs H_lastApart H_needed H_width H_count H_base H_weights) → va_S A s.heap H locs → lv_has ls 4 [(0, .ref aH), (1, .int x1)] → W p l e rm_Sh_weighBase s m args below meth c H locs 0 0 Q (F0 m 2 ls [])) (n : Nat), ∀ (H_weights : Nat → Int32) (x1 : Int32) (x2 : Int32) (x3 : Int32) (H : Heap) (locs : List Loc) (ls : Array Slot), wp_Sh_weighBase_L14 F_powers F_logs H_needed H_base post K2 n H_weights x1 x2 x3 → va_P (dC, dI) vwCl (wd_Sh_weighBase aF aF_powers aF_logs aH aH_values aH_base aH_weights aH_parts aH_told cI cZ F_powers F_logs H_lastApart H_needed H_width H_count H_base H_weights) H → va_D A (wd_Sh_weighBase aF aF_powers aF_logs aH aH_values aH_base aH_weights aH_parts aH_told cI cZ F_powers F_logs H_lastApart H_needed H_width H_count H_base H_weights) → va_S A s.heap H locs → lv_has ls 4 [(0, .ref aH), (1, .int x1), (2, .int x2), (3, .int x3)] → W p l e rm_Sh_weighBase s m args below meth c H locs 0 0 Q (F0 m 14 ls []) := by
    intro K2 HK2 n
    induction n with
    | zero => intro H_weights x1 x2 x3 H locs ls h hP hD hS hl; exact False.elim h
    | succ n ih => intro H_weights x1 x2 x3 H locs ls h hP hD hS hl; exact B14 K2 HK2 (wp_Sh_weighBase_L14 F_powers F_logs H_needed H_base post K2 n) ih H_weights x1 x2 x3 H locs ls h hP hD hS hl
  have B2 : ∀ (K2 : (Nat → Int32) → Int32 → Prop) (HK2 : ∀ (H_weights : Nat → Int32) (x1 : Int32) (H : Heap) (locs : List Loc) (ls : Array Slot), K2 H_weights x1 → va_P (dC, dI) vwCl (wd_Sh_weighBase aF aF_powers aF_logs aH aH_values aH_base aH_weights aH_parts aH_told cI cZ F_powers F_logs H_lastApart H_needed H_width H_count H_base H_weights) H → va_D A (wd_Sh_weighBase aF aF_powers aF_logs aH aH_values aH_base aH_weights aH_parts aH_told cI cZ F_powers F_logs H_lastApart H_needed H_width H_count H_base H_weights) → va_S A s.heap H locs → lv_has ls 4 [(0, .ref aH), (1, .int x1)] → W p l e rm_Sh_weighBase s m args below meth c H locs 0 0 Q (F0 m 2 ls [])), ∀ (H_weights : Nat → Int32) (x1 : Int32) (H : Heap) (locs : List Loc) (ls : Array Slot), wp_Sh_weighBase_b2 F_powers F_logs H_needed H_base post K2 H_weights x1 → va_P (dC, dI) vwCl (wd_Sh_weighBase aF aF_powers aF_logs aH aH_values aH_base aH_weights aH_parts aH_told cI cZ F_powers F_logs H_lastApart H_needed H_width H_count H_base H_weights) H → va_D A (wd_Sh_weighBase aF aF_powers aF_logs aH aH_values aH_base aH_weights aH_parts aH_told cI cZ F_powers F_logs H_lastApart H_needed H_width H_count H_base H_weights) → va_S A s.heap H locs → lv_has ls 4 [(0, .ref aH), (1, .int x1)] → W p l e rm_Sh_weighBase s m args below meth c H locs 0 0 Q (F0 m 2 ls []) := by
    intro K2 HK2 H_weights x1 H locs ls h hP hD hS hl
    refine lv_iload_n hx hb d_Sh_weighBase_2 rfl (lv_at hl 1 rfl) ?_
    refine lv_aload_n hx hb d_Sh_weighBase_3 rfl (lv_at hl 0 rfl) ?_
    refine va_get (D := (dC, dI)) (ci := 2) (v := .int H_needed) (C := "ReedSets$Sharing") (T := T_Sh) (N := 10) hx hb hts in_Sh hown hK hP 3 rfl rfl 6 (by decide) (hts _ tb_248) (fun _ h9 => h9) rfl d_Sh_weighBase_4 ?_
    refine lv_icmp_ge (tgt := 76) hx hb d_Sh_weighBase_7 (by decide) (fun g7 => ?_) (fun g7 => ?_)
    · have h := h.1 g7
      exact RET H_weights H locs ls 76 d_Sh_weighBase_76 h hP hD hS
    · have h := h.2 g7
      refine lv_iconst (v := (1 : Int32)) hx hb d_Sh_weighBase_10 (by decide) ?_
      refine lv_istore_n (lv' := [(2, .int (1 : Int32)), (0, .ref aH), (1, .int x1)]) hx hb d_Sh_weighBase_11 rfl hl (by decide) rfl (fun ls hl => ?_)
      refine lv_iconst (v := (0 : Int32)) hx hb d_Sh_weighBase_12 (by decide) ?_
      refine lv_istore_n (lv' := [(3, .int (0 : Int32)), (2, .int (1 : Int32)), (0, .ref aH), (1, .int x1)]) hx hb d_Sh_weighBase_13 rfl hl (by decide) rfl (fun ls hl => ?_)
      obtain ⟨n, h⟩ := h
      exact L14 K2 HK2 n H_weights x1 (1 : Int32) (0 : Int32) H locs ls h hP hD hS (lv_sub hl [2, 3, 1, 0] rfl)
  have L2 : ∀  (n : Nat), ∀ (H_weights : Nat → Int32) (x1 : Int32) (H : Heap) (locs : List Loc) (ls : Array Slot), wp_Sh_weighBase_L2 F_powers F_logs H_needed H_base post  n H_weights x1 → va_P (dC, dI) vwCl (wd_Sh_weighBase aF aF_powers aF_logs aH aH_values aH_base aH_weights aH_parts aH_told cI cZ F_powers F_logs H_lastApart H_needed H_width H_count H_base H_weights) H → va_D A (wd_Sh_weighBase aF aF_powers aF_logs aH aH_values aH_base aH_weights aH_parts aH_told cI cZ F_powers F_logs H_lastApart H_needed H_width H_count H_base H_weights) → va_S A s.heap H locs → lv_has ls 4 [(0, .ref aH), (1, .int x1)] → W p l e rm_Sh_weighBase s m args below meth c H locs 0 0 Q (F0 m 2 ls []) := by
    intro  n
    induction n with
    | zero => intro H_weights x1 H locs ls h hP hD hS hl; exact False.elim h
    | succ n ih => intro H_weights x1 H locs ls h hP hD hS hl; exact B2  (wp_Sh_weighBase_L2 F_powers F_logs H_needed H_base post  n) ih H_weights x1 H locs ls h hP hD hS hl
  obtain ⟨H, hH⟩ : ∃ H : Heap, H = s.heap := ⟨_, rfl⟩
  obtain ⟨locs, hlo⟩ : ∃ x : List Loc, x = [] := ⟨_, rfl⟩
  have hS : va_S A s.heap H locs := by rw [hH, hlo]; exact hS
  rw [← hH] at hP
  rw [← hlo]
  show W p l e rm_Sh_weighBase s m args below meth c s.heap locs 0 0 Q (F0 m 0 ls [])
  rw [← hH]
  refine lv_iconst (v := (0 : Int32)) hx hb d_Sh_weighBase_0 (by decide) ?_
  refine lv_istore_n (lv' := [(1, .int (0 : Int32)), (0, .ref aH)]) hx hb d_Sh_weighBase_1 rfl hl (by decide) rfl (fun ls hl => ?_)
  obtain ⟨n, h⟩ := h
  exact L2  n H_weights (0 : Int32) H locs ls h hP hD hS (lv_sub hl [1, 0] rfl)
abbrev wd_Sh_chooseBase (aF aF_powers aF_logs aH aH_values aH_base aH_weights aH_parts aH_told : Nat) (cI cZ : ClassId) (F_powers : Nat → Int32) (F_logs : Nat → Int32) (H_lastApart : Int32) (H_needed : Int32) (H_width : Int32) (H_count : Int32) (H_base : Nat → Int32) (H_weights : Nat → Int32) (H_told : Nat → Int32) : va_W := [(aF, .inr (1, [.ref aF_powers, .ref aF_logs])), (aF_powers, .inl (cI, 512, .inl F_powers)), (aF_logs, .inl (cI, 256, .inl F_logs)), (aH, .inr (2, [.ref aF, .ref aH_values, .ref aH_base, .ref aH_weights, .ref aH_parts, .int H_lastApart, .int H_needed, .int H_width, .ref aH_told, .int H_count])), (aH_base, .inl (cI, 20, .inl H_base)), (aH_weights, .inl (cI, 20, .inl H_weights)), (aH_told, .inl (cZ, 256, .inl H_told))]
def wp_Sh_chooseBase_b43 (F_powers : Nat → Int32) (F_logs : Nat → Int32) (H_needed : Int32) (H_told : Nat → Int32) (post : Int32 → (Nat → Int32) → (Nat → Int32) → Prop) (K4 : (Nat → Int32) → (Nat → Int32) → Int32 → Int32 → Int32 → Prop) (H_base : Nat → Int32) (H_weights : Nat → Int32) (x1 : Int32) (x2 : Int32) (x3 : Int32) : Prop := ∀ x3_43 : Int32, x3_43 = (x3 + (1 : Int32)) → (K4 H_base H_weights x1 x2 x3_43)
def wp_Sh_chooseBase_b49 (F_powers : Nat → Int32) (F_logs : Nat → Int32) (H_needed : Int32) (H_told : Nat → Int32) (post : Int32 → (Nat → Int32) → (Nat → Int32) → Prop)  (H_base : Nat → Int32) (H_weights : Nat → Int32) (x2 : Int32) : Prop := (H_needed ≤ x2 → (wp_Sh_weighBase F_powers F_logs H_needed H_base H_weights (fun H_weights_60 => (post (1 : Int32) H_base H_weights_60)))) ∧ (¬ H_needed ≤ x2 → (post (0 : Int32) H_base H_weights))
def wp_Sh_chooseBase_b4 (F_powers : Nat → Int32) (F_logs : Nat → Int32) (H_needed : Int32) (H_told : Nat → Int32) (post : Int32 → (Nat → Int32) → (Nat → Int32) → Prop) (K4 : (Nat → Int32) → (Nat → Int32) → Int32 → Int32 → Int32 → Prop) (H_base : Nat → Int32) (H_weights : Nat → Int32) (x1 : Int32) (x2 : Int32) (x3 : Int32) : Prop := ((256 : Int32) ≤ x3 → (wp_Sh_chooseBase_b49 F_powers F_logs H_needed H_told post  H_base H_weights x2)) ∧ (¬ (256 : Int32) ≤ x3 → ((H_needed ≤ x2 → (wp_Sh_chooseBase_b49 F_powers F_logs H_needed H_told post  H_base H_weights x2)) ∧ (¬ H_needed ≤ x2 → (vp_in x3 256 ∧ (((H_told x3.toNatClampNeg) = 0 → (wp_Sh_chooseBase_b43 F_powers F_logs H_needed H_told post K4 H_base H_weights x1 x2 x3)) ∧ (¬ (H_told x3.toNatClampNeg) = 0 → ((x3 = x1 → (wp_Sh_chooseBase_b43 F_powers F_logs H_needed H_told post K4 H_base H_weights x1 x2 x3)) ∧ (¬ x3 = x1 → (vp_in x2 20 ∧ (∀ x2_40 : Int32, x2_40 = (x2 + (1 : Int32)) → (wp_Sh_chooseBase_b43 F_powers F_logs H_needed H_told post K4 (upd H_base x2.toNatClampNeg x3) H_weights x1 x2_40 x3)))))))))))
def wp_Sh_chooseBase_L4 (F_powers : Nat → Int32) (F_logs : Nat → Int32) (H_needed : Int32) (H_told : Nat → Int32) (post : Int32 → (Nat → Int32) → (Nat → Int32) → Prop)  : Nat → (Nat → Int32) → (Nat → Int32) → Int32 → Int32 → Int32 → Prop
  | 0 => fun _ _ _ _ _ => False
  | n + 1 => wp_Sh_chooseBase_b4 F_powers F_logs H_needed H_told post (wp_Sh_chooseBase_L4 F_powers F_logs H_needed H_told post n)
def wp_Sh_chooseBase (F_powers : Nat → Int32) (F_logs : Nat → Int32) (H_needed : Int32) (H_base : Nat → Int32) (H_weights : Nat → Int32) (H_told : Nat → Int32) (p1 : Int32) (post : Int32 → (Nat → Int32) → (Nat → Int32) → Prop) : Prop := ∃ n : Nat, wp_Sh_chooseBase_L4 F_powers F_logs H_needed H_told post  n H_base H_weights p1 (0 : Int32) (0 : Int32)
abbrev rm_Sh_chooseBase : Room := { frames := 2, cells := 0, slots := 0, locals := 45 }
set_option maxHeartbeats 4000000 in
set_option maxRecDepth 100000 in
theorem ct_Sh_chooseBase (l : Launch) (dC : Nat → ClassId) (dI : Nat → Nat → Nat) (aF aF_powers aF_logs aH aH_values aH_base aH_weights aH_parts aH_told : Nat) (cI cZ : ClassId) (F_powers : Nat → Int32) (F_logs : Nat → Int32) (H_lastApart : Int32) (H_needed : Int32) (H_width : Int32) (H_count : Int32) (H_base : Nat → Int32) (H_weights : Nat → Int32) (H_told : Nat → Int32) (p1 : Int32) (post : Int32 → (Nat → Int32) → (Nat → Int32) → Prop) (h : wp_Sh_chooseBase F_powers F_logs H_needed H_base H_weights H_told p1 post) (sz : Nat) : Met l y_Sh_chooseBase (Cond.code y_Sh_chooseBase c_Sh_chooseBase 4 (some .boolean) :: tb) rm_Sh_chooseBase (mt_P (dC, dI) vwCl [(cI, .int), (cZ, .boolean)] [.ref aH, .int p1] (wd_Sh_chooseBase aF aF_powers aF_logs aH aH_values aH_base aH_weights aH_parts aH_told cI cZ F_powers F_logs H_lastApart H_needed H_width H_count H_base H_weights H_told) sz) (va_Qi (fun (r : Int32) (u : (Nat → Int32) × (Nat → Int32)) => post r u.1 u.2) (mt_B (dC, dI) vwCl [(cI, .int), (cZ, .boolean)] (wd_Sh_chooseBase aF aF_powers aF_logs aH aH_values aH_base aH_weights aH_parts aH_told cI cZ F_powers F_logs H_lastApart H_needed H_width H_count H_base H_weights H_told) sz (fun u : (Nat → Int32) × (Nat → Int32) => wd_Sh_chooseBase aF aF_powers aF_logs aH aH_values aH_base aH_weights aH_parts aH_told cI cZ F_powers F_logs H_lastApart H_needed H_width H_count u.1 u.2 H_told)) (va_A (wd_Sh_chooseBase aF aF_powers aF_logs aH aH_values aH_base aH_weights aH_parts aH_told cI cZ F_powers F_logs H_lastApart H_needed H_width H_count H_base H_weights H_told) sz)) 0 0 (va_A (wd_Sh_chooseBase aF aF_powers aF_logs aH aH_values aH_base aH_weights aH_parts aH_told cI cZ F_powers F_logs H_lastApart H_needed H_width H_count H_base H_weights H_told) sz) := by
  refine mt_bd (by decide +kernel) (Nat.le_of_ble_eq_true rfl) ?_
  intro p e s m args below meth c hx hb hml hown hts hr hlk hnm hsz hP hK hD hA hS ls hl
  subst hsz
  have hown : s.vm.findClass "ReedSets$Sharing" = some m.cls := hown
  have hl : lv_has ls 4 [(0, .ref aH), (1, .int p1)] := hl
  refine lz_Q (fun Q hQ => ?_)
  obtain ⟨A, hAe⟩ : ∃ A : Nat → Prop, A = va_A (wd_Sh_chooseBase aF aF_powers aF_logs aH aH_values aH_base aH_weights aH_parts aH_told cI cZ F_powers F_logs H_lastApart H_needed H_width H_count H_base H_weights H_told) s.heap.size := ⟨_, rfl⟩
  rw [← hAe] at hD hA hS
  have RET : ∀ (v : Int32) (H_base : Nat → Int32) (H_weights : Nat → Int32) (H : Heap) (locs : List Loc) (ls : Array Slot) (pc : Nat), decode c_Sh_chooseBase pc = .ok (.ireturn, 1) → narrow .boolean (.int v) = .int v → post v H_base H_weights → va_P (dC, dI) vwCl (wd_Sh_chooseBase aF aF_powers aF_logs aH aH_values aH_base aH_weights aH_parts aH_told cI cZ F_powers F_logs H_lastApart H_needed H_width H_count H_base H_weights H_told) H → va_D A (wd_Sh_chooseBase aF aF_powers aF_logs aH aH_values aH_base aH_weights aH_parts aH_told cI cZ F_powers F_logs H_lastApart H_needed H_width H_count H_base H_weights H_told) → va_S A s.heap H locs → W p l e rm_Sh_chooseBase s m args below meth c H locs 0 0 Q (F0 m pc ls [.int v]) := by
    intro v H_base H_weights H locs ls pc hd hz hp h1 h2 h3
    rw [hQ]
    rw [hAe] at h2 h3
    exact mt_retz (H_base, H_weights) hx hb hr hlk hd hK h1 h2 h3 hz hp
  have B43 : ∀ (K4 : (Nat → Int32) → (Nat → Int32) → Int32 → Int32 → Int32 → Prop) (HK4 : ∀ (H_base : Nat → Int32) (H_weights : Nat → Int32) (x1 : Int32) (x2 : Int32) (x3 : Int32) (H : Heap) (locs : List Loc) (ls : Array Slot), K4 H_base H_weights x1 x2 x3 → va_P (dC, dI) vwCl (wd_Sh_chooseBase aF aF_powers aF_logs aH aH_values aH_base aH_weights aH_parts aH_told cI cZ F_powers F_logs H_lastApart H_needed H_width H_count H_base H_weights H_told) H → va_D A (wd_Sh_chooseBase aF aF_powers aF_logs aH aH_values aH_base aH_weights aH_parts aH_told cI cZ F_powers F_logs H_lastApart H_needed H_width H_count H_base H_weights H_told) → va_S A s.heap H locs → lv_has ls 4 [(0, .ref aH), (1, .int x1), (2, .int x2), (3, .int x3)] → W p l e rm_Sh_chooseBase s m args below meth c H locs 0 0 Q (F0 m 4 ls [])), ∀ (H_base : Nat → Int32) (H_weights : Nat → Int32) (x1 : Int32) (x2 : Int32) (x3 : Int32) (H : Heap) (locs : List Loc) (ls : Array Slot), wp_Sh_chooseBase_b43 F_powers F_logs H_needed H_told post K4 H_base H_weights x1 x2 x3 → va_P (dC, dI) vwCl (wd_Sh_chooseBase aF aF_powers aF_logs aH aH_values aH_base aH_weights aH_parts aH_told cI cZ F_powers F_logs H_lastApart H_needed H_width H_count H_base H_weights H_told) H → va_D A (wd_Sh_chooseBase aF aF_powers aF_logs aH aH_values aH_base aH_weights aH_parts aH_told cI cZ F_powers F_logs H_lastApart H_needed H_width H_count H_base H_weights H_told) → va_S A s.heap H locs → lv_has ls 4 [(0, .ref aH), (1, .int x1), (2, .int x2), (3, .int x3)] → W p l e rm_Sh_chooseBase s m args below meth c H locs 0 0 Q (F0 m 43 ls []) := by
    intro K4 HK4 H_base H_weights x1 x2 x3 H locs ls h hP hD hS hl
    obtain ⟨x3_43, ex3_43⟩ : ∃ y : Int32, y = (x3 + (1 : Int32)) := ⟨_, rfl⟩
    have h := h x3_43 ex3_43
    refine lv_iinc (v := x3_43) (lv' := [(3, .int x3_43), (0, .ref aH), (1, .int x1), (2, .int x2)]) hx hb d_Sh_chooseBase_43 hl (k := 3) rfl (by rw [ex3_43]; rfl) (by decide) rfl (fun ls hl => ?_)
    refine lv_goto (tgt := 4) hx hb d_Sh_chooseBase_46 (by decide) ?_
    exact HK4 H_base H_weights x1 x2 x3_43 H locs ls h hP hD hS (lv_sub hl [1, 2, 3, 0] rfl)
  have B49 : ∀ (H_base : Nat → Int32) (H_weights : Nat → Int32) (x2 : Int32) (H : Heap) (locs : List Loc) (ls : Array Slot), wp_Sh_chooseBase_b49 F_powers F_logs H_needed H_told post  H_base H_weights x2 → va_P (dC, dI) vwCl (wd_Sh_chooseBase aF aF_powers aF_logs aH aH_values aH_base aH_weights aH_parts aH_told cI cZ F_powers F_logs H_lastApart H_needed H_width H_count H_base H_weights H_told) H → va_D A (wd_Sh_chooseBase aF aF_powers aF_logs aH aH_values aH_base aH_weights aH_parts aH_told cI cZ F_powers F_logs H_lastApart H_needed H_width H_count H_base H_weights H_told) → va_S A s.heap H locs → lv_has ls 4 [(0, .ref aH), (2, .int x2)] → W p l e rm_Sh_chooseBase s m args below meth c H locs 0 0 Q (F0 m 49 ls []) := by
    intro  H_base H_weights x2 H locs ls h hP hD hS hl
    refine lv_iload_n hx hb d_Sh_chooseBase_49 rfl (lv_at hl 1 rfl) ?_
    refine lv_aload_n hx hb d_Sh_chooseBase_50 rfl (lv_at hl 0 rfl) ?_
    refine va_get (D := (dC, dI)) (ci := 2) (v := .int H_needed) (C := "ReedSets$Sharing") (T := T_Sh) (N := 10) hx hb hts in_Sh hown hK hP 3 rfl rfl 6 (by decide) (hts _ tb_248) (fun _ h9 => h9) rfl d_Sh_chooseBase_51 ?_
    refine lv_icmp_ge (tgt := 59) hx hb d_Sh_chooseBase_54 (by decide) (fun g54 => ?_) (fun g54 => ?_)
    · have h := h.1 g54
      refine lv_aload_n hx hb d_Sh_chooseBase_59 rfl (lv_at hl 0 rfl) ?_
      refine mt_v (va_runV (As := []) (rest := []) ⟨hx, hb, hml, hown, hts⟩ (ct_Sh_weighBase l dC dI aF aF_powers aF_logs aH aH_values aH_base aH_weights aH_parts aH_told cI cZ F_powers F_logs H_lastApart H_needed H_width H_count H_base H_weights _ h _) (tb_cV hts ok_Sh_weighBase tb_616 rfl rfl ⟨Nat.le_of_ble_eq_true rfl, Nat.le_of_ble_eq_true rfl⟩) (mt_preV hK hP hD [] [0, 1, 2, 3, 4, 5] rfl (by decide) (ci := 2) (q0 := 3) rfl rfl) rfl rfl hl.1 rfl (lv_room (Nat.le_of_ble_eq_true rfl)) d_Sh_chooseBase_60 ⟨Nat.zero_le _, Nat.zero_le _⟩) hP hD hS hA [0, 1, 2, 3, 4, 5] rfl (fun _ => rfl) (fun u H locs h hP hD hS => ?_)
      obtain ⟨H_weights_60, rfl⟩ : ∃ z, z = u := ⟨_, rfl⟩
      have hP : va_P (dC, dI) vwCl (wd_Sh_chooseBase aF aF_powers aF_logs aH aH_values aH_base aH_weights aH_parts aH_told cI cZ F_powers F_logs H_lastApart H_needed H_width H_count H_base H_weights_60 H_told) H := hP
      have hD : va_D A (wd_Sh_chooseBase aF aF_powers aF_logs aH aH_values aH_base aH_weights aH_parts aH_told cI cZ F_powers F_logs H_lastApart H_needed H_width H_count H_base H_weights_60 H_told) := hD
      refine lv_iconst (v := (1 : Int32)) hx hb d_Sh_chooseBase_63 (by decide) ?_
      exact RET (1 : Int32) H_base H_weights_60 H locs ls 64 d_Sh_chooseBase_64 rfl h hP hD hS
    · have h := h.2 g54
      refine lv_iconst (v := (0 : Int32)) hx hb d_Sh_chooseBase_57 (by decide) ?_
      exact RET (0 : Int32) H_base H_weights H locs ls 58 d_Sh_chooseBase_58 rfl h hP hD hS
  have B4 : ∀ (K4 : (Nat → Int32) → (Nat → Int32) → Int32 → Int32 → Int32 → Prop) (HK4 : ∀ (H_base : Nat → Int32) (H_weights : Nat → Int32) (x1 : Int32) (x2 : Int32) (x3 : Int32) (H : Heap) (locs : List Loc) (ls : Array Slot), K4 H_base H_weights x1 x2 x3 → va_P (dC, dI) vwCl (wd_Sh_chooseBase aF aF_powers aF_logs aH aH_values aH_base aH_weights aH_parts aH_told cI cZ F_powers F_logs H_lastApart H_needed H_width H_count H_base H_weights H_told) H → va_D A (wd_Sh_chooseBase aF aF_powers aF_logs aH aH_values aH_base aH_weights aH_parts aH_told cI cZ F_powers F_logs H_lastApart H_needed H_width H_count H_base H_weights H_told) → va_S A s.heap H locs → lv_has ls 4 [(0, .ref aH), (1, .int x1), (2, .int x2), (3, .int x3)] → W p l e rm_Sh_chooseBase s m args below meth c H locs 0 0 Q (F0 m 4 ls [])), ∀ (H_base : Nat → Int32) (H_weights : Nat → Int32) (x1 : Int32) (x2 : Int32) (x3 : Int32) (H : Heap) (locs : List Loc) (ls : Array Slot), wp_Sh_chooseBase_b4 F_powers F_logs H_needed H_told post K4 H_base H_weights x1 x2 x3 → va_P (dC, dI) vwCl (wd_Sh_chooseBase aF aF_powers aF_logs aH aH_values aH_base aH_weights aH_parts aH_told cI cZ F_powers F_logs H_lastApart H_needed H_width H_count H_base H_weights H_told) H → va_D A (wd_Sh_chooseBase aF aF_powers aF_logs aH aH_values aH_base aH_weights aH_parts aH_told cI cZ F_powers F_logs H_lastApart H_needed H_width H_count H_base H_weights H_told) → va_S A s.heap H locs → lv_has ls 4 [(0, .ref aH), (1, .int x1), (2, .int x2), (3, .int x3)] → W p l e rm_Sh_chooseBase s m args below meth c H locs 0 0 Q (F0 m 4 ls []) := by
    intro K4 HK4 H_base H_weights x1 x2 x3 H locs ls h hP hD hS hl
    refine lv_iload_n hx hb d_Sh_chooseBase_4 rfl (lv_at hl 3 rfl) ?_
    refine lv_sipush (v := (256 : Int32)) hx hb d_Sh_chooseBase_5 (by decide) ?_
    refine lv_icmp_ge (tgt := 49) hx hb d_Sh_chooseBase_8 (by decide) (fun g8 => ?_) (fun g8 => ?_)
    · have h := h.1 g8
      exact B49  H_base H_weights x2 H locs ls h hP hD hS (lv_sub hl [0, 2] rfl)
    · have h := h.2 g8
      refine lv_iload_n hx hb d_Sh_chooseBase_11 rfl (lv_at hl 2 rfl) ?_
      refine lv_aload_n hx hb d_Sh_chooseBase_12 rfl (lv_at hl 0 rfl) ?_
      refine va_get (D := (dC, dI)) (ci := 2) (v := .int H_needed) (C := "ReedSets$Sharing") (T := T_Sh) (N := 10) hx hb hts in_Sh hown hK hP 3 rfl rfl 6 (by decide) (hts _ tb_248) (fun _ h9 => h9) rfl d_Sh_chooseBase_13 ?_
      refine lv_icmp_ge (tgt := 49) hx hb d_Sh_chooseBase_16 (by decide) (fun g16 => ?_) (fun g16 => ?_)
      · have h := h.1 g16
        exact B49  H_base H_weights x2 H locs ls h hP hD hS (lv_sub hl [0, 2] rfl)
      · have h := h.2 g16
        refine lv_aload_n hx hb d_Sh_chooseBase_19 rfl (lv_at hl 0 rfl) ?_
        refine va_get (D := (dC, dI)) (ci := 2) (v := .ref aH_told) (C := "ReedSets$Sharing") (T := T_Sh) (N := 10) hx hb hts in_Sh hown hK hP 3 rfl rfl 8 (by decide) (hts _ tb_250) (fun _ h9 => h9) rfl d_Sh_chooseBase_20 ?_
        refine lv_iload_n hx hb d_Sh_chooseBase_23 rfl (lv_at hl 3 rfl) ?_
        obtain ⟨hi, h⟩ := h
        refine va_zald hx hb hK hP 6 1 rfl rfl hi d_Sh_chooseBase_24 ?_
        refine lv_if_eq (tgt := 43) hx hb d_Sh_chooseBase_25 (by decide) (fun g25 => ?_) (fun g25 => ?_)
        · have h := h.1 g25
          exact B43 K4 HK4 H_base H_weights x1 x2 x3 H locs ls h hP hD hS (lv_sub hl [0, 1, 2, 3] rfl)
        · have h := h.2 g25
          refine lv_iload_n hx hb d_Sh_chooseBase_28 rfl (lv_at hl 3 rfl) ?_
          refine lv_iload_n hx hb d_Sh_chooseBase_29 rfl (lv_at hl 1 rfl) ?_
          refine lv_icmp_eq (tgt := 43) hx hb d_Sh_chooseBase_30 (by decide) (fun g30 => ?_) (fun g30 => ?_)
          · have h := h.1 g30
            exact B43 K4 HK4 H_base H_weights x1 x2 x3 H locs ls h hP hD hS (lv_sub hl [0, 1, 2, 3] rfl)
          · have h := h.2 g30
            refine lv_aload_n hx hb d_Sh_chooseBase_33 rfl (lv_at hl 0 rfl) ?_
            refine va_get (D := (dC, dI)) (ci := 2) (v := .ref aH_base) (C := "ReedSets$Sharing") (T := T_Sh) (N := 10) hx hb hts in_Sh hown hK hP 3 rfl rfl 2 (by decide) (hts _ tb_244) (fun _ h9 => h9) rfl d_Sh_chooseBase_34 ?_
            refine lv_iload_n hx hb d_Sh_chooseBase_37 rfl (lv_at hl 2 rfl) ?_
            refine lv_iload_n hx hb d_Sh_chooseBase_38 rfl (lv_at hl 3 rfl) ?_
            obtain ⟨hi, h⟩ := h
            refine va_iast hx hb hK hP hD hS 4 0 rfl rfl hi d_Sh_chooseBase_39 (fun H locs hP hD hS => ?_)
            have hP : va_P (dC, dI) vwCl (wd_Sh_chooseBase aF aF_powers aF_logs aH aH_values aH_base aH_weights aH_parts aH_told cI cZ F_powers F_logs H_lastApart H_needed H_width H_count (upd H_base x2.toNatClampNeg x3) H_weights H_told) H := hP
            have hD : va_D A (wd_Sh_chooseBase aF aF_powers aF_logs aH aH_values aH_base aH_weights aH_parts aH_told cI cZ F_powers F_logs H_lastApart H_needed H_width H_count (upd H_base x2.toNatClampNeg x3) H_weights H_told) := hD
            obtain ⟨x2_40, ex2_40⟩ : ∃ y : Int32, y = (x2 + (1 : Int32)) := ⟨_, rfl⟩
            have h := h x2_40 ex2_40
            refine lv_iinc (v := x2_40) (lv' := [(2, .int x2_40), (0, .ref aH), (1, .int x1), (3, .int x3)]) hx hb d_Sh_chooseBase_40 hl (k := 2) rfl (by rw [ex2_40]; rfl) (by decide) rfl (fun ls hl => ?_)
            exact B43 K4 HK4 (upd H_base x2.toNatClampNeg x3) H_weights x1 x2_40 x3 H locs ls h hP hD hS (lv_sub hl [1, 2, 0, 3] rfl)
  have L4 : ∀  (n : Nat), ∀ (H_base : Nat → Int32) (H_weights : Nat → Int32) (x1 : Int32) (x2 : Int32) (x3 : Int32) (H : Heap) (locs : List Loc) (ls : Array Slot), wp_Sh_chooseBase_L4 F_powers F_logs H_needed H_told post  n H_base H_weights x1 x2 x3 → va_P (dC, dI) vwCl (wd_Sh_chooseBase aF aF_powers aF_logs aH aH_values aH_base aH_weights aH_parts aH_told cI cZ F_powers F_logs H_lastApart H_needed H_width H_count H_base H_weights H_told) H → va_D A (wd_Sh_chooseBase aF aF_powers aF_logs aH aH_values aH_base aH_weights aH_parts aH_told cI cZ F_powers F_logs H_lastApart H_needed H_width H_count H_base H_weights H_told) → va_S A s.heap H locs → lv_has ls 4 [(0, .ref aH), (1, .int x1), (2, .int x2), (3, .int x3)] → W p l e rm_Sh_chooseBase s m args below meth c H locs 0 0 Q (F0 m 4 ls []) := by
    intro  n
    induction n with
    | zero => intro H_base H_weights x1 x2 x3 H locs ls h hP hD hS hl; exact False.elim h
    | succ n ih => intro H_base H_weights x1 x2 x3 H locs ls h hP hD hS hl; exact B4  (wp_Sh_chooseBase_L4 F_powers F_logs H_needed H_told post  n) ih H_base H_weights x1 x2 x3 H locs ls h hP hD hS hl
  obtain ⟨H, hH⟩ : ∃ H : Heap, H = s.heap := ⟨_, rfl⟩
  obtain ⟨locs, hlo⟩ : ∃ x : List Loc, x = [] := ⟨_, rfl⟩
  have hS : va_S A s.heap H locs := by rw [hH, hlo]; exact hS
  rw [← hH] at hP
  rw [← hlo]
  show W p l e rm_Sh_chooseBase s m args below meth c s.heap locs 0 0 Q (F0 m 0 ls [])
  rw [← hH]
  refine lv_iconst (v := (0 : Int32)) hx hb d_Sh_chooseBase_0 (by decide) ?_
  refine lv_istore_n (lv' := [(2, .int (0 : Int32)), (0, .ref aH), (1, .int p1)]) hx hb d_Sh_chooseBase_1 rfl hl (by decide) rfl (fun ls hl => ?_)
  refine lv_iconst (v := (0 : Int32)) hx hb d_Sh_chooseBase_2 (by decide) ?_
  refine lv_istore_n (lv' := [(3, .int (0 : Int32)), (2, .int (0 : Int32)), (0, .ref aH), (1, .int p1)]) hx hb d_Sh_chooseBase_3 rfl hl (by decide) rfl (fun ls hl => ?_)
  obtain ⟨n, h⟩ := h
  exact L4  n H_base H_weights p1 (0 : Int32) (0 : Int32) H locs ls h hP hD hS (lv_sub hl [2, 3, 1, 0] rfl)
abbrev wd_Sh_aimAt (aF aF_powers aF_logs aH aH_values aH_base aH_weights aH_parts aH_told : Nat) (cI cZ : ClassId) (F_powers : Nat → Int32) (F_logs : Nat → Int32) (H_lastApart : Int32) (H_needed : Int32) (H_width : Int32) (H_count : Int32) (H_base : Nat → Int32) (H_weights : Nat → Int32) (H_parts : Nat → Int32) : va_W := [(aF, .inr (1, [.ref aF_powers, .ref aF_logs])), (aF_powers, .inl (cI, 512, .inl F_powers)), (aF_logs, .inl (cI, 256, .inl F_logs)), (aH, .inr (2, [.ref aF, .ref aH_values, .ref aH_base, .ref aH_weights, .ref aH_parts, .int H_lastApart, .int H_needed, .int H_width, .ref aH_told, .int H_count])), (aH_base, .inl (cI, 20, .inl H_base)), (aH_weights, .inl (cI, 20, .inl H_weights)), (aH_parts, .inl (cI, 20, .inl H_parts))]
def wp_Sh_aimAt_b100 (F_powers : Nat → Int32) (F_logs : Nat → Int32) (H_needed : Int32) (H_base : Nat → Int32) (H_weights : Nat → Int32) (post : (Nat → Int32) → Prop) (K37 : (Nat → Int32) → Int32 → Int32 → Int32 → Prop) (H_parts : Nat → Int32) (x1 : Int32) (x2 : Int32) (x3 : Int32) : Prop := ∀ x3_100 : Int32, x3_100 = (x3 + (1 : Int32)) → (K37 H_parts x1 x2 x3_100)
def wp_Sh_aimAt_b37 (F_powers : Nat → Int32) (F_logs : Nat → Int32) (H_needed : Int32) (H_base : Nat → Int32) (H_weights : Nat → Int32) (post : (Nat → Int32) → Prop) (K37 : (Nat → Int32) → Int32 → Int32 → Int32 → Prop) (H_parts : Nat → Int32) (x1 : Int32) (x2 : Int32) (x3 : Int32) : Prop := (H_needed ≤ x3 → (post H_parts)) ∧ (¬ H_needed ≤ x3 → (vp_in x3 20 ∧ ((¬ (H_base x3.toNatClampNeg) = x1 → (vp_in x3 20 ∧ (wp_Fi_product F_powers F_logs x2 (H_weights x3.toNatClampNeg) (fun r_85 => (vp_in x3 20 ∧ (wp_Fi_quotient F_powers F_logs r_85 (x1 ^^^ (H_base x3.toNatClampNeg)) (fun r_96 => (vp_in x3 20 ∧ (wp_Sh_aimAt_b100 F_powers F_logs H_needed H_base H_weights post K37 (upd H_parts x3.toNatClampNeg r_96) x1 x2 x3))))))))) ∧ ((H_base x3.toNatClampNeg) = x1 → (vp_in x3 20 ∧ (wp_Sh_aimAt_b100 F_powers F_logs H_needed H_base H_weights post K37 (upd H_parts x3.toNatClampNeg (1 : Int32)) x1 x2 x3))))))
def wp_Sh_aimAt_L37 (F_powers : Nat → Int32) (F_logs : Nat → Int32) (H_needed : Int32) (H_base : Nat → Int32) (H_weights : Nat → Int32) (post : (Nat → Int32) → Prop)  : Nat → (Nat → Int32) → Int32 → Int32 → Int32 → Prop
  | 0 => fun _ _ _ _ => False
  | n + 1 => wp_Sh_aimAt_b37 F_powers F_logs H_needed H_base H_weights post (wp_Sh_aimAt_L37 F_powers F_logs H_needed H_base H_weights post n)
def wp_Sh_aimAt_b4 (F_powers : Nat → Int32) (F_logs : Nat → Int32) (H_needed : Int32) (H_base : Nat → Int32) (H_weights : Nat → Int32) (post : (Nat → Int32) → Prop) (K4 : (Nat → Int32) → Int32 → Int32 → Int32 → Prop) (H_parts : Nat → Int32) (x1 : Int32) (x2 : Int32) (x3 : Int32) : Prop := (H_needed ≤ x3 → (∃ n : Nat, wp_Sh_aimAt_L37 F_powers F_logs H_needed H_base H_weights post  n H_parts x1 x2 (0 : Int32))) ∧ (¬ H_needed ≤ x3 → (vp_in x3 20 ∧ (wp_Fi_product F_powers F_logs x2 (x1 ^^^ (H_base x3.toNatClampNeg)) (fun r_25 => (∀ x3_29 : Int32, x3_29 = (x3 + (1 : Int32)) → (K4 H_parts x1 r_25 x3_29))))))
def wp_Sh_aimAt_L4 (F_powers : Nat → Int32) (F_logs : Nat → Int32) (H_needed : Int32) (H_base : Nat → Int32) (H_weights : Nat → Int32) (post : (Nat → Int32) → Prop)  : Nat → (Nat → Int32) → Int32 → Int32 → Int32 → Prop
  | 0 => fun _ _ _ _ => False
  | n + 1 => wp_Sh_aimAt_b4 F_powers F_logs H_needed H_base H_weights post (wp_Sh_aimAt_L4 F_powers F_logs H_needed H_base H_weights post n)
def wp_Sh_aimAt (F_powers : Nat → Int32) (F_logs : Nat → Int32) (H_needed : Int32) (H_base : Nat → Int32) (H_weights : Nat → Int32) (H_parts : Nat → Int32) (p1 : Int32) (post : (Nat → Int32) → Prop) : Prop := ∃ n : Nat, wp_Sh_aimAt_L4 F_powers F_logs H_needed H_base H_weights post  n H_parts p1 (1 : Int32) (0 : Int32)
abbrev rm_Sh_aimAt : Room := { frames := 1, cells := 0, slots := 0, locals := 22 }
set_option maxHeartbeats 4000000 in
set_option maxRecDepth 100000 in
theorem ct_Sh_aimAt (l : Launch) (dC : Nat → ClassId) (dI : Nat → Nat → Nat) (aF aF_powers aF_logs aH aH_values aH_base aH_weights aH_parts aH_told : Nat) (cI cZ : ClassId) (F_powers : Nat → Int32) (F_logs : Nat → Int32) (H_lastApart : Int32) (H_needed : Int32) (H_width : Int32) (H_count : Int32) (H_base : Nat → Int32) (H_weights : Nat → Int32) (H_parts : Nat → Int32) (p1 : Int32) (post : (Nat → Int32) → Prop) (h : wp_Sh_aimAt F_powers F_logs H_needed H_base H_weights H_parts p1 post) (sz : Nat) : Met l y_Sh_aimAt (Cond.code y_Sh_aimAt c_Sh_aimAt 4 none :: tb) rm_Sh_aimAt (mt_P (dC, dI) vwCl [(cI, .int), (cZ, .boolean)] [.ref aH, .int p1] (wd_Sh_aimAt aF aF_powers aF_logs aH aH_values aH_base aH_weights aH_parts aH_told cI cZ F_powers F_logs H_lastApart H_needed H_width H_count H_base H_weights H_parts) sz) (va_Qv (fun (u : (Nat → Int32)) => post u) (mt_B (dC, dI) vwCl [(cI, .int), (cZ, .boolean)] (wd_Sh_aimAt aF aF_powers aF_logs aH aH_values aH_base aH_weights aH_parts aH_told cI cZ F_powers F_logs H_lastApart H_needed H_width H_count H_base H_weights H_parts) sz (fun u : (Nat → Int32) => wd_Sh_aimAt aF aF_powers aF_logs aH aH_values aH_base aH_weights aH_parts aH_told cI cZ F_powers F_logs H_lastApart H_needed H_width H_count H_base H_weights u)) (va_A (wd_Sh_aimAt aF aF_powers aF_logs aH aH_values aH_base aH_weights aH_parts aH_told cI cZ F_powers F_logs H_lastApart H_needed H_width H_count H_base H_weights H_parts) sz)) 0 0 (va_A (wd_Sh_aimAt aF aF_powers aF_logs aH aH_values aH_base aH_weights aH_parts aH_told cI cZ F_powers F_logs H_lastApart H_needed H_width H_count H_base H_weights H_parts) sz) := by
  refine mt_bd (by decide +kernel) (Nat.le_of_ble_eq_true rfl) ?_
  intro p e s m args below meth c hx hb hml hown hts hr hlk hnm hsz hP hK hD hA hS ls hl
  subst hsz
  have hown : s.vm.findClass "ReedSets$Sharing" = some m.cls := hown
  have hl : lv_has ls 4 [(0, .ref aH), (1, .int p1)] := hl
  refine lz_Q (fun Q hQ => ?_)
  obtain ⟨A, hAe⟩ : ∃ A : Nat → Prop, A = va_A (wd_Sh_aimAt aF aF_powers aF_logs aH aH_values aH_base aH_weights aH_parts aH_told cI cZ F_powers F_logs H_lastApart H_needed H_width H_count H_base H_weights H_parts) s.heap.size := ⟨_, rfl⟩
  rw [← hAe] at hD hA hS
  have RET : ∀ (H_parts : Nat → Int32) (H : Heap) (locs : List Loc) (ls : Array Slot) (pc : Nat), decode c_Sh_aimAt pc = .ok (.return_, 1) → post H_parts → va_P (dC, dI) vwCl (wd_Sh_aimAt aF aF_powers aF_logs aH aH_values aH_base aH_weights aH_parts aH_told cI cZ F_powers F_logs H_lastApart H_needed H_width H_count H_base H_weights H_parts) H → va_D A (wd_Sh_aimAt aF aF_powers aF_logs aH aH_values aH_base aH_weights aH_parts aH_told cI cZ F_powers F_logs H_lastApart H_needed H_width H_count H_base H_weights H_parts) → va_S A s.heap H locs → W p l e rm_Sh_aimAt s m args below meth c H locs 0 0 Q (F0 m pc ls []) := by
    intro H_parts H locs ls pc hd hp h1 h2 h3
    rw [hQ]
    rw [hAe] at h2 h3
    exact mt_retv (H_parts) hx hb hr hlk hd hK h1 h2 h3 hp
  have B100 : ∀ (K37 : (Nat → Int32) → Int32 → Int32 → Int32 → Prop) (HK37 : ∀ (H_parts : Nat → Int32) (x1 : Int32) (x2 : Int32) (x3 : Int32) (H : Heap) (locs : List Loc) (ls : Array Slot), K37 H_parts x1 x2 x3 → va_P (dC, dI) vwCl (wd_Sh_aimAt aF aF_powers aF_logs aH aH_values aH_base aH_weights aH_parts aH_told cI cZ F_powers F_logs H_lastApart H_needed H_width H_count H_base H_weights H_parts) H → va_D A (wd_Sh_aimAt aF aF_powers aF_logs aH aH_values aH_base aH_weights aH_parts aH_told cI cZ F_powers F_logs H_lastApart H_needed H_width H_count H_base H_weights H_parts) → va_S A s.heap H locs → lv_has ls 4 [(0, .ref aH), (1, .int x1), (2, .int x2), (3, .int x3)] → W p l e rm_Sh_aimAt s m args below meth c H locs 0 0 Q (F0 m 37 ls [])), ∀ (H_parts : Nat → Int32) (x1 : Int32) (x2 : Int32) (x3 : Int32) (H : Heap) (locs : List Loc) (ls : Array Slot), wp_Sh_aimAt_b100 F_powers F_logs H_needed H_base H_weights post K37 H_parts x1 x2 x3 → va_P (dC, dI) vwCl (wd_Sh_aimAt aF aF_powers aF_logs aH aH_values aH_base aH_weights aH_parts aH_told cI cZ F_powers F_logs H_lastApart H_needed H_width H_count H_base H_weights H_parts) H → va_D A (wd_Sh_aimAt aF aF_powers aF_logs aH aH_values aH_base aH_weights aH_parts aH_told cI cZ F_powers F_logs H_lastApart H_needed H_width H_count H_base H_weights H_parts) → va_S A s.heap H locs → lv_has ls 4 [(0, .ref aH), (1, .int x1), (2, .int x2), (3, .int x3)] → W p l e rm_Sh_aimAt s m args below meth c H locs 0 0 Q (F0 m 100 ls []) := by
    intro K37 HK37 H_parts x1 x2 x3 H locs ls h hP hD hS hl
    obtain ⟨x3_100, ex3_100⟩ : ∃ y : Int32, y = (x3 + (1 : Int32)) := ⟨_, rfl⟩
    have h := h x3_100 ex3_100
    refine lv_iinc (v := x3_100) (lv' := [(3, .int x3_100), (0, .ref aH), (1, .int x1), (2, .int x2)]) hx hb d_Sh_aimAt_100 hl (k := 3) rfl (by rw [ex3_100]; rfl) (by decide) rfl (fun ls hl => ?_)
    refine lv_goto (tgt := 37) hx hb d_Sh_aimAt_103 (by decide) ?_
    exact HK37 H_parts x1 x2 x3_100 H locs ls h hP hD hS (lv_sub hl [1, 2, 3, 0] rfl)
  have B37 : ∀ (K37 : (Nat → Int32) → Int32 → Int32 → Int32 → Prop) (HK37 : ∀ (H_parts : Nat → Int32) (x1 : Int32) (x2 : Int32) (x3 : Int32) (H : Heap) (locs : List Loc) (ls : Array Slot), K37 H_parts x1 x2 x3 → va_P (dC, dI) vwCl (wd_Sh_aimAt aF aF_powers aF_logs aH aH_values aH_base aH_weights aH_parts aH_told cI cZ F_powers F_logs H_lastApart H_needed H_width H_count H_base H_weights H_parts) H → va_D A (wd_Sh_aimAt aF aF_powers aF_logs aH aH_values aH_base aH_weights aH_parts aH_told cI cZ F_powers F_logs H_lastApart H_needed H_width H_count H_base H_weights H_parts) → va_S A s.heap H locs → lv_has ls 4 [(0, .ref aH), (1, .int x1), (2, .int x2), (3, .int x3)] → W p l e rm_Sh_aimAt s m args below meth c H locs 0 0 Q (F0 m 37 ls [])), ∀ (H_parts : Nat → Int32) (x1 : Int32) (x2 : Int32) (x3 : Int32) (H : Heap) (locs : List Loc) (ls : Array Slot), wp_Sh_aimAt_b37 F_powers F_logs H_needed H_base H_weights post K37 H_parts x1 x2 x3 → va_P (dC, dI) vwCl (wd_Sh_aimAt aF aF_powers aF_logs aH aH_values aH_base aH_weights aH_parts aH_told cI cZ F_powers F_logs H_lastApart H_needed H_width H_count H_base H_weights H_parts) H → va_D A (wd_Sh_aimAt aF aF_powers aF_logs aH aH_values aH_base aH_weights aH_parts aH_told cI cZ F_powers F_logs H_lastApart H_needed H_width H_count H_base H_weights H_parts) → va_S A s.heap H locs → lv_has ls 4 [(0, .ref aH), (1, .int x1), (2, .int x2), (3, .int x3)] → W p l e rm_Sh_aimAt s m args below meth c H locs 0 0 Q (F0 m 37 ls []) := by
    intro K37 HK37 H_parts x1 x2 x3 H locs ls h hP hD hS hl
    refine lv_iload_n hx hb d_Sh_aimAt_37 rfl (lv_at hl 3 rfl) ?_
    refine lv_aload_n hx hb d_Sh_aimAt_38 rfl (lv_at hl 0 rfl) ?_
    refine va_get (D := (dC, dI)) (ci := 2) (v := .int H_needed) (C := "ReedSets$Sharing") (T := T_Sh) (N := 10) hx hb hts in_Sh hown hK hP 3 rfl rfl 6 (by decide) (hts _ tb_248) (fun _ h9 => h9) rfl d_Sh_aimAt_39 ?_
    refine lv_icmp_ge (tgt := 106) hx hb d_Sh_aimAt_42 (by decide) (fun g42 => ?_) (fun g42 => ?_)
    · have h := h.1 g42
      exact RET H_parts H locs ls 106 d_Sh_aimAt_106 h hP hD hS
    · have h := h.2 g42
      refine lv_aload_n hx hb d_Sh_aimAt_45 rfl (lv_at hl 0 rfl) ?_
      refine va_get (D := (dC, dI)) (ci := 2) (v := .ref aH_base) (C := "ReedSets$Sharing") (T := T_Sh) (N := 10) hx hb hts in_Sh hown hK hP 3 rfl rfl 2 (by decide) (hts _ tb_244) (fun _ h9 => h9) rfl d_Sh_aimAt_46 ?_
      refine lv_iload_n hx hb d_Sh_aimAt_49 rfl (lv_at hl 3 rfl) ?_
      obtain ⟨hi, h⟩ := h
      refine va_iald hx hb hK hP 4 0 rfl rfl hi d_Sh_aimAt_50 ?_
      refine lv_iload_n hx hb d_Sh_aimAt_51 rfl (lv_at hl 1 rfl) ?_
      refine lv_icmp_ne (tgt := 65) hx hb d_Sh_aimAt_52 (by decide) (fun g52 => ?_) (fun g52 => ?_)
      · have h := h.1 g52
        refine lv_aload_n hx hb d_Sh_aimAt_65 rfl (lv_at hl 0 rfl) ?_
        refine va_get (D := (dC, dI)) (ci := 2) (v := .ref aH_parts) (C := "ReedSets$Sharing") (T := T_Sh) (N := 10) hx hb hts in_Sh hown hK hP 3 rfl rfl 4 (by decide) (hts _ tb_246) (fun _ h9 => h9) rfl d_Sh_aimAt_66 ?_
        refine lv_iload_n hx hb d_Sh_aimAt_69 rfl (lv_at hl 3 rfl) ?_
        refine lv_aload_n hx hb d_Sh_aimAt_70 rfl (lv_at hl 0 rfl) ?_
        refine va_get (D := (dC, dI)) (ci := 2) (v := .ref aF) (C := "ReedSets$Sharing") (T := T_Sh) (N := 10) hx hb hts in_Sh hown hK hP 3 rfl rfl 0 (by decide) (hts _ tb_242) (fun _ h9 => h9) rfl d_Sh_aimAt_71 ?_
        refine lv_aload_n hx hb d_Sh_aimAt_74 rfl (lv_at hl 0 rfl) ?_
        refine va_get (D := (dC, dI)) (ci := 2) (v := .ref aF) (C := "ReedSets$Sharing") (T := T_Sh) (N := 10) hx hb hts in_Sh hown hK hP 3 rfl rfl 0 (by decide) (hts _ tb_242) (fun _ h9 => h9) rfl d_Sh_aimAt_75 ?_
        refine lv_iload_n hx hb d_Sh_aimAt_78 rfl (lv_at hl 2 rfl) ?_
        refine lv_aload_n hx hb d_Sh_aimAt_79 rfl (lv_at hl 0 rfl) ?_
        refine va_get (D := (dC, dI)) (ci := 2) (v := .ref aH_weights) (C := "ReedSets$Sharing") (T := T_Sh) (N := 10) hx hb hts in_Sh hown hK hP 3 rfl rfl 3 (by decide) (hts _ tb_245) (fun _ h9 => h9) rfl d_Sh_aimAt_80 ?_
        refine lv_iload_n hx hb d_Sh_aimAt_83 rfl (lv_at hl 3 rfl) ?_
        obtain ⟨hi, h⟩ := h
        refine va_iald hx hb hK hP 5 0 rfl rfl hi d_Sh_aimAt_84 ?_
        refine mt_i (va_runV (As := [.int x2, .int (H_weights x3.toNatClampNeg)]) (rest := [.ref aF, .int x3, .ref aH_parts]) ⟨hx, hb, hml, hown, hts⟩ (ct_Fi_product l dC dI aF aF_powers aF_logs cI cZ F_powers F_logs x2 (H_weights x3.toNatClampNeg) _ h _) (tb_cV hts ok_Fi_product tb_620 rfl rfl ⟨Nat.le_of_ble_eq_true rfl, Nat.le_of_ble_eq_true rfl⟩) (mt_preV hK hP hD [.int x2, .int (H_weights x3.toNatClampNeg)] [0, 1, 2] rfl (by decide) (ci := 1) (q0 := 0) rfl rfl) rfl rfl hl.1 rfl (lv_room (Nat.le_of_ble_eq_true rfl)) d_Sh_aimAt_85 ⟨Nat.zero_le _, Nat.zero_le _⟩) hP hD hS hA [0, 1, 2] rfl (fun _ => rfl) (fun r_85 u H locs h hP hD hS => ?_)
        have hP : va_P (dC, dI) vwCl (wd_Sh_aimAt aF aF_powers aF_logs aH aH_values aH_base aH_weights aH_parts aH_told cI cZ F_powers F_logs H_lastApart H_needed H_width H_count H_base H_weights H_parts) H := hP
        have hD : va_D A (wd_Sh_aimAt aF aF_powers aF_logs aH aH_values aH_base aH_weights aH_parts aH_told cI cZ F_powers F_logs H_lastApart H_needed H_width H_count H_base H_weights H_parts) := hD
        refine lv_iload_n hx hb d_Sh_aimAt_88 rfl (lv_at hl 1 rfl) ?_
        refine lv_aload_n hx hb d_Sh_aimAt_89 rfl (lv_at hl 0 rfl) ?_
        refine va_get (D := (dC, dI)) (ci := 2) (v := .ref aH_base) (C := "ReedSets$Sharing") (T := T_Sh) (N := 10) hx hb hts in_Sh hown hK hP 3 rfl rfl 2 (by decide) (hts _ tb_244) (fun _ h9 => h9) rfl d_Sh_aimAt_90 ?_
        refine lv_iload_n hx hb d_Sh_aimAt_93 rfl (lv_at hl 3 rfl) ?_
        obtain ⟨hi, h⟩ := h
        refine va_iald hx hb hK hP 4 0 rfl rfl hi d_Sh_aimAt_94 ?_
        refine lv_ixor hx hb d_Sh_aimAt_95 ?_
        refine mt_i (va_runV (As := [.int r_85, .int (x1 ^^^ (H_base x3.toNatClampNeg))]) (rest := [.int x3, .ref aH_parts]) ⟨hx, hb, hml, hown, hts⟩ (ct_Fi_quotient l dC dI aF aF_powers aF_logs cI cZ F_powers F_logs r_85 (x1 ^^^ (H_base x3.toNatClampNeg)) _ h _) (tb_cV hts ok_Fi_quotient tb_621 rfl rfl ⟨Nat.le_of_ble_eq_true rfl, Nat.le_of_ble_eq_true rfl⟩) (mt_preV hK hP hD [.int r_85, .int (x1 ^^^ (H_base x3.toNatClampNeg))] [0, 1, 2] rfl (by decide) (ci := 1) (q0 := 0) rfl rfl) rfl rfl hl.1 rfl (lv_room (Nat.le_of_ble_eq_true rfl)) d_Sh_aimAt_96 ⟨Nat.zero_le _, Nat.zero_le _⟩) hP hD hS hA [0, 1, 2] rfl (fun _ => rfl) (fun r_96 u H locs h hP hD hS => ?_)
        have hP : va_P (dC, dI) vwCl (wd_Sh_aimAt aF aF_powers aF_logs aH aH_values aH_base aH_weights aH_parts aH_told cI cZ F_powers F_logs H_lastApart H_needed H_width H_count H_base H_weights H_parts) H := hP
        have hD : va_D A (wd_Sh_aimAt aF aF_powers aF_logs aH aH_values aH_base aH_weights aH_parts aH_told cI cZ F_powers F_logs H_lastApart H_needed H_width H_count H_base H_weights H_parts) := hD
        obtain ⟨hi, h⟩ := h
        refine va_iast hx hb hK hP hD hS 6 0 rfl rfl hi d_Sh_aimAt_99 (fun H locs hP hD hS => ?_)
        have hP : va_P (dC, dI) vwCl (wd_Sh_aimAt aF aF_powers aF_logs aH aH_values aH_base aH_weights aH_parts aH_told cI cZ F_powers F_logs H_lastApart H_needed H_width H_count H_base H_weights (upd H_parts x3.toNatClampNeg r_96)) H := hP
        have hD : va_D A (wd_Sh_aimAt aF aF_powers aF_logs aH aH_values aH_base aH_weights aH_parts aH_told cI cZ F_powers F_logs H_lastApart H_needed H_width H_count H_base H_weights (upd H_parts x3.toNatClampNeg r_96)) := hD
        exact B100 K37 HK37 (upd H_parts x3.toNatClampNeg r_96) x1 x2 x3 H locs ls h hP hD hS (lv_sub hl [0, 1, 2, 3] rfl)
      · have h := h.2 g52
        refine lv_aload_n hx hb d_Sh_aimAt_55 rfl (lv_at hl 0 rfl) ?_
        refine va_get (D := (dC, dI)) (ci := 2) (v := .ref aH_parts) (C := "ReedSets$Sharing") (T := T_Sh) (N := 10) hx hb hts in_Sh hown hK hP 3 rfl rfl 4 (by decide) (hts _ tb_246) (fun _ h9 => h9) rfl d_Sh_aimAt_56 ?_
        refine lv_iload_n hx hb d_Sh_aimAt_59 rfl (lv_at hl 3 rfl) ?_
        refine lv_iconst (v := (1 : Int32)) hx hb d_Sh_aimAt_60 (by decide) ?_
        obtain ⟨hi, h⟩ := h
        refine va_iast hx hb hK hP hD hS 6 0 rfl rfl hi d_Sh_aimAt_61 (fun H locs hP hD hS => ?_)
        have hP : va_P (dC, dI) vwCl (wd_Sh_aimAt aF aF_powers aF_logs aH aH_values aH_base aH_weights aH_parts aH_told cI cZ F_powers F_logs H_lastApart H_needed H_width H_count H_base H_weights (upd H_parts x3.toNatClampNeg (1 : Int32))) H := hP
        have hD : va_D A (wd_Sh_aimAt aF aF_powers aF_logs aH aH_values aH_base aH_weights aH_parts aH_told cI cZ F_powers F_logs H_lastApart H_needed H_width H_count H_base H_weights (upd H_parts x3.toNatClampNeg (1 : Int32))) := hD
        refine lv_goto (tgt := 100) hx hb d_Sh_aimAt_62 (by decide) ?_
        exact B100 K37 HK37 (upd H_parts x3.toNatClampNeg (1 : Int32)) x1 x2 x3 H locs ls h hP hD hS (lv_sub hl [0, 1, 2, 3] rfl)
  have L37 : ∀  (n : Nat), ∀ (H_parts : Nat → Int32) (x1 : Int32) (x2 : Int32) (x3 : Int32) (H : Heap) (locs : List Loc) (ls : Array Slot), wp_Sh_aimAt_L37 F_powers F_logs H_needed H_base H_weights post  n H_parts x1 x2 x3 → va_P (dC, dI) vwCl (wd_Sh_aimAt aF aF_powers aF_logs aH aH_values aH_base aH_weights aH_parts aH_told cI cZ F_powers F_logs H_lastApart H_needed H_width H_count H_base H_weights H_parts) H → va_D A (wd_Sh_aimAt aF aF_powers aF_logs aH aH_values aH_base aH_weights aH_parts aH_told cI cZ F_powers F_logs H_lastApart H_needed H_width H_count H_base H_weights H_parts) → va_S A s.heap H locs → lv_has ls 4 [(0, .ref aH), (1, .int x1), (2, .int x2), (3, .int x3)] → W p l e rm_Sh_aimAt s m args below meth c H locs 0 0 Q (F0 m 37 ls []) := by
    intro  n
    induction n with
    | zero => intro H_parts x1 x2 x3 H locs ls h hP hD hS hl; exact False.elim h
    | succ n ih => intro H_parts x1 x2 x3 H locs ls h hP hD hS hl; exact B37  (wp_Sh_aimAt_L37 F_powers F_logs H_needed H_base H_weights post  n) ih H_parts x1 x2 x3 H locs ls h hP hD hS hl
  have B4 : ∀ (K4 : (Nat → Int32) → Int32 → Int32 → Int32 → Prop) (HK4 : ∀ (H_parts : Nat → Int32) (x1 : Int32) (x2 : Int32) (x3 : Int32) (H : Heap) (locs : List Loc) (ls : Array Slot), K4 H_parts x1 x2 x3 → va_P (dC, dI) vwCl (wd_Sh_aimAt aF aF_powers aF_logs aH aH_values aH_base aH_weights aH_parts aH_told cI cZ F_powers F_logs H_lastApart H_needed H_width H_count H_base H_weights H_parts) H → va_D A (wd_Sh_aimAt aF aF_powers aF_logs aH aH_values aH_base aH_weights aH_parts aH_told cI cZ F_powers F_logs H_lastApart H_needed H_width H_count H_base H_weights H_parts) → va_S A s.heap H locs → lv_has ls 4 [(0, .ref aH), (1, .int x1), (2, .int x2), (3, .int x3)] → W p l e rm_Sh_aimAt s m args below meth c H locs 0 0 Q (F0 m 4 ls [])), ∀ (H_parts : Nat → Int32) (x1 : Int32) (x2 : Int32) (x3 : Int32) (H : Heap) (locs : List Loc) (ls : Array Slot), wp_Sh_aimAt_b4 F_powers F_logs H_needed H_base H_weights post K4 H_parts x1 x2 x3 → va_P (dC, dI) vwCl (wd_Sh_aimAt aF aF_powers aF_logs aH aH_values aH_base aH_weights aH_parts aH_told cI cZ F_powers F_logs H_lastApart H_needed H_width H_count H_base H_weights H_parts) H → va_D A (wd_Sh_aimAt aF aF_powers aF_logs aH aH_values aH_base aH_weights aH_parts aH_told cI cZ F_powers F_logs H_lastApart H_needed H_width H_count H_base H_weights H_parts) → va_S A s.heap H locs → lv_has ls 4 [(0, .ref aH), (1, .int x1), (2, .int x2), (3, .int x3)] → W p l e rm_Sh_aimAt s m args below meth c H locs 0 0 Q (F0 m 4 ls []) := by
    intro K4 HK4 H_parts x1 x2 x3 H locs ls h hP hD hS hl
    refine lv_iload_n hx hb d_Sh_aimAt_4 rfl (lv_at hl 3 rfl) ?_
    refine lv_aload_n hx hb d_Sh_aimAt_5 rfl (lv_at hl 0 rfl) ?_
    refine va_get (D := (dC, dI)) (ci := 2) (v := .int H_needed) (C := "ReedSets$Sharing") (T := T_Sh) (N := 10) hx hb hts in_Sh hown hK hP 3 rfl rfl 6 (by decide) (hts _ tb_248) (fun _ h9 => h9) rfl d_Sh_aimAt_6 ?_
    refine lv_icmp_ge (tgt := 35) hx hb d_Sh_aimAt_9 (by decide) (fun g9 => ?_) (fun g9 => ?_)
    · have h := h.1 g9
      refine lv_iconst (v := (0 : Int32)) hx hb d_Sh_aimAt_35 (by decide) ?_
      refine lv_istore_n (lv' := [(3, .int (0 : Int32)), (0, .ref aH), (1, .int x1), (2, .int x2)]) hx hb d_Sh_aimAt_36 rfl hl (by decide) rfl (fun ls hl => ?_)
      obtain ⟨n, h⟩ := h
      exact L37  n H_parts x1 x2 (0 : Int32) H locs ls h hP hD hS (lv_sub hl [1, 2, 3, 0] rfl)
    · have h := h.2 g9
      refine lv_aload_n hx hb d_Sh_aimAt_12 rfl (lv_at hl 0 rfl) ?_
      refine va_get (D := (dC, dI)) (ci := 2) (v := .ref aF) (C := "ReedSets$Sharing") (T := T_Sh) (N := 10) hx hb hts in_Sh hown hK hP 3 rfl rfl 0 (by decide) (hts _ tb_242) (fun _ h9 => h9) rfl d_Sh_aimAt_13 ?_
      refine lv_iload_n hx hb d_Sh_aimAt_16 rfl (lv_at hl 2 rfl) ?_
      refine lv_iload_n hx hb d_Sh_aimAt_17 rfl (lv_at hl 1 rfl) ?_
      refine lv_aload_n hx hb d_Sh_aimAt_18 rfl (lv_at hl 0 rfl) ?_
      refine va_get (D := (dC, dI)) (ci := 2) (v := .ref aH_base) (C := "ReedSets$Sharing") (T := T_Sh) (N := 10) hx hb hts in_Sh hown hK hP 3 rfl rfl 2 (by decide) (hts _ tb_244) (fun _ h9 => h9) rfl d_Sh_aimAt_19 ?_
      refine lv_iload_n hx hb d_Sh_aimAt_22 rfl (lv_at hl 3 rfl) ?_
      obtain ⟨hi, h⟩ := h
      refine va_iald hx hb hK hP 4 0 rfl rfl hi d_Sh_aimAt_23 ?_
      refine lv_ixor hx hb d_Sh_aimAt_24 ?_
      refine mt_i (va_runV (As := [.int x2, .int (x1 ^^^ (H_base x3.toNatClampNeg))]) (rest := []) ⟨hx, hb, hml, hown, hts⟩ (ct_Fi_product l dC dI aF aF_powers aF_logs cI cZ F_powers F_logs x2 (x1 ^^^ (H_base x3.toNatClampNeg)) _ h _) (tb_cV hts ok_Fi_product tb_620 rfl rfl ⟨Nat.le_of_ble_eq_true rfl, Nat.le_of_ble_eq_true rfl⟩) (mt_preV hK hP hD [.int x2, .int (x1 ^^^ (H_base x3.toNatClampNeg))] [0, 1, 2] rfl (by decide) (ci := 1) (q0 := 0) rfl rfl) rfl rfl hl.1 rfl (lv_room (Nat.le_of_ble_eq_true rfl)) d_Sh_aimAt_25 ⟨Nat.zero_le _, Nat.zero_le _⟩) hP hD hS hA [0, 1, 2] rfl (fun _ => rfl) (fun r_25 u H locs h hP hD hS => ?_)
      have hP : va_P (dC, dI) vwCl (wd_Sh_aimAt aF aF_powers aF_logs aH aH_values aH_base aH_weights aH_parts aH_told cI cZ F_powers F_logs H_lastApart H_needed H_width H_count H_base H_weights H_parts) H := hP
      have hD : va_D A (wd_Sh_aimAt aF aF_powers aF_logs aH aH_values aH_base aH_weights aH_parts aH_told cI cZ F_powers F_logs H_lastApart H_needed H_width H_count H_base H_weights H_parts) := hD
      refine lv_istore_n (lv' := [(2, .int r_25), (0, .ref aH), (1, .int x1), (3, .int x3)]) hx hb d_Sh_aimAt_28 rfl hl (by decide) rfl (fun ls hl => ?_)
      obtain ⟨x3_29, ex3_29⟩ : ∃ y : Int32, y = (x3 + (1 : Int32)) := ⟨_, rfl⟩
      have h := h x3_29 ex3_29
      refine lv_iinc (v := x3_29) (lv' := [(3, .int x3_29), (2, .int r_25), (0, .ref aH), (1, .int x1)]) hx hb d_Sh_aimAt_29 hl (k := 3) rfl (by rw [ex3_29]; rfl) (by decide) rfl (fun ls hl => ?_)
      refine lv_goto (tgt := 4) hx hb d_Sh_aimAt_32 (by decide) ?_
      exact HK4 H_parts x1 r_25 x3_29 H locs ls h hP hD hS (lv_sub hl [2, 3, 1, 0] rfl)
  have L4 : ∀  (n : Nat), ∀ (H_parts : Nat → Int32) (x1 : Int32) (x2 : Int32) (x3 : Int32) (H : Heap) (locs : List Loc) (ls : Array Slot), wp_Sh_aimAt_L4 F_powers F_logs H_needed H_base H_weights post  n H_parts x1 x2 x3 → va_P (dC, dI) vwCl (wd_Sh_aimAt aF aF_powers aF_logs aH aH_values aH_base aH_weights aH_parts aH_told cI cZ F_powers F_logs H_lastApart H_needed H_width H_count H_base H_weights H_parts) H → va_D A (wd_Sh_aimAt aF aF_powers aF_logs aH aH_values aH_base aH_weights aH_parts aH_told cI cZ F_powers F_logs H_lastApart H_needed H_width H_count H_base H_weights H_parts) → va_S A s.heap H locs → lv_has ls 4 [(0, .ref aH), (1, .int x1), (2, .int x2), (3, .int x3)] → W p l e rm_Sh_aimAt s m args below meth c H locs 0 0 Q (F0 m 4 ls []) := by
    intro  n
    induction n with
    | zero => intro H_parts x1 x2 x3 H locs ls h hP hD hS hl; exact False.elim h
    | succ n ih => intro H_parts x1 x2 x3 H locs ls h hP hD hS hl; exact B4  (wp_Sh_aimAt_L4 F_powers F_logs H_needed H_base H_weights post  n) ih H_parts x1 x2 x3 H locs ls h hP hD hS hl
  obtain ⟨H, hH⟩ : ∃ H : Heap, H = s.heap := ⟨_, rfl⟩
  obtain ⟨locs, hlo⟩ : ∃ x : List Loc, x = [] := ⟨_, rfl⟩
  have hS : va_S A s.heap H locs := by rw [hH, hlo]; exact hS
  rw [← hH] at hP
  rw [← hlo]
  show W p l e rm_Sh_aimAt s m args below meth c s.heap locs 0 0 Q (F0 m 0 ls [])
  rw [← hH]
  refine lv_iconst (v := (1 : Int32)) hx hb d_Sh_aimAt_0 (by decide) ?_
  refine lv_istore_n (lv' := [(2, .int (1 : Int32)), (0, .ref aH), (1, .int p1)]) hx hb d_Sh_aimAt_1 rfl hl (by decide) rfl (fun ls hl => ?_)
  refine lv_iconst (v := (0 : Int32)) hx hb d_Sh_aimAt_2 (by decide) ?_
  refine lv_istore_n (lv' := [(3, .int (0 : Int32)), (2, .int (1 : Int32)), (0, .ref aH), (1, .int p1)]) hx hb d_Sh_aimAt_3 rfl hl (by decide) rfl (fun ls hl => ?_)
  obtain ⟨n, h⟩ := h
  exact L4  n H_parts p1 (1 : Int32) (0 : Int32) H locs ls h hP hD hS (lv_sub hl [2, 3, 1, 0] rfl)
abbrev wd_Sh_valueOf (aF aF_powers aF_logs aH aH_values aH_base aH_weights aH_parts aH_told : Nat) (cI cZ : ClassId) (F_powers : Nat → Int32) (F_logs : Nat → Int32) (H_lastApart : Int32) (H_needed : Int32) (H_width : Int32) (H_count : Int32) (H_values : Nat → Int32) (H_base : Nat → Int32) (H_parts : Nat → Int32) : va_W := [(aF, .inr (1, [.ref aF_powers, .ref aF_logs])), (aF_powers, .inl (cI, 512, .inl F_powers)), (aF_logs, .inl (cI, 256, .inl F_logs)), (aH, .inr (2, [.ref aF, .ref aH_values, .ref aH_base, .ref aH_weights, .ref aH_parts, .int H_lastApart, .int H_needed, .int H_width, .ref aH_told, .int H_count])), (aH_values, .inl (cI, 4096, .inl H_values)), (aH_base, .inl (cI, 20, .inl H_base)), (aH_parts, .inl (cI, 20, .inl H_parts))]
def wp_Sh_valueOf_b4 (F_powers : Nat → Int32) (F_logs : Nat → Int32) (H_needed : Int32) (H_values : Nat → Int32) (H_base : Nat → Int32) (H_parts : Nat → Int32) (post : Int32 → Prop) (K4 : Int32 → Int32 → Int32 → Prop) (x1 : Int32) (x2 : Int32) (x3 : Int32) : Prop := (H_needed ≤ x3 → (post x2)) ∧ (¬ H_needed ≤ x3 → (vp_in x3 20 ∧ (vp_in x3 20 ∧ (vp_in (((H_base x3.toNatClampNeg) * (16 : Int32)) + x1) 4096 ∧ (wp_Fi_product F_powers F_logs (H_parts x3.toNatClampNeg) (H_values (((H_base x3.toNatClampNeg) * (16 : Int32)) + x1).toNatClampNeg) (fun r_39 => (∀ x2_43 : Int32, x2_43 = (x2 ^^^ r_39) → (∀ x3_44 : Int32, x3_44 = (x3 + (1 : Int32)) → (K4 x1 x2_43 x3_44)))))))))
def wp_Sh_valueOf_L4 (F_powers : Nat → Int32) (F_logs : Nat → Int32) (H_needed : Int32) (H_values : Nat → Int32) (H_base : Nat → Int32) (H_parts : Nat → Int32) (post : Int32 → Prop)  : Nat → Int32 → Int32 → Int32 → Prop
  | 0 => fun _ _ _ => False
  | n + 1 => wp_Sh_valueOf_b4 F_powers F_logs H_needed H_values H_base H_parts post (wp_Sh_valueOf_L4 F_powers F_logs H_needed H_values H_base H_parts post n)
def wp_Sh_valueOf (F_powers : Nat → Int32) (F_logs : Nat → Int32) (H_needed : Int32) (H_values : Nat → Int32) (H_base : Nat → Int32) (H_parts : Nat → Int32) (p1 : Int32) (post : Int32 → Prop) : Prop := ∃ n : Nat, wp_Sh_valueOf_L4 F_powers F_logs H_needed H_values H_base H_parts post  n p1 (0 : Int32) (0 : Int32)
abbrev rm_Sh_valueOf : Room := { frames := 1, cells := 0, slots := 0, locals := 22 }
set_option maxHeartbeats 4000000 in
set_option maxRecDepth 100000 in
theorem ct_Sh_valueOf (l : Launch) (dC : Nat → ClassId) (dI : Nat → Nat → Nat) (aF aF_powers aF_logs aH aH_values aH_base aH_weights aH_parts aH_told : Nat) (cI cZ : ClassId) (F_powers : Nat → Int32) (F_logs : Nat → Int32) (H_lastApart : Int32) (H_needed : Int32) (H_width : Int32) (H_count : Int32) (H_values : Nat → Int32) (H_base : Nat → Int32) (H_parts : Nat → Int32) (p1 : Int32) (post : Int32 → Prop) (h : wp_Sh_valueOf F_powers F_logs H_needed H_values H_base H_parts p1 post) (sz : Nat) : Met l y_Sh_valueOf (Cond.code y_Sh_valueOf c_Sh_valueOf 4 (some .int) :: tb) rm_Sh_valueOf (mt_P (dC, dI) vwCl [(cI, .int), (cZ, .boolean)] [.ref aH, .int p1] (wd_Sh_valueOf aF aF_powers aF_logs aH aH_values aH_base aH_weights aH_parts aH_told cI cZ F_powers F_logs H_lastApart H_needed H_width H_count H_values H_base H_parts) sz) (va_Qi (fun (r : Int32) (u : Unit) => post r) (mt_B (dC, dI) vwCl [(cI, .int), (cZ, .boolean)] (wd_Sh_valueOf aF aF_powers aF_logs aH aH_values aH_base aH_weights aH_parts aH_told cI cZ F_powers F_logs H_lastApart H_needed H_width H_count H_values H_base H_parts) sz (fun u : Unit => wd_Sh_valueOf aF aF_powers aF_logs aH aH_values aH_base aH_weights aH_parts aH_told cI cZ F_powers F_logs H_lastApart H_needed H_width H_count H_values H_base H_parts)) (va_A (wd_Sh_valueOf aF aF_powers aF_logs aH aH_values aH_base aH_weights aH_parts aH_told cI cZ F_powers F_logs H_lastApart H_needed H_width H_count H_values H_base H_parts) sz)) 0 0 (va_A (wd_Sh_valueOf aF aF_powers aF_logs aH aH_values aH_base aH_weights aH_parts aH_told cI cZ F_powers F_logs H_lastApart H_needed H_width H_count H_values H_base H_parts) sz) := by
  refine mt_bd (by decide +kernel) (Nat.le_of_ble_eq_true rfl) ?_
  intro p e s m args below meth c hx hb hml hown hts hr hlk hnm hsz hP hK hD hA hS ls hl
  subst hsz
  have hown : s.vm.findClass "ReedSets$Sharing" = some m.cls := hown
  have hl : lv_has ls 4 [(0, .ref aH), (1, .int p1)] := hl
  refine lz_Q (fun Q hQ => ?_)
  obtain ⟨A, hAe⟩ : ∃ A : Nat → Prop, A = va_A (wd_Sh_valueOf aF aF_powers aF_logs aH aH_values aH_base aH_weights aH_parts aH_told cI cZ F_powers F_logs H_lastApart H_needed H_width H_count H_values H_base H_parts) s.heap.size := ⟨_, rfl⟩
  rw [← hAe] at hD hA hS
  have RET : ∀ (v : Int32)  (H : Heap) (locs : List Loc) (ls : Array Slot) (pc : Nat), decode c_Sh_valueOf pc = .ok (.ireturn, 1) → post v  → va_P (dC, dI) vwCl (wd_Sh_valueOf aF aF_powers aF_logs aH aH_values aH_base aH_weights aH_parts aH_told cI cZ F_powers F_logs H_lastApart H_needed H_width H_count H_values H_base H_parts) H → va_D A (wd_Sh_valueOf aF aF_powers aF_logs aH aH_values aH_base aH_weights aH_parts aH_told cI cZ F_powers F_logs H_lastApart H_needed H_width H_count H_values H_base H_parts) → va_S A s.heap H locs → W p l e rm_Sh_valueOf s m args below meth c H locs 0 0 Q (F0 m pc ls [.int v]) := by
    intro v  H locs ls pc hd hp h1 h2 h3
    rw [hQ]
    rw [hAe] at h2 h3
    exact mt_reti () hx hb hr hlk hd hK h1 h2 h3 hp
  have B4 : ∀ (K4 : Int32 → Int32 → Int32 → Prop) (HK4 : ∀ (x1 : Int32) (x2 : Int32) (x3 : Int32) (H : Heap) (locs : List Loc) (ls : Array Slot), K4 x1 x2 x3 → va_P (dC, dI) vwCl (wd_Sh_valueOf aF aF_powers aF_logs aH aH_values aH_base aH_weights aH_parts aH_told cI cZ F_powers F_logs H_lastApart H_needed H_width H_count H_values H_base H_parts) H → va_D A (wd_Sh_valueOf aF aF_powers aF_logs aH aH_values aH_base aH_weights aH_parts aH_told cI cZ F_powers F_logs H_lastApart H_needed H_width H_count H_values H_base H_parts) → va_S A s.heap H locs → lv_has ls 4 [(0, .ref aH), (1, .int x1), (2, .int x2), (3, .int x3)] → W p l e rm_Sh_valueOf s m args below meth c H locs 0 0 Q (F0 m 4 ls [])), ∀ (x1 : Int32) (x2 : Int32) (x3 : Int32) (H : Heap) (locs : List Loc) (ls : Array Slot), wp_Sh_valueOf_b4 F_powers F_logs H_needed H_values H_base H_parts post K4 x1 x2 x3 → va_P (dC, dI) vwCl (wd_Sh_valueOf aF aF_powers aF_logs aH aH_values aH_base aH_weights aH_parts aH_told cI cZ F_powers F_logs H_lastApart H_needed H_width H_count H_values H_base H_parts) H → va_D A (wd_Sh_valueOf aF aF_powers aF_logs aH aH_values aH_base aH_weights aH_parts aH_told cI cZ F_powers F_logs H_lastApart H_needed H_width H_count H_values H_base H_parts) → va_S A s.heap H locs → lv_has ls 4 [(0, .ref aH), (1, .int x1), (2, .int x2), (3, .int x3)] → W p l e rm_Sh_valueOf s m args below meth c H locs 0 0 Q (F0 m 4 ls []) := by
    intro K4 HK4 x1 x2 x3 H locs ls h hP hD hS hl
    refine lv_iload_n hx hb d_Sh_valueOf_4 rfl (lv_at hl 3 rfl) ?_
    refine lv_aload_n hx hb d_Sh_valueOf_5 rfl (lv_at hl 0 rfl) ?_
    refine va_get (D := (dC, dI)) (ci := 2) (v := .int H_needed) (C := "ReedSets$Sharing") (T := T_Sh) (N := 10) hx hb hts in_Sh hown hK hP 3 rfl rfl 6 (by decide) (hts _ tb_248) (fun _ h9 => h9) rfl d_Sh_valueOf_6 ?_
    refine lv_icmp_ge (tgt := 50) hx hb d_Sh_valueOf_9 (by decide) (fun g9 => ?_) (fun g9 => ?_)
    · have h := h.1 g9
      refine lv_iload_n hx hb d_Sh_valueOf_50 rfl (lv_at hl 2 rfl) ?_
      exact RET x2 H locs ls 51 d_Sh_valueOf_51 h hP hD hS
    · have h := h.2 g9
      refine lv_iload_n hx hb d_Sh_valueOf_12 rfl (lv_at hl 2 rfl) ?_
      refine lv_aload_n hx hb d_Sh_valueOf_13 rfl (lv_at hl 0 rfl) ?_
      refine va_get (D := (dC, dI)) (ci := 2) (v := .ref aF) (C := "ReedSets$Sharing") (T := T_Sh) (N := 10) hx hb hts in_Sh hown hK hP 3 rfl rfl 0 (by decide) (hts _ tb_242) (fun _ h9 => h9) rfl d_Sh_valueOf_14 ?_
      refine lv_aload_n hx hb d_Sh_valueOf_17 rfl (lv_at hl 0 rfl) ?_
      refine va_get (D := (dC, dI)) (ci := 2) (v := .ref aH_parts) (C := "ReedSets$Sharing") (T := T_Sh) (N := 10) hx hb hts in_Sh hown hK hP 3 rfl rfl 4 (by decide) (hts _ tb_246) (fun _ h9 => h9) rfl d_Sh_valueOf_18 ?_
      refine lv_iload_n hx hb d_Sh_valueOf_21 rfl (lv_at hl 3 rfl) ?_
      obtain ⟨hi, h⟩ := h
      refine va_iald hx hb hK hP 6 0 rfl rfl hi d_Sh_valueOf_22 ?_
      refine lv_aload_n hx hb d_Sh_valueOf_23 rfl (lv_at hl 0 rfl) ?_
      refine va_get (D := (dC, dI)) (ci := 2) (v := .ref aH_values) (C := "ReedSets$Sharing") (T := T_Sh) (N := 10) hx hb hts in_Sh hown hK hP 3 rfl rfl 1 (by decide) (hts _ tb_243) (fun _ h9 => h9) rfl d_Sh_valueOf_24 ?_
      refine lv_aload_n hx hb d_Sh_valueOf_27 rfl (lv_at hl 0 rfl) ?_
      refine va_get (D := (dC, dI)) (ci := 2) (v := .ref aH_base) (C := "ReedSets$Sharing") (T := T_Sh) (N := 10) hx hb hts in_Sh hown hK hP 3 rfl rfl 2 (by decide) (hts _ tb_244) (fun _ h9 => h9) rfl d_Sh_valueOf_28 ?_
      refine lv_iload_n hx hb d_Sh_valueOf_31 rfl (lv_at hl 3 rfl) ?_
      obtain ⟨hi, h⟩ := h
      refine va_iald hx hb hK hP 5 0 rfl rfl hi d_Sh_valueOf_32 ?_
      refine lv_bipush (v := (16 : Int32)) hx hb d_Sh_valueOf_33 (by decide) ?_
      refine lv_imul hx hb d_Sh_valueOf_35 ?_
      refine lv_iload_n hx hb d_Sh_valueOf_36 rfl (lv_at hl 1 rfl) ?_
      refine lv_iadd hx hb d_Sh_valueOf_37 ?_
      obtain ⟨hi, h⟩ := h
      refine va_iald hx hb hK hP 4 0 rfl rfl hi d_Sh_valueOf_38 ?_
      refine mt_i (va_runV (As := [.int (H_parts x3.toNatClampNeg), .int (H_values (((H_base x3.toNatClampNeg) * (16 : Int32)) + x1).toNatClampNeg)]) (rest := [.int x2]) ⟨hx, hb, hml, hown, hts⟩ (ct_Fi_product l dC dI aF aF_powers aF_logs cI cZ F_powers F_logs (H_parts x3.toNatClampNeg) (H_values (((H_base x3.toNatClampNeg) * (16 : Int32)) + x1).toNatClampNeg) _ h _) (tb_cV hts ok_Fi_product tb_620 rfl rfl ⟨Nat.le_of_ble_eq_true rfl, Nat.le_of_ble_eq_true rfl⟩) (mt_preV hK hP hD [.int (H_parts x3.toNatClampNeg), .int (H_values (((H_base x3.toNatClampNeg) * (16 : Int32)) + x1).toNatClampNeg)] [0, 1, 2] rfl (by decide) (ci := 1) (q0 := 0) rfl rfl) rfl rfl hl.1 rfl (lv_room (Nat.le_of_ble_eq_true rfl)) d_Sh_valueOf_39 ⟨Nat.zero_le _, Nat.zero_le _⟩) hP hD hS hA [0, 1, 2] rfl (fun _ => rfl) (fun r_39 u H locs h hP hD hS => ?_)
      have hP : va_P (dC, dI) vwCl (wd_Sh_valueOf aF aF_powers aF_logs aH aH_values aH_base aH_weights aH_parts aH_told cI cZ F_powers F_logs H_lastApart H_needed H_width H_count H_values H_base H_parts) H := hP
      have hD : va_D A (wd_Sh_valueOf aF aF_powers aF_logs aH aH_values aH_base aH_weights aH_parts aH_told cI cZ F_powers F_logs H_lastApart H_needed H_width H_count H_values H_base H_parts) := hD
      refine lv_ixor hx hb d_Sh_valueOf_42 ?_
      refine lv_topi (fun x2_43 ex2_43 => ?_)
      have h := h x2_43 ex2_43
      refine lv_istore_n (lv' := [(2, .int x2_43), (0, .ref aH), (1, .int x1), (3, .int x3)]) hx hb d_Sh_valueOf_43 rfl hl (by decide) rfl (fun ls hl => ?_)
      obtain ⟨x3_44, ex3_44⟩ : ∃ y : Int32, y = (x3 + (1 : Int32)) := ⟨_, rfl⟩
      have h := h x3_44 ex3_44
      refine lv_iinc (v := x3_44) (lv' := [(3, .int x3_44), (2, .int x2_43), (0, .ref aH), (1, .int x1)]) hx hb d_Sh_valueOf_44 hl (k := 3) rfl (by rw [ex3_44]; rfl) (by decide) rfl (fun ls hl => ?_)
      refine lv_goto (tgt := 4) hx hb d_Sh_valueOf_47 (by decide) ?_
      exact HK4 x1 x2_43 x3_44 H locs ls h hP hD hS (lv_sub hl [2, 3, 1, 0] rfl)
  have L4 : ∀  (n : Nat), ∀ (x1 : Int32) (x2 : Int32) (x3 : Int32) (H : Heap) (locs : List Loc) (ls : Array Slot), wp_Sh_valueOf_L4 F_powers F_logs H_needed H_values H_base H_parts post  n x1 x2 x3 → va_P (dC, dI) vwCl (wd_Sh_valueOf aF aF_powers aF_logs aH aH_values aH_base aH_weights aH_parts aH_told cI cZ F_powers F_logs H_lastApart H_needed H_width H_count H_values H_base H_parts) H → va_D A (wd_Sh_valueOf aF aF_powers aF_logs aH aH_values aH_base aH_weights aH_parts aH_told cI cZ F_powers F_logs H_lastApart H_needed H_width H_count H_values H_base H_parts) → va_S A s.heap H locs → lv_has ls 4 [(0, .ref aH), (1, .int x1), (2, .int x2), (3, .int x3)] → W p l e rm_Sh_valueOf s m args below meth c H locs 0 0 Q (F0 m 4 ls []) := by
    intro  n
    induction n with
    | zero => intro x1 x2 x3 H locs ls h hP hD hS hl; exact False.elim h
    | succ n ih => intro x1 x2 x3 H locs ls h hP hD hS hl; exact B4  (wp_Sh_valueOf_L4 F_powers F_logs H_needed H_values H_base H_parts post  n) ih x1 x2 x3 H locs ls h hP hD hS hl
  obtain ⟨H, hH⟩ : ∃ H : Heap, H = s.heap := ⟨_, rfl⟩
  obtain ⟨locs, hlo⟩ : ∃ x : List Loc, x = [] := ⟨_, rfl⟩
  have hS : va_S A s.heap H locs := by rw [hH, hlo]; exact hS
  rw [← hH] at hP
  rw [← hlo]
  show W p l e rm_Sh_valueOf s m args below meth c s.heap locs 0 0 Q (F0 m 0 ls [])
  rw [← hH]
  refine lv_iconst (v := (0 : Int32)) hx hb d_Sh_valueOf_0 (by decide) ?_
  refine lv_istore_n (lv' := [(2, .int (0 : Int32)), (0, .ref aH), (1, .int p1)]) hx hb d_Sh_valueOf_1 rfl hl (by decide) rfl (fun ls hl => ?_)
  refine lv_iconst (v := (0 : Int32)) hx hb d_Sh_valueOf_2 (by decide) ?_
  refine lv_istore_n (lv' := [(3, .int (0 : Int32)), (2, .int (0 : Int32)), (0, .ref aH), (1, .int p1)]) hx hb d_Sh_valueOf_3 rfl hl (by decide) rfl (fun ls hl => ?_)
  obtain ⟨n, h⟩ := h
  exact L4  n p1 (0 : Int32) (0 : Int32) H locs ls h hP hD hS (lv_sub hl [2, 3, 1, 0] rfl)
abbrev wd_Sh_fits (aF aF_powers aF_logs aH aH_values aH_base aH_weights aH_parts aH_told : Nat) (cI cZ : ClassId) (F_powers : Nat → Int32) (F_logs : Nat → Int32) (H_lastApart : Int32) (H_needed : Int32) (H_width : Int32) (H_count : Int32) (H_values : Nat → Int32) (H_base : Nat → Int32) (H_weights : Nat → Int32) (H_parts : Nat → Int32) : va_W := [(aF, .inr (1, [.ref aF_powers, .ref aF_logs])), (aF_powers, .inl (cI, 512, .inl F_powers)), (aF_logs, .inl (cI, 256, .inl F_logs)), (aH, .inr (2, [.ref aF, .ref aH_values, .ref aH_base, .ref aH_weights, .ref aH_parts, .int H_lastApart, .int H_needed, .int H_width, .ref aH_told, .int H_count])), (aH_values, .inl (cI, 4096, .inl H_values)), (aH_base, .inl (cI, 20, .inl H_base)), (aH_weights, .inl (cI, 20, .inl H_weights)), (aH_parts, .inl (cI, 20, .inl H_parts))]
def wp_Sh_fits_b7 (F_powers : Nat → Int32) (F_logs : Nat → Int32) (H_needed : Int32) (H_width : Int32) (H_values : Nat → Int32) (H_base : Nat → Int32) (H_weights : Nat → Int32) (post : Int32 → (Nat → Int32) → Prop) (K7 : (Nat → Int32) → Int32 → Int32 → Prop) (H_parts : Nat → Int32) (x1 : Int32) (x2 : Int32) : Prop := (H_width ≤ x2 → (post (1 : Int32) H_parts)) ∧ (¬ H_width ≤ x2 → (wp_Sh_valueOf F_powers F_logs H_needed H_values H_base H_parts x2 (fun r_17 => (vp_in ((x1 * (16 : Int32)) + x2) 4096 ∧ ((r_17 = (H_values ((x1 * (16 : Int32)) + x2).toNatClampNeg) → (∀ x2_36 : Int32, x2_36 = (x2 + (1 : Int32)) → (K7 H_parts x1 x2_36))) ∧ (¬ r_17 = (H_values ((x1 * (16 : Int32)) + x2).toNatClampNeg) → (post (0 : Int32) H_parts)))))))
def wp_Sh_fits_L7 (F_powers : Nat → Int32) (F_logs : Nat → Int32) (H_needed : Int32) (H_width : Int32) (H_values : Nat → Int32) (H_base : Nat → Int32) (H_weights : Nat → Int32) (post : Int32 → (Nat → Int32) → Prop)  : Nat → (Nat → Int32) → Int32 → Int32 → Prop
  | 0 => fun _ _ _ => False
  | n + 1 => wp_Sh_fits_b7 F_powers F_logs H_needed H_width H_values H_base H_weights post (wp_Sh_fits_L7 F_powers F_logs H_needed H_width H_values H_base H_weights post n)
def wp_Sh_fits (F_powers : Nat → Int32) (F_logs : Nat → Int32) (H_needed : Int32) (H_width : Int32) (H_values : Nat → Int32) (H_base : Nat → Int32) (H_weights : Nat → Int32) (H_parts : Nat → Int32) (p1 : Int32) (post : Int32 → (Nat → Int32) → Prop) : Prop := wp_Sh_aimAt F_powers F_logs H_needed H_base H_weights H_parts p1 (fun H_parts_2 => (∃ n : Nat, wp_Sh_fits_L7 F_powers F_logs H_needed H_width H_values H_base H_weights post  n H_parts_2 p1 (0 : Int32)))
abbrev rm_Sh_fits : Room := { frames := 2, cells := 0, slots := 0, locals := 45 }
set_option maxHeartbeats 4000000 in
set_option maxRecDepth 100000 in
theorem ct_Sh_fits (l : Launch) (dC : Nat → ClassId) (dI : Nat → Nat → Nat) (aF aF_powers aF_logs aH aH_values aH_base aH_weights aH_parts aH_told : Nat) (cI cZ : ClassId) (F_powers : Nat → Int32) (F_logs : Nat → Int32) (H_lastApart : Int32) (H_needed : Int32) (H_width : Int32) (H_count : Int32) (H_values : Nat → Int32) (H_base : Nat → Int32) (H_weights : Nat → Int32) (H_parts : Nat → Int32) (p1 : Int32) (post : Int32 → (Nat → Int32) → Prop) (h : wp_Sh_fits F_powers F_logs H_needed H_width H_values H_base H_weights H_parts p1 post) (sz : Nat) : Met l y_Sh_fits (Cond.code y_Sh_fits c_Sh_fits 3 (some .boolean) :: tb) rm_Sh_fits (mt_P (dC, dI) vwCl [(cI, .int), (cZ, .boolean)] [.ref aH, .int p1] (wd_Sh_fits aF aF_powers aF_logs aH aH_values aH_base aH_weights aH_parts aH_told cI cZ F_powers F_logs H_lastApart H_needed H_width H_count H_values H_base H_weights H_parts) sz) (va_Qi (fun (r : Int32) (u : (Nat → Int32)) => post r u) (mt_B (dC, dI) vwCl [(cI, .int), (cZ, .boolean)] (wd_Sh_fits aF aF_powers aF_logs aH aH_values aH_base aH_weights aH_parts aH_told cI cZ F_powers F_logs H_lastApart H_needed H_width H_count H_values H_base H_weights H_parts) sz (fun u : (Nat → Int32) => wd_Sh_fits aF aF_powers aF_logs aH aH_values aH_base aH_weights aH_parts aH_told cI cZ F_powers F_logs H_lastApart H_needed H_width H_count H_values H_base H_weights u)) (va_A (wd_Sh_fits aF aF_powers aF_logs aH aH_values aH_base aH_weights aH_parts aH_told cI cZ F_powers F_logs H_lastApart H_needed H_width H_count H_values H_base H_weights H_parts) sz)) 0 0 (va_A (wd_Sh_fits aF aF_powers aF_logs aH aH_values aH_base aH_weights aH_parts aH_told cI cZ F_powers F_logs H_lastApart H_needed H_width H_count H_values H_base H_weights H_parts) sz) := by
  refine mt_bd (by decide +kernel) (Nat.le_of_ble_eq_true rfl) ?_
  intro p e s m args below meth c hx hb hml hown hts hr hlk hnm hsz hP hK hD hA hS ls hl
  subst hsz
  have hown : s.vm.findClass "ReedSets$Sharing" = some m.cls := hown
  have hl : lv_has ls 3 [(0, .ref aH), (1, .int p1)] := hl
  refine lz_Q (fun Q hQ => ?_)
  obtain ⟨A, hAe⟩ : ∃ A : Nat → Prop, A = va_A (wd_Sh_fits aF aF_powers aF_logs aH aH_values aH_base aH_weights aH_parts aH_told cI cZ F_powers F_logs H_lastApart H_needed H_width H_count H_values H_base H_weights H_parts) s.heap.size := ⟨_, rfl⟩
  rw [← hAe] at hD hA hS
  have RET : ∀ (v : Int32) (H_parts : Nat → Int32) (H : Heap) (locs : List Loc) (ls : Array Slot) (pc : Nat), decode c_Sh_fits pc = .ok (.ireturn, 1) → narrow .boolean (.int v) = .int v → post v H_parts → va_P (dC, dI) vwCl (wd_Sh_fits aF aF_powers aF_logs aH aH_values aH_base aH_weights aH_parts aH_told cI cZ F_powers F_logs H_lastApart H_needed H_width H_count H_values H_base H_weights H_parts) H → va_D A (wd_Sh_fits aF aF_powers aF_logs aH aH_values aH_base aH_weights aH_parts aH_told cI cZ F_powers F_logs H_lastApart H_needed H_width H_count H_values H_base H_weights H_parts) → va_S A s.heap H locs → W p l e rm_Sh_fits s m args below meth c H locs 0 0 Q (F0 m pc ls [.int v]) := by
    intro v H_parts H locs ls pc hd hz hp h1 h2 h3
    rw [hQ]
    rw [hAe] at h2 h3
    exact mt_retz (H_parts) hx hb hr hlk hd hK h1 h2 h3 hz hp
  have B7 : ∀ (K7 : (Nat → Int32) → Int32 → Int32 → Prop) (HK7 : ∀ (H_parts : Nat → Int32) (x1 : Int32) (x2 : Int32) (H : Heap) (locs : List Loc) (ls : Array Slot), K7 H_parts x1 x2 → va_P (dC, dI) vwCl (wd_Sh_fits aF aF_powers aF_logs aH aH_values aH_base aH_weights aH_parts aH_told cI cZ F_powers F_logs H_lastApart H_needed H_width H_count H_values H_base H_weights H_parts) H → va_D A (wd_Sh_fits aF aF_powers aF_logs aH aH_values aH_base aH_weights aH_parts aH_told cI cZ F_powers F_logs H_lastApart H_needed H_width H_count H_values H_base H_weights H_parts) → va_S A s.heap H locs → lv_has ls 3 [(0, .ref aH), (1, .int x1), (2, .int x2)] → W p l e rm_Sh_fits s m args below meth c H locs 0 0 Q (F0 m 7 ls [])), ∀ (H_parts : Nat → Int32) (x1 : Int32) (x2 : Int32) (H : Heap) (locs : List Loc) (ls : Array Slot), wp_Sh_fits_b7 F_powers F_logs H_needed H_width H_values H_base H_weights post K7 H_parts x1 x2 → va_P (dC, dI) vwCl (wd_Sh_fits aF aF_powers aF_logs aH aH_values aH_base aH_weights aH_parts aH_told cI cZ F_powers F_logs H_lastApart H_needed H_width H_count H_values H_base H_weights H_parts) H → va_D A (wd_Sh_fits aF aF_powers aF_logs aH aH_values aH_base aH_weights aH_parts aH_told cI cZ F_powers F_logs H_lastApart H_needed H_width H_count H_values H_base H_weights H_parts) → va_S A s.heap H locs → lv_has ls 3 [(0, .ref aH), (1, .int x1), (2, .int x2)] → W p l e rm_Sh_fits s m args below meth c H locs 0 0 Q (F0 m 7 ls []) := by
    intro K7 HK7 H_parts x1 x2 H locs ls h hP hD hS hl
    refine lv_iload_n hx hb d_Sh_fits_7 rfl (lv_at hl 2 rfl) ?_
    refine lv_aload_n hx hb d_Sh_fits_8 rfl (lv_at hl 0 rfl) ?_
    refine va_get (D := (dC, dI)) (ci := 2) (v := .int H_width) (C := "ReedSets$Sharing") (T := T_Sh) (N := 10) hx hb hts in_Sh hown hK hP 3 rfl rfl 7 (by decide) (hts _ tb_249) (fun _ h9 => h9) rfl d_Sh_fits_9 ?_
    refine lv_icmp_ge (tgt := 42) hx hb d_Sh_fits_12 (by decide) (fun g12 => ?_) (fun g12 => ?_)
    · have h := h.1 g12
      refine lv_iconst (v := (1 : Int32)) hx hb d_Sh_fits_42 (by decide) ?_
      exact RET (1 : Int32) H_parts H locs ls 43 d_Sh_fits_43 rfl h hP hD hS
    · have h := h.2 g12
      refine lv_aload_n hx hb d_Sh_fits_15 rfl (lv_at hl 0 rfl) ?_
      refine lv_iload_n hx hb d_Sh_fits_16 rfl (lv_at hl 2 rfl) ?_
      refine mt_i (va_runV (As := [.int x2]) (rest := []) ⟨hx, hb, hml, hown, hts⟩ (ct_Sh_valueOf l dC dI aF aF_powers aF_logs aH aH_values aH_base aH_weights aH_parts aH_told cI cZ F_powers F_logs H_lastApart H_needed H_width H_count H_values H_base H_parts x2 _ h _) (tb_cV hts ok_Sh_valueOf tb_643 rfl rfl ⟨Nat.le_of_ble_eq_true rfl, Nat.le_of_ble_eq_true rfl⟩) (mt_preV hK hP hD [.int x2] [0, 1, 2, 3, 4, 5, 7] rfl (by decide) (ci := 2) (q0 := 3) rfl rfl) rfl rfl hl.1 rfl (lv_room (Nat.le_of_ble_eq_true rfl)) d_Sh_fits_17 ⟨Nat.zero_le _, Nat.zero_le _⟩) hP hD hS hA [0, 1, 2, 3, 4, 5, 7] rfl (fun _ => rfl) (fun r_17 u H locs h hP hD hS => ?_)
      have hP : va_P (dC, dI) vwCl (wd_Sh_fits aF aF_powers aF_logs aH aH_values aH_base aH_weights aH_parts aH_told cI cZ F_powers F_logs H_lastApart H_needed H_width H_count H_values H_base H_weights H_parts) H := hP
      have hD : va_D A (wd_Sh_fits aF aF_powers aF_logs aH aH_values aH_base aH_weights aH_parts aH_told cI cZ F_powers F_logs H_lastApart H_needed H_width H_count H_values H_base H_weights H_parts) := hD
      refine lv_aload_n hx hb d_Sh_fits_20 rfl (lv_at hl 0 rfl) ?_
      refine va_get (D := (dC, dI)) (ci := 2) (v := .ref aH_values) (C := "ReedSets$Sharing") (T := T_Sh) (N := 10) hx hb hts in_Sh hown hK hP 3 rfl rfl 1 (by decide) (hts _ tb_243) (fun _ h9 => h9) rfl d_Sh_fits_21 ?_
      refine lv_iload_n hx hb d_Sh_fits_24 rfl (lv_at hl 1 rfl) ?_
      refine lv_bipush (v := (16 : Int32)) hx hb d_Sh_fits_25 (by decide) ?_
      refine lv_imul hx hb d_Sh_fits_27 ?_
      refine lv_iload_n hx hb d_Sh_fits_28 rfl (lv_at hl 2 rfl) ?_
      refine lv_iadd hx hb d_Sh_fits_29 ?_
      obtain ⟨hi, h⟩ := h
      refine va_iald hx hb hK hP 4 0 rfl rfl hi d_Sh_fits_30 ?_
      refine lv_icmp_eq (tgt := 36) hx hb d_Sh_fits_31 (by decide) (fun g31 => ?_) (fun g31 => ?_)
      · have h := h.1 g31
        obtain ⟨x2_36, ex2_36⟩ : ∃ y : Int32, y = (x2 + (1 : Int32)) := ⟨_, rfl⟩
        have h := h x2_36 ex2_36
        refine lv_iinc (v := x2_36) (lv' := [(2, .int x2_36), (0, .ref aH), (1, .int x1)]) hx hb d_Sh_fits_36 hl (k := 2) rfl (by rw [ex2_36]; rfl) (by decide) rfl (fun ls hl => ?_)
        refine lv_goto (tgt := 7) hx hb d_Sh_fits_39 (by decide) ?_
        exact HK7 H_parts x1 x2_36 H locs ls h hP hD hS (lv_sub hl [1, 2, 0] rfl)
      · have h := h.2 g31
        refine lv_iconst (v := (0 : Int32)) hx hb d_Sh_fits_34 (by decide) ?_
        exact RET (0 : Int32) H_parts H locs ls 35 d_Sh_fits_35 rfl h hP hD hS
  have L7 : ∀  (n : Nat), ∀ (H_parts : Nat → Int32) (x1 : Int32) (x2 : Int32) (H : Heap) (locs : List Loc) (ls : Array Slot), wp_Sh_fits_L7 F_powers F_logs H_needed H_width H_values H_base H_weights post  n H_parts x1 x2 → va_P (dC, dI) vwCl (wd_Sh_fits aF aF_powers aF_logs aH aH_values aH_base aH_weights aH_parts aH_told cI cZ F_powers F_logs H_lastApart H_needed H_width H_count H_values H_base H_weights H_parts) H → va_D A (wd_Sh_fits aF aF_powers aF_logs aH aH_values aH_base aH_weights aH_parts aH_told cI cZ F_powers F_logs H_lastApart H_needed H_width H_count H_values H_base H_weights H_parts) → va_S A s.heap H locs → lv_has ls 3 [(0, .ref aH), (1, .int x1), (2, .int x2)] → W p l e rm_Sh_fits s m args below meth c H locs 0 0 Q (F0 m 7 ls []) := by
    intro  n
    induction n with
    | zero => intro H_parts x1 x2 H locs ls h hP hD hS hl; exact False.elim h
    | succ n ih => intro H_parts x1 x2 H locs ls h hP hD hS hl; exact B7  (wp_Sh_fits_L7 F_powers F_logs H_needed H_width H_values H_base H_weights post  n) ih H_parts x1 x2 H locs ls h hP hD hS hl
  obtain ⟨H, hH⟩ : ∃ H : Heap, H = s.heap := ⟨_, rfl⟩
  obtain ⟨locs, hlo⟩ : ∃ x : List Loc, x = [] := ⟨_, rfl⟩
  have hS : va_S A s.heap H locs := by rw [hH, hlo]; exact hS
  rw [← hH] at hP
  rw [← hlo]
  show W p l e rm_Sh_fits s m args below meth c s.heap locs 0 0 Q (F0 m 0 ls [])
  rw [← hH]
  refine lv_aload_n hx hb d_Sh_fits_0 rfl (lv_at hl 0 rfl) ?_
  refine lv_iload_n hx hb d_Sh_fits_1 rfl (lv_at hl 1 rfl) ?_
  refine mt_v (va_runV (As := [.int p1]) (rest := []) ⟨hx, hb, hml, hown, hts⟩ (ct_Sh_aimAt l dC dI aF aF_powers aF_logs aH aH_values aH_base aH_weights aH_parts aH_told cI cZ F_powers F_logs H_lastApart H_needed H_width H_count H_base H_weights H_parts p1 _ h _) (tb_cV hts ok_Sh_aimAt tb_642 rfl rfl ⟨Nat.le_of_ble_eq_true rfl, Nat.le_of_ble_eq_true rfl⟩) (mt_preV hK hP hD [.int p1] [0, 1, 2, 3, 5, 6, 7] rfl (by decide) (ci := 2) (q0 := 3) rfl rfl) rfl rfl hl.1 rfl (lv_room (Nat.le_of_ble_eq_true rfl)) d_Sh_fits_2 ⟨Nat.zero_le _, Nat.zero_le _⟩) hP hD hS hA [0, 1, 2, 3, 5, 6, 7] rfl (fun _ => rfl) (fun u H locs h hP hD hS => ?_)
  obtain ⟨H_parts_2, rfl⟩ : ∃ z, z = u := ⟨_, rfl⟩
  have hP : va_P (dC, dI) vwCl (wd_Sh_fits aF aF_powers aF_logs aH aH_values aH_base aH_weights aH_parts aH_told cI cZ F_powers F_logs H_lastApart H_needed H_width H_count H_values H_base H_weights H_parts_2) H := hP
  have hD : va_D A (wd_Sh_fits aF aF_powers aF_logs aH aH_values aH_base aH_weights aH_parts aH_told cI cZ F_powers F_logs H_lastApart H_needed H_width H_count H_values H_base H_weights H_parts_2) := hD
  refine lv_iconst (v := (0 : Int32)) hx hb d_Sh_fits_5 (by decide) ?_
  refine lv_istore_n (lv' := [(2, .int (0 : Int32)), (0, .ref aH), (1, .int p1)]) hx hb d_Sh_fits_6 rfl hl (by decide) rfl (fun ls hl => ?_)
  obtain ⟨n, h⟩ := h
  exact L7  n H_parts_2 p1 (0 : Int32) H locs ls h hP hD hS (lv_sub hl [1, 2, 0] rfl)
abbrev wd_Sh_countApart (aF aF_powers aF_logs aH aH_values aH_base aH_weights aH_parts aH_told : Nat) (cI cZ : ClassId) (F_powers : Nat → Int32) (F_logs : Nat → Int32) (H_lastApart : Int32) (H_needed : Int32) (H_width : Int32) (H_count : Int32) (H_values : Nat → Int32) (H_base : Nat → Int32) (H_weights : Nat → Int32) (H_parts : Nat → Int32) (H_told : Nat → Int32) : va_W := [(aF, .inr (1, [.ref aF_powers, .ref aF_logs])), (aF_powers, .inl (cI, 512, .inl F_powers)), (aF_logs, .inl (cI, 256, .inl F_logs)), (aH, .inr (2, [.ref aF, .ref aH_values, .ref aH_base, .ref aH_weights, .ref aH_parts, .int H_lastApart, .int H_needed, .int H_width, .ref aH_told, .int H_count])), (aH_values, .inl (cI, 4096, .inl H_values)), (aH_base, .inl (cI, 20, .inl H_base)), (aH_weights, .inl (cI, 20, .inl H_weights)), (aH_parts, .inl (cI, 20, .inl H_parts)), (aH_told, .inl (cZ, 256, .inl H_told))]
def wp_Sh_countApart_b36 (F_powers : Nat → Int32) (F_logs : Nat → Int32) (H_needed : Int32) (H_width : Int32) (H_values : Nat → Int32) (H_base : Nat → Int32) (H_weights : Nat → Int32) (H_told : Nat → Int32) (post : Int32 → Int32 → (Nat → Int32) → Prop) (K4 : Int32 → (Nat → Int32) → Int32 → Int32 → Prop) (H_lastApart : Int32) (H_parts : Nat → Int32) (x1 : Int32) (x2 : Int32) : Prop := ∀ x2_36 : Int32, x2_36 = (x2 + (1 : Int32)) → (K4 H_lastApart H_parts x1 x2_36)
def wp_Sh_countApart_b4 (F_powers : Nat → Int32) (F_logs : Nat → Int32) (H_needed : Int32) (H_width : Int32) (H_values : Nat → Int32) (H_base : Nat → Int32) (H_weights : Nat → Int32) (H_told : Nat → Int32) (post : Int32 → Int32 → (Nat → Int32) → Prop) (K4 : Int32 → (Nat → Int32) → Int32 → Int32 → Prop) (H_lastApart : Int32) (H_parts : Nat → Int32) (x1 : Int32) (x2 : Int32) : Prop := ((256 : Int32) ≤ x2 → (post x1 H_lastApart H_parts)) ∧ (¬ (256 : Int32) ≤ x2 → (vp_in x2 256 ∧ (((H_told x2.toNatClampNeg) = 0 → (wp_Sh_countApart_b36 F_powers F_logs H_needed H_width H_values H_base H_weights H_told post K4 H_lastApart H_parts x1 x2)) ∧ (¬ (H_told x2.toNatClampNeg) = 0 → (wp_Sh_fits F_powers F_logs H_needed H_width H_values H_base H_weights H_parts x2 (fun r_22 H_parts_22 => ((¬ r_22 = 0 → (wp_Sh_countApart_b36 F_powers F_logs H_needed H_width H_values H_base H_weights H_told post K4 H_lastApart H_parts_22 x1 x2)) ∧ (r_22 = 0 → (∀ x1_28 : Int32, x1_28 = (x1 + (1 : Int32)) → (wp_Sh_countApart_b36 F_powers F_logs H_needed H_width H_values H_base H_weights H_told post K4 x2 H_parts_22 x1_28 x2))))))))))
def wp_Sh_countApart_L4 (F_powers : Nat → Int32) (F_logs : Nat → Int32) (H_needed : Int32) (H_width : Int32) (H_values : Nat → Int32) (H_base : Nat → Int32) (H_weights : Nat → Int32) (H_told : Nat → Int32) (post : Int32 → Int32 → (Nat → Int32) → Prop)  : Nat → Int32 → (Nat → Int32) → Int32 → Int32 → Prop
  | 0 => fun _ _ _ _ => False
  | n + 1 => wp_Sh_countApart_b4 F_powers F_logs H_needed H_width H_values H_base H_weights H_told post (wp_Sh_countApart_L4 F_powers F_logs H_needed H_width H_values H_base H_weights H_told post n)
def wp_Sh_countApart (F_powers : Nat → Int32) (F_logs : Nat → Int32) (H_lastApart : Int32) (H_needed : Int32) (H_width : Int32) (H_values : Nat → Int32) (H_base : Nat → Int32) (H_weights : Nat → Int32) (H_parts : Nat → Int32) (H_told : Nat → Int32) (post : Int32 → Int32 → (Nat → Int32) → Prop) : Prop := ∃ n : Nat, wp_Sh_countApart_L4 F_powers F_logs H_needed H_width H_values H_base H_weights H_told post  n H_lastApart H_parts (0 : Int32) (0 : Int32)
abbrev rm_Sh_countApart : Room := { frames := 3, cells := 0, slots := 0, locals := 67 }
set_option maxHeartbeats 4000000 in
set_option maxRecDepth 100000 in
theorem ct_Sh_countApart (l : Launch) (dC : Nat → ClassId) (dI : Nat → Nat → Nat) (aF aF_powers aF_logs aH aH_values aH_base aH_weights aH_parts aH_told : Nat) (cI cZ : ClassId) (F_powers : Nat → Int32) (F_logs : Nat → Int32) (H_lastApart : Int32) (H_needed : Int32) (H_width : Int32) (H_count : Int32) (H_values : Nat → Int32) (H_base : Nat → Int32) (H_weights : Nat → Int32) (H_parts : Nat → Int32) (H_told : Nat → Int32)  (post : Int32 → Int32 → (Nat → Int32) → Prop) (h : wp_Sh_countApart F_powers F_logs H_lastApart H_needed H_width H_values H_base H_weights H_parts H_told post) (sz : Nat) : Met l y_Sh_countApart (Cond.code y_Sh_countApart c_Sh_countApart 3 (some .int) :: tb) rm_Sh_countApart (mt_P (dC, dI) vwCl [(cI, .int), (cZ, .boolean)] [.ref aH] (wd_Sh_countApart aF aF_powers aF_logs aH aH_values aH_base aH_weights aH_parts aH_told cI cZ F_powers F_logs H_lastApart H_needed H_width H_count H_values H_base H_weights H_parts H_told) sz) (va_Qi (fun (r : Int32) (u : Int32 × (Nat → Int32)) => post r u.1 u.2) (mt_B (dC, dI) vwCl [(cI, .int), (cZ, .boolean)] (wd_Sh_countApart aF aF_powers aF_logs aH aH_values aH_base aH_weights aH_parts aH_told cI cZ F_powers F_logs H_lastApart H_needed H_width H_count H_values H_base H_weights H_parts H_told) sz (fun u : Int32 × (Nat → Int32) => wd_Sh_countApart aF aF_powers aF_logs aH aH_values aH_base aH_weights aH_parts aH_told cI cZ F_powers F_logs u.1 H_needed H_width H_count H_values H_base H_weights u.2 H_told)) (va_A (wd_Sh_countApart aF aF_powers aF_logs aH aH_values aH_base aH_weights aH_parts aH_told cI cZ F_powers F_logs H_lastApart H_needed H_width H_count H_values H_base H_weights H_parts H_told) sz)) 0 0 (va_A (wd_Sh_countApart aF aF_powers aF_logs aH aH_values aH_base aH_weights aH_parts aH_told cI cZ F_powers F_logs H_lastApart H_needed H_width H_count H_values H_base H_weights H_parts H_told) sz) := by
  refine mt_bd (by decide +kernel) (Nat.le_of_ble_eq_true rfl) ?_
  intro p e s m args below meth c hx hb hml hown hts hr hlk hnm hsz hP hK hD hA hS ls hl
  subst hsz
  have hown : s.vm.findClass "ReedSets$Sharing" = some m.cls := hown
  have hl : lv_has ls 3 [(0, .ref aH)] := hl
  refine lz_Q (fun Q hQ => ?_)
  obtain ⟨A, hAe⟩ : ∃ A : Nat → Prop, A = va_A (wd_Sh_countApart aF aF_powers aF_logs aH aH_values aH_base aH_weights aH_parts aH_told cI cZ F_powers F_logs H_lastApart H_needed H_width H_count H_values H_base H_weights H_parts H_told) s.heap.size := ⟨_, rfl⟩
  rw [← hAe] at hD hA hS
  have RET : ∀ (v : Int32) (H_lastApart : Int32) (H_parts : Nat → Int32) (H : Heap) (locs : List Loc) (ls : Array Slot) (pc : Nat), decode c_Sh_countApart pc = .ok (.ireturn, 1) → post v H_lastApart H_parts → va_P (dC, dI) vwCl (wd_Sh_countApart aF aF_powers aF_logs aH aH_values aH_base aH_weights aH_parts aH_told cI cZ F_powers F_logs H_lastApart H_needed H_width H_count H_values H_base H_weights H_parts H_told) H → va_D A (wd_Sh_countApart aF aF_powers aF_logs aH aH_values aH_base aH_weights aH_parts aH_told cI cZ F_powers F_logs H_lastApart H_needed H_width H_count H_values H_base H_weights H_parts H_told) → va_S A s.heap H locs → W p l e rm_Sh_countApart s m args below meth c H locs 0 0 Q (F0 m pc ls [.int v]) := by
    intro v H_lastApart H_parts H locs ls pc hd hp h1 h2 h3
    rw [hQ]
    rw [hAe] at h2 h3
    exact mt_reti (H_lastApart, H_parts) hx hb hr hlk hd hK h1 h2 h3 hp
  have B36 : ∀ (K4 : Int32 → (Nat → Int32) → Int32 → Int32 → Prop) (HK4 : ∀ (H_lastApart : Int32) (H_parts : Nat → Int32) (x1 : Int32) (x2 : Int32) (H : Heap) (locs : List Loc) (ls : Array Slot), K4 H_lastApart H_parts x1 x2 → va_P (dC, dI) vwCl (wd_Sh_countApart aF aF_powers aF_logs aH aH_values aH_base aH_weights aH_parts aH_told cI cZ F_powers F_logs H_lastApart H_needed H_width H_count H_values H_base H_weights H_parts H_told) H → va_D A (wd_Sh_countApart aF aF_powers aF_logs aH aH_values aH_base aH_weights aH_parts aH_told cI cZ F_powers F_logs H_lastApart H_needed H_width H_count H_values H_base H_weights H_parts H_told) → va_S A s.heap H locs → lv_has ls 3 [(0, .ref aH), (1, .int x1), (2, .int x2)] → W p l e rm_Sh_countApart s m args below meth c H locs 0 0 Q (F0 m 4 ls [])), ∀ (H_lastApart : Int32) (H_parts : Nat → Int32) (x1 : Int32) (x2 : Int32) (H : Heap) (locs : List Loc) (ls : Array Slot), wp_Sh_countApart_b36 F_powers F_logs H_needed H_width H_values H_base H_weights H_told post K4 H_lastApart H_parts x1 x2 → va_P (dC, dI) vwCl (wd_Sh_countApart aF aF_powers aF_logs aH aH_values aH_base aH_weights aH_parts aH_told cI cZ F_powers F_logs H_lastApart H_needed H_width H_count H_values H_base H_weights H_parts H_told) H → va_D A (wd_Sh_countApart aF aF_powers aF_logs aH aH_values aH_base aH_weights aH_parts aH_told cI cZ F_powers F_logs H_lastApart H_needed H_width H_count H_values H_base H_weights H_parts H_told) → va_S A s.heap H locs → lv_has ls 3 [(0, .ref aH), (1, .int x1), (2, .int x2)] → W p l e rm_Sh_countApart s m args below meth c H locs 0 0 Q (F0 m 36 ls []) := by
    intro K4 HK4 H_lastApart H_parts x1 x2 H locs ls h hP hD hS hl
    obtain ⟨x2_36, ex2_36⟩ : ∃ y : Int32, y = (x2 + (1 : Int32)) := ⟨_, rfl⟩
    have h := h x2_36 ex2_36
    refine lv_iinc (v := x2_36) (lv' := [(2, .int x2_36), (0, .ref aH), (1, .int x1)]) hx hb d_Sh_countApart_36 hl (k := 2) rfl (by rw [ex2_36]; rfl) (by decide) rfl (fun ls hl => ?_)
    refine lv_goto (tgt := 4) hx hb d_Sh_countApart_39 (by decide) ?_
    exact HK4 H_lastApart H_parts x1 x2_36 H locs ls h hP hD hS (lv_sub hl [1, 2, 0] rfl)
  have B4 : ∀ (K4 : Int32 → (Nat → Int32) → Int32 → Int32 → Prop) (HK4 : ∀ (H_lastApart : Int32) (H_parts : Nat → Int32) (x1 : Int32) (x2 : Int32) (H : Heap) (locs : List Loc) (ls : Array Slot), K4 H_lastApart H_parts x1 x2 → va_P (dC, dI) vwCl (wd_Sh_countApart aF aF_powers aF_logs aH aH_values aH_base aH_weights aH_parts aH_told cI cZ F_powers F_logs H_lastApart H_needed H_width H_count H_values H_base H_weights H_parts H_told) H → va_D A (wd_Sh_countApart aF aF_powers aF_logs aH aH_values aH_base aH_weights aH_parts aH_told cI cZ F_powers F_logs H_lastApart H_needed H_width H_count H_values H_base H_weights H_parts H_told) → va_S A s.heap H locs → lv_has ls 3 [(0, .ref aH), (1, .int x1), (2, .int x2)] → W p l e rm_Sh_countApart s m args below meth c H locs 0 0 Q (F0 m 4 ls [])), ∀ (H_lastApart : Int32) (H_parts : Nat → Int32) (x1 : Int32) (x2 : Int32) (H : Heap) (locs : List Loc) (ls : Array Slot), wp_Sh_countApart_b4 F_powers F_logs H_needed H_width H_values H_base H_weights H_told post K4 H_lastApart H_parts x1 x2 → va_P (dC, dI) vwCl (wd_Sh_countApart aF aF_powers aF_logs aH aH_values aH_base aH_weights aH_parts aH_told cI cZ F_powers F_logs H_lastApart H_needed H_width H_count H_values H_base H_weights H_parts H_told) H → va_D A (wd_Sh_countApart aF aF_powers aF_logs aH aH_values aH_base aH_weights aH_parts aH_told cI cZ F_powers F_logs H_lastApart H_needed H_width H_count H_values H_base H_weights H_parts H_told) → va_S A s.heap H locs → lv_has ls 3 [(0, .ref aH), (1, .int x1), (2, .int x2)] → W p l e rm_Sh_countApart s m args below meth c H locs 0 0 Q (F0 m 4 ls []) := by
    intro K4 HK4 H_lastApart H_parts x1 x2 H locs ls h hP hD hS hl
    refine lv_iload_n hx hb d_Sh_countApart_4 rfl (lv_at hl 2 rfl) ?_
    refine lv_sipush (v := (256 : Int32)) hx hb d_Sh_countApart_5 (by decide) ?_
    refine lv_icmp_ge (tgt := 42) hx hb d_Sh_countApart_8 (by decide) (fun g8 => ?_) (fun g8 => ?_)
    · have h := h.1 g8
      refine lv_iload_n hx hb d_Sh_countApart_42 rfl (lv_at hl 1 rfl) ?_
      exact RET x1 H_lastApart H_parts H locs ls 43 d_Sh_countApart_43 h hP hD hS
    · have h := h.2 g8
      refine lv_aload_n hx hb d_Sh_countApart_11 rfl (lv_at hl 0 rfl) ?_
      refine va_get (D := (dC, dI)) (ci := 2) (v := .ref aH_told) (C := "ReedSets$Sharing") (T := T_Sh) (N := 10) hx hb hts in_Sh hown hK hP 3 rfl rfl 8 (by decide) (hts _ tb_250) (fun _ h9 => h9) rfl d_Sh_countApart_12 ?_
      refine lv_iload_n hx hb d_Sh_countApart_15 rfl (lv_at hl 2 rfl) ?_
      obtain ⟨hi, h⟩ := h
      refine va_zald hx hb hK hP 8 1 rfl rfl hi d_Sh_countApart_16 ?_
      refine lv_if_eq (tgt := 36) hx hb d_Sh_countApart_17 (by decide) (fun g17 => ?_) (fun g17 => ?_)
      · have h := h.1 g17
        exact B36 K4 HK4 H_lastApart H_parts x1 x2 H locs ls h hP hD hS (lv_sub hl [0, 1, 2] rfl)
      · have h := h.2 g17
        refine lv_aload_n hx hb d_Sh_countApart_20 rfl (lv_at hl 0 rfl) ?_
        refine lv_iload_n hx hb d_Sh_countApart_21 rfl (lv_at hl 2 rfl) ?_
        refine mt_i (va_runV (As := [.int x2]) (rest := []) ⟨hx, hb, hml, hown, hts⟩ (ct_Sh_fits l dC dI aF aF_powers aF_logs aH aH_values aH_base aH_weights aH_parts aH_told cI cZ F_powers F_logs H_lastApart H_needed H_width H_count H_values H_base H_weights H_parts x2 _ h _) (tb_cV hts ok_Sh_fits tb_638 rfl rfl ⟨Nat.le_of_ble_eq_true rfl, Nat.le_of_ble_eq_true rfl⟩) (mt_preV hK hP hD [.int x2] [0, 1, 2, 3, 4, 5, 6, 7] rfl (by decide) (ci := 2) (q0 := 3) rfl rfl) rfl rfl hl.1 rfl (lv_room (Nat.le_of_ble_eq_true rfl)) d_Sh_countApart_22 ⟨Nat.zero_le _, Nat.zero_le _⟩) hP hD hS hA [0, 1, 2, 3, 4, 5, 6, 7] rfl (fun _ => rfl) (fun r_22 u H locs h hP hD hS => ?_)
        obtain ⟨H_parts_22, rfl⟩ : ∃ z, z = u := ⟨_, rfl⟩
        have hP : va_P (dC, dI) vwCl (wd_Sh_countApart aF aF_powers aF_logs aH aH_values aH_base aH_weights aH_parts aH_told cI cZ F_powers F_logs H_lastApart H_needed H_width H_count H_values H_base H_weights H_parts_22 H_told) H := hP
        have hD : va_D A (wd_Sh_countApart aF aF_powers aF_logs aH aH_values aH_base aH_weights aH_parts aH_told cI cZ F_powers F_logs H_lastApart H_needed H_width H_count H_values H_base H_weights H_parts_22 H_told) := hD
        refine lv_if_ne (tgt := 36) hx hb d_Sh_countApart_25 (by decide) (fun g25 => ?_) (fun g25 => ?_)
        · have h := h.1 g25
          exact B36 K4 HK4 H_lastApart H_parts_22 x1 x2 H locs ls h hP hD hS (lv_sub hl [0, 1, 2] rfl)
        · have h := h.2 g25
          obtain ⟨x1_28, ex1_28⟩ : ∃ y : Int32, y = (x1 + (1 : Int32)) := ⟨_, rfl⟩
          have h := h x1_28 ex1_28
          refine lv_iinc (v := x1_28) (lv' := [(1, .int x1_28), (0, .ref aH), (2, .int x2)]) hx hb d_Sh_countApart_28 hl (k := 1) rfl (by rw [ex1_28]; rfl) (by decide) rfl (fun ls hl => ?_)
          refine lv_aload_n hx hb d_Sh_countApart_31 rfl (lv_at hl 1 rfl) ?_
          refine lv_iload_n hx hb d_Sh_countApart_32 rfl (lv_at hl 2 rfl) ?_
          refine va_put (D := (dC, dI)) (ci := 2) (v := .int x2) (ty := .int) (C := "ReedSets$Sharing") (T := T_Sh) (N := 10) hx hb hts in_Sh ty_Sh tk_Sh nm_Sh hown hK hP hD hS 3 rfl rfl 5 (by decide) (hts _ tb_247) (fun _ h9 => h9) rfl (by decide +kernel) rfl rfl (Nat.le_of_ble_eq_true rfl) d_Sh_countApart_33 (fun H locs hP hD hS => ?_)
          have hP : va_P (dC, dI) vwCl (wd_Sh_countApart aF aF_powers aF_logs aH aH_values aH_base aH_weights aH_parts aH_told cI cZ F_powers F_logs x2 H_needed H_width H_count H_values H_base H_weights H_parts_22 H_told) H := hP
          have hD : va_D A (wd_Sh_countApart aF aF_powers aF_logs aH aH_values aH_base aH_weights aH_parts aH_told cI cZ F_powers F_logs x2 H_needed H_width H_count H_values H_base H_weights H_parts_22 H_told) := hD
          exact B36 K4 HK4 x2 H_parts_22 x1_28 x2 H locs ls h hP hD hS (lv_sub hl [1, 0, 2] rfl)
  have L4 : ∀  (n : Nat), ∀ (H_lastApart : Int32) (H_parts : Nat → Int32) (x1 : Int32) (x2 : Int32) (H : Heap) (locs : List Loc) (ls : Array Slot), wp_Sh_countApart_L4 F_powers F_logs H_needed H_width H_values H_base H_weights H_told post  n H_lastApart H_parts x1 x2 → va_P (dC, dI) vwCl (wd_Sh_countApart aF aF_powers aF_logs aH aH_values aH_base aH_weights aH_parts aH_told cI cZ F_powers F_logs H_lastApart H_needed H_width H_count H_values H_base H_weights H_parts H_told) H → va_D A (wd_Sh_countApart aF aF_powers aF_logs aH aH_values aH_base aH_weights aH_parts aH_told cI cZ F_powers F_logs H_lastApart H_needed H_width H_count H_values H_base H_weights H_parts H_told) → va_S A s.heap H locs → lv_has ls 3 [(0, .ref aH), (1, .int x1), (2, .int x2)] → W p l e rm_Sh_countApart s m args below meth c H locs 0 0 Q (F0 m 4 ls []) := by
    intro  n
    induction n with
    | zero => intro H_lastApart H_parts x1 x2 H locs ls h hP hD hS hl; exact False.elim h
    | succ n ih => intro H_lastApart H_parts x1 x2 H locs ls h hP hD hS hl; exact B4  (wp_Sh_countApart_L4 F_powers F_logs H_needed H_width H_values H_base H_weights H_told post  n) ih H_lastApart H_parts x1 x2 H locs ls h hP hD hS hl
  obtain ⟨H, hH⟩ : ∃ H : Heap, H = s.heap := ⟨_, rfl⟩
  obtain ⟨locs, hlo⟩ : ∃ x : List Loc, x = [] := ⟨_, rfl⟩
  have hS : va_S A s.heap H locs := by rw [hH, hlo]; exact hS
  rw [← hH] at hP
  rw [← hlo]
  show W p l e rm_Sh_countApart s m args below meth c s.heap locs 0 0 Q (F0 m 0 ls [])
  rw [← hH]
  refine lv_iconst (v := (0 : Int32)) hx hb d_Sh_countApart_0 (by decide) ?_
  refine lv_istore_n (lv' := [(1, .int (0 : Int32)), (0, .ref aH)]) hx hb d_Sh_countApart_1 rfl hl (by decide) rfl (fun ls hl => ?_)
  refine lv_iconst (v := (0 : Int32)) hx hb d_Sh_countApart_2 (by decide) ?_
  refine lv_istore_n (lv' := [(2, .int (0 : Int32)), (1, .int (0 : Int32)), (0, .ref aH)]) hx hb d_Sh_countApart_3 rfl hl (by decide) rfl (fun ls hl => ?_)
  obtain ⟨n, h⟩ := h
  exact L4  n H_lastApart H_parts (0 : Int32) (0 : Int32) H locs ls h hP hD hS (lv_sub hl [2, 1, 0] rfl)
abbrev wd_Sh_agreeWithout (aF aF_powers aF_logs aH aH_values aH_base aH_weights aH_parts aH_told : Nat) (cI cZ : ClassId) (F_powers : Nat → Int32) (F_logs : Nat → Int32) (H_lastApart : Int32) (H_needed : Int32) (H_width : Int32) (H_count : Int32) (H_values : Nat → Int32) (H_base : Nat → Int32) (H_weights : Nat → Int32) (H_parts : Nat → Int32) (H_told : Nat → Int32) : va_W := [(aF, .inr (1, [.ref aF_powers, .ref aF_logs])), (aF_powers, .inl (cI, 512, .inl F_powers)), (aF_logs, .inl (cI, 256, .inl F_logs)), (aH, .inr (2, [.ref aF, .ref aH_values, .ref aH_base, .ref aH_weights, .ref aH_parts, .int H_lastApart, .int H_needed, .int H_width, .ref aH_told, .int H_count])), (aH_values, .inl (cI, 4096, .inl H_values)), (aH_base, .inl (cI, 20, .inl H_base)), (aH_weights, .inl (cI, 20, .inl H_weights)), (aH_parts, .inl (cI, 20, .inl H_parts)), (aH_told, .inl (cZ, 256, .inl H_told))]
def wp_Sh_agreeWithout_b19 (F_powers : Nat → Int32) (F_logs : Nat → Int32) (H_lastApart : Int32) (H_needed : Int32) (H_width : Int32) (H_values : Nat → Int32) (H_told : Nat → Int32) (post : Int32 → (Nat → Int32) → (Nat → Int32) → (Nat → Int32) → Prop)  (H_base : Nat → Int32) (H_weights : Nat → Int32) (H_parts : Nat → Int32) : Prop := post (0 : Int32) H_base H_weights H_parts
def wp_Sh_agreeWithout_b54 (F_powers : Nat → Int32) (F_logs : Nat → Int32) (H_lastApart : Int32) (H_needed : Int32) (H_width : Int32) (H_values : Nat → Int32) (H_told : Nat → Int32) (post : Int32 → (Nat → Int32) → (Nat → Int32) → (Nat → Int32) → Prop) (K23 : (Nat → Int32) → (Nat → Int32) → (Nat → Int32) → Int32 → Int32 → Prop) (H_base : Nat → Int32) (H_weights : Nat → Int32) (H_parts : Nat → Int32) (x1 : Int32) (x2 : Int32) : Prop := ∀ x2_54 : Int32, x2_54 = (x2 + (1 : Int32)) → (K23 H_base H_weights H_parts x1 x2_54)
def wp_Sh_agreeWithout_b23 (F_powers : Nat → Int32) (F_logs : Nat → Int32) (H_lastApart : Int32) (H_needed : Int32) (H_width : Int32) (H_values : Nat → Int32) (H_told : Nat → Int32) (post : Int32 → (Nat → Int32) → (Nat → Int32) → (Nat → Int32) → Prop) (K23 : (Nat → Int32) → (Nat → Int32) → (Nat → Int32) → Int32 → Int32 → Prop) (H_base : Nat → Int32) (H_weights : Nat → Int32) (H_parts : Nat → Int32) (x1 : Int32) (x2 : Int32) : Prop := ((256 : Int32) ≤ x2 → (post (1 : Int32) H_base H_weights H_parts)) ∧ (¬ (256 : Int32) ≤ x2 → (vp_in x2 256 ∧ (((H_told x2.toNatClampNeg) = 0 → (wp_Sh_agreeWithout_b54 F_powers F_logs H_lastApart H_needed H_width H_values H_told post K23 H_base H_weights H_parts x1 x2)) ∧ (¬ (H_told x2.toNatClampNeg) = 0 → ((x2 = x1 → (wp_Sh_agreeWithout_b54 F_powers F_logs H_lastApart H_needed H_width H_values H_told post K23 H_base H_weights H_parts x1 x2)) ∧ (¬ x2 = x1 → (wp_Sh_fits F_powers F_logs H_needed H_width H_values H_base H_weights H_parts x2 (fun r_46 H_parts_46 => ((¬ r_46 = 0 → (wp_Sh_agreeWithout_b54 F_powers F_logs H_lastApart H_needed H_width H_values H_told post K23 H_base H_weights H_parts_46 x1 x2)) ∧ (r_46 = 0 → (post (0 : Int32) H_base H_weights H_parts_46)))))))))))
def wp_Sh_agreeWithout_L23 (F_powers : Nat → Int32) (F_logs : Nat → Int32) (H_lastApart : Int32) (H_needed : Int32) (H_width : Int32) (H_values : Nat → Int32) (H_told : Nat → Int32) (post : Int32 → (Nat → Int32) → (Nat → Int32) → (Nat → Int32) → Prop)  : Nat → (Nat → Int32) → (Nat → Int32) → (Nat → Int32) → Int32 → Int32 → Prop
  | 0 => fun _ _ _ _ _ => False
  | n + 1 => wp_Sh_agreeWithout_b23 F_powers F_logs H_lastApart H_needed H_width H_values H_told post (wp_Sh_agreeWithout_L23 F_powers F_logs H_lastApart H_needed H_width H_values H_told post n)
def wp_Sh_agreeWithout (F_powers : Nat → Int32) (F_logs : Nat → Int32) (H_lastApart : Int32) (H_needed : Int32) (H_width : Int32) (H_values : Nat → Int32) (H_base : Nat → Int32) (H_weights : Nat → Int32) (H_parts : Nat → Int32) (H_told : Nat → Int32) (p1 : Int32) (post : Int32 → (Nat → Int32) → (Nat → Int32) → (Nat → Int32) → Prop) : Prop := wp_Sh_chooseBase F_powers F_logs H_needed H_base H_weights H_told p1 (fun r_2 H_base_2 H_weights_2 => ((r_2 = 0 → (wp_Sh_agreeWithout_b19 F_powers F_logs H_lastApart H_needed H_width H_values H_told post  H_base_2 H_weights_2 H_parts)) ∧ (¬ r_2 = 0 → (wp_Sh_fits F_powers F_logs H_needed H_width H_values H_base_2 H_weights_2 H_parts H_lastApart (fun r_13 H_parts_13 => ((¬ r_13 = 0 → (∃ n : Nat, wp_Sh_agreeWithout_L23 F_powers F_logs H_lastApart H_needed H_width H_values H_told post  n H_base_2 H_weights_2 H_parts_13 p1 (0 : Int32))) ∧ (r_13 = 0 → (wp_Sh_agreeWithout_b19 F_powers F_logs H_lastApart H_needed H_width H_values H_told post  H_base_2 H_weights_2 H_parts_13))))))))
abbrev rm_Sh_agreeWithout : Room := { frames := 3, cells := 0, slots := 0, locals := 68 }
set_option maxHeartbeats 4000000 in
set_option maxRecDepth 100000 in
theorem ct_Sh_agreeWithout (l : Launch) (dC : Nat → ClassId) (dI : Nat → Nat → Nat) (aF aF_powers aF_logs aH aH_values aH_base aH_weights aH_parts aH_told : Nat) (cI cZ : ClassId) (F_powers : Nat → Int32) (F_logs : Nat → Int32) (H_lastApart : Int32) (H_needed : Int32) (H_width : Int32) (H_count : Int32) (H_values : Nat → Int32) (H_base : Nat → Int32) (H_weights : Nat → Int32) (H_parts : Nat → Int32) (H_told : Nat → Int32) (p1 : Int32) (post : Int32 → (Nat → Int32) → (Nat → Int32) → (Nat → Int32) → Prop) (h : wp_Sh_agreeWithout F_powers F_logs H_lastApart H_needed H_width H_values H_base H_weights H_parts H_told p1 post) (sz : Nat) : Met l y_Sh_agreeWithout (Cond.code y_Sh_agreeWithout c_Sh_agreeWithout 3 (some .boolean) :: tb) rm_Sh_agreeWithout (mt_P (dC, dI) vwCl [(cI, .int), (cZ, .boolean)] [.ref aH, .int p1] (wd_Sh_agreeWithout aF aF_powers aF_logs aH aH_values aH_base aH_weights aH_parts aH_told cI cZ F_powers F_logs H_lastApart H_needed H_width H_count H_values H_base H_weights H_parts H_told) sz) (va_Qi (fun (r : Int32) (u : (Nat → Int32) × (Nat → Int32) × (Nat → Int32)) => post r u.1 u.2.1 u.2.2) (mt_B (dC, dI) vwCl [(cI, .int), (cZ, .boolean)] (wd_Sh_agreeWithout aF aF_powers aF_logs aH aH_values aH_base aH_weights aH_parts aH_told cI cZ F_powers F_logs H_lastApart H_needed H_width H_count H_values H_base H_weights H_parts H_told) sz (fun u : (Nat → Int32) × (Nat → Int32) × (Nat → Int32) => wd_Sh_agreeWithout aF aF_powers aF_logs aH aH_values aH_base aH_weights aH_parts aH_told cI cZ F_powers F_logs H_lastApart H_needed H_width H_count H_values u.1 u.2.1 u.2.2 H_told)) (va_A (wd_Sh_agreeWithout aF aF_powers aF_logs aH aH_values aH_base aH_weights aH_parts aH_told cI cZ F_powers F_logs H_lastApart H_needed H_width H_count H_values H_base H_weights H_parts H_told) sz)) 0 0 (va_A (wd_Sh_agreeWithout aF aF_powers aF_logs aH aH_values aH_base aH_weights aH_parts aH_told cI cZ F_powers F_logs H_lastApart H_needed H_width H_count H_values H_base H_weights H_parts H_told) sz) := by
  refine mt_bd (by decide +kernel) (Nat.le_of_ble_eq_true rfl) ?_
  intro p e s m args below meth c hx hb hml hown hts hr hlk hnm hsz hP hK hD hA hS ls hl
  subst hsz
  have hown : s.vm.findClass "ReedSets$Sharing" = some m.cls := hown
  have hl : lv_has ls 3 [(0, .ref aH), (1, .int p1)] := hl
  refine lz_Q (fun Q hQ => ?_)
  obtain ⟨A, hAe⟩ : ∃ A : Nat → Prop, A = va_A (wd_Sh_agreeWithout aF aF_powers aF_logs aH aH_values aH_base aH_weights aH_parts aH_told cI cZ F_powers F_logs H_lastApart H_needed H_width H_count H_values H_base H_weights H_parts H_told) s.heap.size := ⟨_, rfl⟩
  rw [← hAe] at hD hA hS
  have RET : ∀ (v : Int32) (H_base : Nat → Int32) (H_weights : Nat → Int32) (H_parts : Nat → Int32) (H : Heap) (locs : List Loc) (ls : Array Slot) (pc : Nat), decode c_Sh_agreeWithout pc = .ok (.ireturn, 1) → narrow .boolean (.int v) = .int v → post v H_base H_weights H_parts → va_P (dC, dI) vwCl (wd_Sh_agreeWithout aF aF_powers aF_logs aH aH_values aH_base aH_weights aH_parts aH_told cI cZ F_powers F_logs H_lastApart H_needed H_width H_count H_values H_base H_weights H_parts H_told) H → va_D A (wd_Sh_agreeWithout aF aF_powers aF_logs aH aH_values aH_base aH_weights aH_parts aH_told cI cZ F_powers F_logs H_lastApart H_needed H_width H_count H_values H_base H_weights H_parts H_told) → va_S A s.heap H locs → W p l e rm_Sh_agreeWithout s m args below meth c H locs 0 0 Q (F0 m pc ls [.int v]) := by
    intro v H_base H_weights H_parts H locs ls pc hd hz hp h1 h2 h3
    rw [hQ]
    rw [hAe] at h2 h3
    exact mt_retz (H_base, H_weights, H_parts) hx hb hr hlk hd hK h1 h2 h3 hz hp
  have B19 : ∀ (H_base : Nat → Int32) (H_weights : Nat → Int32) (H_parts : Nat → Int32) (H : Heap) (locs : List Loc) (ls : Array Slot), wp_Sh_agreeWithout_b19 F_powers F_logs H_lastApart H_needed H_width H_values H_told post  H_base H_weights H_parts → va_P (dC, dI) vwCl (wd_Sh_agreeWithout aF aF_powers aF_logs aH aH_values aH_base aH_weights aH_parts aH_told cI cZ F_powers F_logs H_lastApart H_needed H_width H_count H_values H_base H_weights H_parts H_told) H → va_D A (wd_Sh_agreeWithout aF aF_powers aF_logs aH aH_values aH_base aH_weights aH_parts aH_told cI cZ F_powers F_logs H_lastApart H_needed H_width H_count H_values H_base H_weights H_parts H_told) → va_S A s.heap H locs → lv_has ls 3 [] → W p l e rm_Sh_agreeWithout s m args below meth c H locs 0 0 Q (F0 m 19 ls []) := by
    intro  H_base H_weights H_parts H locs ls h hP hD hS hl
    refine lv_iconst (v := (0 : Int32)) hx hb d_Sh_agreeWithout_19 (by decide) ?_
    exact RET (0 : Int32) H_base H_weights H_parts H locs ls 20 d_Sh_agreeWithout_20 rfl h hP hD hS
  have B54 : ∀ (K23 : (Nat → Int32) → (Nat → Int32) → (Nat → Int32) → Int32 → Int32 → Prop) (HK23 : ∀ (H_base : Nat → Int32) (H_weights : Nat → Int32) (H_parts : Nat → Int32) (x1 : Int32) (x2 : Int32) (H : Heap) (locs : List Loc) (ls : Array Slot), K23 H_base H_weights H_parts x1 x2 → va_P (dC, dI) vwCl (wd_Sh_agreeWithout aF aF_powers aF_logs aH aH_values aH_base aH_weights aH_parts aH_told cI cZ F_powers F_logs H_lastApart H_needed H_width H_count H_values H_base H_weights H_parts H_told) H → va_D A (wd_Sh_agreeWithout aF aF_powers aF_logs aH aH_values aH_base aH_weights aH_parts aH_told cI cZ F_powers F_logs H_lastApart H_needed H_width H_count H_values H_base H_weights H_parts H_told) → va_S A s.heap H locs → lv_has ls 3 [(0, .ref aH), (1, .int x1), (2, .int x2)] → W p l e rm_Sh_agreeWithout s m args below meth c H locs 0 0 Q (F0 m 23 ls [])), ∀ (H_base : Nat → Int32) (H_weights : Nat → Int32) (H_parts : Nat → Int32) (x1 : Int32) (x2 : Int32) (H : Heap) (locs : List Loc) (ls : Array Slot), wp_Sh_agreeWithout_b54 F_powers F_logs H_lastApart H_needed H_width H_values H_told post K23 H_base H_weights H_parts x1 x2 → va_P (dC, dI) vwCl (wd_Sh_agreeWithout aF aF_powers aF_logs aH aH_values aH_base aH_weights aH_parts aH_told cI cZ F_powers F_logs H_lastApart H_needed H_width H_count H_values H_base H_weights H_parts H_told) H → va_D A (wd_Sh_agreeWithout aF aF_powers aF_logs aH aH_values aH_base aH_weights aH_parts aH_told cI cZ F_powers F_logs H_lastApart H_needed H_width H_count H_values H_base H_weights H_parts H_told) → va_S A s.heap H locs → lv_has ls 3 [(0, .ref aH), (1, .int x1), (2, .int x2)] → W p l e rm_Sh_agreeWithout s m args below meth c H locs 0 0 Q (F0 m 54 ls []) := by
    intro K23 HK23 H_base H_weights H_parts x1 x2 H locs ls h hP hD hS hl
    obtain ⟨x2_54, ex2_54⟩ : ∃ y : Int32, y = (x2 + (1 : Int32)) := ⟨_, rfl⟩
    have h := h x2_54 ex2_54
    refine lv_iinc (v := x2_54) (lv' := [(2, .int x2_54), (0, .ref aH), (1, .int x1)]) hx hb d_Sh_agreeWithout_54 hl (k := 2) rfl (by rw [ex2_54]; rfl) (by decide) rfl (fun ls hl => ?_)
    refine lv_goto (tgt := 23) hx hb d_Sh_agreeWithout_57 (by decide) ?_
    exact HK23 H_base H_weights H_parts x1 x2_54 H locs ls h hP hD hS (lv_sub hl [1, 2, 0] rfl)
  have B23 : ∀ (K23 : (Nat → Int32) → (Nat → Int32) → (Nat → Int32) → Int32 → Int32 → Prop) (HK23 : ∀ (H_base : Nat → Int32) (H_weights : Nat → Int32) (H_parts : Nat → Int32) (x1 : Int32) (x2 : Int32) (H : Heap) (locs : List Loc) (ls : Array Slot), K23 H_base H_weights H_parts x1 x2 → va_P (dC, dI) vwCl (wd_Sh_agreeWithout aF aF_powers aF_logs aH aH_values aH_base aH_weights aH_parts aH_told cI cZ F_powers F_logs H_lastApart H_needed H_width H_count H_values H_base H_weights H_parts H_told) H → va_D A (wd_Sh_agreeWithout aF aF_powers aF_logs aH aH_values aH_base aH_weights aH_parts aH_told cI cZ F_powers F_logs H_lastApart H_needed H_width H_count H_values H_base H_weights H_parts H_told) → va_S A s.heap H locs → lv_has ls 3 [(0, .ref aH), (1, .int x1), (2, .int x2)] → W p l e rm_Sh_agreeWithout s m args below meth c H locs 0 0 Q (F0 m 23 ls [])), ∀ (H_base : Nat → Int32) (H_weights : Nat → Int32) (H_parts : Nat → Int32) (x1 : Int32) (x2 : Int32) (H : Heap) (locs : List Loc) (ls : Array Slot), wp_Sh_agreeWithout_b23 F_powers F_logs H_lastApart H_needed H_width H_values H_told post K23 H_base H_weights H_parts x1 x2 → va_P (dC, dI) vwCl (wd_Sh_agreeWithout aF aF_powers aF_logs aH aH_values aH_base aH_weights aH_parts aH_told cI cZ F_powers F_logs H_lastApart H_needed H_width H_count H_values H_base H_weights H_parts H_told) H → va_D A (wd_Sh_agreeWithout aF aF_powers aF_logs aH aH_values aH_base aH_weights aH_parts aH_told cI cZ F_powers F_logs H_lastApart H_needed H_width H_count H_values H_base H_weights H_parts H_told) → va_S A s.heap H locs → lv_has ls 3 [(0, .ref aH), (1, .int x1), (2, .int x2)] → W p l e rm_Sh_agreeWithout s m args below meth c H locs 0 0 Q (F0 m 23 ls []) := by
    intro K23 HK23 H_base H_weights H_parts x1 x2 H locs ls h hP hD hS hl
    refine lv_iload_n hx hb d_Sh_agreeWithout_23 rfl (lv_at hl 2 rfl) ?_
    refine lv_sipush (v := (256 : Int32)) hx hb d_Sh_agreeWithout_24 (by decide) ?_
    refine lv_icmp_ge (tgt := 60) hx hb d_Sh_agreeWithout_27 (by decide) (fun g27 => ?_) (fun g27 => ?_)
    · have h := h.1 g27
      refine lv_iconst (v := (1 : Int32)) hx hb d_Sh_agreeWithout_60 (by decide) ?_
      exact RET (1 : Int32) H_base H_weights H_parts H locs ls 61 d_Sh_agreeWithout_61 rfl h hP hD hS
    · have h := h.2 g27
      refine lv_aload_n hx hb d_Sh_agreeWithout_30 rfl (lv_at hl 0 rfl) ?_
      refine va_get (D := (dC, dI)) (ci := 2) (v := .ref aH_told) (C := "ReedSets$Sharing") (T := T_Sh) (N := 10) hx hb hts in_Sh hown hK hP 3 rfl rfl 8 (by decide) (hts _ tb_250) (fun _ h9 => h9) rfl d_Sh_agreeWithout_31 ?_
      refine lv_iload_n hx hb d_Sh_agreeWithout_34 rfl (lv_at hl 2 rfl) ?_
      obtain ⟨hi, h⟩ := h
      refine va_zald hx hb hK hP 8 1 rfl rfl hi d_Sh_agreeWithout_35 ?_
      refine lv_if_eq (tgt := 54) hx hb d_Sh_agreeWithout_36 (by decide) (fun g36 => ?_) (fun g36 => ?_)
      · have h := h.1 g36
        exact B54 K23 HK23 H_base H_weights H_parts x1 x2 H locs ls h hP hD hS (lv_sub hl [0, 1, 2] rfl)
      · have h := h.2 g36
        refine lv_iload_n hx hb d_Sh_agreeWithout_39 rfl (lv_at hl 2 rfl) ?_
        refine lv_iload_n hx hb d_Sh_agreeWithout_40 rfl (lv_at hl 1 rfl) ?_
        refine lv_icmp_eq (tgt := 54) hx hb d_Sh_agreeWithout_41 (by decide) (fun g41 => ?_) (fun g41 => ?_)
        · have h := h.1 g41
          exact B54 K23 HK23 H_base H_weights H_parts x1 x2 H locs ls h hP hD hS (lv_sub hl [0, 1, 2] rfl)
        · have h := h.2 g41
          refine lv_aload_n hx hb d_Sh_agreeWithout_44 rfl (lv_at hl 0 rfl) ?_
          refine lv_iload_n hx hb d_Sh_agreeWithout_45 rfl (lv_at hl 2 rfl) ?_
          refine mt_i (va_runV (As := [.int x2]) (rest := []) ⟨hx, hb, hml, hown, hts⟩ (ct_Sh_fits l dC dI aF aF_powers aF_logs aH aH_values aH_base aH_weights aH_parts aH_told cI cZ F_powers F_logs H_lastApart H_needed H_width H_count H_values H_base H_weights H_parts x2 _ h _) (tb_cV hts ok_Sh_fits tb_638 rfl rfl ⟨Nat.le_of_ble_eq_true rfl, Nat.le_of_ble_eq_true rfl⟩) (mt_preV hK hP hD [.int x2] [0, 1, 2, 3, 4, 5, 6, 7] rfl (by decide) (ci := 2) (q0 := 3) rfl rfl) rfl rfl hl.1 rfl (lv_room (Nat.le_of_ble_eq_true rfl)) d_Sh_agreeWithout_46 ⟨Nat.zero_le _, Nat.zero_le _⟩) hP hD hS hA [0, 1, 2, 3, 4, 5, 6, 7] rfl (fun _ => rfl) (fun r_46 u H locs h hP hD hS => ?_)
          obtain ⟨H_parts_46, rfl⟩ : ∃ z, z = u := ⟨_, rfl⟩
          have hP : va_P (dC, dI) vwCl (wd_Sh_agreeWithout aF aF_powers aF_logs aH aH_values aH_base aH_weights aH_parts aH_told cI cZ F_powers F_logs H_lastApart H_needed H_width H_count H_values H_base H_weights H_parts_46 H_told) H := hP
          have hD : va_D A (wd_Sh_agreeWithout aF aF_powers aF_logs aH aH_values aH_base aH_weights aH_parts aH_told cI cZ F_powers F_logs H_lastApart H_needed H_width H_count H_values H_base H_weights H_parts_46 H_told) := hD
          refine lv_if_ne (tgt := 54) hx hb d_Sh_agreeWithout_49 (by decide) (fun g49 => ?_) (fun g49 => ?_)
          · have h := h.1 g49
            exact B54 K23 HK23 H_base H_weights H_parts_46 x1 x2 H locs ls h hP hD hS (lv_sub hl [0, 1, 2] rfl)
          · have h := h.2 g49
            refine lv_iconst (v := (0 : Int32)) hx hb d_Sh_agreeWithout_52 (by decide) ?_
            exact RET (0 : Int32) H_base H_weights H_parts_46 H locs ls 53 d_Sh_agreeWithout_53 rfl h hP hD hS
  have L23 : ∀  (n : Nat), ∀ (H_base : Nat → Int32) (H_weights : Nat → Int32) (H_parts : Nat → Int32) (x1 : Int32) (x2 : Int32) (H : Heap) (locs : List Loc) (ls : Array Slot), wp_Sh_agreeWithout_L23 F_powers F_logs H_lastApart H_needed H_width H_values H_told post  n H_base H_weights H_parts x1 x2 → va_P (dC, dI) vwCl (wd_Sh_agreeWithout aF aF_powers aF_logs aH aH_values aH_base aH_weights aH_parts aH_told cI cZ F_powers F_logs H_lastApart H_needed H_width H_count H_values H_base H_weights H_parts H_told) H → va_D A (wd_Sh_agreeWithout aF aF_powers aF_logs aH aH_values aH_base aH_weights aH_parts aH_told cI cZ F_powers F_logs H_lastApart H_needed H_width H_count H_values H_base H_weights H_parts H_told) → va_S A s.heap H locs → lv_has ls 3 [(0, .ref aH), (1, .int x1), (2, .int x2)] → W p l e rm_Sh_agreeWithout s m args below meth c H locs 0 0 Q (F0 m 23 ls []) := by
    intro  n
    induction n with
    | zero => intro H_base H_weights H_parts x1 x2 H locs ls h hP hD hS hl; exact False.elim h
    | succ n ih => intro H_base H_weights H_parts x1 x2 H locs ls h hP hD hS hl; exact B23  (wp_Sh_agreeWithout_L23 F_powers F_logs H_lastApart H_needed H_width H_values H_told post  n) ih H_base H_weights H_parts x1 x2 H locs ls h hP hD hS hl
  obtain ⟨H, hH⟩ : ∃ H : Heap, H = s.heap := ⟨_, rfl⟩
  obtain ⟨locs, hlo⟩ : ∃ x : List Loc, x = [] := ⟨_, rfl⟩
  have hS : va_S A s.heap H locs := by rw [hH, hlo]; exact hS
  rw [← hH] at hP
  rw [← hlo]
  show W p l e rm_Sh_agreeWithout s m args below meth c s.heap locs 0 0 Q (F0 m 0 ls [])
  rw [← hH]
  refine lv_aload_n hx hb d_Sh_agreeWithout_0 rfl (lv_at hl 0 rfl) ?_
  refine lv_iload_n hx hb d_Sh_agreeWithout_1 rfl (lv_at hl 1 rfl) ?_
  refine mt_i (va_runV (As := [.int p1]) (rest := []) ⟨hx, hb, hml, hown, hts⟩ (ct_Sh_chooseBase l dC dI aF aF_powers aF_logs aH aH_values aH_base aH_weights aH_parts aH_told cI cZ F_powers F_logs H_lastApart H_needed H_width H_count H_base H_weights H_told p1 _ h _) (tb_cV hts ok_Sh_chooseBase tb_657 rfl rfl ⟨Nat.le_of_ble_eq_true rfl, Nat.le_of_ble_eq_true rfl⟩) (mt_preV hK hP hD [.int p1] [0, 1, 2, 3, 5, 6, 8] rfl (by decide) (ci := 2) (q0 := 3) rfl rfl) rfl rfl hl.1 rfl (lv_room (Nat.le_of_ble_eq_true rfl)) d_Sh_agreeWithout_2 ⟨Nat.zero_le _, Nat.zero_le _⟩) hP hD hS hA [0, 1, 2, 3, 5, 6, 8] rfl (fun _ => rfl) (fun r_2 u H locs h hP hD hS => ?_)
  obtain ⟨H_base_2, H_weights_2⟩ := u
  have hP : va_P (dC, dI) vwCl (wd_Sh_agreeWithout aF aF_powers aF_logs aH aH_values aH_base aH_weights aH_parts aH_told cI cZ F_powers F_logs H_lastApart H_needed H_width H_count H_values H_base_2 H_weights_2 H_parts H_told) H := hP
  have hD : va_D A (wd_Sh_agreeWithout aF aF_powers aF_logs aH aH_values aH_base aH_weights aH_parts aH_told cI cZ F_powers F_logs H_lastApart H_needed H_width H_count H_values H_base_2 H_weights_2 H_parts H_told) := hD
  refine lv_if_eq (tgt := 19) hx hb d_Sh_agreeWithout_5 (by decide) (fun g5 => ?_) (fun g5 => ?_)
  · have h := h.1 g5
    exact B19  H_base_2 H_weights_2 H_parts H locs ls h hP hD hS (lv_sub hl [] rfl)
  · have h := h.2 g5
    refine lv_aload_n hx hb d_Sh_agreeWithout_8 rfl (lv_at hl 0 rfl) ?_
    refine lv_aload_n hx hb d_Sh_agreeWithout_9 rfl (lv_at hl 0 rfl) ?_
    refine va_get (D := (dC, dI)) (ci := 2) (v := .int H_lastApart) (C := "ReedSets$Sharing") (T := T_Sh) (N := 10) hx hb hts in_Sh hown hK hP 3 rfl rfl 5 (by decide) (hts _ tb_247) (fun _ h9 => h9) rfl d_Sh_agreeWithout_10 ?_
    refine mt_i (va_runV (As := [.int H_lastApart]) (rest := []) ⟨hx, hb, hml, hown, hts⟩ (ct_Sh_fits l dC dI aF aF_powers aF_logs aH aH_values aH_base aH_weights aH_parts aH_told cI cZ F_powers F_logs H_lastApart H_needed H_width H_count H_values H_base_2 H_weights_2 H_parts H_lastApart _ h _) (tb_cV hts ok_Sh_fits tb_638 rfl rfl ⟨Nat.le_of_ble_eq_true rfl, Nat.le_of_ble_eq_true rfl⟩) (mt_preV hK hP hD [.int H_lastApart] [0, 1, 2, 3, 4, 5, 6, 7] rfl (by decide) (ci := 2) (q0 := 3) rfl rfl) rfl rfl hl.1 rfl (lv_room (Nat.le_of_ble_eq_true rfl)) d_Sh_agreeWithout_13 ⟨Nat.zero_le _, Nat.zero_le _⟩) hP hD hS hA [0, 1, 2, 3, 4, 5, 6, 7] rfl (fun _ => rfl) (fun r_13 u H locs h hP hD hS => ?_)
    obtain ⟨H_parts_13, rfl⟩ : ∃ z, z = u := ⟨_, rfl⟩
    have hP : va_P (dC, dI) vwCl (wd_Sh_agreeWithout aF aF_powers aF_logs aH aH_values aH_base aH_weights aH_parts aH_told cI cZ F_powers F_logs H_lastApart H_needed H_width H_count H_values H_base_2 H_weights_2 H_parts_13 H_told) H := hP
    have hD : va_D A (wd_Sh_agreeWithout aF aF_powers aF_logs aH aH_values aH_base aH_weights aH_parts aH_told cI cZ F_powers F_logs H_lastApart H_needed H_width H_count H_values H_base_2 H_weights_2 H_parts_13 H_told) := hD
    refine lv_if_ne (tgt := 21) hx hb d_Sh_agreeWithout_16 (by decide) (fun g16 => ?_) (fun g16 => ?_)
    · have h := h.1 g16
      refine lv_iconst (v := (0 : Int32)) hx hb d_Sh_agreeWithout_21 (by decide) ?_
      refine lv_istore_n (lv' := [(2, .int (0 : Int32)), (0, .ref aH), (1, .int p1)]) hx hb d_Sh_agreeWithout_22 rfl hl (by decide) rfl (fun ls hl => ?_)
      obtain ⟨n, h⟩ := h
      exact L23  n H_base_2 H_weights_2 H_parts_13 p1 (0 : Int32) H locs ls h hP hD hS (lv_sub hl [1, 2, 0] rfl)
    · have h := h.2 g16
      exact B19  H_base_2 H_weights_2 H_parts_13 H locs ls h hP hD hS (lv_sub hl [] rfl)
abbrev wd_Sh_findOdd (aF aF_powers aF_logs aH aH_values aH_base aH_weights aH_parts aH_told : Nat) (cI cZ : ClassId) (F_powers : Nat → Int32) (F_logs : Nat → Int32) (H_lastApart : Int32) (H_needed : Int32) (H_width : Int32) (H_count : Int32) (H_values : Nat → Int32) (H_base : Nat → Int32) (H_weights : Nat → Int32) (H_parts : Nat → Int32) (H_told : Nat → Int32) : va_W := [(aF, .inr (1, [.ref aF_powers, .ref aF_logs])), (aF_powers, .inl (cI, 512, .inl F_powers)), (aF_logs, .inl (cI, 256, .inl F_logs)), (aH, .inr (2, [.ref aF, .ref aH_values, .ref aH_base, .ref aH_weights, .ref aH_parts, .int H_lastApart, .int H_needed, .int H_width, .ref aH_told, .int H_count])), (aH_values, .inl (cI, 4096, .inl H_values)), (aH_base, .inl (cI, 20, .inl H_base)), (aH_weights, .inl (cI, 20, .inl H_weights)), (aH_parts, .inl (cI, 20, .inl H_parts)), (aH_told, .inl (cZ, 256, .inl H_told))]
def wp_Sh_findOdd_b54 (F_powers : Nat → Int32) (F_logs : Nat → Int32) (H_needed : Int32) (H_width : Int32) (H_values : Nat → Int32) (H_told : Nat → Int32) (post : Int32 → Int32 → (Nat → Int32) → (Nat → Int32) → (Nat → Int32) → Prop) (K17 : Int32 → (Nat → Int32) → (Nat → Int32) → (Nat → Int32) → Int32 → Int32 → Int32 → Prop) (H_lastApart : Int32) (H_base : Nat → Int32) (H_weights : Nat → Int32) (H_parts : Nat → Int32) (x1 : Int32) (x2 : Int32) (x3 : Int32) : Prop := ∀ x3_54 : Int32, x3_54 = (x3 + (1 : Int32)) → (K17 H_lastApart H_base H_weights H_parts x1 x2 x3_54)
def wp_Sh_findOdd_b73 (F_powers : Nat → Int32) (F_logs : Nat → Int32) (H_needed : Int32) (H_width : Int32) (H_values : Nat → Int32) (H_told : Nat → Int32) (post : Int32 → Int32 → (Nat → Int32) → (Nat → Int32) → (Nat → Int32) → Prop)  (H_lastApart : Int32) (H_base : Nat → Int32) (H_weights : Nat → Int32) (H_parts : Nat → Int32) (t0 : Int32) : Prop := post t0 H_lastApart H_base H_weights H_parts
def wp_Sh_findOdd_b60 (F_powers : Nat → Int32) (F_logs : Nat → Int32) (H_needed : Int32) (H_width : Int32) (H_values : Nat → Int32) (H_told : Nat → Int32) (post : Int32 → Int32 → (Nat → Int32) → (Nat → Int32) → (Nat → Int32) → Prop)  (H_lastApart : Int32) (H_base : Nat → Int32) (H_weights : Nat → Int32) (H_parts : Nat → Int32) (x1 : Int32) : Prop := (¬ x1 = (1 : Int32) → (wp_Sh_findOdd_b73 F_powers F_logs H_needed H_width H_values H_told post  H_lastApart H_base H_weights H_parts (-1 : Int32))) ∧ (x1 = (1 : Int32) → (wp_Sh_findOdd_b73 F_powers F_logs H_needed H_width H_values H_told post  H_lastApart H_base H_weights H_parts H_lastApart))
def wp_Sh_findOdd_b17 (F_powers : Nat → Int32) (F_logs : Nat → Int32) (H_needed : Int32) (H_width : Int32) (H_values : Nat → Int32) (H_told : Nat → Int32) (post : Int32 → Int32 → (Nat → Int32) → (Nat → Int32) → (Nat → Int32) → Prop) (K17 : Int32 → (Nat → Int32) → (Nat → Int32) → (Nat → Int32) → Int32 → Int32 → Int32 → Prop) (H_lastApart : Int32) (H_base : Nat → Int32) (H_weights : Nat → Int32) (H_parts : Nat → Int32) (x1 : Int32) (x2 : Int32) (x3 : Int32) : Prop := ((256 : Int32) ≤ x3 → (wp_Sh_findOdd_b60 F_powers F_logs H_needed H_width H_values H_told post  H_lastApart H_base H_weights H_parts x1)) ∧ (¬ (256 : Int32) ≤ x3 → ((H_needed ≤ x2 → (wp_Sh_findOdd_b60 F_powers F_logs H_needed H_width H_values H_told post  H_lastApart H_base H_weights H_parts x1)) ∧ (¬ H_needed ≤ x2 → (vp_in x3 256 ∧ (((H_told x3.toNatClampNeg) = 0 → (wp_Sh_findOdd_b54 F_powers F_logs H_needed H_width H_values H_told post K17 H_lastApart H_base H_weights H_parts x1 x2 x3)) ∧ (¬ (H_told x3.toNatClampNeg) = 0 → (∀ x2_41 : Int32, x2_41 = (x2 + (1 : Int32)) → (wp_Sh_agreeWithout F_powers F_logs H_lastApart H_needed H_width H_values H_base H_weights H_parts H_told x3 (fun r_46 H_base_46 H_weights_46 H_parts_46 => ((r_46 = 0 → (wp_Sh_findOdd_b54 F_powers F_logs H_needed H_width H_values H_told post K17 H_lastApart H_base_46 H_weights_46 H_parts_46 x1 x2_41 x3)) ∧ (¬ r_46 = 0 → (post x3 H_lastApart H_base_46 H_weights_46 H_parts_46))))))))))))
def wp_Sh_findOdd_L17 (F_powers : Nat → Int32) (F_logs : Nat → Int32) (H_needed : Int32) (H_width : Int32) (H_values : Nat → Int32) (H_told : Nat → Int32) (post : Int32 → Int32 → (Nat → Int32) → (Nat → Int32) → (Nat → Int32) → Prop)  : Nat → Int32 → (Nat → Int32) → (Nat → Int32) → (Nat → Int32) → Int32 → Int32 → Int32 → Prop
  | 0 => fun _ _ _ _ _ _ _ => False
  | n + 1 => wp_Sh_findOdd_b17 F_powers F_logs H_needed H_width H_values H_told post (wp_Sh_findOdd_L17 F_powers F_logs H_needed H_width H_values H_told post n)
def wp_Sh_findOdd (F_powers : Nat → Int32) (F_logs : Nat → Int32) (H_lastApart : Int32) (H_needed : Int32) (H_width : Int32) (H_values : Nat → Int32) (H_base : Nat → Int32) (H_weights : Nat → Int32) (H_parts : Nat → Int32) (H_told : Nat → Int32) (post : Int32 → Int32 → (Nat → Int32) → (Nat → Int32) → (Nat → Int32) → Prop) : Prop := wp_Sh_countApart F_powers F_logs H_lastApart H_needed H_width H_values H_base H_weights H_parts H_told (fun r_1 H_lastApart_1 H_parts_1 => ((¬ r_1 = 0 → (∃ n : Nat, wp_Sh_findOdd_L17 F_powers F_logs H_needed H_width H_values H_told post  n H_lastApart_1 H_base H_weights H_parts_1 r_1 (0 : Int32) (0 : Int32))) ∧ (r_1 = 0 → (post (256 : Int32) H_lastApart_1 H_base H_weights H_parts_1))))
abbrev rm_Sh_findOdd : Room := { frames := 4, cells := 0, slots := 0, locals := 90 }
set_option maxHeartbeats 4000000 in
set_option maxRecDepth 100000 in
theorem ct_Sh_findOdd (l : Launch) (dC : Nat → ClassId) (dI : Nat → Nat → Nat) (aF aF_powers aF_logs aH aH_values aH_base aH_weights aH_parts aH_told : Nat) (cI cZ : ClassId) (F_powers : Nat → Int32) (F_logs : Nat → Int32) (H_lastApart : Int32) (H_needed : Int32) (H_width : Int32) (H_count : Int32) (H_values : Nat → Int32) (H_base : Nat → Int32) (H_weights : Nat → Int32) (H_parts : Nat → Int32) (H_told : Nat → Int32)  (post : Int32 → Int32 → (Nat → Int32) → (Nat → Int32) → (Nat → Int32) → Prop) (h : wp_Sh_findOdd F_powers F_logs H_lastApart H_needed H_width H_values H_base H_weights H_parts H_told post) (sz : Nat) : Met l y_Sh_findOdd (Cond.code y_Sh_findOdd c_Sh_findOdd 4 (some .int) :: tb) rm_Sh_findOdd (mt_P (dC, dI) vwCl [(cI, .int), (cZ, .boolean)] [.ref aH] (wd_Sh_findOdd aF aF_powers aF_logs aH aH_values aH_base aH_weights aH_parts aH_told cI cZ F_powers F_logs H_lastApart H_needed H_width H_count H_values H_base H_weights H_parts H_told) sz) (va_Qi (fun (r : Int32) (u : Int32 × (Nat → Int32) × (Nat → Int32) × (Nat → Int32)) => post r u.1 u.2.1 u.2.2.1 u.2.2.2) (mt_B (dC, dI) vwCl [(cI, .int), (cZ, .boolean)] (wd_Sh_findOdd aF aF_powers aF_logs aH aH_values aH_base aH_weights aH_parts aH_told cI cZ F_powers F_logs H_lastApart H_needed H_width H_count H_values H_base H_weights H_parts H_told) sz (fun u : Int32 × (Nat → Int32) × (Nat → Int32) × (Nat → Int32) => wd_Sh_findOdd aF aF_powers aF_logs aH aH_values aH_base aH_weights aH_parts aH_told cI cZ F_powers F_logs u.1 H_needed H_width H_count H_values u.2.1 u.2.2.1 u.2.2.2 H_told)) (va_A (wd_Sh_findOdd aF aF_powers aF_logs aH aH_values aH_base aH_weights aH_parts aH_told cI cZ F_powers F_logs H_lastApart H_needed H_width H_count H_values H_base H_weights H_parts H_told) sz)) 0 0 (va_A (wd_Sh_findOdd aF aF_powers aF_logs aH aH_values aH_base aH_weights aH_parts aH_told cI cZ F_powers F_logs H_lastApart H_needed H_width H_count H_values H_base H_weights H_parts H_told) sz) := by
  refine mt_bd (by decide +kernel) (Nat.le_of_ble_eq_true rfl) ?_
  intro p e s m args below meth c hx hb hml hown hts hr hlk hnm hsz hP hK hD hA hS ls hl
  subst hsz
  have hown : s.vm.findClass "ReedSets$Sharing" = some m.cls := hown
  have hl : lv_has ls 4 [(0, .ref aH)] := hl
  refine lz_Q (fun Q hQ => ?_)
  obtain ⟨A, hAe⟩ : ∃ A : Nat → Prop, A = va_A (wd_Sh_findOdd aF aF_powers aF_logs aH aH_values aH_base aH_weights aH_parts aH_told cI cZ F_powers F_logs H_lastApart H_needed H_width H_count H_values H_base H_weights H_parts H_told) s.heap.size := ⟨_, rfl⟩
  rw [← hAe] at hD hA hS
  have RET : ∀ (v : Int32) (H_lastApart : Int32) (H_base : Nat → Int32) (H_weights : Nat → Int32) (H_parts : Nat → Int32) (H : Heap) (locs : List Loc) (ls : Array Slot) (pc : Nat), decode c_Sh_findOdd pc = .ok (.ireturn, 1) → post v H_lastApart H_base H_weights H_parts → va_P (dC, dI) vwCl (wd_Sh_findOdd aF aF_powers aF_logs aH aH_values aH_base aH_weights aH_parts aH_told cI cZ F_powers F_logs H_lastApart H_needed H_width H_count H_values H_base H_weights H_parts H_told) H → va_D A (wd_Sh_findOdd aF aF_powers aF_logs aH aH_values aH_base aH_weights aH_parts aH_told cI cZ F_powers F_logs H_lastApart H_needed H_width H_count H_values H_base H_weights H_parts H_told) → va_S A s.heap H locs → W p l e rm_Sh_findOdd s m args below meth c H locs 0 0 Q (F0 m pc ls [.int v]) := by
    intro v H_lastApart H_base H_weights H_parts H locs ls pc hd hp h1 h2 h3
    rw [hQ]
    rw [hAe] at h2 h3
    exact mt_reti (H_lastApart, H_base, H_weights, H_parts) hx hb hr hlk hd hK h1 h2 h3 hp
  have B54 : ∀ (K17 : Int32 → (Nat → Int32) → (Nat → Int32) → (Nat → Int32) → Int32 → Int32 → Int32 → Prop) (HK17 : ∀ (H_lastApart : Int32) (H_base : Nat → Int32) (H_weights : Nat → Int32) (H_parts : Nat → Int32) (x1 : Int32) (x2 : Int32) (x3 : Int32) (H : Heap) (locs : List Loc) (ls : Array Slot), K17 H_lastApart H_base H_weights H_parts x1 x2 x3 → va_P (dC, dI) vwCl (wd_Sh_findOdd aF aF_powers aF_logs aH aH_values aH_base aH_weights aH_parts aH_told cI cZ F_powers F_logs H_lastApart H_needed H_width H_count H_values H_base H_weights H_parts H_told) H → va_D A (wd_Sh_findOdd aF aF_powers aF_logs aH aH_values aH_base aH_weights aH_parts aH_told cI cZ F_powers F_logs H_lastApart H_needed H_width H_count H_values H_base H_weights H_parts H_told) → va_S A s.heap H locs → lv_has ls 4 [(0, .ref aH), (1, .int x1), (2, .int x2), (3, .int x3)] → W p l e rm_Sh_findOdd s m args below meth c H locs 0 0 Q (F0 m 17 ls [])), ∀ (H_lastApart : Int32) (H_base : Nat → Int32) (H_weights : Nat → Int32) (H_parts : Nat → Int32) (x1 : Int32) (x2 : Int32) (x3 : Int32) (H : Heap) (locs : List Loc) (ls : Array Slot), wp_Sh_findOdd_b54 F_powers F_logs H_needed H_width H_values H_told post K17 H_lastApart H_base H_weights H_parts x1 x2 x3 → va_P (dC, dI) vwCl (wd_Sh_findOdd aF aF_powers aF_logs aH aH_values aH_base aH_weights aH_parts aH_told cI cZ F_powers F_logs H_lastApart H_needed H_width H_count H_values H_base H_weights H_parts H_told) H → va_D A (wd_Sh_findOdd aF aF_powers aF_logs aH aH_values aH_base aH_weights aH_parts aH_told cI cZ F_powers F_logs H_lastApart H_needed H_width H_count H_values H_base H_weights H_parts H_told) → va_S A s.heap H locs → lv_has ls 4 [(0, .ref aH), (1, .int x1), (2, .int x2), (3, .int x3)] → W p l e rm_Sh_findOdd s m args below meth c H locs 0 0 Q (F0 m 54 ls []) := by
    intro K17 HK17 H_lastApart H_base H_weights H_parts x1 x2 x3 H locs ls h hP hD hS hl
    obtain ⟨x3_54, ex3_54⟩ : ∃ y : Int32, y = (x3 + (1 : Int32)) := ⟨_, rfl⟩
    have h := h x3_54 ex3_54
    refine lv_iinc (v := x3_54) (lv' := [(3, .int x3_54), (0, .ref aH), (1, .int x1), (2, .int x2)]) hx hb d_Sh_findOdd_54 hl (k := 3) rfl (by rw [ex3_54]; rfl) (by decide) rfl (fun ls hl => ?_)
    refine lv_goto (tgt := 17) hx hb d_Sh_findOdd_57 (by decide) ?_
    exact HK17 H_lastApart H_base H_weights H_parts x1 x2 x3_54 H locs ls h hP hD hS (lv_sub hl [1, 2, 3, 0] rfl)
  have B73 : ∀ (H_lastApart : Int32) (H_base : Nat → Int32) (H_weights : Nat → Int32) (H_parts : Nat → Int32) (t0 : Int32) (H : Heap) (locs : List Loc) (ls : Array Slot), wp_Sh_findOdd_b73 F_powers F_logs H_needed H_width H_values H_told post  H_lastApart H_base H_weights H_parts t0 → va_P (dC, dI) vwCl (wd_Sh_findOdd aF aF_powers aF_logs aH aH_values aH_base aH_weights aH_parts aH_told cI cZ F_powers F_logs H_lastApart H_needed H_width H_count H_values H_base H_weights H_parts H_told) H → va_D A (wd_Sh_findOdd aF aF_powers aF_logs aH aH_values aH_base aH_weights aH_parts aH_told cI cZ F_powers F_logs H_lastApart H_needed H_width H_count H_values H_base H_weights H_parts H_told) → va_S A s.heap H locs → lv_has ls 4 [] → W p l e rm_Sh_findOdd s m args below meth c H locs 0 0 Q (F0 m 73 ls [.int t0]) := by
    intro  H_lastApart H_base H_weights H_parts t0 H locs ls h hP hD hS hl
    exact RET t0 H_lastApart H_base H_weights H_parts H locs ls 73 d_Sh_findOdd_73 h hP hD hS
  have B60 : ∀ (H_lastApart : Int32) (H_base : Nat → Int32) (H_weights : Nat → Int32) (H_parts : Nat → Int32) (x1 : Int32) (H : Heap) (locs : List Loc) (ls : Array Slot), wp_Sh_findOdd_b60 F_powers F_logs H_needed H_width H_values H_told post  H_lastApart H_base H_weights H_parts x1 → va_P (dC, dI) vwCl (wd_Sh_findOdd aF aF_powers aF_logs aH aH_values aH_base aH_weights aH_parts aH_told cI cZ F_powers F_logs H_lastApart H_needed H_width H_count H_values H_base H_weights H_parts H_told) H → va_D A (wd_Sh_findOdd aF aF_powers aF_logs aH aH_values aH_base aH_weights aH_parts aH_told cI cZ F_powers F_logs H_lastApart H_needed H_width H_count H_values H_base H_weights H_parts H_told) → va_S A s.heap H locs → lv_has ls 4 [(0, .ref aH), (1, .int x1)] → W p l e rm_Sh_findOdd s m args below meth c H locs 0 0 Q (F0 m 60 ls []) := by
    intro  H_lastApart H_base H_weights H_parts x1 H locs ls h hP hD hS hl
    refine lv_iload_n hx hb d_Sh_findOdd_60 rfl (lv_at hl 1 rfl) ?_
    refine lv_iconst (v := (1 : Int32)) hx hb d_Sh_findOdd_61 (by decide) ?_
    refine lv_icmp_ne (tgt := 72) hx hb d_Sh_findOdd_62 (by decide) (fun g62 => ?_) (fun g62 => ?_)
    · have h := h.1 g62
      refine lv_iconst (v := (-1 : Int32)) hx hb d_Sh_findOdd_72 (by decide) ?_
      exact B73  H_lastApart H_base H_weights H_parts (-1 : Int32) H locs ls h hP hD hS (lv_sub hl [] rfl)
    · have h := h.2 g62
      refine lv_aload_n hx hb d_Sh_findOdd_65 rfl (lv_at hl 0 rfl) ?_
      refine va_get (D := (dC, dI)) (ci := 2) (v := .int H_lastApart) (C := "ReedSets$Sharing") (T := T_Sh) (N := 10) hx hb hts in_Sh hown hK hP 3 rfl rfl 5 (by decide) (hts _ tb_247) (fun _ h9 => h9) rfl d_Sh_findOdd_66 ?_
      refine lv_goto (tgt := 73) hx hb d_Sh_findOdd_69 (by decide) ?_
      exact B73  H_lastApart H_base H_weights H_parts H_lastApart H locs ls h hP hD hS (lv_sub hl [] rfl)
  have B17 : ∀ (K17 : Int32 → (Nat → Int32) → (Nat → Int32) → (Nat → Int32) → Int32 → Int32 → Int32 → Prop) (HK17 : ∀ (H_lastApart : Int32) (H_base : Nat → Int32) (H_weights : Nat → Int32) (H_parts : Nat → Int32) (x1 : Int32) (x2 : Int32) (x3 : Int32) (H : Heap) (locs : List Loc) (ls : Array Slot), K17 H_lastApart H_base H_weights H_parts x1 x2 x3 → va_P (dC, dI) vwCl (wd_Sh_findOdd aF aF_powers aF_logs aH aH_values aH_base aH_weights aH_parts aH_told cI cZ F_powers F_logs H_lastApart H_needed H_width H_count H_values H_base H_weights H_parts H_told) H → va_D A (wd_Sh_findOdd aF aF_powers aF_logs aH aH_values aH_base aH_weights aH_parts aH_told cI cZ F_powers F_logs H_lastApart H_needed H_width H_count H_values H_base H_weights H_parts H_told) → va_S A s.heap H locs → lv_has ls 4 [(0, .ref aH), (1, .int x1), (2, .int x2), (3, .int x3)] → W p l e rm_Sh_findOdd s m args below meth c H locs 0 0 Q (F0 m 17 ls [])), ∀ (H_lastApart : Int32) (H_base : Nat → Int32) (H_weights : Nat → Int32) (H_parts : Nat → Int32) (x1 : Int32) (x2 : Int32) (x3 : Int32) (H : Heap) (locs : List Loc) (ls : Array Slot), wp_Sh_findOdd_b17 F_powers F_logs H_needed H_width H_values H_told post K17 H_lastApart H_base H_weights H_parts x1 x2 x3 → va_P (dC, dI) vwCl (wd_Sh_findOdd aF aF_powers aF_logs aH aH_values aH_base aH_weights aH_parts aH_told cI cZ F_powers F_logs H_lastApart H_needed H_width H_count H_values H_base H_weights H_parts H_told) H → va_D A (wd_Sh_findOdd aF aF_powers aF_logs aH aH_values aH_base aH_weights aH_parts aH_told cI cZ F_powers F_logs H_lastApart H_needed H_width H_count H_values H_base H_weights H_parts H_told) → va_S A s.heap H locs → lv_has ls 4 [(0, .ref aH), (1, .int x1), (2, .int x2), (3, .int x3)] → W p l e rm_Sh_findOdd s m args below meth c H locs 0 0 Q (F0 m 17 ls []) := by
    intro K17 HK17 H_lastApart H_base H_weights H_parts x1 x2 x3 H locs ls h hP hD hS hl
    refine lv_iload_n hx hb d_Sh_findOdd_17 rfl (lv_at hl 3 rfl) ?_
    refine lv_sipush (v := (256 : Int32)) hx hb d_Sh_findOdd_18 (by decide) ?_
    refine lv_icmp_ge (tgt := 60) hx hb d_Sh_findOdd_21 (by decide) (fun g21 => ?_) (fun g21 => ?_)
    · have h := h.1 g21
      exact B60  H_lastApart H_base H_weights H_parts x1 H locs ls h hP hD hS (lv_sub hl [0, 1] rfl)
    · have h := h.2 g21
      refine lv_iload_n hx hb d_Sh_findOdd_24 rfl (lv_at hl 2 rfl) ?_
      refine lv_aload_n hx hb d_Sh_findOdd_25 rfl (lv_at hl 0 rfl) ?_
      refine va_get (D := (dC, dI)) (ci := 2) (v := .int H_needed) (C := "ReedSets$Sharing") (T := T_Sh) (N := 10) hx hb hts in_Sh hown hK hP 3 rfl rfl 6 (by decide) (hts _ tb_248) (fun _ h9 => h9) rfl d_Sh_findOdd_26 ?_
      refine lv_icmp_ge (tgt := 60) hx hb d_Sh_findOdd_29 (by decide) (fun g29 => ?_) (fun g29 => ?_)
      · have h := h.1 g29
        exact B60  H_lastApart H_base H_weights H_parts x1 H locs ls h hP hD hS (lv_sub hl [0, 1] rfl)
      · have h := h.2 g29
        refine lv_aload_n hx hb d_Sh_findOdd_32 rfl (lv_at hl 0 rfl) ?_
        refine va_get (D := (dC, dI)) (ci := 2) (v := .ref aH_told) (C := "ReedSets$Sharing") (T := T_Sh) (N := 10) hx hb hts in_Sh hown hK hP 3 rfl rfl 8 (by decide) (hts _ tb_250) (fun _ h9 => h9) rfl d_Sh_findOdd_33 ?_
        refine lv_iload_n hx hb d_Sh_findOdd_36 rfl (lv_at hl 3 rfl) ?_
        obtain ⟨hi, h⟩ := h
        refine va_zald hx hb hK hP 8 1 rfl rfl hi d_Sh_findOdd_37 ?_
        refine lv_if_eq (tgt := 54) hx hb d_Sh_findOdd_38 (by decide) (fun g38 => ?_) (fun g38 => ?_)
        · have h := h.1 g38
          exact B54 K17 HK17 H_lastApart H_base H_weights H_parts x1 x2 x3 H locs ls h hP hD hS (lv_sub hl [0, 1, 2, 3] rfl)
        · have h := h.2 g38
          obtain ⟨x2_41, ex2_41⟩ : ∃ y : Int32, y = (x2 + (1 : Int32)) := ⟨_, rfl⟩
          have h := h x2_41 ex2_41
          refine lv_iinc (v := x2_41) (lv' := [(2, .int x2_41), (0, .ref aH), (1, .int x1), (3, .int x3)]) hx hb d_Sh_findOdd_41 hl (k := 2) rfl (by rw [ex2_41]; rfl) (by decide) rfl (fun ls hl => ?_)
          refine lv_aload_n hx hb d_Sh_findOdd_44 rfl (lv_at hl 1 rfl) ?_
          refine lv_iload_n hx hb d_Sh_findOdd_45 rfl (lv_at hl 3 rfl) ?_
          refine mt_i (va_runV (As := [.int x3]) (rest := []) ⟨hx, hb, hml, hown, hts⟩ (ct_Sh_agreeWithout l dC dI aF aF_powers aF_logs aH aH_values aH_base aH_weights aH_parts aH_told cI cZ F_powers F_logs H_lastApart H_needed H_width H_count H_values H_base H_weights H_parts H_told x3 _ h _) (tb_cV hts ok_Sh_agreeWithout tb_653 rfl rfl ⟨Nat.le_of_ble_eq_true rfl, Nat.le_of_ble_eq_true rfl⟩) (mt_preV hK hP hD [.int x3] [0, 1, 2, 3, 4, 5, 6, 7, 8] rfl (by decide) (ci := 2) (q0 := 3) rfl rfl) rfl rfl hl.1 rfl (lv_room (Nat.le_of_ble_eq_true rfl)) d_Sh_findOdd_46 ⟨Nat.zero_le _, Nat.zero_le _⟩) hP hD hS hA [0, 1, 2, 3, 4, 5, 6, 7, 8] rfl (fun _ => rfl) (fun r_46 u H locs h hP hD hS => ?_)
          obtain ⟨H_base_46, H_weights_46, H_parts_46⟩ := u
          have hP : va_P (dC, dI) vwCl (wd_Sh_findOdd aF aF_powers aF_logs aH aH_values aH_base aH_weights aH_parts aH_told cI cZ F_powers F_logs H_lastApart H_needed H_width H_count H_values H_base_46 H_weights_46 H_parts_46 H_told) H := hP
          have hD : va_D A (wd_Sh_findOdd aF aF_powers aF_logs aH aH_values aH_base aH_weights aH_parts aH_told cI cZ F_powers F_logs H_lastApart H_needed H_width H_count H_values H_base_46 H_weights_46 H_parts_46 H_told) := hD
          refine lv_if_eq (tgt := 54) hx hb d_Sh_findOdd_49 (by decide) (fun g49 => ?_) (fun g49 => ?_)
          · have h := h.1 g49
            exact B54 K17 HK17 H_lastApart H_base_46 H_weights_46 H_parts_46 x1 x2_41 x3 H locs ls h hP hD hS (lv_sub hl [1, 2, 0, 3] rfl)
          · have h := h.2 g49
            refine lv_iload_n hx hb d_Sh_findOdd_52 rfl (lv_at hl 3 rfl) ?_
            exact RET x3 H_lastApart H_base_46 H_weights_46 H_parts_46 H locs ls 53 d_Sh_findOdd_53 h hP hD hS
  have L17 : ∀  (n : Nat), ∀ (H_lastApart : Int32) (H_base : Nat → Int32) (H_weights : Nat → Int32) (H_parts : Nat → Int32) (x1 : Int32) (x2 : Int32) (x3 : Int32) (H : Heap) (locs : List Loc) (ls : Array Slot), wp_Sh_findOdd_L17 F_powers F_logs H_needed H_width H_values H_told post  n H_lastApart H_base H_weights H_parts x1 x2 x3 → va_P (dC, dI) vwCl (wd_Sh_findOdd aF aF_powers aF_logs aH aH_values aH_base aH_weights aH_parts aH_told cI cZ F_powers F_logs H_lastApart H_needed H_width H_count H_values H_base H_weights H_parts H_told) H → va_D A (wd_Sh_findOdd aF aF_powers aF_logs aH aH_values aH_base aH_weights aH_parts aH_told cI cZ F_powers F_logs H_lastApart H_needed H_width H_count H_values H_base H_weights H_parts H_told) → va_S A s.heap H locs → lv_has ls 4 [(0, .ref aH), (1, .int x1), (2, .int x2), (3, .int x3)] → W p l e rm_Sh_findOdd s m args below meth c H locs 0 0 Q (F0 m 17 ls []) := by
    intro  n
    induction n with
    | zero => intro H_lastApart H_base H_weights H_parts x1 x2 x3 H locs ls h hP hD hS hl; exact False.elim h
    | succ n ih => intro H_lastApart H_base H_weights H_parts x1 x2 x3 H locs ls h hP hD hS hl; exact B17  (wp_Sh_findOdd_L17 F_powers F_logs H_needed H_width H_values H_told post  n) ih H_lastApart H_base H_weights H_parts x1 x2 x3 H locs ls h hP hD hS hl
  obtain ⟨H, hH⟩ : ∃ H : Heap, H = s.heap := ⟨_, rfl⟩
  obtain ⟨locs, hlo⟩ : ∃ x : List Loc, x = [] := ⟨_, rfl⟩
  have hS : va_S A s.heap H locs := by rw [hH, hlo]; exact hS
  rw [← hH] at hP
  rw [← hlo]
  show W p l e rm_Sh_findOdd s m args below meth c s.heap locs 0 0 Q (F0 m 0 ls [])
  rw [← hH]
  refine lv_aload_n hx hb d_Sh_findOdd_0 rfl (lv_at hl 0 rfl) ?_
  refine mt_i (va_runV (As := []) (rest := []) ⟨hx, hb, hml, hown, hts⟩ (ct_Sh_countApart l dC dI aF aF_powers aF_logs aH aH_values aH_base aH_weights aH_parts aH_told cI cZ F_powers F_logs H_lastApart H_needed H_width H_count H_values H_base H_weights H_parts H_told _ h _) (tb_cV hts ok_Sh_countApart tb_652 rfl rfl ⟨Nat.le_of_ble_eq_true rfl, Nat.le_of_ble_eq_true rfl⟩) (mt_preV hK hP hD [] [0, 1, 2, 3, 4, 5, 6, 7, 8] rfl (by decide) (ci := 2) (q0 := 3) rfl rfl) rfl rfl hl.1 rfl (lv_room (Nat.le_of_ble_eq_true rfl)) d_Sh_findOdd_1 ⟨Nat.zero_le _, Nat.zero_le _⟩) hP hD hS hA [0, 1, 2, 3, 4, 5, 6, 7, 8] rfl (fun _ => rfl) (fun r_1 u H locs h hP hD hS => ?_)
  obtain ⟨H_lastApart_1, H_parts_1⟩ := u
  have hP : va_P (dC, dI) vwCl (wd_Sh_findOdd aF aF_powers aF_logs aH aH_values aH_base aH_weights aH_parts aH_told cI cZ F_powers F_logs H_lastApart_1 H_needed H_width H_count H_values H_base H_weights H_parts_1 H_told) H := hP
  have hD : va_D A (wd_Sh_findOdd aF aF_powers aF_logs aH aH_values aH_base aH_weights aH_parts aH_told cI cZ F_powers F_logs H_lastApart_1 H_needed H_width H_count H_values H_base H_weights H_parts_1 H_told) := hD
  refine lv_istore_n (lv' := [(1, .int r_1), (0, .ref aH)]) hx hb d_Sh_findOdd_4 rfl hl (by decide) rfl (fun ls hl => ?_)
  refine lv_iload_n hx hb d_Sh_findOdd_5 rfl (lv_at hl 0 rfl) ?_
  refine lv_if_ne (tgt := 13) hx hb d_Sh_findOdd_6 (by decide) (fun g6 => ?_) (fun g6 => ?_)
  · have h := h.1 g6
    refine lv_iconst (v := (0 : Int32)) hx hb d_Sh_findOdd_13 (by decide) ?_
    refine lv_istore_n (lv' := [(2, .int (0 : Int32)), (1, .int r_1), (0, .ref aH)]) hx hb d_Sh_findOdd_14 rfl hl (by decide) rfl (fun ls hl => ?_)
    refine lv_iconst (v := (0 : Int32)) hx hb d_Sh_findOdd_15 (by decide) ?_
    refine lv_istore_n (lv' := [(3, .int (0 : Int32)), (2, .int (0 : Int32)), (1, .int r_1), (0, .ref aH)]) hx hb d_Sh_findOdd_16 rfl hl (by decide) rfl (fun ls hl => ?_)
    obtain ⟨n, h⟩ := h
    exact L17  n H_lastApart_1 H_base H_weights H_parts_1 r_1 (0 : Int32) (0 : Int32) H locs ls h hP hD hS (lv_sub hl [3, 2, 1, 0] rfl)
  · have h := h.2 g6
    refine lv_sipush (v := (256 : Int32)) hx hb d_Sh_findOdd_9 (by decide) ?_
    exact RET (256 : Int32) H_lastApart_1 H_base H_weights H_parts_1 H locs ls 12 d_Sh_findOdd_12 h hP hD hS
