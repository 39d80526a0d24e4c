abbrev wd_Arr_fill2 (aA : Nat) (cI cZ : ClassId) (nA : Nat) (A_ : Nat → Int32) : va_W := [(aA, .inl (cI, nA, .inl A_))]
def wp_Arr_fill2_b5 (nA : Nat) (post : (Nat → Int32) → Prop) (K5 : (Nat → Int32) → Int32 → Int32 → Int32 → Prop) (A_ : Nat → Int32) (x1 : Int32) (x2 : Int32) (x3 : Int32) : Prop := (x3 ≤ x2 → (post A_)) ∧ (¬ x3 ≤ x2 → (vp_in x2 nA ∧ (∀ x2_14 : Int32, x2_14 = (x2 + (1 : Int32)) → (K5 (upd A_ x2.toNatClampNeg x1) x1 x2_14 x3))))
def wp_Arr_fill2_L5 (nA : Nat) (post : (Nat → Int32) → Prop)  : Nat → (Nat → Int32) → Int32 → Int32 → Int32 → Prop
  | 0 => fun _ _ _ _ => False
  | n + 1 => wp_Arr_fill2_b5 nA post (wp_Arr_fill2_L5 nA post n)
def wp_Arr_fill2 (nA : Nat) (A_ : Nat → Int32) (p1 : Int32) (post : (Nat → Int32) → Prop) : Prop := ∀ x3_4 : Int32, x3_4 = (nI nA) → (∃ n : Nat, wp_Arr_fill2_L5 nA post  n A_ p1 (0 : Int32) x3_4)
abbrev rm_Arr_fill2 : Room := { frames := 0, cells := 0, slots := 0, locals := 0 }
set_option maxHeartbeats 4000000 in
set_option maxRecDepth 100000 in
theorem ct_Arr_fill2 (l : Launch) (dC : Nat → ClassId) (dI : Nat → Nat → Nat) (aA : Nat) (cI cZ : ClassId) (nA : Nat) (A_ : Nat → Int32) (p1 : Int32) (post : (Nat → Int32) → Prop) (h : wp_Arr_fill2 nA A_ p1 post) (sz : Nat) : Met l y_Arr_fill2 (Cond.code y_Arr_fill2 c_Arr_fill2 4 none :: tb) rm_Arr_fill2 (mt_P (dC, dI) vwCl [(cI, .int), (cZ, .boolean)] [.ref aA, .int p1] (wd_Arr_fill2 aA cI cZ nA A_) sz) (va_Qv (fun (u : (Nat → Int32)) => post u) (mt_B (dC, dI) vwCl [(cI, .int), (cZ, .boolean)] (wd_Arr_fill2 aA cI cZ nA A_) sz (fun u : (Nat → Int32) => wd_Arr_fill2 aA cI cZ nA u)) (va_A (wd_Arr_fill2 aA cI cZ nA A_) sz)) 0 0 (va_A (wd_Arr_fill2 aA cI cZ nA A_) sz) := by
  refine mt_bd (by decide +kernel) (Nat.le_of_ble_eq_true rfl) ?_
  intro p e s m args below meth c hx hb hml hown hts hr hlk hnm hsz hP hK hD hA hS ls hl
  subst hsz
  have hown : s.vm.findClass "java/util/Arrays" = some m.cls := hown
  have hl : lv_has ls 4 [(0, .ref aA), (1, .int p1)] := hl
  refine lz_Q (fun Q hQ => ?_)
  obtain ⟨A, hAe⟩ : ∃ A : Nat → Prop, A = va_A (wd_Arr_fill2 aA cI cZ nA A_) s.heap.size := ⟨_, rfl⟩
  rw [← hAe] at hD hA hS
  have RET : ∀ (A_ : Nat → Int32) (H : Heap) (locs : List Loc) (ls : Array Slot) (pc : Nat), decode c_Arr_fill2 pc = .ok (.return_, 1) → post A_ → va_P (dC, dI) vwCl (wd_Arr_fill2 aA cI cZ nA A_) H → va_D A (wd_Arr_fill2 aA cI cZ nA A_) → va_S A s.heap H locs → W p l e rm_Arr_fill2 s m args below meth c H locs 0 0 Q (F0 m pc ls []) := by
    intro A_ H locs ls pc hd hp h1 h2 h3
    rw [hQ]
    rw [hAe] at h2 h3
    exact mt_retv (A_) hx hb hr hlk hd hK h1 h2 h3 hp
  have B5 : ∀ (K5 : (Nat → Int32) → Int32 → Int32 → Int32 → Prop) (HK5 : ∀ (A_ : Nat → Int32) (x1 : Int32) (x2 : Int32) (x3 : Int32) (H : Heap) (locs : List Loc) (ls : Array Slot), K5 A_ x1 x2 x3 → va_P (dC, dI) vwCl (wd_Arr_fill2 aA cI cZ nA A_) H → va_D A (wd_Arr_fill2 aA cI cZ nA A_) → va_S A s.heap H locs → lv_has ls 4 [(0, .ref aA), (1, .int x1), (2, .int x2), (3, .int x3)] → W p l e rm_Arr_fill2 s m args below meth c H locs 0 0 Q (F0 m 5 ls [])), ∀ (A_ : Nat → Int32) (x1 : Int32) (x2 : Int32) (x3 : Int32) (H : Heap) (locs : List Loc) (ls : Array Slot), wp_Arr_fill2_b5 nA post K5 A_ x1 x2 x3 → va_P (dC, dI) vwCl (wd_Arr_fill2 aA cI cZ nA A_) H → va_D A (wd_Arr_fill2 aA cI cZ nA A_) → va_S A s.heap H locs → lv_has ls 4 [(0, .ref aA), (1, .int x1), (2, .int x2), (3, .int x3)] → W p l e rm_Arr_fill2 s m args below meth c H locs 0 0 Q (F0 m 5 ls []) := by
    intro K5 HK5 A_ x1 x2 x3 H locs ls h hP hD hS hl
    refine lv_iload_n hx hb d_Arr_fill2_5 rfl (lv_at hl 2 rfl) ?_
    refine lv_iload_n hx hb d_Arr_fill2_6 rfl (lv_at hl 3 rfl) ?_
    refine lv_icmp_ge (tgt := 20) hx hb d_Arr_fill2_7 (by decide) (fun g7 => ?_) (fun g7 => ?_)
    · have h := h.1 g7
      exact RET A_ H locs ls 20 d_Arr_fill2_20 h hP hD hS
    · have h := h.2 g7
      refine lv_aload_n hx hb d_Arr_fill2_10 rfl (lv_at hl 0 rfl) ?_
      refine lv_iload_n hx hb d_Arr_fill2_11 rfl (lv_at hl 2 rfl) ?_
      refine lv_iload_n hx hb d_Arr_fill2_12 rfl (lv_at hl 1 rfl) ?_
      obtain ⟨hi, h⟩ := h
      refine va_iast hx hb hK hP hD hS 0 0 rfl rfl hi d_Arr_fill2_13 (fun H locs hP hD hS => ?_)
      have hP : va_P (dC, dI) vwCl (wd_Arr_fill2 aA cI cZ nA (upd A_ x2.toNatClampNeg x1)) H := hP
      have hD : va_D A (wd_Arr_fill2 aA cI cZ nA (upd A_ x2.toNatClampNeg x1)) := hD
      obtain ⟨x2_14, ex2_14⟩ : ∃ y : Int32, y = (x2 + (1 : Int32)) := ⟨_, rfl⟩
      have h := h x2_14 ex2_14
      refine lv_iinc (v := x2_14) (lv' := [(2, .int x2_14), (0, .ref aA), (1, .int x1), (3, .int x3)]) hx hb d_Arr_fill2_14 hl (k := 2) rfl (by rw [ex2_14]; rfl) (by decide) rfl (fun ls hl => ?_)
      refine lv_goto (tgt := 5) hx hb d_Arr_fill2_17 (by decide) ?_
      exact HK5 (upd A_ x2.toNatClampNeg x1) x1 x2_14 x3 H locs ls h hP hD hS (lv_sub hl [1, 2, 0, 3] rfl)
  have L5 : ∀  (n : Nat), ∀ (A_ : Nat → Int32) (x1 : Int32) (x2 : Int32) (x3 : Int32) (H : Heap) (locs : List Loc) (ls : Array Slot), wp_Arr_fill2_L5 nA post  n A_ x1 x2 x3 → va_P (dC, dI) vwCl (wd_Arr_fill2 aA cI cZ nA A_) H → va_D A (wd_Arr_fill2 aA cI cZ nA A_) → va_S A s.heap H locs → lv_has ls 4 [(0, .ref aA), (1, .int x1), (2, .int x2), (3, .int x3)] → W p l e rm_Arr_fill2 s m args below meth c H locs 0 0 Q (F0 m 5 ls []) := by
    intro  n
    induction n with
    | zero => intro A_ x1 x2 x3 H locs ls h hP hD hS hl; exact False.elim h
    | succ n ih => intro A_ x1 x2 x3 H locs ls h hP hD hS hl; exact B5  (wp_Arr_fill2_L5 nA post  n) ih A_ x1 x2 x3 H locs ls h hP hD hS hl
  obtain ⟨H, hH⟩ : ∃ H : Heap, H = s.heap := ⟨_, rfl⟩
  obtain ⟨locs, hlo⟩ : ∃ x : List Loc, x = [] := ⟨_, rfl⟩
  have hS : va_S A s.heap H locs := by rw [hH, hlo]; exact hS
  rw [← hH] at hP
  rw [← hlo]
  show W p l e rm_Arr_fill2 s m args below meth c s.heap locs 0 0 Q (F0 m 0 ls [])
  rw [← hH]
  refine lv_iconst (v := (0 : Int32)) hx hb d_Arr_fill2_0 (by decide) ?_
  refine lv_istore_n (lv' := [(2, .int (0 : Int32)), (0, .ref aA), (1, .int p1)]) hx hb d_Arr_fill2_1 rfl hl (by decide) rfl (fun ls hl => ?_)
  refine lv_aload_n hx hb d_Arr_fill2_2 rfl (lv_at hl 1 rfl) ?_
  refine va_alen hx hb hK hP 0 0 rfl rfl (v := (nI nA)) rfl d_Arr_fill2_3 ?_
  refine lv_topi (fun x3_4 ex3_4 => ?_)
  have h := h x3_4 ex3_4
  refine lv_istore_n (lv' := [(3, .int x3_4), (2, .int (0 : Int32)), (0, .ref aA), (1, .int p1)]) hx hb d_Arr_fill2_4 rfl hl (by decide) rfl (fun ls hl => ?_)
  obtain ⟨n, h⟩ := h
  exact L5  n A_ p1 (0 : Int32) x3_4 H locs ls h hP hD hS (lv_sub hl [2, 3, 1, 0] rfl)
abbrev wd_Wo_findAll (aW aF aW_bytes aW_lost aW_factors : Nat) (cI cZ : ClassId) (W_lostCount : Int32) (W_data : Int32) (W_repairs : Int32) (W_first : Int32) (W_lost : Nat → Int32) : va_W := [(aW, .inr (5, [.ref aF, .ref aW_bytes, .ref aW_lost, .ref aW_factors, .int W_lostCount, .int W_data, .int W_repairs, .int W_first])), (aW_lost, .inl (cZ, 240, .inl W_lost))]
def wp_Wo_findAll_b2  (post : Int32 → (Nat → Int32) → Prop) (K2 : Int32 → (Nat → Int32) → Int32 → Prop) (W_lostCount : Int32) (W_lost : Nat → Int32) (x1 : Int32) : Prop := ((240 : Int32) ≤ x1 → (post (0 : Int32) W_lost)) ∧ (¬ (240 : Int32) ≤ x1 → (vp_in x1 240 ∧ (∀ x1_16 : Int32, x1_16 = (x1 + (1 : Int32)) → (K2 W_lostCount (upd W_lost x1.toNatClampNeg (0 : Int32)) x1_16))))
def wp_Wo_findAll_L2  (post : Int32 → (Nat → Int32) → Prop)  : Nat → Int32 → (Nat → Int32) → Int32 → Prop
  | 0 => fun _ _ _ => False
  | n + 1 => wp_Wo_findAll_b2 post (wp_Wo_findAll_L2 post n)
def wp_Wo_findAll (W_lostCount : Int32) (W_lost : Nat → Int32) (post : Int32 → (Nat → Int32) → Prop) : Prop := ∃ n : Nat, wp_Wo_findAll_L2 post  n W_lostCount W_lost (0 : Int32)
abbrev rm_Wo_findAll : Room := { frames := 0, cells := 0, slots := 0, locals := 0 }
set_option maxHeartbeats 4000000 in
set_option maxRecDepth 100000 in
theorem ct_Wo_findAll (l : Launch) (dC : Nat → ClassId) (dI : Nat → Nat → Nat) (aW aF aW_bytes aW_lost aW_factors : Nat) (cI cZ : ClassId) (W_lostCount : Int32) (W_data : Int32) (W_repairs : Int32) (W_first : Int32) (W_lost : Nat → Int32)  (post : Int32 → (Nat → Int32) → Prop) (h : wp_Wo_findAll W_lostCount W_lost post) (sz : Nat) : Met l y_Wo_findAll (Cond.code y_Wo_findAll c_Wo_findAll 2 none :: tb) rm_Wo_findAll (mt_P (dC, dI) vwCl [(cI, .int), (cZ, .boolean)] [.ref aW] (wd_Wo_findAll aW aF aW_bytes aW_lost aW_factors cI cZ W_lostCount W_data W_repairs W_first W_lost) sz) (va_Qv (fun (u : Int32 × (Nat → Int32)) => post u.1 u.2) (mt_B (dC, dI) vwCl [(cI, .int), (cZ, .boolean)] (wd_Wo_findAll aW aF aW_bytes aW_lost aW_factors cI cZ W_lostCount W_data W_repairs W_first W_lost) sz (fun u : Int32 × (Nat → Int32) => wd_Wo_findAll aW aF aW_bytes aW_lost aW_factors cI cZ u.1 W_data W_repairs W_first u.2)) (va_A (wd_Wo_findAll aW aF aW_bytes aW_lost aW_factors cI cZ W_lostCount W_data W_repairs W_first W_lost) sz)) 0 0 (va_A (wd_Wo_findAll aW aF aW_bytes aW_lost aW_factors cI cZ W_lostCount W_data W_repairs W_first W_lost) sz) := by
  refine mt_bd (by decide +kernel) (Nat.le_of_ble_eq_true rfl) ?_
  intro p e s m args below meth c hx hb hml hown hts hr hlk hnm hsz hP hK hD hA hS ls hl
  subst hsz
  have hown : s.vm.findClass "ReedSets$Word" = some m.cls := hown
  have hl : lv_has ls 2 [(0, .ref aW)] := hl
  refine lz_Q (fun Q hQ => ?_)
  obtain ⟨A, hAe⟩ : ∃ A : Nat → Prop, A = va_A (wd_Wo_findAll aW aF aW_bytes aW_lost aW_factors cI cZ W_lostCount W_data W_repairs W_first W_lost) s.heap.size := ⟨_, rfl⟩
  rw [← hAe] at hD hA hS
  have RET : ∀ (W_lostCount : Int32) (W_lost : Nat → Int32) (H : Heap) (locs : List Loc) (ls : Array Slot) (pc : Nat), decode c_Wo_findAll pc = .ok (.return_, 1) → post W_lostCount W_lost → va_P (dC, dI) vwCl (wd_Wo_findAll aW aF aW_bytes aW_lost aW_factors cI cZ W_lostCount W_data W_repairs W_first W_lost) H → va_D A (wd_Wo_findAll aW aF aW_bytes aW_lost aW_factors cI cZ W_lostCount W_data W_repairs W_first W_lost) → va_S A s.heap H locs → W p l e rm_Wo_findAll s m args below meth c H locs 0 0 Q (F0 m pc ls []) := by
    intro W_lostCount W_lost H locs ls pc hd hp h1 h2 h3
    rw [hQ]
    rw [hAe] at h2 h3
    exact mt_retv (W_lostCount, W_lost) hx hb hr hlk hd hK h1 h2 h3 hp
  have B2 : ∀ (K2 : Int32 → (Nat → Int32) → Int32 → Prop) (HK2 : ∀ (W_lostCount : Int32) (W_lost : Nat → Int32) (x1 : Int32) (H : Heap) (locs : List Loc) (ls : Array Slot), K2 W_lostCount W_lost x1 → va_P (dC, dI) vwCl (wd_Wo_findAll aW aF aW_bytes aW_lost aW_factors cI cZ W_lostCount W_data W_repairs W_first W_lost) H → va_D A (wd_Wo_findAll aW aF aW_bytes aW_lost aW_factors cI cZ W_lostCount W_data W_repairs W_first W_lost) → va_S A s.heap H locs → lv_has ls 2 [(0, .ref aW), (1, .int x1)] → W p l e rm_Wo_findAll s m args below meth c H locs 0 0 Q (F0 m 2 ls [])), ∀ (W_lostCount : Int32) (W_lost : Nat → Int32) (x1 : Int32) (H : Heap) (locs : List Loc) (ls : Array Slot), wp_Wo_findAll_b2 post K2 W_lostCount W_lost x1 → va_P (dC, dI) vwCl (wd_Wo_findAll aW aF aW_bytes aW_lost aW_factors cI cZ W_lostCount W_data W_repairs W_first W_lost) H → va_D A (wd_Wo_findAll aW aF aW_bytes aW_lost aW_factors cI cZ W_lostCount W_data W_repairs W_first W_lost) → va_S A s.heap H locs → lv_has ls 2 [(0, .ref aW), (1, .int x1)] → W p l e rm_Wo_findAll s m args below meth c H locs 0 0 Q (F0 m 2 ls []) := by
    intro K2 HK2 W_lostCount W_lost x1 H locs ls h hP hD hS hl
    refine lv_iload_n hx hb d_Wo_findAll_2 rfl (lv_at hl 1 rfl) ?_
    refine lv_sipush (v := (240 : Int32)) hx hb d_Wo_findAll_3 (by decide) ?_
    refine lv_icmp_ge (tgt := 22) hx hb d_Wo_findAll_6 (by decide) (fun g6 => ?_) (fun g6 => ?_)
    · have h := h.1 g6
      refine lv_aload_n hx hb d_Wo_findAll_22 rfl (lv_at hl 0 rfl) ?_
      refine lv_iconst (v := (0 : Int32)) hx hb d_Wo_findAll_23 (by decide) ?_
      refine va_put (D := (dC, dI)) (ci := 5) (v := .int (0 : Int32)) (ty := .int) (C := "ReedSets$Word") (T := T_Wo) (N := 8) hx hb hts in_Wo ty_Wo tk_Wo nm_Wo hown hK hP hD hS 0 rfl rfl 4 (by decide) (hts _ tb_113) (fun _ h9 => h9) rfl (by decide +kernel) rfl rfl (Nat.le_of_ble_eq_true rfl) d_Wo_findAll_24 (fun H locs hP hD hS => ?_)
      have hP : va_P (dC, dI) vwCl (wd_Wo_findAll aW aF aW_bytes aW_lost aW_factors cI cZ (0 : Int32) W_data W_repairs W_first W_lost) H := hP
      have hD : va_D A (wd_Wo_findAll aW aF aW_bytes aW_lost aW_factors cI cZ (0 : Int32) W_data W_repairs W_first W_lost) := hD
      exact RET (0 : Int32) W_lost H locs ls 27 d_Wo_findAll_27 h hP hD hS
    · have h := h.2 g6
      refine lv_aload_n hx hb d_Wo_findAll_9 rfl (lv_at hl 0 rfl) ?_
      refine va_get (D := (dC, dI)) (ci := 5) (v := .ref aW_lost) (C := "ReedSets$Word") (T := T_Wo) (N := 8) hx hb hts in_Wo hown hK hP 0 rfl rfl 2 (by decide) (hts _ tb_107) (fun _ h9 => h9) rfl d_Wo_findAll_10 ?_
      refine lv_iload_n hx hb d_Wo_findAll_13 rfl (lv_at hl 1 rfl) ?_
      refine lv_iconst (v := (0 : Int32)) hx hb d_Wo_findAll_14 (by decide) ?_
      obtain ⟨hi, h⟩ := h
      refine va_zast hx hb hK hP hD hS 1 1 rfl rfl hi d_Wo_findAll_15 (fun H locs hP hD hS => ?_)
      have hP : va_P (dC, dI) vwCl (wd_Wo_findAll aW aF aW_bytes aW_lost aW_factors cI cZ W_lostCount W_data W_repairs W_first (upd W_lost x1.toNatClampNeg (0 : Int32))) H := hP
      have hD : va_D A (wd_Wo_findAll aW aF aW_bytes aW_lost aW_factors cI cZ W_lostCount W_data W_repairs W_first (upd W_lost x1.toNatClampNeg (0 : Int32))) := hD
      obtain ⟨x1_16, ex1_16⟩ : ∃ y : Int32, y = (x1 + (1 : Int32)) := ⟨_, rfl⟩
      have h := h x1_16 ex1_16
      refine lv_iinc (v := x1_16) (lv' := [(1, .int x1_16), (0, .ref aW)]) hx hb d_Wo_findAll_16 hl (k := 1) rfl (by rw [ex1_16]; rfl) (by decide) rfl (fun ls hl => ?_)
      refine lv_goto (tgt := 2) hx hb d_Wo_findAll_19 (by decide) ?_
      exact HK2 W_lostCount (upd W_lost x1.toNatClampNeg (0 : Int32)) x1_16 H locs ls h hP hD hS (lv_sub hl [1, 0] rfl)
  have L2 : ∀  (n : Nat), ∀ (W_lostCount : Int32) (W_lost : Nat → Int32) (x1 : Int32) (H : Heap) (locs : List Loc) (ls : Array Slot), wp_Wo_findAll_L2 post  n W_lostCount W_lost x1 → va_P (dC, dI) vwCl (wd_Wo_findAll aW aF aW_bytes aW_lost aW_factors cI cZ W_lostCount W_data W_repairs W_first W_lost) H → va_D A (wd_Wo_findAll aW aF aW_bytes aW_lost aW_factors cI cZ W_lostCount W_data W_repairs W_first W_lost) → va_S A s.heap H locs → lv_has ls 2 [(0, .ref aW), (1, .int x1)] → W p l e rm_Wo_findAll s m args below meth c H locs 0 0 Q (F0 m 2 ls []) := by
    intro  n
    induction n with
    | zero => intro W_lostCount W_lost x1 H locs ls h hP hD hS hl; exact False.elim h
    | succ n ih => intro W_lostCount W_lost x1 H locs ls h hP hD hS hl; exact B2  (wp_Wo_findAll_L2 post  n) ih W_lostCount W_lost x1 H locs ls h hP hD hS hl
  obtain ⟨H, hH⟩ : ∃ H : Heap, H = s.heap := ⟨_, rfl⟩
  obtain ⟨locs, hlo⟩ : ∃ x : List Loc, x = [] := ⟨_, rfl⟩
  have hS : va_S A s.heap H locs := by rw [hH, hlo]; exact hS
  rw [← hH] at hP
  rw [← hlo]
  show W p l e rm_Wo_findAll s m args below meth c s.heap locs 0 0 Q (F0 m 0 ls [])
  rw [← hH]
  refine lv_iconst (v := (0 : Int32)) hx hb d_Wo_findAll_0 (by decide) ?_
  refine lv_istore_n (lv' := [(1, .int (0 : Int32)), (0, .ref aW)]) hx hb d_Wo_findAll_1 rfl hl (by decide) rfl (fun ls hl => ?_)
  obtain ⟨n, h⟩ := h
  exact L2  n W_lostCount W_lost (0 : Int32) H locs ls h hP hD hS (lv_sub hl [1, 0] rfl)
abbrev wd_Fi_powerOfTwo (aF aF_powers aF_logs : Nat) (cI cZ : ClassId) (F_powers : Nat → Int32) : va_W := [(aF, .inr (1, [.ref aF_powers, .ref aF_logs])), (aF_powers, .inl (cI, 512, .inl F_powers))]
def wp_Fi_powerOfTwo_b23 (F_powers : Nat → Int32) (post : Int32 → Prop)  (t0 : Int32) : Prop := vp_in t0 512 ∧ (post (F_powers t0.toNatClampNeg))
def wp_Fi_powerOfTwo (F_powers : Nat → Int32) (p1 : Int32) (post : Int32 → Prop) : Prop := ∀ x2_5 : Int32, x2_5 = (p1 - p1 / (255 : Int32) * (255 : Int32)) → ((0 ≤ x2_5 → (wp_Fi_powerOfTwo_b23 F_powers post  x2_5)) ∧ (¬ 0 ≤ x2_5 → (wp_Fi_powerOfTwo_b23 F_powers post  (x2_5 + (255 : Int32)))))
abbrev rm_Fi_powerOfTwo : Room := { frames := 0, cells := 0, slots := 0, locals := 0 }
set_option maxHeartbeats 4000000 in
set_option maxRecDepth 100000 in
theorem ct_Fi_powerOfTwo (l : Launch) (dC : Nat → ClassId) (dI : Nat → Nat → Nat) (aF aF_powers aF_logs : Nat) (cI cZ : ClassId) (F_powers : Nat → Int32) (p1 : Int32) (post : Int32 → Prop) (h : wp_Fi_powerOfTwo F_powers p1 post) (sz : Nat) : Met l y_Fi_powerOfTwo (Cond.code y_Fi_powerOfTwo c_Fi_powerOfTwo 3 (some .int) :: tb) rm_Fi_powerOfTwo (mt_P (dC, dI) vwCl [(cI, .int), (cZ, .boolean)] [.ref aF, .int p1] (wd_Fi_powerOfTwo aF aF_powers aF_logs cI cZ F_powers) sz) (va_Qi (fun (r : Int32) (u : Unit) => post r) (mt_B (dC, dI) vwCl [(cI, .int), (cZ, .boolean)] (wd_Fi_powerOfTwo aF aF_powers aF_logs cI cZ F_powers) sz (fun u : Unit => wd_Fi_powerOfTwo aF aF_powers aF_logs cI cZ F_powers)) (va_A (wd_Fi_powerOfTwo aF aF_powers aF_logs cI cZ F_powers) sz)) 0 0 (va_A (wd_Fi_powerOfTwo aF aF_powers aF_logs cI cZ F_powers) sz) := by
  refine mt_bd (by decide +kernel) (Nat.le_of_ble_eq_true rfl) ?_
  intro p e s m args below meth c hx hb hml hown hts hr hlk hnm hsz hP hK hD hA hS ls hl
  subst hsz
  have hown : s.vm.findClass "ReedSets$Field" = some m.cls := hown
  have hl : lv_has ls 3 [(0, .ref aF), (1, .int p1)] := hl
  refine lz_Q (fun Q hQ => ?_)
  obtain ⟨A, hAe⟩ : ∃ A : Nat → Prop, A = va_A (wd_Fi_powerOfTwo aF aF_powers aF_logs cI cZ F_powers) s.heap.size := ⟨_, rfl⟩
  rw [← hAe] at hD hA hS
  have RET : ∀ (v : Int32)  (H : Heap) (locs : List Loc) (ls : Array Slot) (pc : Nat), decode c_Fi_powerOfTwo pc = .ok (.ireturn, 1) → post v  → va_P (dC, dI) vwCl (wd_Fi_powerOfTwo aF aF_powers aF_logs cI cZ F_powers) H → va_D A (wd_Fi_powerOfTwo aF aF_powers aF_logs cI cZ F_powers) → va_S A s.heap H locs → W p l e rm_Fi_powerOfTwo s m args below meth c H locs 0 0 Q (F0 m pc ls [.int v]) := by
    intro v  H locs ls pc hd hp h1 h2 h3
    rw [hQ]
    rw [hAe] at h2 h3
    exact mt_reti () hx hb hr hlk hd hK h1 h2 h3 hp
  have B23 : ∀ (t0 : Int32) (H : Heap) (locs : List Loc) (ls : Array Slot), wp_Fi_powerOfTwo_b23 F_powers post  t0 → va_P (dC, dI) vwCl (wd_Fi_powerOfTwo aF aF_powers aF_logs cI cZ F_powers) H → va_D A (wd_Fi_powerOfTwo aF aF_powers aF_logs cI cZ F_powers) → va_S A s.heap H locs → lv_has ls 3 [] → W p l e rm_Fi_powerOfTwo s m args below meth c H locs 0 0 Q (F0 m 23 ls [.int t0, .ref aF_powers]) := by
    intro  t0 H locs ls h hP hD hS hl
    obtain ⟨hi, h⟩ := h
    refine va_iald hx hb hK hP 1 0 rfl rfl hi d_Fi_powerOfTwo_23 ?_
    exact RET (F_powers t0.toNatClampNeg) H locs ls 24 d_Fi_powerOfTwo_24 h hP hD hS
  obtain ⟨H, hH⟩ : ∃ H : Heap, H = s.heap := ⟨_, rfl⟩
  obtain ⟨locs, hlo⟩ : ∃ x : List Loc, x = [] := ⟨_, rfl⟩
  have hS : va_S A s.heap H locs := by rw [hH, hlo]; exact hS
  rw [← hH] at hP
  rw [← hlo]
  show W p l e rm_Fi_powerOfTwo s m args below meth c s.heap locs 0 0 Q (F0 m 0 ls [])
  rw [← hH]
  refine lv_iload_n hx hb d_Fi_powerOfTwo_0 rfl (lv_at hl 1 rfl) ?_
  refine lv_sipush (v := (255 : Int32)) hx hb d_Fi_powerOfTwo_1 (by decide) ?_
  refine lv_irem hx hb d_Fi_powerOfTwo_4 (by decide) ?_
  refine lv_topi (fun x2_5 ex2_5 => ?_)
  have h := h x2_5 ex2_5
  refine lv_istore_n (lv' := [(2, .int x2_5), (0, .ref aF), (1, .int p1)]) hx hb d_Fi_powerOfTwo_5 rfl hl (by decide) rfl (fun ls hl => ?_)
  refine lv_aload_n hx hb d_Fi_powerOfTwo_6 rfl (lv_at hl 1 rfl) ?_
  refine va_get (D := (dC, dI)) (ci := 1) (v := .ref aF_powers) (C := "ReedSets$Field") (T := T_Fi) (N := 2) hx hb hts in_Fi hown hK hP 0 rfl rfl 0 (by decide) (hts _ tb_65) (fun _ h9 => h9) rfl d_Fi_powerOfTwo_7 ?_
  refine lv_iload_n hx hb d_Fi_powerOfTwo_10 rfl (lv_at hl 0 rfl) ?_
  refine lv_if_ge (tgt := 22) hx hb d_Fi_powerOfTwo_11 (by decide) (fun g11 => ?_) (fun g11 => ?_)
  · have h := h.1 g11
    refine lv_iload_n hx hb d_Fi_powerOfTwo_22 rfl (lv_at hl 0 rfl) ?_
    exact B23  x2_5 H locs ls h hP hD hS (lv_sub hl [] rfl)
  · have h := h.2 g11
    refine lv_iload_n hx hb d_Fi_powerOfTwo_14 rfl (lv_at hl 0 rfl) ?_
    refine lv_sipush (v := (255 : Int32)) hx hb d_Fi_powerOfTwo_15 (by decide) ?_
    refine lv_iadd hx hb d_Fi_powerOfTwo_18 ?_
    refine lv_goto (tgt := 23) hx hb d_Fi_powerOfTwo_19 (by decide) ?_
    exact B23  (x2_5 + (255 : Int32)) H locs ls h hP hD hS (lv_sub hl [] rfl)
abbrev wd_Fi_product (aF aF_powers aF_logs : Nat) (cI cZ : ClassId) (F_powers : Nat → Int32) (F_logs : Nat → Int32) : va_W := [(aF, .inr (1, [.ref aF_powers, .ref aF_logs])), (aF_powers, .inl (cI, 512, .inl F_powers)), (aF_logs, .inl (cI, 256, .inl F_logs))]
def wp_Fi_product_b8 (F_powers : Nat → Int32) (F_logs : Nat → Int32) (post : Int32 → Prop)   : Prop := post (0 : Int32)
def wp_Fi_product (F_powers : Nat → Int32) (F_logs : Nat → Int32) (p1 : Int32) (p2 : Int32) (post : Int32 → Prop) : Prop := (p1 = 0 → (wp_Fi_product_b8 F_powers F_logs post  )) ∧ (¬ p1 = 0 → ((¬ p2 = 0 → (vp_in (p1 &&& (255 : Int32)) 256 ∧ (vp_in (p2 &&& (255 : Int32)) 256 ∧ (vp_in (((F_logs (p1 &&& (255 : Int32)).toNatClampNeg) + (F_logs (p2 &&& (255 : Int32)).toNatClampNeg)) &&& (511 : Int32)) 512 ∧ (post (F_powers (((F_logs (p1 &&& (255 : Int32)).toNatClampNeg) + (F_logs (p2 &&& (255 : Int32)).toNatClampNeg)) &&& (511 : Int32)).toNatClampNeg)))))) ∧ (p2 = 0 → (wp_Fi_product_b8 F_powers F_logs post  ))))
abbrev rm_Fi_product : Room := { frames := 0, cells := 0, slots := 0, locals := 0 }
set_option maxHeartbeats 4000000 in
set_option maxRecDepth 100000 in
theorem ct_Fi_product (l : Launch) (dC : Nat → ClassId) (dI : Nat → Nat → Nat) (aF aF_powers aF_logs : Nat) (cI cZ : ClassId) (F_powers : Nat → Int32) (F_logs : Nat → Int32) (p1 : Int32) (p2 : Int32) (post : Int32 → Prop) (h : wp_Fi_product F_powers F_logs p1 p2 post) (sz : Nat) : Met l y_Fi_product (Cond.code y_Fi_product c_Fi_product 3 (some .int) :: tb) rm_Fi_product (mt_P (dC, dI) vwCl [(cI, .int), (cZ, .boolean)] [.ref aF, .int p1, .int p2] (wd_Fi_product aF aF_powers aF_logs cI cZ F_powers F_logs) sz) (va_Qi (fun (r : Int32) (u : Unit) => post r) (mt_B (dC, dI) vwCl [(cI, .int), (cZ, .boolean)] (wd_Fi_product aF aF_powers aF_logs cI cZ F_powers F_logs) sz (fun u : Unit => wd_Fi_product aF aF_powers aF_logs cI cZ F_powers F_logs)) (va_A (wd_Fi_product aF aF_powers aF_logs cI cZ F_powers F_logs) sz)) 0 0 (va_A (wd_Fi_product aF aF_powers aF_logs cI cZ F_powers F_logs) sz) := by
  refine mt_bd (by decide +kernel) (Nat.le_of_ble_eq_true rfl) ?_
  intro p e s m args below meth c hx hb hml hown hts hr hlk hnm hsz hP hK hD hA hS ls hl
  subst hsz
  have hown : s.vm.findClass "ReedSets$Field" = some m.cls := hown
  have hl : lv_has ls 3 [(0, .ref aF), (1, .int p1), (2, .int p2)] := hl
  refine lz_Q (fun Q hQ => ?_)
  obtain ⟨A, hAe⟩ : ∃ A : Nat → Prop, A = va_A (wd_Fi_product aF aF_powers aF_logs cI cZ F_powers F_logs) s.heap.size := ⟨_, rfl⟩
  rw [← hAe] at hD hA hS
  have RET : ∀ (v : Int32)  (H : Heap) (locs : List Loc) (ls : Array Slot) (pc : Nat), decode c_Fi_product pc = .ok (.ireturn, 1) → post v  → va_P (dC, dI) vwCl (wd_Fi_product aF aF_powers aF_logs cI cZ F_powers F_logs) H → va_D A (wd_Fi_product aF aF_powers aF_logs cI cZ F_powers F_logs) → va_S A s.heap H locs → W p l e rm_Fi_product s m args below meth c H locs 0 0 Q (F0 m pc ls [.int v]) := by
    intro v  H locs ls pc hd hp h1 h2 h3
    rw [hQ]
    rw [hAe] at h2 h3
    exact mt_reti () hx hb hr hlk hd hK h1 h2 h3 hp
  have B8 : ∀  (H : Heap) (locs : List Loc) (ls : Array Slot), wp_Fi_product_b8 F_powers F_logs post   → va_P (dC, dI) vwCl (wd_Fi_product aF aF_powers aF_logs cI cZ F_powers F_logs) H → va_D A (wd_Fi_product aF aF_powers aF_logs cI cZ F_powers F_logs) → va_S A s.heap H locs → lv_has ls 3 [] → W p l e rm_Fi_product s m args below meth c H locs 0 0 Q (F0 m 8 ls []) := by
    intro   H locs ls h hP hD hS hl
    refine lv_iconst (v := (0 : Int32)) hx hb d_Fi_product_8 (by decide) ?_
    exact RET (0 : Int32) H locs ls 9 d_Fi_product_9 h hP hD hS
  obtain ⟨H, hH⟩ : ∃ H : Heap, H = s.heap := ⟨_, rfl⟩
  obtain ⟨locs, hlo⟩ : ∃ x : List Loc, x = [] := ⟨_, rfl⟩
  have hS : va_S A s.heap H locs := by rw [hH, hlo]; exact hS
  rw [← hH] at hP
  rw [← hlo]
  show W p l e rm_Fi_product s m args below meth c s.heap locs 0 0 Q (F0 m 0 ls [])
  rw [← hH]
  refine lv_iload_n hx hb d_Fi_product_0 rfl (lv_at hl 1 rfl) ?_
  refine lv_if_eq (tgt := 8) hx hb d_Fi_product_1 (by decide) (fun g1 => ?_) (fun g1 => ?_)
  · have h := h.1 g1
    exact B8   H locs ls h hP hD hS (lv_sub hl [] rfl)
  · have h := h.2 g1
    refine lv_iload_n hx hb d_Fi_product_4 rfl (lv_at hl 2 rfl) ?_
    refine lv_if_ne (tgt := 10) hx hb d_Fi_product_5 (by decide) (fun g5 => ?_) (fun g5 => ?_)
    · have h := h.1 g5
      refine lv_aload_n hx hb d_Fi_product_10 rfl (lv_at hl 0 rfl) ?_
      refine va_get (D := (dC, dI)) (ci := 1) (v := .ref aF_powers) (C := "ReedSets$Field") (T := T_Fi) (N := 2) hx hb hts in_Fi hown hK hP 0 rfl rfl 0 (by decide) (hts _ tb_65) (fun _ h9 => h9) rfl d_Fi_product_11 ?_
      refine lv_aload_n hx hb d_Fi_product_14 rfl (lv_at hl 0 rfl) ?_
      refine va_get (D := (dC, dI)) (ci := 1) (v := .ref aF_logs) (C := "ReedSets$Field") (T := T_Fi) (N := 2) hx hb hts in_Fi hown hK hP 0 rfl rfl 1 (by decide) (hts _ tb_66) (fun _ h9 => h9) rfl d_Fi_product_15 ?_
      refine lv_iload_n hx hb d_Fi_product_18 rfl (lv_at hl 1 rfl) ?_
      refine lv_sipush (v := (255 : Int32)) hx hb d_Fi_product_19 (by decide) ?_
      refine lv_iand hx hb d_Fi_product_22 ?_
      obtain ⟨hi, h⟩ := h
      refine va_iald hx hb hK hP 2 0 rfl rfl hi d_Fi_product_23 ?_
      refine lv_aload_n hx hb d_Fi_product_24 rfl (lv_at hl 0 rfl) ?_
      refine va_get (D := (dC, dI)) (ci := 1) (v := .ref aF_logs) (C := "ReedSets$Field") (T := T_Fi) (N := 2) hx hb hts in_Fi hown hK hP 0 rfl rfl 1 (by decide) (hts _ tb_66) (fun _ h9 => h9) rfl d_Fi_product_25 ?_
      refine lv_iload_n hx hb d_Fi_product_28 rfl (lv_at hl 2 rfl) ?_
      refine lv_sipush (v := (255 : Int32)) hx hb d_Fi_product_29 (by decide) ?_
      refine lv_iand hx hb d_Fi_product_32 ?_
      obtain ⟨hi, h⟩ := h
      refine va_iald hx hb hK hP 2 0 rfl rfl hi d_Fi_product_33 ?_
      refine lv_iadd hx hb d_Fi_product_34 ?_
      refine lv_sipush (v := (511 : Int32)) hx hb d_Fi_product_35 (by decide) ?_
      refine lv_iand hx hb d_Fi_product_38 ?_
      obtain ⟨hi, h⟩ := h
      refine va_iald hx hb hK hP 1 0 rfl rfl hi d_Fi_product_39 ?_
      exact RET (F_powers (((F_logs (p1 &&& (255 : Int32)).toNatClampNeg) + (F_logs (p2 &&& (255 : Int32)).toNatClampNeg)) &&& (511 : Int32)).toNatClampNeg) H locs ls 40 d_Fi_product_40 h hP hD hS
    · have h := h.2 g5
      exact B8   H locs ls h hP hD hS (lv_sub hl [] rfl)
abbrev wd_Wo_multiplyFactors (aF aF_powers aF_logs aW aW_bytes aW_lost aW_factors : Nat) (cI cZ : ClassId) (F_powers : Nat → Int32) (F_logs : Nat → Int32) (W_lostCount : Int32) (W_data : Int32) (W_repairs : Int32) (W_first : Int32) (W_factors : Nat → Int32) : va_W := [(aF, .inr (1, [.ref aF_powers, .ref aF_logs])), (aF_powers, .inl (cI, 512, .inl F_powers)), (aF_logs, .inl (cI, 256, .inl F_logs)), (aW, .inr (5, [.ref aF, .ref aW_bytes, .ref aW_lost, .ref aW_factors, .int W_lostCount, .int W_data, .int W_repairs, .int W_first])), (aW_factors, .inl (cI, 41, .inl W_factors))]
def wp_Wo_multiplyFactors_b43 (F_powers : Nat → Int32) (F_logs : Nat → Int32) (W_repairs : Int32) (W_first : Int32) (post : (Nat → Int32) → Prop) (K17 : (Nat → Int32) → Int32 → Prop) (K43 : (Nat → Int32) → Int32 → Int32 → Int32 → Prop) (W_factors : Nat → Int32) (x1 : Int32) (x2 : Int32) (x3 : Int32) : Prop := (x3 < (1 : Int32) → (vp_in (0 : Int32) 41 ∧ (wp_Fi_product F_powers F_logs (W_factors (0 : Int32).toNatClampNeg) x2 (fun r_99 => (vp_in (0 : Int32) 41 ∧ (∀ x1_103 : Int32, x1_103 = (x1 + (1 : Int32)) → (K17 (upd W_factors (0 : Int32).toNatClampNeg r_99) x1_103))))))) ∧ (¬ x3 < (1 : Int32) → (vp_in (x3 - (1 : Int32)) 41 ∧ (vp_in x3 41 ∧ (wp_Fi_product F_powers F_logs (W_factors x3.toNatClampNeg) x2 (fun r_72 => (vp_in x3 41 ∧ (∀ x3_77 : Int32, x3_77 = (x3 + (-1 : Int32)) → (K43 (upd W_factors x3.toNatClampNeg ((W_factors (x3 - (1 : Int32)).toNatClampNeg) ^^^ r_72)) x1 x2 x3_77))))))))
def wp_Wo_multiplyFactors_L43 (F_powers : Nat → Int32) (F_logs : Nat → Int32) (W_repairs : Int32) (W_first : Int32) (post : (Nat → Int32) → Prop) (K17 : (Nat → Int32) → Int32 → Prop) : Nat → (Nat → Int32) → Int32 → Int32 → Int32 → Prop
  | 0 => fun _ _ _ _ => False
  | n + 1 => wp_Wo_multiplyFactors_b43 F_powers F_logs W_repairs W_first post K17 (wp_Wo_multiplyFactors_L43 F_powers F_logs W_repairs W_first post K17 n)
def wp_Wo_multiplyFactors_b17 (F_powers : Nat → Int32) (F_logs : Nat → Int32) (W_repairs : Int32) (W_first : Int32) (post : (Nat → Int32) → Prop) (K17 : (Nat → Int32) → Int32 → Prop) (W_factors : Nat → Int32) (x1 : Int32) : Prop := (W_repairs ≤ x1 → (post W_factors)) ∧ (¬ W_repairs ≤ x1 → (wp_Fi_powerOfTwo F_powers (W_first + x1) (fun r_35 => (∀ x3_42 : Int32, x3_42 = (x1 + (1 : Int32)) → (∃ n : Nat, wp_Wo_multiplyFactors_L43 F_powers F_logs W_repairs W_first post K17 n W_factors x1 r_35 x3_42)))))
def wp_Wo_multiplyFactors_L17 (F_powers : Nat → Int32) (F_logs : Nat → Int32) (W_repairs : Int32) (W_first : Int32) (post : (Nat → Int32) → Prop)  : Nat → (Nat → Int32) → Int32 → Prop
  | 0 => fun _ _ => False
  | n + 1 => wp_Wo_multiplyFactors_b17 F_powers F_logs W_repairs W_first post (wp_Wo_multiplyFactors_L17 F_powers F_logs W_repairs W_first post n)
def wp_Wo_multiplyFactors (F_powers : Nat → Int32) (F_logs : Nat → Int32) (W_repairs : Int32) (W_first : Int32) (W_factors : Nat → Int32) (post : (Nat → Int32) → Prop) : Prop := wp_Arr_fill2 41 W_factors (0 : Int32) (fun W_factors_5 => (vp_in (0 : Int32) 41 ∧ (∃ n : Nat, wp_Wo_multiplyFactors_L17 F_powers F_logs W_repairs W_first post  n (upd W_factors_5 (0 : Int32).toNatClampNeg (1 : Int32)) (0 : Int32))))
abbrev rm_Wo_multiplyFactors : Room := { frames := 1, cells := 0, slots := 0, locals := 23 }
set_option maxHeartbeats 4000000 in
set_option maxRecDepth 100000 in
theorem ct_Wo_multiplyFactors (l : Launch) (dC : Nat → ClassId) (dI : Nat → Nat → Nat) (aF aF_powers aF_logs aW aW_bytes aW_lost aW_factors : Nat) (cI cZ : ClassId) (F_powers : Nat → Int32) (F_logs : Nat → Int32) (W_lostCount : Int32) (W_data : Int32) (W_repairs : Int32) (W_first : Int32) (W_factors : Nat → Int32)  (post : (Nat → Int32) → Prop) (h : wp_Wo_multiplyFactors F_powers F_logs W_repairs W_first W_factors post) (sz : Nat) : Met l y_Wo_multiplyFactors (Cond.code y_Wo_multiplyFactors c_Wo_multiplyFactors 4 none :: tb) rm_Wo_multiplyFactors (mt_P (dC, dI) vwCl [(cI, .int), (cZ, .boolean)] [.ref aW] (wd_Wo_multiplyFactors aF aF_powers aF_logs aW aW_bytes aW_lost aW_factors cI cZ F_powers F_logs W_lostCount W_data W_repairs W_first W_factors) sz) (va_Qv (fun (u : (Nat → Int32)) => post u) (mt_B (dC, dI) vwCl [(cI, .int), (cZ, .boolean)] (wd_Wo_multiplyFactors aF aF_powers aF_logs aW aW_bytes aW_lost aW_factors cI cZ F_powers F_logs W_lostCount W_data W_repairs W_first W_factors) sz (fun u : (Nat → Int32) => wd_Wo_multiplyFactors aF aF_powers aF_logs aW aW_bytes aW_lost aW_factors cI cZ F_powers F_logs W_lostCount W_data W_repairs W_first u)) (va_A (wd_Wo_multiplyFactors aF aF_powers aF_logs aW aW_bytes aW_lost aW_factors cI cZ F_powers F_logs W_lostCount W_data W_repairs W_first W_factors) sz)) 0 0 (va_A (wd_Wo_multiplyFactors aF aF_powers aF_logs aW aW_bytes aW_lost aW_factors cI cZ F_powers F_logs W_lostCount W_data W_repairs W_first W_factors) sz) := by
  refine mt_bd (by decide +kernel) (Nat.le_of_ble_eq_true rfl) ?_
  intro p e s m args below meth c hx hb hml hown hts hr hlk hnm hsz hP hK hD hA hS ls hl
  subst hsz
  have hown : s.vm.findClass "ReedSets$Word" = some m.cls := hown
  have hl : lv_has ls 4 [(0, .ref aW)] := hl
  refine lz_Q (fun Q hQ => ?_)
  obtain ⟨A, hAe⟩ : ∃ A : Nat → Prop, A = va_A (wd_Wo_multiplyFactors aF aF_powers aF_logs aW aW_bytes aW_lost aW_factors cI cZ F_powers F_logs W_lostCount W_data W_repairs W_first W_factors) s.heap.size := ⟨_, rfl⟩
  rw [← hAe] at hD hA hS
  have RET : ∀ (W_factors : Nat → Int32) (H : Heap) (locs : List Loc) (ls : Array Slot) (pc : Nat), decode c_Wo_multiplyFactors pc = .ok (.return_, 1) → post W_factors → va_P (dC, dI) vwCl (wd_Wo_multiplyFactors aF aF_powers aF_logs aW aW_bytes aW_lost aW_factors cI cZ F_powers F_logs W_lostCount W_data W_repairs W_first W_factors) H → va_D A (wd_Wo_multiplyFactors aF aF_powers aF_logs aW aW_bytes aW_lost aW_factors cI cZ F_powers F_logs W_lostCount W_data W_repairs W_first W_factors) → va_S A s.heap H locs → W p l e rm_Wo_multiplyFactors s m args below meth c H locs 0 0 Q (F0 m pc ls []) := by
    intro W_factors H locs ls pc hd hp h1 h2 h3
    rw [hQ]
    rw [hAe] at h2 h3
    exact mt_retv (W_factors) hx hb hr hlk hd hK h1 h2 h3 hp
  have B43 : ∀ (K17 : (Nat → Int32) → Int32 → Prop) (HK17 : ∀ (W_factors : Nat → Int32) (x1 : Int32) (H : Heap) (locs : List Loc) (ls : Array Slot), K17 W_factors x1 → va_P (dC, dI) vwCl (wd_Wo_multiplyFactors aF aF_powers aF_logs aW aW_bytes aW_lost aW_factors cI cZ F_powers F_logs W_lostCount W_data W_repairs W_first W_factors) H → va_D A (wd_Wo_multiplyFactors aF aF_powers aF_logs aW aW_bytes aW_lost aW_factors cI cZ F_powers F_logs W_lostCount W_data W_repairs W_first W_factors) → va_S A s.heap H locs → lv_has ls 4 [(0, .ref aW), (1, .int x1)] → W p l e rm_Wo_multiplyFactors s m args below meth c H locs 0 0 Q (F0 m 17 ls [])) (K43 : (Nat → Int32) → Int32 → Int32 → Int32 → Prop) (HK43 : ∀ (W_factors : Nat → Int32) (x1 : Int32) (x2 : Int32) (x3 : Int32) (H : Heap) (locs : List Loc) (ls : Array Slot), K43 W_factors x1 x2 x3 → va_P (dC, dI) vwCl (wd_Wo_multiplyFactors aF aF_powers aF_logs aW aW_bytes aW_lost aW_factors cI cZ F_powers F_logs W_lostCount W_data W_repairs W_first W_factors) H → va_D A (wd_Wo_multiplyFactors aF aF_powers aF_logs aW aW_bytes aW_lost aW_factors cI cZ F_powers F_logs W_lostCount W_data W_repairs W_first W_factors) → va_S A s.heap H locs → lv_has ls 4 [(0, .ref aW), (1, .int x1), (2, .int x2), (3, .int x3)] → W p l e rm_Wo_multiplyFactors s m args below meth c H locs 0 0 Q (F0 m 43 ls [])), ∀ (W_factors : Nat → Int32) (x1 : Int32) (x2 : Int32) (x3 : Int32) (H : Heap) (locs : List Loc) (ls : Array Slot), wp_Wo_multiplyFactors_b43 F_powers F_logs W_repairs W_first post K17 K43 W_factors x1 x2 x3 → va_P (dC, dI) vwCl (wd_Wo_multiplyFactors aF aF_powers aF_logs aW aW_bytes aW_lost aW_factors cI cZ F_powers F_logs W_lostCount W_data W_repairs W_first W_factors) H → va_D A (wd_Wo_multiplyFactors aF aF_powers aF_logs aW aW_bytes aW_lost aW_factors cI cZ F_powers F_logs W_lostCount W_data W_repairs W_first W_factors) → va_S A s.heap H locs → lv_has ls 4 [(0, .ref aW), (1, .int x1), (2, .int x2), (3, .int x3)] → W p l e rm_Wo_multiplyFactors s m args below meth c H locs 0 0 Q (F0 m 43 ls []) := by
    intro K17 HK17 K43 HK43 W_factors x1 x2 x3 H locs ls h hP hD hS hl
    refine lv_iload_n hx hb d_Wo_multiplyFactors_43 rfl (lv_at hl 3 rfl) ?_
    refine lv_iconst (v := (1 : Int32)) hx hb d_Wo_multiplyFactors_44 (by decide) ?_
    refine lv_icmp_lt (tgt := 83) hx hb d_Wo_multiplyFactors_45 (by decide) (fun g45 => ?_) (fun g45 => ?_)
    · have h := h.1 g45
      refine lv_aload_n hx hb d_Wo_multiplyFactors_83 rfl (lv_at hl 0 rfl) ?_
      refine va_get (D := (dC, dI)) (ci := 5) (v := .ref aW_factors) (C := "ReedSets$Word") (T := T_Wo) (N := 8) hx hb hts in_Wo hown hK hP 3 rfl rfl 3 (by decide) (hts _ tb_110) (fun _ h9 => h9) rfl d_Wo_multiplyFactors_84 ?_
      refine lv_iconst (v := (0 : Int32)) hx hb d_Wo_multiplyFactors_87 (by decide) ?_
      refine lv_aload_n hx hb d_Wo_multiplyFactors_88 rfl (lv_at hl 0 rfl) ?_
      refine va_get (D := (dC, dI)) (ci := 5) (v := .ref aF) (C := "ReedSets$Word") (T := T_Wo) (N := 8) hx hb hts in_Wo hown hK hP 3 rfl rfl 0 (by decide) (hts _ tb_102) (fun _ h9 => h9) rfl d_Wo_multiplyFactors_89 ?_
      refine lv_aload_n hx hb d_Wo_multiplyFactors_92 rfl (lv_at hl 0 rfl) ?_
      refine va_get (D := (dC, dI)) (ci := 5) (v := .ref aW_factors) (C := "ReedSets$Word") (T := T_Wo) (N := 8) hx hb hts in_Wo hown hK hP 3 rfl rfl 3 (by decide) (hts _ tb_110) (fun _ h9 => h9) rfl d_Wo_multiplyFactors_93 ?_
      refine lv_iconst (v := (0 : Int32)) hx hb d_Wo_multiplyFactors_96 (by decide) ?_
      obtain ⟨hi, h⟩ := h
      refine va_iald hx hb hK hP 4 0 rfl rfl hi d_Wo_multiplyFactors_97 ?_
      refine lv_iload_n hx hb d_Wo_multiplyFactors_98 rfl (lv_at hl 2 rfl) ?_
      refine mt_i (va_runV (As := [.int (W_factors (0 : Int32).toNatClampNeg), .int x2]) (rest := [.int (0 : Int32), .ref aW_factors]) ⟨hx, hb, hml, hown, hts⟩ (ct_Fi_product l dC dI aF aF_powers aF_logs cI cZ F_powers F_logs (W_factors (0 : Int32).toNatClampNeg) x2 _ h _) (tb_cV hts ok_Fi_product tb_98 rfl rfl ⟨Nat.le_of_ble_eq_true rfl, Nat.le_of_ble_eq_true rfl⟩) (mt_preV hK hP hD [.int (W_factors (0 : Int32).toNatClampNeg), .int x2] [0, 1, 2] rfl (by decide) (ci := 1) (q0 := 0) rfl rfl) rfl rfl hl.1 rfl (lv_room (Nat.le_of_ble_eq_true rfl)) d_Wo_multiplyFactors_99 ⟨Nat.zero_le _, Nat.zero_le _⟩) hP hD hS hA [0, 1, 2] rfl (fun _ => rfl) (fun r_99 u H locs h hP hD hS => ?_)
      have hP : va_P (dC, dI) vwCl (wd_Wo_multiplyFactors aF aF_powers aF_logs aW aW_bytes aW_lost aW_factors cI cZ F_powers F_logs W_lostCount W_data W_repairs W_first W_factors) H := hP
      have hD : va_D A (wd_Wo_multiplyFactors aF aF_powers aF_logs aW aW_bytes aW_lost aW_factors cI cZ F_powers F_logs W_lostCount W_data W_repairs W_first W_factors) := hD
      obtain ⟨hi, h⟩ := h
      refine va_iast hx hb hK hP hD hS 4 0 rfl rfl hi d_Wo_multiplyFactors_102 (fun H locs hP hD hS => ?_)
      have hP : va_P (dC, dI) vwCl (wd_Wo_multiplyFactors aF aF_powers aF_logs aW aW_bytes aW_lost aW_factors cI cZ F_powers F_logs W_lostCount W_data W_repairs W_first (upd W_factors (0 : Int32).toNatClampNeg r_99)) H := hP
      have hD : va_D A (wd_Wo_multiplyFactors aF aF_powers aF_logs aW aW_bytes aW_lost aW_factors cI cZ F_powers F_logs W_lostCount W_data W_repairs W_first (upd W_factors (0 : Int32).toNatClampNeg r_99)) := hD
      obtain ⟨x1_103, ex1_103⟩ : ∃ y : Int32, y = (x1 + (1 : Int32)) := ⟨_, rfl⟩
      have h := h x1_103 ex1_103
      refine lv_iinc (v := x1_103) (lv' := [(1, .int x1_103), (0, .ref aW), (2, .int x2), (3, .int x3)]) hx hb d_Wo_multiplyFactors_103 hl (k := 1) rfl (by rw [ex1_103]; rfl) (by decide) rfl (fun ls hl => ?_)
      refine lv_goto (tgt := 17) hx hb d_Wo_multiplyFactors_106 (by decide) ?_
      exact HK17 (upd W_factors (0 : Int32).toNatClampNeg r_99) x1_103 H locs ls h hP hD hS (lv_sub hl [1, 0] rfl)
    · have h := h.2 g45
      refine lv_aload_n hx hb d_Wo_multiplyFactors_48 rfl (lv_at hl 0 rfl) ?_
      refine va_get (D := (dC, dI)) (ci := 5) (v := .ref aW_factors) (C := "ReedSets$Word") (T := T_Wo) (N := 8) hx hb hts in_Wo hown hK hP 3 rfl rfl 3 (by decide) (hts _ tb_110) (fun _ h9 => h9) rfl d_Wo_multiplyFactors_49 ?_
      refine lv_iload_n hx hb d_Wo_multiplyFactors_52 rfl (lv_at hl 3 rfl) ?_
      refine lv_aload_n hx hb d_Wo_multiplyFactors_53 rfl (lv_at hl 0 rfl) ?_
      refine va_get (D := (dC, dI)) (ci := 5) (v := .ref aW_factors) (C := "ReedSets$Word") (T := T_Wo) (N := 8) hx hb hts in_Wo hown hK hP 3 rfl rfl 3 (by decide) (hts _ tb_110) (fun _ h9 => h9) rfl d_Wo_multiplyFactors_54 ?_
      refine lv_iload_n hx hb d_Wo_multiplyFactors_57 rfl (lv_at hl 3 rfl) ?_
      refine lv_iconst (v := (1 : Int32)) hx hb d_Wo_multiplyFactors_58 (by decide) ?_
      refine lv_isub hx hb d_Wo_multiplyFactors_59 ?_
      obtain ⟨hi, h⟩ := h
      refine va_iald hx hb hK hP 4 0 rfl rfl hi d_Wo_multiplyFactors_60 ?_
      refine lv_aload_n hx hb d_Wo_multiplyFactors_61 rfl (lv_at hl 0 rfl) ?_
      refine va_get (D := (dC, dI)) (ci := 5) (v := .ref aF) (C := "ReedSets$Word") (T := T_Wo) (N := 8) hx hb hts in_Wo hown hK hP 3 rfl rfl 0 (by decide) (hts _ tb_102) (fun _ h9 => h9) rfl d_Wo_multiplyFactors_62 ?_
      refine lv_aload_n hx hb d_Wo_multiplyFactors_65 rfl (lv_at hl 0 rfl) ?_
      refine va_get (D := (dC, dI)) (ci := 5) (v := .ref aW_factors) (C := "ReedSets$Word") (T := T_Wo) (N := 8) hx hb hts in_Wo hown hK hP 3 rfl rfl 3 (by decide) (hts _ tb_110) (fun _ h9 => h9) rfl d_Wo_multiplyFactors_66 ?_
      refine lv_iload_n hx hb d_Wo_multiplyFactors_69 rfl (lv_at hl 3 rfl) ?_
      obtain ⟨hi, h⟩ := h
      refine va_iald hx hb hK hP 4 0 rfl rfl hi d_Wo_multiplyFactors_70 ?_
      refine lv_iload_n hx hb d_Wo_multiplyFactors_71 rfl (lv_at hl 2 rfl) ?_
      refine mt_i (va_runV (As := [.int (W_factors x3.toNatClampNeg), .int x2]) (rest := [.int (W_factors (x3 - (1 : Int32)).toNatClampNeg), .int x3, .ref aW_factors]) ⟨hx, hb, hml, hown, hts⟩ (ct_Fi_product l dC dI aF aF_powers aF_logs cI cZ F_powers F_logs (W_factors x3.toNatClampNeg) x2 _ h _) (tb_cV hts ok_Fi_product tb_98 rfl rfl ⟨Nat.le_of_ble_eq_true rfl, Nat.le_of_ble_eq_true rfl⟩) (mt_preV hK hP hD [.int (W_factors x3.toNatClampNeg), .int x2] [0, 1, 2] rfl (by decide) (ci := 1) (q0 := 0) rfl rfl) rfl rfl hl.1 rfl (lv_room (Nat.le_of_ble_eq_true rfl)) d_Wo_multiplyFactors_72 ⟨Nat.zero_le _, Nat.zero_le _⟩) hP hD hS hA [0, 1, 2] rfl (fun _ => rfl) (fun r_72 u H locs h hP hD hS => ?_)
      have hP : va_P (dC, dI) vwCl (wd_Wo_multiplyFactors aF aF_powers aF_logs aW aW_bytes aW_lost aW_factors cI cZ F_powers F_logs W_lostCount W_data W_repairs W_first W_factors) H := hP
      have hD : va_D A (wd_Wo_multiplyFactors aF aF_powers aF_logs aW aW_bytes aW_lost aW_factors cI cZ F_powers F_logs W_lostCount W_data W_repairs W_first W_factors) := hD
      refine lv_ixor hx hb d_Wo_multiplyFactors_75 ?_
      obtain ⟨hi, h⟩ := h
      refine va_iast hx hb hK hP hD hS 4 0 rfl rfl hi d_Wo_multiplyFactors_76 (fun H locs hP hD hS => ?_)
      have hP : va_P (dC, dI) vwCl (wd_Wo_multiplyFactors aF aF_powers aF_logs aW aW_bytes aW_lost aW_factors cI cZ F_powers F_logs W_lostCount W_data W_repairs W_first (upd W_factors x3.toNatClampNeg ((W_factors (x3 - (1 : Int32)).toNatClampNeg) ^^^ r_72))) H := hP
      have hD : va_D A (wd_Wo_multiplyFactors aF aF_powers aF_logs aW aW_bytes aW_lost aW_factors cI cZ F_powers F_logs W_lostCount W_data W_repairs W_first (upd W_factors x3.toNatClampNeg ((W_factors (x3 - (1 : Int32)).toNatClampNeg) ^^^ r_72))) := hD
      obtain ⟨x3_77, ex3_77⟩ : ∃ y : Int32, y = (x3 + (-1 : Int32)) := ⟨_, rfl⟩
      have h := h x3_77 ex3_77
      refine lv_iinc (v := x3_77) (lv' := [(3, .int x3_77), (0, .ref aW), (1, .int x1), (2, .int x2)]) hx hb d_Wo_multiplyFactors_77 hl (k := 3) rfl (by rw [ex3_77]; rfl) (by decide) rfl (fun ls hl => ?_)
      refine lv_goto (tgt := 43) hx hb d_Wo_multiplyFactors_80 (by decide) ?_
      exact HK43 (upd W_factors x3.toNatClampNeg ((W_factors (x3 - (1 : Int32)).toNatClampNeg) ^^^ r_72)) x1 x2 x3_77 H locs ls h hP hD hS (lv_sub hl [1, 2, 3, 0] rfl)
  have L43 : ∀ (K17 : (Nat → Int32) → Int32 → Prop) (HK17 : ∀ (W_factors : Nat → Int32) (x1 : Int32) (H : Heap) (locs : List Loc) (ls : Array Slot), K17 W_factors x1 → va_P (dC, dI) vwCl (wd_Wo_multiplyFactors aF aF_powers aF_logs aW aW_bytes aW_lost aW_factors cI cZ F_powers F_logs W_lostCount W_data W_repairs W_first W_factors) H → va_D A (wd_Wo_multiplyFactors aF aF_powers aF_logs aW aW_bytes aW_lost aW_factors cI cZ F_powers F_logs W_lostCount W_data W_repairs W_first W_factors) → va_S A s.heap H locs → lv_has ls 4 [(0, .ref aW), (1, .int x1)] → W p l e rm_Wo_multiplyFactors s m args below meth c H locs 0 0 Q (F0 m 17 ls [])) (n : Nat), ∀ (W_factors : Nat → Int32) (x1 : Int32) (x2 : Int32) (x3 : Int32) (H : Heap) (locs : List Loc) (ls : Array Slot), wp_Wo_multiplyFactors_L43 F_powers F_logs W_repairs W_first post K17 n W_factors x1 x2 x3 → va_P (dC, dI) vwCl (wd_Wo_multiplyFactors aF aF_powers aF_logs aW aW_bytes aW_lost aW_factors cI cZ F_powers F_logs W_lostCount W_data W_repairs W_first W_factors) H → va_D A (wd_Wo_multiplyFactors aF aF_powers aF_logs aW aW_bytes aW_lost aW_factors cI cZ F_powers F_logs W_lostCount W_data W_repairs W_first W_factors) → va_S A s.heap H locs → lv_has ls 4 [(0, .ref aW), (1, .int x1), (2, .int x2), (3, .int x3)] → W p l e rm_Wo_multiplyFactors s m args below meth c H locs 0 0 Q (F0 m 43 ls []) := by
    intro K17 HK17 n
    induction n with
    | zero => intro W_factors x1 x2 x3 H locs ls h hP hD hS hl; exact False.elim h
    | succ n ih => intro W_factors x1 x2 x3 H locs ls h hP hD hS hl; exact B43 K17 HK17 (wp_Wo_multiplyFactors_L43 F_powers F_logs W_repairs W_first post K17 n) ih W_factors x1 x2 x3 H locs ls h hP hD hS hl
  have B17 : ∀ (K17 : (Nat → Int32) → Int32 → Prop) (HK17 : ∀ (W_factors : Nat → Int32) (x1 : Int32) (H : Heap) (locs : List Loc) (ls : Array Slot), K17 W_factors x1 → va_P (dC, dI) vwCl (wd_Wo_multiplyFactors aF aF_powers aF_logs aW aW_bytes aW_lost aW_factors cI cZ F_powers F_logs W_lostCount W_data W_repairs W_first W_factors) H → va_D A (wd_Wo_multiplyFactors aF aF_powers aF_logs aW aW_bytes aW_lost aW_factors cI cZ F_powers F_logs W_lostCount W_data W_repairs W_first W_factors) → va_S A s.heap H locs → lv_has ls 4 [(0, .ref aW), (1, .int x1)] → W p l e rm_Wo_multiplyFactors s m args below meth c H locs 0 0 Q (F0 m 17 ls [])), ∀ (W_factors : Nat → Int32) (x1 : Int32) (H : Heap) (locs : List Loc) (ls : Array Slot), wp_Wo_multiplyFactors_b17 F_powers F_logs W_repairs W_first post K17 W_factors x1 → va_P (dC, dI) vwCl (wd_Wo_multiplyFactors aF aF_powers aF_logs aW aW_bytes aW_lost aW_factors cI cZ F_powers F_logs W_lostCount W_data W_repairs W_first W_factors) H → va_D A (wd_Wo_multiplyFactors aF aF_powers aF_logs aW aW_bytes aW_lost aW_factors cI cZ F_powers F_logs W_lostCount W_data W_repairs W_first W_factors) → va_S A s.heap H locs → lv_has ls 4 [(0, .ref aW), (1, .int x1)] → W p l e rm_Wo_multiplyFactors s m args below meth c H locs 0 0 Q (F0 m 17 ls []) := by
    intro K17 HK17 W_factors x1 H locs ls h hP hD hS hl
    refine lv_iload_n hx hb d_Wo_multiplyFactors_17 rfl (lv_at hl 1 rfl) ?_
    refine lv_aload_n hx hb d_Wo_multiplyFactors_18 rfl (lv_at hl 0 rfl) ?_
    refine va_get (D := (dC, dI)) (ci := 5) (v := .int W_repairs) (C := "ReedSets$Word") (T := T_Wo) (N := 8) hx hb hts in_Wo hown hK hP 3 rfl rfl 6 (by decide) (hts _ tb_117) (fun _ h9 => h9) rfl d_Wo_multiplyFactors_19 ?_
    refine lv_icmp_ge (tgt := 109) hx hb d_Wo_multiplyFactors_22 (by decide) (fun g22 => ?_) (fun g22 => ?_)
    · have h := h.1 g22
      exact RET W_factors H locs ls 109 d_Wo_multiplyFactors_109 h hP hD hS
    · have h := h.2 g22
      refine lv_aload_n hx hb d_Wo_multiplyFactors_25 rfl (lv_at hl 0 rfl) ?_
      refine va_get (D := (dC, dI)) (ci := 5) (v := .ref aF) (C := "ReedSets$Word") (T := T_Wo) (N := 8) hx hb hts in_Wo hown hK hP 3 rfl rfl 0 (by decide) (hts _ tb_102) (fun _ h9 => h9) rfl d_Wo_multiplyFactors_26 ?_
      refine lv_aload_n hx hb d_Wo_multiplyFactors_29 rfl (lv_at hl 0 rfl) ?_
      refine va_get (D := (dC, dI)) (ci := 5) (v := .int W_first) (C := "ReedSets$Word") (T := T_Wo) (N := 8) hx hb hts in_Wo hown hK hP 3 rfl rfl 7 (by decide) (hts _ tb_120) (fun _ h9 => h9) rfl d_Wo_multiplyFactors_30 ?_
      refine lv_iload_n hx hb d_Wo_multiplyFactors_33 rfl (lv_at hl 1 rfl) ?_
      refine lv_iadd hx hb d_Wo_multiplyFactors_34 ?_
      refine mt_i (va_runV (As := [.int (W_first + x1)]) (rest := []) ⟨hx, hb, hml, hown, hts⟩ (ct_Fi_powerOfTwo l dC dI aF aF_powers aF_logs cI cZ F_powers (W_first + x1) _ h _) (tb_cV hts ok_Fi_powerOfTwo tb_94 rfl rfl ⟨Nat.le_of_ble_eq_true rfl, Nat.le_of_ble_eq_true rfl⟩) (mt_preV hK hP hD [.int (W_first + x1)] [0, 1] rfl (by decide) (ci := 1) (q0 := 0) rfl rfl) rfl rfl hl.1 rfl (lv_room (Nat.le_of_ble_eq_true rfl)) d_Wo_multiplyFactors_35 ⟨Nat.zero_le _, Nat.zero_le _⟩) hP hD hS hA [0, 1] rfl (fun _ => rfl) (fun r_35 u H locs h hP hD hS => ?_)
      have hP : va_P (dC, dI) vwCl (wd_Wo_multiplyFactors aF aF_powers aF_logs aW aW_bytes aW_lost aW_factors cI cZ F_powers F_logs W_lostCount W_data W_repairs W_first W_factors) H := hP
      have hD : va_D A (wd_Wo_multiplyFactors aF aF_powers aF_logs aW aW_bytes aW_lost aW_factors cI cZ F_powers F_logs W_lostCount W_data W_repairs W_first W_factors) := hD
      refine lv_istore_n (lv' := [(2, .int r_35), (0, .ref aW), (1, .int x1)]) hx hb d_Wo_multiplyFactors_38 rfl hl (by decide) rfl (fun ls hl => ?_)
      refine lv_iload_n hx hb d_Wo_multiplyFactors_39 rfl (lv_at hl 2 rfl) ?_
      refine lv_iconst (v := (1 : Int32)) hx hb d_Wo_multiplyFactors_40 (by decide) ?_
      refine lv_iadd hx hb d_Wo_multiplyFactors_41 ?_
      refine lv_topi (fun x3_42 ex3_42 => ?_)
      have h := h x3_42 ex3_42
      refine lv_istore_n (lv' := [(3, .int x3_42), (2, .int r_35), (0, .ref aW), (1, .int x1)]) hx hb d_Wo_multiplyFactors_42 rfl hl (by decide) rfl (fun ls hl => ?_)
      obtain ⟨n, h⟩ := h
      exact L43 K17 HK17 n W_factors x1 r_35 x3_42 H locs ls h hP hD hS (lv_sub hl [2, 3, 1, 0] rfl)
  have L17 : ∀  (n : Nat), ∀ (W_factors : Nat → Int32) (x1 : Int32) (H : Heap) (locs : List Loc) (ls : Array Slot), wp_Wo_multiplyFactors_L17 F_powers F_logs W_repairs W_first post  n W_factors x1 → va_P (dC, dI) vwCl (wd_Wo_multiplyFactors aF aF_powers aF_logs aW aW_bytes aW_lost aW_factors cI cZ F_powers F_logs W_lostCount W_data W_repairs W_first W_factors) H → va_D A (wd_Wo_multiplyFactors aF aF_powers aF_logs aW aW_bytes aW_lost aW_factors cI cZ F_powers F_logs W_lostCount W_data W_repairs W_first W_factors) → va_S A s.heap H locs → lv_has ls 4 [(0, .ref aW), (1, .int x1)] → W p l e rm_Wo_multiplyFactors s m args below meth c H locs 0 0 Q (F0 m 17 ls []) := by
    intro  n
    induction n with
    | zero => intro W_factors x1 H locs ls h hP hD hS hl; exact False.elim h
    | succ n ih => intro W_factors x1 H locs ls h hP hD hS hl; exact B17  (wp_Wo_multiplyFactors_L17 F_powers F_logs W_repairs W_first post  n) ih W_factors x1 H locs ls h hP hD hS hl
  obtain ⟨H, hH⟩ : ∃ H : Heap, H = s.heap := ⟨_, rfl⟩
  obtain ⟨locs, hlo⟩ : ∃ x : List Loc, x = [] := ⟨_, rfl⟩
  have hS : va_S A s.heap H locs := by rw [hH, hlo]; exact hS
  rw [← hH] at hP
  rw [← hlo]
  show W p l e rm_Wo_multiplyFactors s m args below meth c s.heap locs 0 0 Q (F0 m 0 ls [])
  rw [← hH]
  refine lv_aload_n hx hb d_Wo_multiplyFactors_0 rfl (lv_at hl 0 rfl) ?_
  refine va_get (D := (dC, dI)) (ci := 5) (v := .ref aW_factors) (C := "ReedSets$Word") (T := T_Wo) (N := 8) hx hb hts in_Wo hown hK hP 3 rfl rfl 3 (by decide) (hts _ tb_110) (fun _ h9 => h9) rfl d_Wo_multiplyFactors_1 ?_
  refine lv_iconst (v := (0 : Int32)) hx hb d_Wo_multiplyFactors_4 (by decide) ?_
  refine mt_v (va_runS (As := [.ref aW_factors, .int (0 : Int32)]) (rest := []) ⟨hx, hb, hml, hown, hts⟩ (ct_Arr_fill2 l dC dI aW_factors cI cZ 41 W_factors (0 : Int32) _ h _) (tb_cS hts ok_Arr_fill2 tb_83 rfl rfl ⟨Nat.le_of_ble_eq_true rfl, Nat.le_of_ble_eq_true rfl⟩) (mt_preS hK hP hD [.ref aW_factors, .int (0 : Int32)] [4] rfl (by decide)) rfl rfl hl.1 rfl (lv_room (Nat.le_of_ble_eq_true rfl)) d_Wo_multiplyFactors_5 ⟨Nat.zero_le _, Nat.zero_le _⟩) hP hD hS hA [4] rfl (fun _ => rfl) (fun u H locs h hP hD hS => ?_)
  obtain ⟨W_factors_5, rfl⟩ : ∃ z, z = u := ⟨_, rfl⟩
  have hP : va_P (dC, dI) vwCl (wd_Wo_multiplyFactors aF aF_powers aF_logs aW aW_bytes aW_lost aW_factors cI cZ F_powers F_logs W_lostCount W_data W_repairs W_first W_factors_5) H := hP
  have hD : va_D A (wd_Wo_multiplyFactors aF aF_powers aF_logs aW aW_bytes aW_lost aW_factors cI cZ F_powers F_logs W_lostCount W_data W_repairs W_first W_factors_5) := hD
  refine lv_aload_n hx hb d_Wo_multiplyFactors_8 rfl (lv_at hl 0 rfl) ?_
  refine va_get (D := (dC, dI)) (ci := 5) (v := .ref aW_factors) (C := "ReedSets$Word") (T := T_Wo) (N := 8) hx hb hts in_Wo hown hK hP 3 rfl rfl 3 (by decide) (hts _ tb_110) (fun _ h9 => h9) rfl d_Wo_multiplyFactors_9 ?_
  refine lv_iconst (v := (0 : Int32)) hx hb d_Wo_multiplyFactors_12 (by decide) ?_
  refine lv_iconst (v := (1 : Int32)) hx hb d_Wo_multiplyFactors_13 (by decide) ?_
  obtain ⟨hi, h⟩ := h
  refine va_iast hx hb hK hP hD hS 4 0 rfl rfl hi d_Wo_multiplyFactors_14 (fun H locs hP hD hS => ?_)
  have hP : va_P (dC, dI) vwCl (wd_Wo_multiplyFactors aF aF_powers aF_logs aW aW_bytes aW_lost aW_factors cI cZ F_powers F_logs W_lostCount W_data W_repairs W_first (upd W_factors_5 (0 : Int32).toNatClampNeg (1 : Int32))) H := hP
  have hD : va_D A (wd_Wo_multiplyFactors aF aF_powers aF_logs aW aW_bytes aW_lost aW_factors cI cZ F_powers F_logs W_lostCount W_data W_repairs W_first (upd W_factors_5 (0 : Int32).toNatClampNeg (1 : Int32))) := hD
  refine lv_iconst (v := (0 : Int32)) hx hb d_Wo_multiplyFactors_15 (by decide) ?_
  refine lv_istore_n (lv' := [(1, .int (0 : Int32)), (0, .ref aW)]) hx hb d_Wo_multiplyFactors_16 rfl hl (by decide) rfl (fun ls hl => ?_)
  obtain ⟨n, h⟩ := h
  exact L17  n (upd W_factors_5 (0 : Int32).toNatClampNeg (1 : Int32)) (0 : Int32) H locs ls h hP hD hS (lv_sub hl [1, 0] rfl)
abbrev wd_Wo_shape (aF aF_powers aF_logs aW aW_bytes aW_lost aW_factors : Nat) (cI cZ : ClassId) (F_powers : Nat → Int32) (F_logs : Nat → Int32) (W_lostCount : Int32) (W_data : Int32) (W_repairs : Int32) (W_first : Int32) (W_bytes : Nat → Int32) (W_lost : Nat → Int32) (W_factors : Nat → Int32) : va_W := [(aF, .inr (1, [.ref aF_powers, .ref aF_logs])), (aF_powers, .inl (cI, 512, .inl F_powers)), (aF_logs, .inl (cI, 256, .inl F_logs)), (aW, .inr (5, [.ref aF, .ref aW_bytes, .ref aW_lost, .ref aW_factors, .int W_lostCount, .int W_data, .int W_repairs, .int W_first])), (aW_bytes, .inl (cI, 240, .inl W_bytes)), (aW_lost, .inl (cZ, 240, .inl W_lost)), (aW_factors, .inl (cI, 41, .inl W_factors))]
def wp_Wo_shape (F_powers : Nat → Int32) (F_logs : Nat → Int32) (W_lostCount : Int32) (W_data : Int32) (W_repairs : Int32) (W_first : Int32) (W_bytes : Nat → Int32) (W_lost : Nat → Int32) (W_factors : Nat → Int32) (p1 : Int32) (p2 : Int32) (p3 : Int32) (post : Int32 → Int32 → Int32 → Int32 → (Nat → Int32) → (Nat → Int32) → (Nat → Int32) → Prop) : Prop := wp_Arr_fill2 240 W_bytes (0 : Int32) (fun W_bytes_20 => (wp_Wo_findAll W_lostCount W_lost (fun W_lostCount_24 W_lost_24 => (wp_Wo_multiplyFactors F_powers F_logs p2 p3 W_factors (fun W_factors_28 => (post W_lostCount_24 p1 p2 p3 W_bytes_20 W_lost_24 W_factors_28))))))
abbrev rm_Wo_shape : Room := { frames := 2, cells := 0, slots := 0, locals := 46 }
set_option maxHeartbeats 4000000 in
set_option maxRecDepth 100000 in
theorem ct_Wo_shape (l : Launch) (dC : Nat → ClassId) (dI : Nat → Nat → Nat) (aF aF_powers aF_logs aW aW_bytes aW_lost aW_factors : Nat) (cI cZ : ClassId) (F_powers : Nat → Int32) (F_logs : Nat → Int32) (W_lostCount : Int32) (W_data : Int32) (W_repairs : Int32) (W_first : Int32) (W_bytes : Nat → Int32) (W_lost : Nat → Int32) (W_factors : Nat → Int32) (p1 : Int32) (p2 : Int32) (p3 : Int32) (post : Int32 → Int32 → Int32 → Int32 → (Nat → Int32) → (Nat → Int32) → (Nat → Int32) → Prop) (h : wp_Wo_shape F_powers F_logs W_lostCount W_data W_repairs W_first W_bytes W_lost W_factors p1 p2 p3 post) (sz : Nat) : Met l y_Wo_shape (Cond.code y_Wo_shape c_Wo_shape 4 none :: tb) rm_Wo_shape (mt_P (dC, dI) vwCl [(cI, .int), (cZ, .boolean)] [.ref aW, .int p1, .int p2, .int p3] (wd_Wo_shape aF aF_powers aF_logs aW aW_bytes aW_lost aW_factors cI cZ F_powers F_logs W_lostCount W_data W_repairs W_first W_bytes W_lost W_factors) sz) (va_Qv (fun (u : Int32 × Int32 × Int32 × Int32 × (Nat → Int32) × (Nat → Int32) × (Nat → Int32)) => post u.1 u.2.1 u.2.2.1 u.2.2.2.1 u.2.2.2.2.1 u.2.2.2.2.2.1 u.2.2.2.2.2.2) (mt_B (dC, dI) vwCl [(cI, .int), (cZ, .boolean)] (wd_Wo_shape aF aF_powers aF_logs aW aW_bytes aW_lost aW_factors cI cZ F_powers F_logs W_lostCount W_data W_repairs W_first W_bytes W_lost W_factors) sz (fun u : Int32 × Int32 × Int32 × Int32 × (Nat → Int32) × (Nat → Int32) × (Nat → Int32) => wd_Wo_shape aF aF_powers aF_logs aW aW_bytes aW_lost aW_factors cI cZ F_powers F_logs u.1 u.2.1 u.2.2.1 u.2.2.2.1 u.2.2.2.2.1 u.2.2.2.2.2.1 u.2.2.2.2.2.2)) (va_A (wd_Wo_shape aF aF_powers aF_logs aW aW_bytes aW_lost aW_factors cI cZ F_powers F_logs W_lostCount W_data W_repairs W_first W_bytes W_lost W_factors) sz)) 0 0 (va_A (wd_Wo_shape aF aF_powers aF_logs aW aW_bytes aW_lost aW_factors cI cZ F_powers F_logs W_lostCount W_data W_repairs W_first W_bytes W_lost W_factors) sz) := by
  refine mt_bd (by decide +kernel) (Nat.le_of_ble_eq_true rfl) ?_
  intro p e s m args below meth c hx hb hml hown hts hr hlk hnm hsz hP hK hD hA hS ls hl
  subst hsz
  have hown : s.vm.findClass "ReedSets$Word" = some m.cls := hown
  have hl : lv_has ls 4 [(0, .ref aW), (1, .int p1), (2, .int p2), (3, .int p3)] := hl
  refine lz_Q (fun Q hQ => ?_)
  obtain ⟨A, hAe⟩ : ∃ A : Nat → Prop, A = va_A (wd_Wo_shape aF aF_powers aF_logs aW aW_bytes aW_lost aW_factors cI cZ F_powers F_logs W_lostCount W_data W_repairs W_first W_bytes W_lost W_factors) s.heap.size := ⟨_, rfl⟩
  rw [← hAe] at hD hA hS
  have RET : ∀ (W_lostCount : Int32) (W_data : Int32) (W_repairs : Int32) (W_first : Int32) (W_bytes : Nat → Int32) (W_lost : Nat → Int32) (W_factors : Nat → Int32) (H : Heap) (locs : List Loc) (ls : Array Slot) (pc : Nat), decode c_Wo_shape pc = .ok (.return_, 1) → post W_lostCount W_data W_repairs W_first W_bytes W_lost W_factors → va_P (dC, dI) vwCl (wd_Wo_shape aF aF_powers aF_logs aW aW_bytes aW_lost aW_factors cI cZ F_powers F_logs W_lostCount W_data W_repairs W_first W_bytes W_lost W_factors) H → va_D A (wd_Wo_shape aF aF_powers aF_logs aW aW_bytes aW_lost aW_factors cI cZ F_powers F_logs W_lostCount W_data W_repairs W_first W_bytes W_lost W_factors) → va_S A s.heap H locs → W p l e rm_Wo_shape s m args below meth c H locs 0 0 Q (F0 m pc ls []) := by
    intro W_lostCount W_data W_repairs W_first W_bytes W_lost W_factors H locs ls pc hd hp h1 h2 h3
    rw [hQ]
    rw [hAe] at h2 h3
    exact mt_retv (W_lostCount, W_data, W_repairs, W_first, W_bytes, W_lost, W_factors) hx hb hr hlk hd hK h1 h2 h3 hp
  obtain ⟨H, hH⟩ : ∃ H : Heap, H = s.heap := ⟨_, rfl⟩
  obtain ⟨locs, hlo⟩ : ∃ x : List Loc, x = [] := ⟨_, rfl⟩
  have hS : va_S A s.heap H locs := by rw [hH, hlo]; exact hS
  rw [← hH] at hP
  rw [← hlo]
  show W p l e rm_Wo_shape s m args below meth c s.heap locs 0 0 Q (F0 m 0 ls [])
  rw [← hH]
  refine lv_aload_n hx hb d_Wo_shape_0 rfl (lv_at hl 0 rfl) ?_
  refine lv_iload_n hx hb d_Wo_shape_1 rfl (lv_at hl 1 rfl) ?_
  refine va_put (D := (dC, dI)) (ci := 5) (v := .int p1) (ty := .int) (C := "ReedSets$Word") (T := T_Wo) (N := 8) hx hb hts in_Wo ty_Wo tk_Wo nm_Wo hown hK hP hD hS 3 rfl rfl 5 (by decide) (hts _ tb_115) (fun _ h9 => h9) rfl (by decide +kernel) rfl rfl (Nat.le_of_ble_eq_true rfl) d_Wo_shape_2 (fun H locs hP hD hS => ?_)
  have hP : va_P (dC, dI) vwCl (wd_Wo_shape aF aF_powers aF_logs aW aW_bytes aW_lost aW_factors cI cZ F_powers F_logs W_lostCount p1 W_repairs W_first W_bytes W_lost W_factors) H := hP
  have hD : va_D A (wd_Wo_shape aF aF_powers aF_logs aW aW_bytes aW_lost aW_factors cI cZ F_powers F_logs W_lostCount p1 W_repairs W_first W_bytes W_lost W_factors) := hD
  refine lv_aload_n hx hb d_Wo_shape_5 rfl (lv_at hl 0 rfl) ?_
  refine lv_iload_n hx hb d_Wo_shape_6 rfl (lv_at hl 2 rfl) ?_
  refine va_put (D := (dC, dI)) (ci := 5) (v := .int p2) (ty := .int) (C := "ReedSets$Word") (T := T_Wo) (N := 8) hx hb hts in_Wo ty_Wo tk_Wo nm_Wo hown hK hP hD hS 3 rfl rfl 6 (by decide) (hts _ tb_117) (fun _ h9 => h9) rfl (by decide +kernel) rfl rfl (Nat.le_of_ble_eq_true rfl) d_Wo_shape_7 (fun H locs hP hD hS => ?_)
  have hP : va_P (dC, dI) vwCl (wd_Wo_shape aF aF_powers aF_logs aW aW_bytes aW_lost aW_factors cI cZ F_powers F_logs W_lostCount p1 p2 W_first W_bytes W_lost W_factors) H := hP
  have hD : va_D A (wd_Wo_shape aF aF_powers aF_logs aW aW_bytes aW_lost aW_factors cI cZ F_powers F_logs W_lostCount p1 p2 W_first W_bytes W_lost W_factors) := hD
  refine lv_aload_n hx hb d_Wo_shape_10 rfl (lv_at hl 0 rfl) ?_
  refine lv_iload_n hx hb d_Wo_shape_11 rfl (lv_at hl 3 rfl) ?_
  refine va_put (D := (dC, dI)) (ci := 5) (v := .int p3) (ty := .int) (C := "ReedSets$Word") (T := T_Wo) (N := 8) hx hb hts in_Wo ty_Wo tk_Wo nm_Wo hown hK hP hD hS 3 rfl rfl 7 (by decide) (hts _ tb_120) (fun _ h9 => h9) rfl (by decide +kernel) rfl rfl (Nat.le_of_ble_eq_true rfl) d_Wo_shape_12 (fun H locs hP hD hS => ?_)
  have hP : va_P (dC, dI) vwCl (wd_Wo_shape aF aF_powers aF_logs aW aW_bytes aW_lost aW_factors cI cZ F_powers F_logs W_lostCount p1 p2 p3 W_bytes W_lost W_factors) H := hP
  have hD : va_D A (wd_Wo_shape aF aF_powers aF_logs aW aW_bytes aW_lost aW_factors cI cZ F_powers F_logs W_lostCount p1 p2 p3 W_bytes W_lost W_factors) := hD
  refine lv_aload_n hx hb d_Wo_shape_15 rfl (lv_at hl 0 rfl) ?_
  refine va_get (D := (dC, dI)) (ci := 5) (v := .ref aW_bytes) (C := "ReedSets$Word") (T := T_Wo) (N := 8) hx hb hts in_Wo hown hK hP 3 rfl rfl 1 (by decide) (hts _ tb_103) (fun _ h9 => h9) rfl d_Wo_shape_16 ?_
  refine lv_iconst (v := (0 : Int32)) hx hb d_Wo_shape_19 (by decide) ?_
  refine mt_v (va_runS (As := [.ref aW_bytes, .int (0 : Int32)]) (rest := []) ⟨hx, hb, hml, hown, hts⟩ (ct_Arr_fill2 l dC dI aW_bytes cI cZ 240 W_bytes (0 : Int32) _ h _) (tb_cS hts ok_Arr_fill2 tb_83 rfl rfl ⟨Nat.le_of_ble_eq_true rfl, Nat.le_of_ble_eq_true rfl⟩) (mt_preS hK hP hD [.ref aW_bytes, .int (0 : Int32)] [4] rfl (by decide)) rfl rfl hl.1 rfl (lv_room (Nat.le_of_ble_eq_true rfl)) d_Wo_shape_20 ⟨Nat.zero_le _, Nat.zero_le _⟩) hP hD hS hA [4] rfl (fun _ => rfl) (fun u H locs h hP hD hS => ?_)
  obtain ⟨W_bytes_20, rfl⟩ : ∃ z, z = u := ⟨_, rfl⟩
  have hP : va_P (dC, dI) vwCl (wd_Wo_shape aF aF_powers aF_logs aW aW_bytes aW_lost aW_factors cI cZ F_powers F_logs W_lostCount p1 p2 p3 W_bytes_20 W_lost W_factors) H := hP
  have hD : va_D A (wd_Wo_shape aF aF_powers aF_logs aW aW_bytes aW_lost aW_factors cI cZ F_powers F_logs W_lostCount p1 p2 p3 W_bytes_20 W_lost W_factors) := hD
  refine lv_aload_n hx hb d_Wo_shape_23 rfl (lv_at hl 0 rfl) ?_
  refine mt_v (va_runV (As := []) (rest := []) ⟨hx, hb, hml, hown, hts⟩ (ct_Wo_findAll l dC dI aW aF aW_bytes aW_lost aW_factors cI cZ W_lostCount p1 p2 p3 W_lost _ h _) (tb_cV hts ok_Wo_findAll tb_86 rfl rfl ⟨Nat.le_of_ble_eq_true rfl, Nat.le_of_ble_eq_true rfl⟩) (mt_preV hK hP hD [] [3, 5] rfl (by decide) (ci := 5) (q0 := 3) rfl rfl) rfl rfl hl.1 rfl (lv_room (Nat.le_of_ble_eq_true rfl)) d_Wo_shape_24 ⟨Nat.zero_le _, Nat.zero_le _⟩) hP hD hS hA [3, 5] rfl (fun _ => rfl) (fun u H locs h hP hD hS => ?_)
  obtain ⟨W_lostCount_24, W_lost_24⟩ := u
  have hP : va_P (dC, dI) vwCl (wd_Wo_shape aF aF_powers aF_logs aW aW_bytes aW_lost aW_factors cI cZ F_powers F_logs W_lostCount_24 p1 p2 p3 W_bytes_20 W_lost_24 W_factors) H := hP
  have hD : va_D A (wd_Wo_shape aF aF_powers aF_logs aW aW_bytes aW_lost aW_factors cI cZ F_powers F_logs W_lostCount_24 p1 p2 p3 W_bytes_20 W_lost_24 W_factors) := hD
  refine lv_aload_n hx hb d_Wo_shape_27 rfl (lv_at hl 0 rfl) ?_
  refine mt_v (va_runV (As := []) (rest := []) ⟨hx, hb, hml, hown, hts⟩ (ct_Wo_multiplyFactors l dC dI aF aF_powers aF_logs aW aW_bytes aW_lost aW_factors cI cZ F_powers F_logs W_lostCount_24 p1 p2 p3 W_factors _ h _) (tb_cV hts ok_Wo_multiplyFactors tb_90 rfl rfl ⟨Nat.le_of_ble_eq_true rfl, Nat.le_of_ble_eq_true rfl⟩) (mt_preV hK hP hD [] [0, 1, 2, 3, 6] rfl (by decide) (ci := 5) (q0 := 3) rfl rfl) rfl rfl hl.1 rfl (lv_room (Nat.le_of_ble_eq_true rfl)) d_Wo_shape_28 ⟨Nat.zero_le _, Nat.zero_le _⟩) hP hD hS hA [0, 1, 2, 3, 6] rfl (fun _ => rfl) (fun u H locs h hP hD hS => ?_)
  obtain ⟨W_factors_28, rfl⟩ : ∃ z, z = u := ⟨_, rfl⟩
  have hP : va_P (dC, dI) vwCl (wd_Wo_shape aF aF_powers aF_logs aW aW_bytes aW_lost aW_factors cI cZ F_powers F_logs W_lostCount_24 p1 p2 p3 W_bytes_20 W_lost_24 W_factors_28) H := hP
  have hD : va_D A (wd_Wo_shape aF aF_powers aF_logs aW aW_bytes aW_lost aW_factors cI cZ F_powers F_logs W_lostCount_24 p1 p2 p3 W_bytes_20 W_lost_24 W_factors_28) := hD
  exact RET W_lostCount_24 p1 p2 p3 W_bytes_20 W_lost_24 W_factors_28 H locs ls 31 d_Wo_shape_31 h hP hD hS
abbrev wd_Fi_isByte  (cI cZ : ClassId)  : va_W := []
def wp_Fi_isByte_b16  (post : Int32 → Prop)  (t0 : Int32) : Prop := narrow .boolean (.int t0) = .int t0 ∧ (post t0)
def wp_Fi_isByte_b15  (post : Int32 → Prop)   : Prop := wp_Fi_isByte_b16 post  (0 : Int32)
def wp_Fi_isByte (p0 : Int32) (post : Int32 → Prop) : Prop := (p0 < 0 → (wp_Fi_isByte_b15 post  )) ∧ (¬ p0 < 0 → (((256 : Int32) ≤ p0 → (wp_Fi_isByte_b15 post  )) ∧ (¬ (256 : Int32) ≤ p0 → (wp_Fi_isByte_b16 post  (1 : Int32)))))
abbrev rm_Fi_isByte : Room := { frames := 0, cells := 0, slots := 0, locals := 0 }
set_option maxHeartbeats 4000000 in
set_option maxRecDepth 100000 in
theorem ct_Fi_isByte (l : Launch) (dC : Nat → ClassId) (dI : Nat → Nat → Nat)  (cI cZ : ClassId)  (p0 : Int32) (post : Int32 → Prop) (h : wp_Fi_isByte p0 post) (sz : Nat) : Met l y_Fi_isByte (Cond.code y_Fi_isByte c_Fi_isByte 1 (some .boolean) :: tb) rm_Fi_isByte (mt_P (dC, dI) vwCl [(cI, .int), (cZ, .boolean)] [.int p0] (wd_Fi_isByte cI cZ) sz) (va_Qi (fun (r : Int32) (u : Unit) => post r) (mt_B (dC, dI) vwCl [(cI, .int), (cZ, .boolean)] (wd_Fi_isByte cI cZ) sz (fun u : Unit => wd_Fi_isByte cI cZ)) (va_A (wd_Fi_isByte cI cZ) sz)) 0 0 (va_A (wd_Fi_isByte cI cZ) sz) := by
  refine mt_bd (by decide +kernel) (Nat.le_of_ble_eq_true rfl) ?_
  intro p e s m args below meth c hx hb hml hown hts hr hlk hnm hsz hP hK hD hA hS ls hl
  subst hsz
  have hown : s.vm.findClass "ReedSets$Field" = some m.cls := hown
  have hl : lv_has ls 1 [(0, .int p0)] := hl
  refine lz_Q (fun Q hQ => ?_)
  obtain ⟨A, hAe⟩ : ∃ A : Nat → Prop, A = va_A (wd_Fi_isByte cI cZ) s.heap.size := ⟨_, rfl⟩
  rw [← hAe] at hD hA hS
  have RET : ∀ (v : Int32)  (H : Heap) (locs : List Loc) (ls : Array Slot) (pc : Nat), decode c_Fi_isByte pc = .ok (.ireturn, 1) → narrow .boolean (.int v) = .int v → post v  → va_P (dC, dI) vwCl (wd_Fi_isByte cI cZ) H → va_D A (wd_Fi_isByte cI cZ) → va_S A s.heap H locs → W p l e rm_Fi_isByte s m args below meth c H locs 0 0 Q (F0 m pc ls [.int v]) := by
    intro v  H locs ls pc hd hz hp h1 h2 h3
    rw [hQ]
    rw [hAe] at h2 h3
    exact mt_retz () hx hb hr hlk hd hK h1 h2 h3 hz hp
  have B16 : ∀ (t0 : Int32) (H : Heap) (locs : List Loc) (ls : Array Slot), wp_Fi_isByte_b16 post  t0 → va_P (dC, dI) vwCl (wd_Fi_isByte cI cZ) H → va_D A (wd_Fi_isByte cI cZ) → va_S A s.heap H locs → lv_has ls 1 [] → W p l e rm_Fi_isByte s m args below meth c H locs 0 0 Q (F0 m 16 ls [.int t0]) := by
    intro  t0 H locs ls h hP hD hS hl
    obtain ⟨hz, h⟩ := h
    exact RET t0 H locs ls 16 d_Fi_isByte_16 hz h hP hD hS
  have B15 : ∀  (H : Heap) (locs : List Loc) (ls : Array Slot), wp_Fi_isByte_b15 post   → va_P (dC, dI) vwCl (wd_Fi_isByte cI cZ) H → va_D A (wd_Fi_isByte cI cZ) → va_S A s.heap H locs → lv_has ls 1 [] → W p l e rm_Fi_isByte s m args below meth c H locs 0 0 Q (F0 m 15 ls []) := by
    intro   H locs ls h hP hD hS hl
    refine lv_iconst (v := (0 : Int32)) hx hb d_Fi_isByte_15 (by decide) ?_
    exact B16  (0 : Int32) H locs ls h hP hD hS (lv_sub hl [] rfl)
  obtain ⟨H, hH⟩ : ∃ H : Heap, H = s.heap := ⟨_, rfl⟩
  obtain ⟨locs, hlo⟩ : ∃ x : List Loc, x = [] := ⟨_, rfl⟩
  have hS : va_S A s.heap H locs := by rw [hH, hlo]; exact hS
  rw [← hH] at hP
  rw [← hlo]
  show W p l e rm_Fi_isByte s m args below meth c s.heap locs 0 0 Q (F0 m 0 ls [])
  rw [← hH]
  refine lv_iload_n hx hb d_Fi_isByte_0 rfl (lv_at hl 0 rfl) ?_
  refine lv_if_lt (tgt := 15) hx hb d_Fi_isByte_1 (by decide) (fun g1 => ?_) (fun g1 => ?_)
  · have h := h.1 g1
    exact B15   H locs ls h hP hD hS (lv_sub hl [] rfl)
  · have h := h.2 g1
    refine lv_iload_n hx hb d_Fi_isByte_4 rfl (lv_at hl 0 rfl) ?_
    refine lv_sipush (v := (256 : Int32)) hx hb d_Fi_isByte_5 (by decide) ?_
    refine lv_icmp_ge (tgt := 15) hx hb d_Fi_isByte_8 (by decide) (fun g8 => ?_) (fun g8 => ?_)
    · have h := h.1 g8
      exact B15   H locs ls h hP hD hS (lv_sub hl [] rfl)
    · have h := h.2 g8
      refine lv_iconst (v := (1 : Int32)) hx hb d_Fi_isByte_11 (by decide) ?_
      refine lv_goto (tgt := 16) hx hb d_Fi_isByte_12 (by decide) ?_
      exact B16  (1 : Int32) H locs ls h hP hD hS (lv_sub hl [] rfl)
abbrev wd_Fi_quotient (aF aF_powers aF_logs : Nat) (cI cZ : ClassId) (F_powers : Nat → Int32) (F_logs : Nat → Int32) : va_W := [(aF, .inr (1, [.ref aF_powers, .ref aF_logs])), (aF_powers, .inl (cI, 512, .inl F_powers)), (aF_logs, .inl (cI, 256, .inl F_logs))]
def wp_Fi_quotient_b8 (F_powers : Nat → Int32) (F_logs : Nat → Int32) (post : Int32 → Prop)   : Prop := post (0 : Int32)
def wp_Fi_quotient (F_powers : Nat → Int32) (F_logs : Nat → Int32) (p1 : Int32) (p2 : Int32) (post : Int32 → Prop) : Prop := (p1 = 0 → (wp_Fi_quotient_b8 F_powers F_logs post  )) ∧ (¬ p1 = 0 → ((¬ p2 = 0 → (vp_in (p1 &&& (255 : Int32)) 256 ∧ (vp_in (p2 &&& (255 : Int32)) 256 ∧ (vp_in ((((F_logs (p1 &&& (255 : Int32)).toNatClampNeg) + (255 : Int32)) - (F_logs (p2 &&& (255 : Int32)).toNatClampNeg)) &&& (511 : Int32)) 512 ∧ (post (F_powers ((((F_logs (p1 &&& (255 : Int32)).toNatClampNeg) + (255 : Int32)) - (F_logs (p2 &&& (255 : Int32)).toNatClampNeg)) &&& (511 : Int32)).toNatClampNeg)))))) ∧ (p2 = 0 → (wp_Fi_quotient_b8 F_powers F_logs post  ))))
abbrev rm_Fi_quotient : Room := { frames := 0, cells := 0, slots := 0, locals := 0 }
set_option maxHeartbeats 4000000 in
set_option maxRecDepth 100000 in
theorem ct_Fi_quotient (l : Launch) (dC : Nat → ClassId) (dI : Nat → Nat → Nat) (aF aF_powers aF_logs : Nat) (cI cZ : ClassId) (F_powers : Nat → Int32) (F_logs : Nat → Int32) (p1 : Int32) (p2 : Int32) (post : Int32 → Prop) (h : wp_Fi_quotient F_powers F_logs p1 p2 post) (sz : Nat) : Met l y_Fi_quotient (Cond.code y_Fi_quotient c_Fi_quotient 3 (some .int) :: tb) rm_Fi_quotient (mt_P (dC, dI) vwCl [(cI, .int), (cZ, .boolean)] [.ref aF, .int p1, .int p2] (wd_Fi_quotient aF aF_powers aF_logs cI cZ F_powers F_logs) sz) (va_Qi (fun (r : Int32) (u : Unit) => post r) (mt_B (dC, dI) vwCl [(cI, .int), (cZ, .boolean)] (wd_Fi_quotient aF aF_powers aF_logs cI cZ F_powers F_logs) sz (fun u : Unit => wd_Fi_quotient aF aF_powers aF_logs cI cZ F_powers F_logs)) (va_A (wd_Fi_quotient aF aF_powers aF_logs cI cZ F_powers F_logs) sz)) 0 0 (va_A (wd_Fi_quotient aF aF_powers aF_logs cI cZ F_powers F_logs) sz) := by
  refine mt_bd (by decide +kernel) (Nat.le_of_ble_eq_true rfl) ?_
  intro p e s m args below meth c hx hb hml hown hts hr hlk hnm hsz hP hK hD hA hS ls hl
  subst hsz
  have hown : s.vm.findClass "ReedSets$Field" = some m.cls := hown
  have hl : lv_has ls 3 [(0, .ref aF), (1, .int p1), (2, .int p2)] := hl
  refine lz_Q (fun Q hQ => ?_)
  obtain ⟨A, hAe⟩ : ∃ A : Nat → Prop, A = va_A (wd_Fi_quotient aF aF_powers aF_logs cI cZ F_powers F_logs) s.heap.size := ⟨_, rfl⟩
  rw [← hAe] at hD hA hS
  have RET : ∀ (v : Int32)  (H : Heap) (locs : List Loc) (ls : Array Slot) (pc : Nat), decode c_Fi_quotient pc = .ok (.ireturn, 1) → post v  → va_P (dC, dI) vwCl (wd_Fi_quotient aF aF_powers aF_logs cI cZ F_powers F_logs) H → va_D A (wd_Fi_quotient aF aF_powers aF_logs cI cZ F_powers F_logs) → va_S A s.heap H locs → W p l e rm_Fi_quotient s m args below meth c H locs 0 0 Q (F0 m pc ls [.int v]) := by
    intro v  H locs ls pc hd hp h1 h2 h3
    rw [hQ]
    rw [hAe] at h2 h3
    exact mt_reti () hx hb hr hlk hd hK h1 h2 h3 hp
  have B8 : ∀  (H : Heap) (locs : List Loc) (ls : Array Slot), wp_Fi_quotient_b8 F_powers F_logs post   → va_P (dC, dI) vwCl (wd_Fi_quotient aF aF_powers aF_logs cI cZ F_powers F_logs) H → va_D A (wd_Fi_quotient aF aF_powers aF_logs cI cZ F_powers F_logs) → va_S A s.heap H locs → lv_has ls 3 [] → W p l e rm_Fi_quotient s m args below meth c H locs 0 0 Q (F0 m 8 ls []) := by
    intro   H locs ls h hP hD hS hl
    refine lv_iconst (v := (0 : Int32)) hx hb d_Fi_quotient_8 (by decide) ?_
    exact RET (0 : Int32) H locs ls 9 d_Fi_quotient_9 h hP hD hS
  obtain ⟨H, hH⟩ : ∃ H : Heap, H = s.heap := ⟨_, rfl⟩
  obtain ⟨locs, hlo⟩ : ∃ x : List Loc, x = [] := ⟨_, rfl⟩
  have hS : va_S A s.heap H locs := by rw [hH, hlo]; exact hS
  rw [← hH] at hP
  rw [← hlo]
  show W p l e rm_Fi_quotient s m args below meth c s.heap locs 0 0 Q (F0 m 0 ls [])
  rw [← hH]
  refine lv_iload_n hx hb d_Fi_quotient_0 rfl (lv_at hl 1 rfl) ?_
  refine lv_if_eq (tgt := 8) hx hb d_Fi_quotient_1 (by decide) (fun g1 => ?_) (fun g1 => ?_)
  · have h := h.1 g1
    exact B8   H locs ls h hP hD hS (lv_sub hl [] rfl)
  · have h := h.2 g1
    refine lv_iload_n hx hb d_Fi_quotient_4 rfl (lv_at hl 2 rfl) ?_
    refine lv_if_ne (tgt := 10) hx hb d_Fi_quotient_5 (by decide) (fun g5 => ?_) (fun g5 => ?_)
    · have h := h.1 g5
      refine lv_aload_n hx hb d_Fi_quotient_10 rfl (lv_at hl 0 rfl) ?_
      refine va_get (D := (dC, dI)) (ci := 1) (v := .ref aF_powers) (C := "ReedSets$Field") (T := T_Fi) (N := 2) hx hb hts in_Fi hown hK hP 0 rfl rfl 0 (by decide) (hts _ tb_65) (fun _ h9 => h9) rfl d_Fi_quotient_11 ?_
      refine lv_aload_n hx hb d_Fi_quotient_14 rfl (lv_at hl 0 rfl) ?_
      refine va_get (D := (dC, dI)) (ci := 1) (v := .ref aF_logs) (C := "ReedSets$Field") (T := T_Fi) (N := 2) hx hb hts in_Fi hown hK hP 0 rfl rfl 1 (by decide) (hts _ tb_66) (fun _ h9 => h9) rfl d_Fi_quotient_15 ?_
      refine lv_iload_n hx hb d_Fi_quotient_18 rfl (lv_at hl 1 rfl) ?_
      refine lv_sipush (v := (255 : Int32)) hx hb d_Fi_quotient_19 (by decide) ?_
      refine lv_iand hx hb d_Fi_quotient_22 ?_
      obtain ⟨hi, h⟩ := h
      refine va_iald hx hb hK hP 2 0 rfl rfl hi d_Fi_quotient_23 ?_
      refine lv_sipush (v := (255 : Int32)) hx hb d_Fi_quotient_24 (by decide) ?_
      refine lv_iadd hx hb d_Fi_quotient_27 ?_
      refine lv_aload_n hx hb d_Fi_quotient_28 rfl (lv_at hl 0 rfl) ?_
      refine va_get (D := (dC, dI)) (ci := 1) (v := .ref aF_logs) (C := "ReedSets$Field") (T := T_Fi) (N := 2) hx hb hts in_Fi hown hK hP 0 rfl rfl 1 (by decide) (hts _ tb_66) (fun _ h9 => h9) rfl d_Fi_quotient_29 ?_
      refine lv_iload_n hx hb d_Fi_quotient_32 rfl (lv_at hl 2 rfl) ?_
      refine lv_sipush (v := (255 : Int32)) hx hb d_Fi_quotient_33 (by decide) ?_
      refine lv_iand hx hb d_Fi_quotient_36 ?_
      obtain ⟨hi, h⟩ := h
      refine va_iald hx hb hK hP 2 0 rfl rfl hi d_Fi_quotient_37 ?_
      refine lv_isub hx hb d_Fi_quotient_38 ?_
      refine lv_sipush (v := (511 : Int32)) hx hb d_Fi_quotient_39 (by decide) ?_
      refine lv_iand hx hb d_Fi_quotient_42 ?_
      obtain ⟨hi, h⟩ := h
      refine va_iald hx hb hK hP 1 0 rfl rfl hi d_Fi_quotient_43 ?_
      exact RET (F_powers ((((F_logs (p1 &&& (255 : Int32)).toNatClampNeg) + (255 : Int32)) - (F_logs (p2 &&& (255 : Int32)).toNatClampNeg)) &&& (511 : Int32)).toNatClampNeg) H locs ls 44 d_Fi_quotient_44 h hP hD hS
    · have h := h.2 g5
      exact B8   H locs ls h hP hD hS (lv_sub hl [] rfl)
abbrev wd_Math_floorMod  (cI cZ : ClassId)  : va_W := []
def wp_Math_floorMod_b18  (post : Int32 → Prop)  (x2 : Int32) : Prop := post x2
def wp_Math_floorMod (p0 : Int32) (p1 : Int32) (post : Int32 → Prop) : Prop := ¬ p1 = 0 ∧ (∀ x2_3 : Int32, x2_3 = (p0 - p0 / p1 * p1) → ((0 ≤ (p0 ^^^ p1) → (wp_Math_floorMod_b18 post  x2_3)) ∧ (¬ 0 ≤ (p0 ^^^ p1) → ((x2_3 = 0 → (wp_Math_floorMod_b18 post  x2_3)) ∧ (¬ x2_3 = 0 → (post (x2_3 + p1)))))))
abbrev rm_Math_floorMod : Room := { frames := 0, cells := 0, slots := 0, locals := 0 }
set_option maxHeartbeats 4000000 in
set_option maxRecDepth 100000 in
theorem ct_Math_floorMod (l : Launch) (dC : Nat → ClassId) (dI : Nat → Nat → Nat)  (cI cZ : ClassId)  (p0 : Int32) (p1 : Int32) (post : Int32 → Prop) (h : wp_Math_floorMod p0 p1 post) (sz : Nat) : Met l y_Math_floorMod (Cond.code y_Math_floorMod c_Math_floorMod 3 (some .int) :: tb) rm_Math_floorMod (mt_P (dC, dI) vwCl [(cI, .int), (cZ, .boolean)] [.int p0, .int p1] (wd_Math_floorMod cI cZ) sz) (va_Qi (fun (r : Int32) (u : Unit) => post r) (mt_B (dC, dI) vwCl [(cI, .int), (cZ, .boolean)] (wd_Math_floorMod cI cZ) sz (fun u : Unit => wd_Math_floorMod cI cZ)) (va_A (wd_Math_floorMod cI cZ) sz)) 0 0 (va_A (wd_Math_floorMod cI cZ) sz) := by
  refine mt_bd (by decide +kernel) (Nat.le_of_ble_eq_true rfl) ?_
  intro p e s m args below meth c hx hb hml hown hts hr hlk hnm hsz hP hK hD hA hS ls hl
  subst hsz
  have hown : s.vm.findClass "java/lang/Math" = some m.cls := hown
  have hl : lv_has ls 3 [(0, .int p0), (1, .int p1)] := hl
  refine lz_Q (fun Q hQ => ?_)
  obtain ⟨A, hAe⟩ : ∃ A : Nat → Prop, A = va_A (wd_Math_floorMod cI cZ) s.heap.size := ⟨_, rfl⟩
  rw [← hAe] at hD hA hS
  have RET : ∀ (v : Int32)  (H : Heap) (locs : List Loc) (ls : Array Slot) (pc : Nat), decode c_Math_floorMod pc = .ok (.ireturn, 1) → post v  → va_P (dC, dI) vwCl (wd_Math_floorMod cI cZ) H → va_D A (wd_Math_floorMod cI cZ) → va_S A s.heap H locs → W p l e rm_Math_floorMod s m args below meth c H locs 0 0 Q (F0 m pc ls [.int v]) := by
    intro v  H locs ls pc hd hp h1 h2 h3
    rw [hQ]
    rw [hAe] at h2 h3
    exact mt_reti () hx hb hr hlk hd hK h1 h2 h3 hp
  have B18 : ∀ (x2 : Int32) (H : Heap) (locs : List Loc) (ls : Array Slot), wp_Math_floorMod_b18 post  x2 → va_P (dC, dI) vwCl (wd_Math_floorMod cI cZ) H → va_D A (wd_Math_floorMod cI cZ) → va_S A s.heap H locs → lv_has ls 3 [(2, .int x2)] → W p l e rm_Math_floorMod s m args below meth c H locs 0 0 Q (F0 m 18 ls []) := by
    intro  x2 H locs ls h hP hD hS hl
    refine lv_iload_n hx hb d_Math_floorMod_18 rfl (lv_at hl 0 rfl) ?_
    exact RET x2 H locs ls 19 d_Math_floorMod_19 h hP hD hS
  obtain ⟨H, hH⟩ : ∃ H : Heap, H = s.heap := ⟨_, rfl⟩
  obtain ⟨locs, hlo⟩ : ∃ x : List Loc, x = [] := ⟨_, rfl⟩
  have hS : va_S A s.heap H locs := by rw [hH, hlo]; exact hS
  rw [← hH] at hP
  rw [← hlo]
  show W p l e rm_Math_floorMod s m args below meth c s.heap locs 0 0 Q (F0 m 0 ls [])
  rw [← hH]
  refine lv_iload_n hx hb d_Math_floorMod_0 rfl (lv_at hl 0 rfl) ?_
  refine lv_iload_n hx hb d_Math_floorMod_1 rfl (lv_at hl 1 rfl) ?_
  obtain ⟨hi, h⟩ := h
  refine lv_irem hx hb d_Math_floorMod_2 hi ?_
  refine lv_topi (fun x2_3 ex2_3 => ?_)
  have h := h x2_3 ex2_3
  refine lv_istore_n (lv' := [(2, .int x2_3), (0, .int p0), (1, .int p1)]) hx hb d_Math_floorMod_3 rfl hl (by decide) rfl (fun ls hl => ?_)
  refine lv_iload_n hx hb d_Math_floorMod_4 rfl (lv_at hl 1 rfl) ?_
  refine lv_iload_n hx hb d_Math_floorMod_5 rfl (lv_at hl 2 rfl) ?_
  refine lv_ixor hx hb d_Math_floorMod_6 ?_
  refine lv_if_ge (tgt := 18) hx hb d_Math_floorMod_7 (by decide) (fun g7 => ?_) (fun g7 => ?_)
  · have h := h.1 g7
    exact B18  x2_3 H locs ls h hP hD hS (lv_sub hl [0] rfl)
  · have h := h.2 g7
    refine lv_iload_n hx hb d_Math_floorMod_10 rfl (lv_at hl 0 rfl) ?_
    refine lv_if_eq (tgt := 18) hx hb d_Math_floorMod_11 (by decide) (fun g11 => ?_) (fun g11 => ?_)
    · have h := h.1 g11
      exact B18  x2_3 H locs ls h hP hD hS (lv_sub hl [0] rfl)
    · have h := h.2 g11
      refine lv_iload_n hx hb d_Math_floorMod_14 rfl (lv_at hl 0 rfl) ?_
      refine lv_iload_n hx hb d_Math_floorMod_15 rfl (lv_at hl 2 rfl) ?_
      refine lv_iadd hx hb d_Math_floorMod_16 ?_
      exact RET (x2_3 + p1) H locs ls 17 d_Math_floorMod_17 h hP hD hS
abbrev wd_Fi_raised (aF aF_powers aF_logs : Nat) (cI cZ : ClassId) (F_powers : Nat → Int32) (F_logs : Nat → Int32) : va_W := [(aF, .inr (1, [.ref aF_powers, .ref aF_logs])), (aF_powers, .inl (cI, 512, .inl F_powers)), (aF_logs, .inl (cI, 256, .inl F_logs))]
def wp_Fi_raised_b36 (F_powers : Nat → Int32) (F_logs : Nat → Int32) (post : Int32 → Prop)  (t0 : Int32) : Prop := post t0
def wp_Fi_raised (F_powers : Nat → Int32) (F_logs : Nat → Int32) (p1 : Int32) (p2 : Int32) (post : Int32 → Prop) : Prop := (¬ p2 = 0 → ((¬ p1 = 0 → (vp_in (p1 &&& (255 : Int32)) 256 ∧ (wp_Math_floorMod p2 (255 : Int32) (fun r_29 => (wp_Fi_powerOfTwo F_powers ((F_logs (p1 &&& (255 : Int32)).toNatClampNeg) * r_29) (fun r_33 => (wp_Fi_raised_b36 F_powers F_logs post  r_33))))))) ∧ (p1 = 0 → (wp_Fi_raised_b36 F_powers F_logs post  (0 : Int32))))) ∧ (p2 = 0 → (post (1 : Int32)))
abbrev rm_Fi_raised : Room := { frames := 1, cells := 0, slots := 0, locals := 22 }
set_option maxHeartbeats 4000000 in
set_option maxRecDepth 100000 in
theorem ct_Fi_raised (l : Launch) (dC : Nat → ClassId) (dI : Nat → Nat → Nat) (aF aF_powers aF_logs : Nat) (cI cZ : ClassId) (F_powers : Nat → Int32) (F_logs : Nat → Int32) (p1 : Int32) (p2 : Int32) (post : Int32 → Prop) (h : wp_Fi_raised F_powers F_logs p1 p2 post) (sz : Nat) : Met l y_Fi_raised (Cond.code y_Fi_raised c_Fi_raised 3 (some .int) :: tb) rm_Fi_raised (mt_P (dC, dI) vwCl [(cI, .int), (cZ, .boolean)] [.ref aF, .int p1, .int p2] (wd_Fi_raised aF aF_powers aF_logs cI cZ F_powers F_logs) sz) (va_Qi (fun (r : Int32) (u : Unit) => post r) (mt_B (dC, dI) vwCl [(cI, .int), (cZ, .boolean)] (wd_Fi_raised aF aF_powers aF_logs cI cZ F_powers F_logs) sz (fun u : Unit => wd_Fi_raised aF aF_powers aF_logs cI cZ F_powers F_logs)) (va_A (wd_Fi_raised aF aF_powers aF_logs cI cZ F_powers F_logs) sz)) 0 0 (va_A (wd_Fi_raised aF aF_powers aF_logs cI cZ F_powers F_logs) sz) := by
  refine mt_bd (by decide +kernel) (Nat.le_of_ble_eq_true rfl) ?_
  intro p e s m args below meth c hx hb hml hown hts hr hlk hnm hsz hP hK hD hA hS ls hl
  subst hsz
  have hown : s.vm.findClass "ReedSets$Field" = some m.cls := hown
  have hl : lv_has ls 3 [(0, .ref aF), (1, .int p1), (2, .int p2)] := hl
  refine lz_Q (fun Q hQ => ?_)
  obtain ⟨A, hAe⟩ : ∃ A : Nat → Prop, A = va_A (wd_Fi_raised aF aF_powers aF_logs cI cZ F_powers F_logs) s.heap.size := ⟨_, rfl⟩
  rw [← hAe] at hD hA hS
  have RET : ∀ (v : Int32)  (H : Heap) (locs : List Loc) (ls : Array Slot) (pc : Nat), decode c_Fi_raised pc = .ok (.ireturn, 1) → post v  → va_P (dC, dI) vwCl (wd_Fi_raised aF aF_powers aF_logs cI cZ F_powers F_logs) H → va_D A (wd_Fi_raised aF aF_powers aF_logs cI cZ F_powers F_logs) → va_S A s.heap H locs → W p l e rm_Fi_raised s m args below meth c H locs 0 0 Q (F0 m pc ls [.int v]) := by
    intro v  H locs ls pc hd hp h1 h2 h3
    rw [hQ]
    rw [hAe] at h2 h3
    exact mt_reti () hx hb hr hlk hd hK h1 h2 h3 hp
  have B36 : ∀ (t0 : Int32) (H : Heap) (locs : List Loc) (ls : Array Slot), wp_Fi_raised_b36 F_powers F_logs post  t0 → va_P (dC, dI) vwCl (wd_Fi_raised aF aF_powers aF_logs cI cZ F_powers F_logs) H → va_D A (wd_Fi_raised aF aF_powers aF_logs cI cZ F_powers F_logs) → va_S A s.heap H locs → lv_has ls 3 [] → W p l e rm_Fi_raised s m args below meth c H locs 0 0 Q (F0 m 36 ls [.int t0]) := by
    intro  t0 H locs ls h hP hD hS hl
    exact RET t0 H locs ls 36 d_Fi_raised_36 h hP hD hS
  obtain ⟨H, hH⟩ : ∃ H : Heap, H = s.heap := ⟨_, rfl⟩
  obtain ⟨locs, hlo⟩ : ∃ x : List Loc, x = [] := ⟨_, rfl⟩
  have hS : va_S A s.heap H locs := by rw [hH, hlo]; exact hS
  rw [← hH] at hP
  rw [← hlo]
  show W p l e rm_Fi_raised s m args below meth c s.heap locs 0 0 Q (F0 m 0 ls [])
  rw [← hH]
  refine lv_iload_n hx hb d_Fi_raised_0 rfl (lv_at hl 2 rfl) ?_
  refine lv_if_ne (tgt := 6) hx hb d_Fi_raised_1 (by decide) (fun g1 => ?_) (fun g1 => ?_)
  · have h := h.1 g1
    refine lv_iload_n hx hb d_Fi_raised_6 rfl (lv_at hl 1 rfl) ?_
    refine lv_if_ne (tgt := 14) hx hb d_Fi_raised_7 (by decide) (fun g7 => ?_) (fun g7 => ?_)
    · have h := h.1 g7
      refine lv_aload_n hx hb d_Fi_raised_14 rfl (lv_at hl 0 rfl) ?_
      refine lv_aload_n hx hb d_Fi_raised_15 rfl (lv_at hl 0 rfl) ?_
      refine va_get (D := (dC, dI)) (ci := 1) (v := .ref aF_logs) (C := "ReedSets$Field") (T := T_Fi) (N := 2) hx hb hts in_Fi hown hK hP 0 rfl rfl 1 (by decide) (hts _ tb_66) (fun _ h9 => h9) rfl d_Fi_raised_16 ?_
      refine lv_iload_n hx hb d_Fi_raised_19 rfl (lv_at hl 1 rfl) ?_
      refine lv_sipush (v := (255 : Int32)) hx hb d_Fi_raised_20 (by decide) ?_
      refine lv_iand hx hb d_Fi_raised_23 ?_
      obtain ⟨hi, h⟩ := h
      refine va_iald hx hb hK hP 2 0 rfl rfl hi d_Fi_raised_24 ?_
      refine lv_iload_n hx hb d_Fi_raised_25 rfl (lv_at hl 2 rfl) ?_
      refine lv_sipush (v := (255 : Int32)) hx hb d_Fi_raised_26 (by decide) ?_
      refine mt_i (va_runS (As := [.int p2, .int (255 : Int32)]) (rest := [.int (F_logs (p1 &&& (255 : Int32)).toNatClampNeg), .ref aF]) ⟨hx, hb, hml, hown, hts⟩ (ct_Math_floorMod l dC dI  cI cZ p2 (255 : Int32) _ h _) (tb_cS hts ok_Math_floorMod tb_318 rfl rfl ⟨Nat.le_of_ble_eq_true rfl, Nat.le_of_ble_eq_true rfl⟩) (mt_preS hK hP hD [.int p2, .int (255 : Int32)] [] rfl (by decide)) rfl rfl hl.1 rfl (lv_room (Nat.le_of_ble_eq_true rfl)) d_Fi_raised_29 ⟨Nat.zero_le _, Nat.zero_le _⟩) hP hD hS hA [] rfl (fun _ => rfl) (fun r_29 u H locs h hP hD hS => ?_)
      have hP : va_P (dC, dI) vwCl (wd_Fi_raised aF aF_powers aF_logs cI cZ F_powers F_logs) H := hP
      have hD : va_D A (wd_Fi_raised aF aF_powers aF_logs cI cZ F_powers F_logs) := hD
      refine lv_imul hx hb d_Fi_raised_32 ?_
      refine mt_i (va_runV (As := [.int ((F_logs (p1 &&& (255 : Int32)).toNatClampNeg) * r_29)]) (rest := []) ⟨hx, hb, hml, hown, hts⟩ (ct_Fi_powerOfTwo l dC dI aF aF_powers aF_logs cI cZ F_powers ((F_logs (p1 &&& (255 : Int32)).toNatClampNeg) * r_29) _ h _) (tb_cV hts ok_Fi_powerOfTwo tb_321 rfl rfl ⟨Nat.le_of_ble_eq_true rfl, Nat.le_of_ble_eq_true rfl⟩) (mt_preV hK hP hD [.int ((F_logs (p1 &&& (255 : Int32)).toNatClampNeg) * r_29)] [0, 1] rfl (by decide) (ci := 1) (q0 := 0) rfl rfl) rfl rfl hl.1 rfl (lv_room (Nat.le_of_ble_eq_true rfl)) d_Fi_raised_33 ⟨Nat.zero_le _, Nat.zero_le _⟩) hP hD hS hA [0, 1] rfl (fun _ => rfl) (fun r_33 u H locs h hP hD hS => ?_)
      have hP : va_P (dC, dI) vwCl (wd_Fi_raised aF aF_powers aF_logs cI cZ F_powers F_logs) H := hP
      have hD : va_D A (wd_Fi_raised aF aF_powers aF_logs cI cZ F_powers F_logs) := hD
      exact B36  r_33 H locs ls h hP hD hS (lv_sub hl [] rfl)
    · have h := h.2 g7
      refine lv_iconst (v := (0 : Int32)) hx hb d_Fi_raised_10 (by decide) ?_
      refine lv_goto (tgt := 36) hx hb d_Fi_raised_11 (by decide) ?_
      exact B36  (0 : Int32) H locs ls h hP hD hS (lv_sub hl [] rfl)
  · have h := h.2 g1
    refine lv_iconst (v := (1 : Int32)) hx hb d_Fi_raised_4 (by decide) ?_
    exact RET (1 : Int32) H locs ls 5 d_Fi_raised_5 h hP hD hS
abbrev wd_Fi_logOf (aF aF_powers aF_logs : Nat) (cI cZ : ClassId) (F_logs : Nat → Int32) : va_W := [(aF, .inr (1, [.ref aF_powers, .ref aF_logs])), (aF_logs, .inl (cI, 256, .inl F_logs))]
def wp_Fi_logOf (F_logs : Nat → Int32) (p1 : Int32) (post : Int32 → Prop) : Prop := vp_in (p1 &&& (255 : Int32)) 256 ∧ (post (F_logs (p1 &&& (255 : Int32)).toNatClampNeg))
abbrev rm_Fi_logOf : Room := { frames := 0, cells := 0, slots := 0, locals := 0 }
set_option maxHeartbeats 4000000 in
set_option maxRecDepth 100000 in
theorem ct_Fi_logOf (l : Launch) (dC : Nat → ClassId) (dI : Nat → Nat → Nat) (aF aF_powers aF_logs : Nat) (cI cZ : ClassId) (F_logs : Nat → Int32) (p1 : Int32) (post : Int32 → Prop) (h : wp_Fi_logOf F_logs p1 post) (sz : Nat) : Met l y_Fi_logOf (Cond.code y_Fi_logOf c_Fi_logOf 2 (some .int) :: tb) rm_Fi_logOf (mt_P (dC, dI) vwCl [(cI, .int), (cZ, .boolean)] [.ref aF, .int p1] (wd_Fi_logOf aF aF_powers aF_logs cI cZ F_logs) sz) (va_Qi (fun (r : Int32) (u : Unit) => post r) (mt_B (dC, dI) vwCl [(cI, .int), (cZ, .boolean)] (wd_Fi_logOf aF aF_powers aF_logs cI cZ F_logs) sz (fun u : Unit => wd_Fi_logOf aF aF_powers aF_logs cI cZ F_logs)) (va_A (wd_Fi_logOf aF aF_powers aF_logs cI cZ F_logs) sz)) 0 0 (va_A (wd_Fi_logOf aF aF_powers aF_logs cI cZ F_logs) sz) := by
  refine mt_bd (by decide +kernel) (Nat.le_of_ble_eq_true rfl) ?_
  intro p e s m args below meth c hx hb hml hown hts hr hlk hnm hsz hP hK hD hA hS ls hl
  subst hsz
  have hown : s.vm.findClass "ReedSets$Field" = some m.cls := hown
  have hl : lv_has ls 2 [(0, .ref aF), (1, .int p1)] := hl
  refine lz_Q (fun Q hQ => ?_)
  obtain ⟨A, hAe⟩ : ∃ A : Nat → Prop, A = va_A (wd_Fi_logOf aF aF_powers aF_logs cI cZ F_logs) s.heap.size := ⟨_, rfl⟩
  rw [← hAe] at hD hA hS
  have RET : ∀ (v : Int32)  (H : Heap) (locs : List Loc) (ls : Array Slot) (pc : Nat), decode c_Fi_logOf pc = .ok (.ireturn, 1) → post v  → va_P (dC, dI) vwCl (wd_Fi_logOf aF aF_powers aF_logs cI cZ F_logs) H → va_D A (wd_Fi_logOf aF aF_powers aF_logs cI cZ F_logs) → va_S A s.heap H locs → W p l e rm_Fi_logOf s m args below meth c H locs 0 0 Q (F0 m pc ls [.int v]) := by
    intro v  H locs ls pc hd hp h1 h2 h3
    rw [hQ]
    rw [hAe] at h2 h3
    exact mt_reti () hx hb hr hlk hd hK h1 h2 h3 hp
  obtain ⟨H, hH⟩ : ∃ H : Heap, H = s.heap := ⟨_, rfl⟩
  obtain ⟨locs, hlo⟩ : ∃ x : List Loc, x = [] := ⟨_, rfl⟩
  have hS : va_S A s.heap H locs := by rw [hH, hlo]; exact hS
  rw [← hH] at hP
  rw [← hlo]
  show W p l e rm_Fi_logOf s m args below meth c s.heap locs 0 0 Q (F0 m 0 ls [])
  rw [← hH]
  refine lv_aload_n hx hb d_Fi_logOf_0 rfl (lv_at hl 0 rfl) ?_
  refine va_get (D := (dC, dI)) (ci := 1) (v := .ref aF_logs) (C := "ReedSets$Field") (T := T_Fi) (N := 2) hx hb hts in_Fi hown hK hP 0 rfl rfl 1 (by decide) (hts _ tb_66) (fun _ h9 => h9) rfl d_Fi_logOf_1 ?_
  refine lv_iload_n hx hb d_Fi_logOf_4 rfl (lv_at hl 1 rfl) ?_
  refine lv_sipush (v := (255 : Int32)) hx hb d_Fi_logOf_5 (by decide) ?_
  refine lv_iand hx hb d_Fi_logOf_8 ?_
  obtain ⟨hi, h⟩ := h
  refine va_iald hx hb hK hP 1 0 rfl rfl hi d_Fi_logOf_9 ?_
  exact RET (F_logs (p1 &&& (255 : Int32)).toNatClampNeg) H locs ls 10 d_Fi_logOf_10 h hP hD hS
abbrev wd_Wo_size (aW aF aW_bytes aW_lost aW_factors : Nat) (cI cZ : ClassId) (W_lostCount : Int32) (W_data : Int32) (W_repairs : Int32) (W_first : Int32) : va_W := [(aW, .inr (5, [.ref aF, .ref aW_bytes, .ref aW_lost, .ref aW_factors, .int W_lostCount, .int W_data, .int W_repairs, .int W_first]))]
def wp_Wo_size (W_data : Int32) (W_repairs : Int32) (post : Int32 → Prop) : Prop := post (W_data + W_repairs)
abbrev rm_Wo_size : Room := { frames := 0, cells := 0, slots := 0, locals := 0 }
set_option maxHeartbeats 4000000 in
set_option maxRecDepth 100000 in
theorem ct_Wo_size (l : Launch) (dC : Nat → ClassId) (dI : Nat → Nat → Nat) (aW aF aW_bytes aW_lost aW_factors : Nat) (cI cZ : ClassId) (W_lostCount : Int32) (W_data : Int32) (W_repairs : Int32) (W_first : Int32)  (post : Int32 → Prop) (h : wp_Wo_size W_data W_repairs post) (sz : Nat) : Met l y_Wo_size (Cond.code y_Wo_size c_Wo_size 1 (some .int) :: tb) rm_Wo_size (mt_P (dC, dI) vwCl [(cI, .int), (cZ, .boolean)] [.ref aW] (wd_Wo_size aW aF aW_bytes aW_lost aW_factors cI cZ W_lostCount W_data W_repairs W_first) sz) (va_Qi (fun (r : Int32) (u : Unit) => post r) (mt_B (dC, dI) vwCl [(cI, .int), (cZ, .boolean)] (wd_Wo_size aW aF aW_bytes aW_lost aW_factors cI cZ W_lostCount W_data W_repairs W_first) sz (fun u : Unit => wd_Wo_size aW aF aW_bytes aW_lost aW_factors cI cZ W_lostCount W_data W_repairs W_first)) (va_A (wd_Wo_size aW aF aW_bytes aW_lost aW_factors cI cZ W_lostCount W_data W_repairs W_first) sz)) 0 0 (va_A (wd_Wo_size aW aF aW_bytes aW_lost aW_factors cI cZ W_lostCount W_data W_repairs W_first) sz) := by
  refine mt_bd (by decide +kernel) (Nat.le_of_ble_eq_true rfl) ?_
  intro p e s m args below meth c hx hb hml hown hts hr hlk hnm hsz hP hK hD hA hS ls hl
  subst hsz
  have hown : s.vm.findClass "ReedSets$Word" = some m.cls := hown
  have hl : lv_has ls 1 [(0, .ref aW)] := hl
  refine lz_Q (fun Q hQ => ?_)
  obtain ⟨A, hAe⟩ : ∃ A : Nat → Prop, A = va_A (wd_Wo_size aW aF aW_bytes aW_lost aW_factors cI cZ W_lostCount W_data W_repairs W_first) s.heap.size := ⟨_, rfl⟩
  rw [← hAe] at hD hA hS
  have RET : ∀ (v : Int32)  (H : Heap) (locs : List Loc) (ls : Array Slot) (pc : Nat), decode c_Wo_size pc = .ok (.ireturn, 1) → post v  → va_P (dC, dI) vwCl (wd_Wo_size aW aF aW_bytes aW_lost aW_factors cI cZ W_lostCount W_data W_repairs W_first) H → va_D A (wd_Wo_size aW aF aW_bytes aW_lost aW_factors cI cZ W_lostCount W_data W_repairs W_first) → va_S A s.heap H locs → W p l e rm_Wo_size s m args below meth c H locs 0 0 Q (F0 m pc ls [.int v]) := by
    intro v  H locs ls pc hd hp h1 h2 h3
    rw [hQ]
    rw [hAe] at h2 h3
    exact mt_reti () hx hb hr hlk hd hK h1 h2 h3 hp
  obtain ⟨H, hH⟩ : ∃ H : Heap, H = s.heap := ⟨_, rfl⟩
  obtain ⟨locs, hlo⟩ : ∃ x : List Loc, x = [] := ⟨_, rfl⟩
  have hS : va_S A s.heap H locs := by rw [hH, hlo]; exact hS
  rw [← hH] at hP
  rw [← hlo]
  show W p l e rm_Wo_size s m args below meth c s.heap locs 0 0 Q (F0 m 0 ls [])
  rw [← hH]
  refine lv_aload_n hx hb d_Wo_size_0 rfl (lv_at hl 0 rfl) ?_
  refine va_get (D := (dC, dI)) (ci := 5) (v := .int W_data) (C := "ReedSets$Word") (T := T_Wo) (N := 8) hx hb hts in_Wo hown hK hP 0 rfl rfl 5 (by decide) (hts _ tb_115) (fun _ h9 => h9) rfl d_Wo_size_1 ?_
  refine lv_aload_n hx hb d_Wo_size_4 rfl (lv_at hl 0 rfl) ?_
  refine va_get (D := (dC, dI)) (ci := 5) (v := .int W_repairs) (C := "ReedSets$Word") (T := T_Wo) (N := 8) hx hb hts in_Wo hown hK hP 0 rfl rfl 6 (by decide) (hts _ tb_117) (fun _ h9 => h9) rfl d_Wo_size_5 ?_
  refine lv_iadd hx hb d_Wo_size_8 ?_
  exact RET (W_data + W_repairs) H locs ls 9 d_Wo_size_9 h hP hD hS
abbrev wd_Wo_hasPlace (aW aF aW_bytes aW_lost aW_factors : Nat) (cI cZ : ClassId) (W_lostCount : Int32) (W_data : Int32) (W_repairs : Int32) (W_first : Int32) : va_W := [(aW, .inr (5, [.ref aF, .ref aW_bytes, .ref aW_lost, .ref aW_factors, .int W_lostCount, .int W_data, .int W_repairs, .int W_first]))]
def wp_Wo_hasPlace_b17 (W_data : Int32) (W_repairs : Int32) (post : Int32 → Prop)  (t0 : Int32) : Prop := narrow .boolean (.int t0) = .int t0 ∧ (post t0)
def wp_Wo_hasPlace_b16 (W_data : Int32) (W_repairs : Int32) (post : Int32 → Prop)   : Prop := wp_Wo_hasPlace_b17 W_data W_repairs post  (0 : Int32)
def wp_Wo_hasPlace (W_data : Int32) (W_repairs : Int32) (p1 : Int32) (post : Int32 → Prop) : Prop := (p1 < 0 → (wp_Wo_hasPlace_b16 W_data W_repairs post  )) ∧ (¬ p1 < 0 → (wp_Wo_size W_data W_repairs (fun r_6 => ((r_6 ≤ p1 → (wp_Wo_hasPlace_b16 W_data W_repairs post  )) ∧ (¬ r_6 ≤ p1 → (wp_Wo_hasPlace_b17 W_data W_repairs post  (1 : Int32)))))))
abbrev rm_Wo_hasPlace : Room := { frames := 1, cells := 0, slots := 0, locals := 20 }
set_option maxHeartbeats 4000000 in
set_option maxRecDepth 100000 in
theorem ct_Wo_hasPlace (l : Launch) (dC : Nat → ClassId) (dI : Nat → Nat → Nat) (aW aF aW_bytes aW_lost aW_factors : Nat) (cI cZ : ClassId) (W_lostCount : Int32) (W_data : Int32) (W_repairs : Int32) (W_first : Int32) (p1 : Int32) (post : Int32 → Prop) (h : wp_Wo_hasPlace W_data W_repairs p1 post) (sz : Nat) : Met l y_Wo_hasPlace (Cond.code y_Wo_hasPlace c_Wo_hasPlace 2 (some .boolean) :: tb) rm_Wo_hasPlace (mt_P (dC, dI) vwCl [(cI, .int), (cZ, .boolean)] [.ref aW, .int p1] (wd_Wo_hasPlace aW aF aW_bytes aW_lost aW_factors cI cZ W_lostCount W_data W_repairs W_first) sz) (va_Qi (fun (r : Int32) (u : Unit) => post r) (mt_B (dC, dI) vwCl [(cI, .int), (cZ, .boolean)] (wd_Wo_hasPlace aW aF aW_bytes aW_lost aW_factors cI cZ W_lostCount W_data W_repairs W_first) sz (fun u : Unit => wd_Wo_hasPlace aW aF aW_bytes aW_lost aW_factors cI cZ W_lostCount W_data W_repairs W_first)) (va_A (wd_Wo_hasPlace aW aF aW_bytes aW_lost aW_factors cI cZ W_lostCount W_data W_repairs W_first) sz)) 0 0 (va_A (wd_Wo_hasPlace aW aF aW_bytes aW_lost aW_factors cI cZ W_lostCount W_data W_repairs W_first) sz) := by
  refine mt_bd (by decide +kernel) (Nat.le_of_ble_eq_true rfl) ?_
  intro p e s m args below meth c hx hb hml hown hts hr hlk hnm hsz hP hK hD hA hS ls hl
  subst hsz
  have hown : s.vm.findClass "ReedSets$Word" = some m.cls := hown
  have hl : lv_has ls 2 [(0, .ref aW), (1, .int p1)] := hl
  refine lz_Q (fun Q hQ => ?_)
  obtain ⟨A, hAe⟩ : ∃ A : Nat → Prop, A = va_A (wd_Wo_hasPlace aW aF aW_bytes aW_lost aW_factors cI cZ W_lostCount W_data W_repairs W_first) s.heap.size := ⟨_, rfl⟩
  rw [← hAe] at hD hA hS
  have RET : ∀ (v : Int32)  (H : Heap) (locs : List Loc) (ls : Array Slot) (pc : Nat), decode c_Wo_hasPlace pc = .ok (.ireturn, 1) → narrow .boolean (.int v) = .int v → post v  → va_P (dC, dI) vwCl (wd_Wo_hasPlace aW aF aW_bytes aW_lost aW_factors cI cZ W_lostCount W_data W_repairs W_first) H → va_D A (wd_Wo_hasPlace aW aF aW_bytes aW_lost aW_factors cI cZ W_lostCount W_data W_repairs W_first) → va_S A s.heap H locs → W p l e rm_Wo_hasPlace s m args below meth c H locs 0 0 Q (F0 m pc ls [.int v]) := by
    intro v  H locs ls pc hd hz hp h1 h2 h3
    rw [hQ]
    rw [hAe] at h2 h3
    exact mt_retz () hx hb hr hlk hd hK h1 h2 h3 hz hp
  have B17 : ∀ (t0 : Int32) (H : Heap) (locs : List Loc) (ls : Array Slot), wp_Wo_hasPlace_b17 W_data W_repairs post  t0 → va_P (dC, dI) vwCl (wd_Wo_hasPlace aW aF aW_bytes aW_lost aW_factors cI cZ W_lostCount W_data W_repairs W_first) H → va_D A (wd_Wo_hasPlace aW aF aW_bytes aW_lost aW_factors cI cZ W_lostCount W_data W_repairs W_first) → va_S A s.heap H locs → lv_has ls 2 [] → W p l e rm_Wo_hasPlace s m args below meth c H locs 0 0 Q (F0 m 17 ls [.int t0]) := by
    intro  t0 H locs ls h hP hD hS hl
    obtain ⟨hz, h⟩ := h
    exact RET t0 H locs ls 17 d_Wo_hasPlace_17 hz h hP hD hS
  have B16 : ∀  (H : Heap) (locs : List Loc) (ls : Array Slot), wp_Wo_hasPlace_b16 W_data W_repairs post   → va_P (dC, dI) vwCl (wd_Wo_hasPlace aW aF aW_bytes aW_lost aW_factors cI cZ W_lostCount W_data W_repairs W_first) H → va_D A (wd_Wo_hasPlace aW aF aW_bytes aW_lost aW_factors cI cZ W_lostCount W_data W_repairs W_first) → va_S A s.heap H locs → lv_has ls 2 [] → W p l e rm_Wo_hasPlace s m args below meth c H locs 0 0 Q (F0 m 16 ls []) := by
    intro   H locs ls h hP hD hS hl
    refine lv_iconst (v := (0 : Int32)) hx hb d_Wo_hasPlace_16 (by decide) ?_
    exact B17  (0 : Int32) H locs ls h hP hD hS (lv_sub hl [] rfl)
  obtain ⟨H, hH⟩ : ∃ H : Heap, H = s.heap := ⟨_, rfl⟩
  obtain ⟨locs, hlo⟩ : ∃ x : List Loc, x = [] := ⟨_, rfl⟩
  have hS : va_S A s.heap H locs := by rw [hH, hlo]; exact hS
  rw [← hH] at hP
  rw [← hlo]
  show W p l e rm_Wo_hasPlace s m args below meth c s.heap locs 0 0 Q (F0 m 0 ls [])
  rw [← hH]
  refine lv_iload_n hx hb d_Wo_hasPlace_0 rfl (lv_at hl 1 rfl) ?_
  refine lv_if_lt (tgt := 16) hx hb d_Wo_hasPlace_1 (by decide) (fun g1 => ?_) (fun g1 => ?_)
  · have h := h.1 g1
    exact B16   H locs ls h hP hD hS (lv_sub hl [] rfl)
  · have h := h.2 g1
    refine lv_iload_n hx hb d_Wo_hasPlace_4 rfl (lv_at hl 1 rfl) ?_
    refine lv_aload_n hx hb d_Wo_hasPlace_5 rfl (lv_at hl 0 rfl) ?_
    refine mt_i (va_runV (As := []) (rest := [.int p1]) ⟨hx, hb, hml, hown, hts⟩ (ct_Wo_size l dC dI aW aF aW_bytes aW_lost aW_factors cI cZ W_lostCount W_data W_repairs W_first _ h _) (tb_cV hts ok_Wo_size tb_351 rfl rfl ⟨Nat.le_of_ble_eq_true rfl, Nat.le_of_ble_eq_true rfl⟩) (mt_preV hK hP hD [] [0] rfl (by decide) (ci := 5) (q0 := 0) rfl rfl) rfl rfl hl.1 rfl (lv_room (Nat.le_of_ble_eq_true rfl)) d_Wo_hasPlace_6 ⟨Nat.zero_le _, Nat.zero_le _⟩) hP hD hS hA [0] rfl (fun _ => rfl) (fun r_6 u H locs h hP hD hS => ?_)
    have hP : va_P (dC, dI) vwCl (wd_Wo_hasPlace aW aF aW_bytes aW_lost aW_factors cI cZ W_lostCount W_data W_repairs W_first) H := hP
    have hD : va_D A (wd_Wo_hasPlace aW aF aW_bytes aW_lost aW_factors cI cZ W_lostCount W_data W_repairs W_first) := hD
    refine lv_icmp_ge (tgt := 16) hx hb d_Wo_hasPlace_9 (by decide) (fun g9 => ?_) (fun g9 => ?_)
    · have h := h.1 g9
      exact B16   H locs ls h hP hD hS (lv_sub hl [] rfl)
    · have h := h.2 g9
      refine lv_iconst (v := (1 : Int32)) hx hb d_Wo_hasPlace_12 (by decide) ?_
      refine lv_goto (tgt := 17) hx hb d_Wo_hasPlace_13 (by decide) ?_
      exact B17  (1 : Int32) H locs ls h hP hD hS (lv_sub hl [] rfl)
abbrev wd_Wo_hasLostData (aW aF aW_bytes aW_lost aW_factors : Nat) (cI cZ : ClassId) (W_lostCount : Int32) (W_data : Int32) (W_repairs : Int32) (W_first : Int32) (W_lost : Nat → Int32) : va_W := [(aW, .inr (5, [.ref aF, .ref aW_bytes, .ref aW_lost, .ref aW_factors, .int W_lostCount, .int W_data, .int W_repairs, .int W_first])), (aW_lost, .inl (cZ, 240, .inl W_lost))]
def wp_Wo_hasLostData_b2 (W_data : Int32) (W_lost : Nat → Int32) (post : Int32 → Prop) (K2 : Int32 → Prop) (x1 : Int32) : Prop := (W_data ≤ x1 → (post (0 : Int32))) ∧ (¬ W_data ≤ x1 → (vp_in x1 240 ∧ (((W_lost x1.toNatClampNeg) = 0 → (∀ x1_21 : Int32, x1_21 = (x1 + (1 : Int32)) → (K2 x1_21))) ∧ (¬ (W_lost x1.toNatClampNeg) = 0 → (post (1 : Int32))))))
def wp_Wo_hasLostData_L2 (W_data : Int32) (W_lost : Nat → Int32) (post : Int32 → Prop)  : Nat → Int32 → Prop
  | 0 => fun _ => False
  | n + 1 => wp_Wo_hasLostData_b2 W_data W_lost post (wp_Wo_hasLostData_L2 W_data W_lost post n)
def wp_Wo_hasLostData (W_data : Int32) (W_lost : Nat → Int32) (post : Int32 → Prop) : Prop := ∃ n : Nat, wp_Wo_hasLostData_L2 W_data W_lost post  n (0 : Int32)
abbrev rm_Wo_hasLostData : Room := { frames := 0, cells := 0, slots := 0, locals := 0 }
set_option maxHeartbeats 4000000 in
set_option maxRecDepth 100000 in
theorem ct_Wo_hasLostData (l : Launch) (dC : Nat → ClassId) (dI : Nat → Nat → Nat) (aW aF aW_bytes aW_lost aW_factors : Nat) (cI cZ : ClassId) (W_lostCount : Int32) (W_data : Int32) (W_repairs : Int32) (W_first : Int32) (W_lost : Nat → Int32)  (post : Int32 → Prop) (h : wp_Wo_hasLostData W_data W_lost post) (sz : Nat) : Met l y_Wo_hasLostData (Cond.code y_Wo_hasLostData c_Wo_hasLostData 2 (some .boolean) :: tb) rm_Wo_hasLostData (mt_P (dC, dI) vwCl [(cI, .int), (cZ, .boolean)] [.ref aW] (wd_Wo_hasLostData aW aF aW_bytes aW_lost aW_factors cI cZ W_lostCount W_data W_repairs W_first W_lost) sz) (va_Qi (fun (r : Int32) (u : Unit) => post r) (mt_B (dC, dI) vwCl [(cI, .int), (cZ, .boolean)] (wd_Wo_hasLostData aW aF aW_bytes aW_lost aW_factors cI cZ W_lostCount W_data W_repairs W_first W_lost) sz (fun u : Unit => wd_Wo_hasLostData aW aF aW_bytes aW_lost aW_factors cI cZ W_lostCount W_data W_repairs W_first W_lost)) (va_A (wd_Wo_hasLostData aW aF aW_bytes aW_lost aW_factors cI cZ W_lostCount W_data W_repairs W_first W_lost) sz)) 0 0 (va_A (wd_Wo_hasLostData aW aF aW_bytes aW_lost aW_factors cI cZ W_lostCount W_data W_repairs W_first W_lost) sz) := by
  refine mt_bd (by decide +kernel) (Nat.le_of_ble_eq_true rfl) ?_
  intro p e s m args below meth c hx hb hml hown hts hr hlk hnm hsz hP hK hD hA hS ls hl
  subst hsz
  have hown : s.vm.findClass "ReedSets$Word" = some m.cls := hown
  have hl : lv_has ls 2 [(0, .ref aW)] := hl
  refine lz_Q (fun Q hQ => ?_)
  obtain ⟨A, hAe⟩ : ∃ A : Nat → Prop, A = va_A (wd_Wo_hasLostData aW aF aW_bytes aW_lost aW_factors cI cZ W_lostCount W_data W_repairs W_first W_lost) s.heap.size := ⟨_, rfl⟩
  rw [← hAe] at hD hA hS
  have RET : ∀ (v : Int32)  (H : Heap) (locs : List Loc) (ls : Array Slot) (pc : Nat), decode c_Wo_hasLostData pc = .ok (.ireturn, 1) → narrow .boolean (.int v) = .int v → post v  → va_P (dC, dI) vwCl (wd_Wo_hasLostData aW aF aW_bytes aW_lost aW_factors cI cZ W_lostCount W_data W_repairs W_first W_lost) H → va_D A (wd_Wo_hasLostData aW aF aW_bytes aW_lost aW_factors cI cZ W_lostCount W_data W_repairs W_first W_lost) → va_S A s.heap H locs → W p l e rm_Wo_hasLostData s m args below meth c H locs 0 0 Q (F0 m pc ls [.int v]) := by
    intro v  H locs ls pc hd hz hp h1 h2 h3
    rw [hQ]
    rw [hAe] at h2 h3
    exact mt_retz () hx hb hr hlk hd hK h1 h2 h3 hz hp
  have B2 : ∀ (K2 : Int32 → Prop) (HK2 : ∀ (x1 : Int32) (H : Heap) (locs : List Loc) (ls : Array Slot), K2 x1 → va_P (dC, dI) vwCl (wd_Wo_hasLostData aW aF aW_bytes aW_lost aW_factors cI cZ W_lostCount W_data W_repairs W_first W_lost) H → va_D A (wd_Wo_hasLostData aW aF aW_bytes aW_lost aW_factors cI cZ W_lostCount W_data W_repairs W_first W_lost) → va_S A s.heap H locs → lv_has ls 2 [(0, .ref aW), (1, .int x1)] → W p l e rm_Wo_hasLostData s m args below meth c H locs 0 0 Q (F0 m 2 ls [])), ∀ (x1 : Int32) (H : Heap) (locs : List Loc) (ls : Array Slot), wp_Wo_hasLostData_b2 W_data W_lost post K2 x1 → va_P (dC, dI) vwCl (wd_Wo_hasLostData aW aF aW_bytes aW_lost aW_factors cI cZ W_lostCount W_data W_repairs W_first W_lost) H → va_D A (wd_Wo_hasLostData aW aF aW_bytes aW_lost aW_factors cI cZ W_lostCount W_data W_repairs W_first W_lost) → va_S A s.heap H locs → lv_has ls 2 [(0, .ref aW), (1, .int x1)] → W p l e rm_Wo_hasLostData s m args below meth c H locs 0 0 Q (F0 m 2 ls []) := by
    intro K2 HK2 x1 H locs ls h hP hD hS hl
    refine lv_iload_n hx hb d_Wo_hasLostData_2 rfl (lv_at hl 1 rfl) ?_
    refine lv_aload_n hx hb d_Wo_hasLostData_3 rfl (lv_at hl 0 rfl) ?_
    refine va_get (D := (dC, dI)) (ci := 5) (v := .int W_data) (C := "ReedSets$Word") (T := T_Wo) (N := 8) hx hb hts in_Wo hown hK hP 0 rfl rfl 5 (by decide) (hts _ tb_115) (fun _ h9 => h9) rfl d_Wo_hasLostData_4 ?_
    refine lv_icmp_ge (tgt := 27) hx hb d_Wo_hasLostData_7 (by decide) (fun g7 => ?_) (fun g7 => ?_)
    · have h := h.1 g7
      refine lv_iconst (v := (0 : Int32)) hx hb d_Wo_hasLostData_27 (by decide) ?_
      exact RET (0 : Int32) H locs ls 28 d_Wo_hasLostData_28 rfl h hP hD hS
    · have h := h.2 g7
      refine lv_aload_n hx hb d_Wo_hasLostData_10 rfl (lv_at hl 0 rfl) ?_
      refine va_get (D := (dC, dI)) (ci := 5) (v := .ref aW_lost) (C := "ReedSets$Word") (T := T_Wo) (N := 8) hx hb hts in_Wo hown hK hP 0 rfl rfl 2 (by decide) (hts _ tb_107) (fun _ h9 => h9) rfl d_Wo_hasLostData_11 ?_
      refine lv_iload_n hx hb d_Wo_hasLostData_14 rfl (lv_at hl 1 rfl) ?_
      obtain ⟨hi, h⟩ := h
      refine va_zald hx hb hK hP 1 1 rfl rfl hi d_Wo_hasLostData_15 ?_
      refine lv_if_eq (tgt := 21) hx hb d_Wo_hasLostData_16 (by decide) (fun g16 => ?_) (fun g16 => ?_)
      · have h := h.1 g16
        obtain ⟨x1_21, ex1_21⟩ : ∃ y : Int32, y = (x1 + (1 : Int32)) := ⟨_, rfl⟩
        have h := h x1_21 ex1_21
        refine lv_iinc (v := x1_21) (lv' := [(1, .int x1_21), (0, .ref aW)]) hx hb d_Wo_hasLostData_21 hl (k := 1) rfl (by rw [ex1_21]; rfl) (by decide) rfl (fun ls hl => ?_)
        refine lv_goto (tgt := 2) hx hb d_Wo_hasLostData_24 (by decide) ?_
        exact HK2 x1_21 H locs ls h hP hD hS (lv_sub hl [1, 0] rfl)
      · have h := h.2 g16
        refine lv_iconst (v := (1 : Int32)) hx hb d_Wo_hasLostData_19 (by decide) ?_
        exact RET (1 : Int32) H locs ls 20 d_Wo_hasLostData_20 rfl h hP hD hS
  have L2 : ∀  (n : Nat), ∀ (x1 : Int32) (H : Heap) (locs : List Loc) (ls : Array Slot), wp_Wo_hasLostData_L2 W_data W_lost post  n x1 → va_P (dC, dI) vwCl (wd_Wo_hasLostData aW aF aW_bytes aW_lost aW_factors cI cZ W_lostCount W_data W_repairs W_first W_lost) H → va_D A (wd_Wo_hasLostData aW aF aW_bytes aW_lost aW_factors cI cZ W_lostCount W_data W_repairs W_first W_lost) → va_S A s.heap H locs → lv_has ls 2 [(0, .ref aW), (1, .int x1)] → W p l e rm_Wo_hasLostData s m args below meth c H locs 0 0 Q (F0 m 2 ls []) := by
    intro  n
    induction n with
    | zero => intro x1 H locs ls h hP hD hS hl; exact False.elim h
    | succ n ih => intro x1 H locs ls h hP hD hS hl; exact B2  (wp_Wo_hasLostData_L2 W_data W_lost post  n) ih x1 H locs ls h hP hD hS hl
  obtain ⟨H, hH⟩ : ∃ H : Heap, H = s.heap := ⟨_, rfl⟩
  obtain ⟨locs, hlo⟩ : ∃ x : List Loc, x = [] := ⟨_, rfl⟩
  have hS : va_S A s.heap H locs := by rw [hH, hlo]; exact hS
  rw [← hH] at hP
  rw [← hlo]
  show W p l e rm_Wo_hasLostData s m args below meth c s.heap locs 0 0 Q (F0 m 0 ls [])
  rw [← hH]
  refine lv_iconst (v := (0 : Int32)) hx hb d_Wo_hasLostData_0 (by decide) ?_
  refine lv_istore_n (lv' := [(1, .int (0 : Int32)), (0, .ref aW)]) hx hb d_Wo_hasLostData_1 rfl hl (by decide) rfl (fun ls hl => ?_)
  obtain ⟨n, h⟩ := h
  exact L2  n (0 : Int32) H locs ls h hP hD hS (lv_sub hl [1, 0] rfl)
abbrev wd_Arr_rangeCheck  (cI cZ : ClassId)  : va_W := []
def wp_Arr_rangeCheck (p0 : Int32) (p1 : Int32) (p2 : Int32) (post : Prop) : Prop := (p1 ≤ p2 → ((0 ≤ p1 → ((p2 ≤ p0 → (post )) ∧ (¬ p2 ≤ p0 → (False)))) ∧ (¬ 0 ≤ p1 → (False)))) ∧ (¬ p1 ≤ p2 → (False))
abbrev rm_Arr_rangeCheck : Room := { frames := 0, cells := 0, slots := 0, locals := 0 }
set_option maxHeartbeats 4000000 in
set_option maxRecDepth 100000 in
theorem ct_Arr_rangeCheck (l : Launch) (dC : Nat → ClassId) (dI : Nat → Nat → Nat)  (cI cZ : ClassId)  (p0 : Int32) (p1 : Int32) (p2 : Int32) (post : Prop) (h : wp_Arr_rangeCheck p0 p1 p2 post) (sz : Nat) : Met l y_Arr_rangeCheck (Cond.code y_Arr_rangeCheck c_Arr_rangeCheck 3 none :: tb) rm_Arr_rangeCheck (mt_P (dC, dI) vwCl [(cI, .int), (cZ, .boolean)] [.int p0, .int p1, .int p2] (wd_Arr_rangeCheck cI cZ) sz) (va_Qv (fun (u : Unit) => post ) (mt_B (dC, dI) vwCl [(cI, .int), (cZ, .boolean)] (wd_Arr_rangeCheck cI cZ) sz (fun u : Unit => wd_Arr_rangeCheck cI cZ)) (va_A (wd_Arr_rangeCheck cI cZ) sz)) 0 0 (va_A (wd_Arr_rangeCheck cI cZ) sz) := by
  refine mt_bd (by decide +kernel) (Nat.le_of_ble_eq_true rfl) ?_
  intro p e s m args below meth c hx hb hml hown hts hr hlk hnm hsz hP hK hD hA hS ls hl
  subst hsz
  have hown : s.vm.findClass "java/util/Arrays" = some m.cls := hown
  have hl : lv_has ls 3 [(0, .int p0), (1, .int p1), (2, .int p2)] := hl
  refine lz_Q (fun Q hQ => ?_)
  obtain ⟨A, hAe⟩ : ∃ A : Nat → Prop, A = va_A (wd_Arr_rangeCheck cI cZ) s.heap.size := ⟨_, rfl⟩
  rw [← hAe] at hD hA hS
  have RET : ∀  (H : Heap) (locs : List Loc) (ls : Array Slot) (pc : Nat), decode c_Arr_rangeCheck pc = .ok (.return_, 1) → post  → va_P (dC, dI) vwCl (wd_Arr_rangeCheck cI cZ) H → va_D A (wd_Arr_rangeCheck cI cZ) → va_S A s.heap H locs → W p l e rm_Arr_rangeCheck s m args below meth c H locs 0 0 Q (F0 m pc ls []) := by
    intro  H locs ls pc hd hp h1 h2 h3
    rw [hQ]
    rw [hAe] at h2 h3
    exact mt_retv () hx hb hr hlk hd hK h1 h2 h3 hp
  obtain ⟨H, hH⟩ : ∃ H : Heap, H = s.heap := ⟨_, rfl⟩
  obtain ⟨locs, hlo⟩ : ∃ x : List Loc, x = [] := ⟨_, rfl⟩
  have hS : va_S A s.heap H locs := by rw [hH, hlo]; exact hS
  rw [← hH] at hP
  rw [← hlo]
  show W p l e rm_Arr_rangeCheck s m args below meth c s.heap locs 0 0 Q (F0 m 0 ls [])
  rw [← hH]
  refine lv_iload_n hx hb d_Arr_rangeCheck_0 rfl (lv_at hl 1 rfl) ?_
  refine lv_iload_n hx hb d_Arr_rangeCheck_1 rfl (lv_at hl 2 rfl) ?_
  refine lv_icmp_le (tgt := 46) hx hb d_Arr_rangeCheck_2 (by decide) (fun g2 => ?_) (fun g2 => ?_)
  · have h := h.1 g2
    refine lv_iload_n hx hb d_Arr_rangeCheck_46 rfl (lv_at hl 1 rfl) ?_
    refine lv_if_ge (tgt := 59) hx hb d_Arr_rangeCheck_47 (by decide) (fun g47 => ?_) (fun g47 => ?_)
    · have h := h.1 g47
      refine lv_iload_n hx hb d_Arr_rangeCheck_59 rfl (lv_at hl 2 rfl) ?_
      refine lv_iload_n hx hb d_Arr_rangeCheck_60 rfl (lv_at hl 0 rfl) ?_
      refine lv_icmp_le (tgt := 73) hx hb d_Arr_rangeCheck_61 (by decide) (fun g61 => ?_) (fun g61 => ?_)
      · have h := h.1 g61
        exact RET  H locs ls 73 d_Arr_rangeCheck_73 h hP hD hS
      · have h := h.2 g61
        exact False.elim h
    · have h := h.2 g47
      exact False.elim h
  · have h := h.2 g2
    exact False.elim h
abbrev wd_Arr_fill4 (aA : Nat) (cI cZ : ClassId) (nA : Nat) (A_ : Nat → Int32) : va_W := [(aA, .inl (cI, nA, .inl A_))]
def wp_Arr_fill4_b10 (nA : Nat) (post : (Nat → Int32) → Prop) (K10 : (Nat → Int32) → Int32 → Int32 → Int32 → Prop) (A_ : Nat → Int32) (x2 : Int32) (x3 : Int32) (x4 : Int32) : Prop := (x2 ≤ x4 → (post A_)) ∧ (¬ x2 ≤ x4 → (vp_in x4 nA ∧ (∀ x4_21 : Int32, x4_21 = (x4 + (1 : Int32)) → (K10 (upd A_ x4.toNatClampNeg x3) x2 x3 x4_21))))
def wp_Arr_fill4_L10 (nA : Nat) (post : (Nat → Int32) → Prop)  : Nat → (Nat → Int32) → Int32 → Int32 → Int32 → Prop
  | 0 => fun _ _ _ _ => False
  | n + 1 => wp_Arr_fill4_b10 nA post (wp_Arr_fill4_L10 nA post n)
def wp_Arr_fill4 (nA : Nat) (A_ : Nat → Int32) (p1 : Int32) (p2 : Int32) (p3 : Int32) (post : (Nat → Int32) → Prop) : Prop := wp_Arr_rangeCheck (nI nA) p1 p2 ((∃ n : Nat, wp_Arr_fill4_L10 nA post  n A_ p2 p3 p1))
abbrev rm_Arr_fill4 : Room := { frames := 1, cells := 0, slots := 0, locals := 22 }
set_option maxHeartbeats 4000000 in
set_option maxRecDepth 100000 in
theorem ct_Arr_fill4 (l : Launch) (dC : Nat → ClassId) (dI : Nat → Nat → Nat) (aA : Nat) (cI cZ : ClassId) (nA : Nat) (A_ : Nat → Int32) (p1 : Int32) (p2 : Int32) (p3 : Int32) (post : (Nat → Int32) → Prop) (h : wp_Arr_fill4 nA A_ p1 p2 p3 post) (sz : Nat) : Met l y_Arr_fill4 (Cond.code y_Arr_fill4 c_Arr_fill4 5 none :: tb) rm_Arr_fill4 (mt_P (dC, dI) vwCl [(cI, .int), (cZ, .boolean)] [.ref aA, .int p1, .int p2, .int p3] (wd_Arr_fill4 aA cI cZ nA A_) sz) (va_Qv (fun (u : (Nat → Int32)) => post u) (mt_B (dC, dI) vwCl [(cI, .int), (cZ, .boolean)] (wd_Arr_fill4 aA cI cZ nA A_) sz (fun u : (Nat → Int32) => wd_Arr_fill4 aA cI cZ nA u)) (va_A (wd_Arr_fill4 aA cI cZ nA A_) sz)) 0 0 (va_A (wd_Arr_fill4 aA cI cZ nA A_) sz) := by
  refine mt_bd (by decide +kernel) (Nat.le_of_ble_eq_true rfl) ?_
  intro p e s m args below meth c hx hb hml hown hts hr hlk hnm hsz hP hK hD hA hS ls hl
  subst hsz
  have hown : s.vm.findClass "java/util/Arrays" = some m.cls := hown
  have hl : lv_has ls 5 [(0, .ref aA), (1, .int p1), (2, .int p2), (3, .int p3)] := hl
  refine lz_Q (fun Q hQ => ?_)
  obtain ⟨A, hAe⟩ : ∃ A : Nat → Prop, A = va_A (wd_Arr_fill4 aA cI cZ nA A_) s.heap.size := ⟨_, rfl⟩
  rw [← hAe] at hD hA hS
  have RET : ∀ (A_ : Nat → Int32) (H : Heap) (locs : List Loc) (ls : Array Slot) (pc : Nat), decode c_Arr_fill4 pc = .ok (.return_, 1) → post A_ → va_P (dC, dI) vwCl (wd_Arr_fill4 aA cI cZ nA A_) H → va_D A (wd_Arr_fill4 aA cI cZ nA A_) → va_S A s.heap H locs → W p l e rm_Arr_fill4 s m args below meth c H locs 0 0 Q (F0 m pc ls []) := by
    intro A_ H locs ls pc hd hp h1 h2 h3
    rw [hQ]
    rw [hAe] at h2 h3
    exact mt_retv (A_) hx hb hr hlk hd hK h1 h2 h3 hp
  have B10 : ∀ (K10 : (Nat → Int32) → Int32 → Int32 → Int32 → Prop) (HK10 : ∀ (A_ : Nat → Int32) (x2 : Int32) (x3 : Int32) (x4 : Int32) (H : Heap) (locs : List Loc) (ls : Array Slot), K10 A_ x2 x3 x4 → va_P (dC, dI) vwCl (wd_Arr_fill4 aA cI cZ nA A_) H → va_D A (wd_Arr_fill4 aA cI cZ nA A_) → va_S A s.heap H locs → lv_has ls 5 [(0, .ref aA), (2, .int x2), (3, .int x3), (4, .int x4)] → W p l e rm_Arr_fill4 s m args below meth c H locs 0 0 Q (F0 m 10 ls [])), ∀ (A_ : Nat → Int32) (x2 : Int32) (x3 : Int32) (x4 : Int32) (H : Heap) (locs : List Loc) (ls : Array Slot), wp_Arr_fill4_b10 nA post K10 A_ x2 x3 x4 → va_P (dC, dI) vwCl (wd_Arr_fill4 aA cI cZ nA A_) H → va_D A (wd_Arr_fill4 aA cI cZ nA A_) → va_S A s.heap H locs → lv_has ls 5 [(0, .ref aA), (2, .int x2), (3, .int x3), (4, .int x4)] → W p l e rm_Arr_fill4 s m args below meth c H locs 0 0 Q (F0 m 10 ls []) := by
    intro K10 HK10 A_ x2 x3 x4 H locs ls h hP hD hS hl
    refine lv_iload hx hb d_Arr_fill4_10 (lv_at hl 3 rfl) ?_
    refine lv_iload_n hx hb d_Arr_fill4_12 rfl (lv_at hl 1 rfl) ?_
    refine lv_icmp_ge (tgt := 27) hx hb d_Arr_fill4_13 (by decide) (fun g13 => ?_) (fun g13 => ?_)
    · have h := h.1 g13
      exact RET A_ H locs ls 27 d_Arr_fill4_27 h hP hD hS
    · have h := h.2 g13
      refine lv_aload_n hx hb d_Arr_fill4_16 rfl (lv_at hl 0 rfl) ?_
      refine lv_iload hx hb d_Arr_fill4_17 (lv_at hl 3 rfl) ?_
      refine lv_iload_n hx hb d_Arr_fill4_19 rfl (lv_at hl 2 rfl) ?_
      obtain ⟨hi, h⟩ := h
      refine va_iast hx hb hK hP hD hS 0 0 rfl rfl hi d_Arr_fill4_20 (fun H locs hP hD hS => ?_)
      have hP : va_P (dC, dI) vwCl (wd_Arr_fill4 aA cI cZ nA (upd A_ x4.toNatClampNeg x3)) H := hP
      have hD : va_D A (wd_Arr_fill4 aA cI cZ nA (upd A_ x4.toNatClampNeg x3)) := hD
      obtain ⟨x4_21, ex4_21⟩ : ∃ y : Int32, y = (x4 + (1 : Int32)) := ⟨_, rfl⟩
      have h := h x4_21 ex4_21
      refine lv_iinc (v := x4_21) (lv' := [(4, .int x4_21), (0, .ref aA), (2, .int x2), (3, .int x3)]) hx hb d_Arr_fill4_21 hl (k := 3) rfl (by rw [ex4_21]; rfl) (by decide) rfl (fun ls hl => ?_)
      refine lv_goto (tgt := 10) hx hb d_Arr_fill4_24 (by decide) ?_
      exact HK10 (upd A_ x4.toNatClampNeg x3) x2 x3 x4_21 H locs ls h hP hD hS (lv_sub hl [1, 2, 3, 0] rfl)
  have L10 : ∀  (n : Nat), ∀ (A_ : Nat → Int32) (x2 : Int32) (x3 : Int32) (x4 : Int32) (H : Heap) (locs : List Loc) (ls : Array Slot), wp_Arr_fill4_L10 nA post  n A_ x2 x3 x4 → va_P (dC, dI) vwCl (wd_Arr_fill4 aA cI cZ nA A_) H → va_D A (wd_Arr_fill4 aA cI cZ nA A_) → va_S A s.heap H locs → lv_has ls 5 [(0, .ref aA), (2, .int x2), (3, .int x3), (4, .int x4)] → W p l e rm_Arr_fill4 s m args below meth c H locs 0 0 Q (F0 m 10 ls []) := by
    intro  n
    induction n with
    | zero => intro A_ x2 x3 x4 H locs ls h hP hD hS hl; exact False.elim h
    | succ n ih => intro A_ x2 x3 x4 H locs ls h hP hD hS hl; exact B10  (wp_Arr_fill4_L10 nA post  n) ih A_ x2 x3 x4 H locs ls h hP hD hS hl
  obtain ⟨H, hH⟩ : ∃ H : Heap, H = s.heap := ⟨_, rfl⟩
  obtain ⟨locs, hlo⟩ : ∃ x : List Loc, x = [] := ⟨_, rfl⟩
  have hS : va_S A s.heap H locs := by rw [hH, hlo]; exact hS
  rw [← hH] at hP
  rw [← hlo]
  show W p l e rm_Arr_fill4 s m args below meth c s.heap locs 0 0 Q (F0 m 0 ls [])
  rw [← hH]
  refine lv_aload_n hx hb d_Arr_fill4_0 rfl (lv_at hl 0 rfl) ?_
  refine va_alen hx hb hK hP 0 0 rfl rfl (v := (nI nA)) rfl d_Arr_fill4_1 ?_
  refine lv_iload_n hx hb d_Arr_fill4_2 rfl (lv_at hl 1 rfl) ?_
  refine lv_iload_n hx hb d_Arr_fill4_3 rfl (lv_at hl 2 rfl) ?_
  refine mt_v (va_runS (As := [.int (nI nA), .int p1, .int p2]) (rest := []) ⟨hx, hb, hml, hown, hts⟩ (ct_Arr_rangeCheck l dC dI  cI cZ (nI nA) p1 p2 _ h _) (tb_cS hts ok_Arr_rangeCheck tb_367 rfl rfl ⟨Nat.le_of_ble_eq_true rfl, Nat.le_of_ble_eq_true rfl⟩) (mt_preS hK hP hD [.int (nI nA), .int p1, .int p2] [] rfl (by decide)) rfl rfl hl.1 rfl (lv_room (Nat.le_of_ble_eq_true rfl)) d_Arr_fill4_4 ⟨Nat.zero_le _, Nat.zero_le _⟩) hP hD hS hA [] rfl (fun _ => rfl) (fun u H locs h hP hD hS => ?_)
  have hP : va_P (dC, dI) vwCl (wd_Arr_fill4 aA cI cZ nA A_) H := hP
  have hD : va_D A (wd_Arr_fill4 aA cI cZ nA A_) := hD
  refine lv_iload_n hx hb d_Arr_fill4_7 rfl (lv_at hl 1 rfl) ?_
  refine lv_istore (lv' := [(4, .int p1), (0, .ref aA), (1, .int p1), (2, .int p2), (3, .int p3)]) hx hb d_Arr_fill4_8 hl (by decide) rfl (fun ls hl => ?_)
  obtain ⟨n, h⟩ := h
  exact L10  n A_ p2 p3 p1 H locs ls h hP hD hS (lv_sub hl [1, 3, 4, 0] rfl)
abbrev wd_Wo_fillRepairs (aF aF_powers aF_logs aW aW_bytes aW_lost aW_factors : Nat) (cI cZ : ClassId) (F_powers : Nat → Int32) (F_logs : Nat → Int32) (W_lostCount : Int32) (W_data : Int32) (W_repairs : Int32) (W_first : Int32) (W_bytes : Nat → Int32) (W_factors : Nat → Int32) : va_W := [(aF, .inr (1, [.ref aF_powers, .ref aF_logs])), (aF_powers, .inl (cI, 512, .inl F_powers)), (aF_logs, .inl (cI, 256, .inl F_logs)), (aW, .inr (5, [.ref aF, .ref aW_bytes, .ref aW_lost, .ref aW_factors, .int W_lostCount, .int W_data, .int W_repairs, .int W_first])), (aW_bytes, .inl (cI, 240, .inl W_bytes)), (aW_factors, .inl (cI, 41, .inl W_factors))]
def wp_Wo_fillRepairs_b66 (F_powers : Nat → Int32) (F_logs : Nat → Int32) (W_data : Int32) (W_repairs : Int32) (W_factors : Nat → Int32) (post : (Nat → Int32) → Prop) (K38 : (Nat → Int32) → Int32 → Int32 → Prop) (K66 : (Nat → Int32) → Int32 → Int32 → Int32 → Int32 → Prop) (W_bytes : Nat → Int32) (x1 : Int32) (x2 : Int32) (x3 : Int32) (x4 : Int32) : Prop := (x1 ≤ x4 → (vp_in (0 : Int32) 41 ∧ (wp_Fi_product F_powers F_logs x3 (W_factors (0 : Int32).toNatClampNeg) (fun r_143 => (vp_in (W_data + x1) 240 ∧ (∀ x2_147 : Int32, x2_147 = (x2 + (1 : Int32)) → (K38 (upd W_bytes (W_data + x1).toNatClampNeg r_143) x1 x2_147))))))) ∧ (¬ x1 ≤ x4 → (vp_in ((W_data + x4) + (1 : Int32)) 240 ∧ (vp_in (x1 - x4) 41 ∧ (wp_Fi_product F_powers F_logs x3 (W_factors (x1 - x4).toNatClampNeg) (fun r_111 => (vp_in (W_data + x4) 240 ∧ (∀ x4_116 : Int32, x4_116 = (x4 + (1 : Int32)) → (K66 (upd W_bytes (W_data + x4).toNatClampNeg ((W_bytes ((W_data + x4) + (1 : Int32)).toNatClampNeg) ^^^ r_111)) x1 x2 x3 x4_116))))))))
def wp_Wo_fillRepairs_L66 (F_powers : Nat → Int32) (F_logs : Nat → Int32) (W_data : Int32) (W_repairs : Int32) (W_factors : Nat → Int32) (post : (Nat → Int32) → Prop) (K38 : (Nat → Int32) → Int32 → Int32 → Prop) : Nat → (Nat → Int32) → Int32 → Int32 → Int32 → Int32 → Prop
  | 0 => fun _ _ _ _ _ => False
  | n + 1 => wp_Wo_fillRepairs_b66 F_powers F_logs W_data W_repairs W_factors post K38 (wp_Wo_fillRepairs_L66 F_powers F_logs W_data W_repairs W_factors post K38 n)
def wp_Wo_fillRepairs_b38 (F_powers : Nat → Int32) (F_logs : Nat → Int32) (W_data : Int32) (W_repairs : Int32) (W_factors : Nat → Int32) (post : (Nat → Int32) → Prop) (K38 : (Nat → Int32) → Int32 → Int32 → Prop) (W_bytes : Nat → Int32) (x1 : Int32) (x2 : Int32) : Prop := (W_data ≤ x2 → (post W_bytes)) ∧ (¬ W_data ≤ x2 → (vp_in x2 240 ∧ (vp_in W_data 240 ∧ (∀ x3_62 : Int32, x3_62 = ((W_bytes x2.toNatClampNeg) ^^^ (W_bytes W_data.toNatClampNeg)) → (∃ n : Nat, wp_Wo_fillRepairs_L66 F_powers F_logs W_data W_repairs W_factors post K38 n W_bytes x1 x2 x3_62 (0 : Int32))))))
def wp_Wo_fillRepairs_L38 (F_powers : Nat → Int32) (F_logs : Nat → Int32) (W_data : Int32) (W_repairs : Int32) (W_factors : Nat → Int32) (post : (Nat → Int32) → Prop)  : Nat → (Nat → Int32) → Int32 → Int32 → Prop
  | 0 => fun _ _ _ => False
  | n + 1 => wp_Wo_fillRepairs_b38 F_powers F_logs W_data W_repairs W_factors post (wp_Wo_fillRepairs_L38 F_powers F_logs W_data W_repairs W_factors post n)
def wp_Wo_fillRepairs (F_powers : Nat → Int32) (F_logs : Nat → Int32) (W_data : Int32) (W_repairs : Int32) (W_bytes : Nat → Int32) (W_factors : Nat → Int32) (post : (Nat → Int32) → Prop) : Prop := (¬ W_repairs = 0 → (wp_Arr_fill4 240 W_bytes W_data (W_data + W_repairs) (0 : Int32) (fun W_bytes_26 => (∀ x1_35 : Int32, x1_35 = (W_repairs - (1 : Int32)) → (∃ n : Nat, wp_Wo_fillRepairs_L38 F_powers F_logs W_data W_repairs W_factors post  n W_bytes_26 x1_35 (0 : Int32)))))) ∧ (W_repairs = 0 → (post W_bytes))
abbrev rm_Wo_fillRepairs : Room := { frames := 2, cells := 0, slots := 0, locals := 46 }
set_option maxHeartbeats 4000000 in
set_option maxRecDepth 100000 in
theorem ct_Wo_fillRepairs (l : Launch) (dC : Nat → ClassId) (dI : Nat → Nat → Nat) (aF aF_powers aF_logs aW aW_bytes aW_lost aW_factors : Nat) (cI cZ : ClassId) (F_powers : Nat → Int32) (F_logs : Nat → Int32) (W_lostCount : Int32) (W_data : Int32) (W_repairs : Int32) (W_first : Int32) (W_bytes : Nat → Int32) (W_factors : Nat → Int32)  (post : (Nat → Int32) → Prop) (h : wp_Wo_fillRepairs F_powers F_logs W_data W_repairs W_bytes W_factors post) (sz : Nat) : Met l y_Wo_fillRepairs (Cond.code y_Wo_fillRepairs c_Wo_fillRepairs 5 none :: tb) rm_Wo_fillRepairs (mt_P (dC, dI) vwCl [(cI, .int), (cZ, .boolean)] [.ref aW] (wd_Wo_fillRepairs aF aF_powers aF_logs aW aW_bytes aW_lost aW_factors cI cZ F_powers F_logs W_lostCount W_data W_repairs W_first W_bytes W_factors) sz) (va_Qv (fun (u : (Nat → Int32)) => post u) (mt_B (dC, dI) vwCl [(cI, .int), (cZ, .boolean)] (wd_Wo_fillRepairs aF aF_powers aF_logs aW aW_bytes aW_lost aW_factors cI cZ F_powers F_logs W_lostCount W_data W_repairs W_first W_bytes W_factors) sz (fun u : (Nat → Int32) => wd_Wo_fillRepairs aF aF_powers aF_logs aW aW_bytes aW_lost aW_factors cI cZ F_powers F_logs W_lostCount W_data W_repairs W_first u W_factors)) (va_A (wd_Wo_fillRepairs aF aF_powers aF_logs aW aW_bytes aW_lost aW_factors cI cZ F_powers F_logs W_lostCount W_data W_repairs W_first W_bytes W_factors) sz)) 0 0 (va_A (wd_Wo_fillRepairs aF aF_powers aF_logs aW aW_bytes aW_lost aW_factors cI cZ F_powers F_logs W_lostCount W_data W_repairs W_first W_bytes W_factors) sz) := by
  refine mt_bd (by decide +kernel) (Nat.le_of_ble_eq_true rfl) ?_
  intro p e s m args below meth c hx hb hml hown hts hr hlk hnm hsz hP hK hD hA hS ls hl
  subst hsz
  have hown : s.vm.findClass "ReedSets$Word" = some m.cls := hown
  have hl : lv_has ls 5 [(0, .ref aW)] := hl
  refine lz_Q (fun Q hQ => ?_)
  obtain ⟨A, hAe⟩ : ∃ A : Nat → Prop, A = va_A (wd_Wo_fillRepairs aF aF_powers aF_logs aW aW_bytes aW_lost aW_factors cI cZ F_powers F_logs W_lostCount W_data W_repairs W_first W_bytes W_factors) s.heap.size := ⟨_, rfl⟩
  rw [← hAe] at hD hA hS
  have RET : ∀ (W_bytes : Nat → Int32) (H : Heap) (locs : List Loc) (ls : Array Slot) (pc : Nat), decode c_Wo_fillRepairs pc = .ok (.return_, 1) → post W_bytes → va_P (dC, dI) vwCl (wd_Wo_fillRepairs aF aF_powers aF_logs aW aW_bytes aW_lost aW_factors cI cZ F_powers F_logs W_lostCount W_data W_repairs W_first W_bytes W_factors) H → va_D A (wd_Wo_fillRepairs aF aF_powers aF_logs aW aW_bytes aW_lost aW_factors cI cZ F_powers F_logs W_lostCount W_data W_repairs W_first W_bytes W_factors) → va_S A s.heap H locs → W p l e rm_Wo_fillRepairs s m args below meth c H locs 0 0 Q (F0 m pc ls []) := by
    intro W_bytes H locs ls pc hd hp h1 h2 h3
    rw [hQ]
    rw [hAe] at h2 h3
    exact mt_retv (W_bytes) hx hb hr hlk hd hK h1 h2 h3 hp
  have B66 : ∀ (K38 : (Nat → Int32) → Int32 → Int32 → Prop) (HK38 : ∀ (W_bytes : Nat → Int32) (x1 : Int32) (x2 : Int32) (H : Heap) (locs : List Loc) (ls : Array Slot), K38 W_bytes x1 x2 → va_P (dC, dI) vwCl (wd_Wo_fillRepairs aF aF_powers aF_logs aW aW_bytes aW_lost aW_factors cI cZ F_powers F_logs W_lostCount W_data W_repairs W_first W_bytes W_factors) H → va_D A (wd_Wo_fillRepairs aF aF_powers aF_logs aW aW_bytes aW_lost aW_factors cI cZ F_powers F_logs W_lostCount W_data W_repairs W_first W_bytes W_factors) → va_S A s.heap H locs → lv_has ls 5 [(0, .ref aW), (1, .int x1), (2, .int x2)] → W p l e rm_Wo_fillRepairs s m args below meth c H locs 0 0 Q (F0 m 38 ls [])) (K66 : (Nat → Int32) → Int32 → Int32 → Int32 → Int32 → Prop) (HK66 : ∀ (W_bytes : Nat → Int32) (x1 : Int32) (x2 : Int32) (x3 : Int32) (x4 : Int32) (H : Heap) (locs : List Loc) (ls : Array Slot), K66 W_bytes x1 x2 x3 x4 → va_P (dC, dI) vwCl (wd_Wo_fillRepairs aF aF_powers aF_logs aW aW_bytes aW_lost aW_factors cI cZ F_powers F_logs W_lostCount W_data W_repairs W_first W_bytes W_factors) H → va_D A (wd_Wo_fillRepairs aF aF_powers aF_logs aW aW_bytes aW_lost aW_factors cI cZ F_powers F_logs W_lostCount W_data W_repairs W_first W_bytes W_factors) → va_S A s.heap H locs → lv_has ls 5 [(0, .ref aW), (1, .int x1), (2, .int x2), (3, .int x3), (4, .int x4)] → W p l e rm_Wo_fillRepairs s m args below meth c H locs 0 0 Q (F0 m 66 ls [])), ∀ (W_bytes : Nat → Int32) (x1 : Int32) (x2 : Int32) (x3 : Int32) (x4 : Int32) (H : Heap) (locs : List Loc) (ls : Array Slot), wp_Wo_fillRepairs_b66 F_powers F_logs W_data W_repairs W_factors post K38 K66 W_bytes x1 x2 x3 x4 → va_P (dC, dI) vwCl (wd_Wo_fillRepairs aF aF_powers aF_logs aW aW_bytes aW_lost aW_factors cI cZ F_powers F_logs W_lostCount W_data W_repairs W_first W_bytes W_factors) H → va_D A (wd_Wo_fillRepairs aF aF_powers aF_logs aW aW_bytes aW_lost aW_factors cI cZ F_powers F_logs W_lostCount W_data W_repairs W_first W_bytes W_factors) → va_S A s.heap H locs → lv_has ls 5 [(0, .ref aW), (1, .int x1), (2, .int x2), (3, .int x3), (4, .int x4)] → W p l e rm_Wo_fillRepairs s m args below meth c H locs 0 0 Q (F0 m 66 ls []) := by
    intro K38 HK38 K66 HK66 W_bytes x1 x2 x3 x4 H locs ls h hP hD hS hl
    refine lv_iload hx hb d_Wo_fillRepairs_66 (lv_at hl 4 rfl) ?_
    refine lv_iload_n hx hb d_Wo_fillRepairs_68 rfl (lv_at hl 1 rfl) ?_
    refine lv_icmp_ge (tgt := 122) hx hb d_Wo_fillRepairs_69 (by decide) (fun g69 => ?_) (fun g69 => ?_)
    · have h := h.1 g69
      refine lv_aload_n hx hb d_Wo_fillRepairs_122 rfl (lv_at hl 0 rfl) ?_
      refine va_get (D := (dC, dI)) (ci := 5) (v := .ref aW_bytes) (C := "ReedSets$Word") (T := T_Wo) (N := 8) hx hb hts in_Wo hown hK hP 3 rfl rfl 1 (by decide) (hts _ tb_103) (fun _ h9 => h9) rfl d_Wo_fillRepairs_123 ?_
      refine lv_aload_n hx hb d_Wo_fillRepairs_126 rfl (lv_at hl 0 rfl) ?_
      refine va_get (D := (dC, dI)) (ci := 5) (v := .int W_data) (C := "ReedSets$Word") (T := T_Wo) (N := 8) hx hb hts in_Wo hown hK hP 3 rfl rfl 5 (by decide) (hts _ tb_115) (fun _ h9 => h9) rfl d_Wo_fillRepairs_127 ?_
      refine lv_iload_n hx hb d_Wo_fillRepairs_130 rfl (lv_at hl 1 rfl) ?_
      refine lv_iadd hx hb d_Wo_fillRepairs_131 ?_
      refine lv_aload_n hx hb d_Wo_fillRepairs_132 rfl (lv_at hl 0 rfl) ?_
      refine va_get (D := (dC, dI)) (ci := 5) (v := .ref aF) (C := "ReedSets$Word") (T := T_Wo) (N := 8) hx hb hts in_Wo hown hK hP 3 rfl rfl 0 (by decide) (hts _ tb_102) (fun _ h9 => h9) rfl d_Wo_fillRepairs_133 ?_
      refine lv_iload_n hx hb d_Wo_fillRepairs_136 rfl (lv_at hl 3 rfl) ?_
      refine lv_aload_n hx hb d_Wo_fillRepairs_137 rfl (lv_at hl 0 rfl) ?_
      refine va_get (D := (dC, dI)) (ci := 5) (v := .ref aW_factors) (C := "ReedSets$Word") (T := T_Wo) (N := 8) hx hb hts in_Wo hown hK hP 3 rfl rfl 3 (by decide) (hts _ tb_110) (fun _ h9 => h9) rfl d_Wo_fillRepairs_138 ?_
      refine lv_iconst (v := (0 : Int32)) hx hb d_Wo_fillRepairs_141 (by decide) ?_
      obtain ⟨hi, h⟩ := h
      refine va_iald hx hb hK hP 5 0 rfl rfl hi d_Wo_fillRepairs_142 ?_
      refine mt_i (va_runV (As := [.int x3, .int (W_factors (0 : Int32).toNatClampNeg)]) (rest := [.int (W_data + x1), .ref aW_bytes]) ⟨hx, hb, hml, hown, hts⟩ (ct_Fi_product l dC dI aF aF_powers aF_logs cI cZ F_powers F_logs x3 (W_factors (0 : Int32).toNatClampNeg) _ h _) (tb_cV hts ok_Fi_product tb_98 rfl rfl ⟨Nat.le_of_ble_eq_true rfl, Nat.le_of_ble_eq_true rfl⟩) (mt_preV hK hP hD [.int x3, .int (W_factors (0 : Int32).toNatClampNeg)] [0, 1, 2] rfl (by decide) (ci := 1) (q0 := 0) rfl rfl) rfl rfl hl.1 rfl (lv_room (Nat.le_of_ble_eq_true rfl)) d_Wo_fillRepairs_143 ⟨Nat.zero_le _, Nat.zero_le _⟩) hP hD hS hA [0, 1, 2] rfl (fun _ => rfl) (fun r_143 u H locs h hP hD hS => ?_)
      have hP : va_P (dC, dI) vwCl (wd_Wo_fillRepairs aF aF_powers aF_logs aW aW_bytes aW_lost aW_factors cI cZ F_powers F_logs W_lostCount W_data W_repairs W_first W_bytes W_factors) H := hP
      have hD : va_D A (wd_Wo_fillRepairs aF aF_powers aF_logs aW aW_bytes aW_lost aW_factors cI cZ F_powers F_logs W_lostCount W_data W_repairs W_first W_bytes W_factors) := hD
      obtain ⟨hi, h⟩ := h
      refine va_iast hx hb hK hP hD hS 4 0 rfl rfl hi d_Wo_fillRepairs_146 (fun H locs hP hD hS => ?_)
      have hP : va_P (dC, dI) vwCl (wd_Wo_fillRepairs aF aF_powers aF_logs aW aW_bytes aW_lost aW_factors cI cZ F_powers F_logs W_lostCount W_data W_repairs W_first (upd W_bytes (W_data + x1).toNatClampNeg r_143) W_factors) H := hP
      have hD : va_D A (wd_Wo_fillRepairs aF aF_powers aF_logs aW aW_bytes aW_lost aW_factors cI cZ F_powers F_logs W_lostCount W_data W_repairs W_first (upd W_bytes (W_data + x1).toNatClampNeg r_143) W_factors) := hD
      obtain ⟨x2_147, ex2_147⟩ : ∃ y : Int32, y = (x2 + (1 : Int32)) := ⟨_, rfl⟩
      have h := h x2_147 ex2_147
      refine lv_iinc (v := x2_147) (lv' := [(2, .int x2_147), (0, .ref aW), (1, .int x1), (3, .int x3), (4, .int x4)]) hx hb d_Wo_fillRepairs_147 hl (k := 2) rfl (by rw [ex2_147]; rfl) (by decide) rfl (fun ls hl => ?_)
      refine lv_goto (tgt := 38) hx hb d_Wo_fillRepairs_150 (by decide) ?_
      exact HK38 (upd W_bytes (W_data + x1).toNatClampNeg r_143) x1 x2_147 H locs ls h hP hD hS (lv_sub hl [1, 2, 0] rfl)
    · have h := h.2 g69
      refine lv_aload_n hx hb d_Wo_fillRepairs_72 rfl (lv_at hl 0 rfl) ?_
      refine va_get (D := (dC, dI)) (ci := 5) (v := .ref aW_bytes) (C := "ReedSets$Word") (T := T_Wo) (N := 8) hx hb hts in_Wo hown hK hP 3 rfl rfl 1 (by decide) (hts _ tb_103) (fun _ h9 => h9) rfl d_Wo_fillRepairs_73 ?_
      refine lv_aload_n hx hb d_Wo_fillRepairs_76 rfl (lv_at hl 0 rfl) ?_
      refine va_get (D := (dC, dI)) (ci := 5) (v := .int W_data) (C := "ReedSets$Word") (T := T_Wo) (N := 8) hx hb hts in_Wo hown hK hP 3 rfl rfl 5 (by decide) (hts _ tb_115) (fun _ h9 => h9) rfl d_Wo_fillRepairs_77 ?_
      refine lv_iload hx hb d_Wo_fillRepairs_80 (lv_at hl 4 rfl) ?_
      refine lv_iadd hx hb d_Wo_fillRepairs_82 ?_
      refine lv_aload_n hx hb d_Wo_fillRepairs_83 rfl (lv_at hl 0 rfl) ?_
      refine va_get (D := (dC, dI)) (ci := 5) (v := .ref aW_bytes) (C := "ReedSets$Word") (T := T_Wo) (N := 8) hx hb hts in_Wo hown hK hP 3 rfl rfl 1 (by decide) (hts _ tb_103) (fun _ h9 => h9) rfl d_Wo_fillRepairs_84 ?_
      refine lv_aload_n hx hb d_Wo_fillRepairs_87 rfl (lv_at hl 0 rfl) ?_
      refine va_get (D := (dC, dI)) (ci := 5) (v := .int W_data) (C := "ReedSets$Word") (T := T_Wo) (N := 8) hx hb hts in_Wo hown hK hP 3 rfl rfl 5 (by decide) (hts _ tb_115) (fun _ h9 => h9) rfl d_Wo_fillRepairs_88 ?_
      refine lv_iload hx hb d_Wo_fillRepairs_91 (lv_at hl 4 rfl) ?_
      refine lv_iadd hx hb d_Wo_fillRepairs_93 ?_
      refine lv_iconst (v := (1 : Int32)) hx hb d_Wo_fillRepairs_94 (by decide) ?_
      refine lv_iadd hx hb d_Wo_fillRepairs_95 ?_
      obtain ⟨hi, h⟩ := h
      refine va_iald hx hb hK hP 4 0 rfl rfl hi d_Wo_fillRepairs_96 ?_
      refine lv_aload_n hx hb d_Wo_fillRepairs_97 rfl (lv_at hl 0 rfl) ?_
      refine va_get (D := (dC, dI)) (ci := 5) (v := .ref aF) (C := "ReedSets$Word") (T := T_Wo) (N := 8) hx hb hts in_Wo hown hK hP 3 rfl rfl 0 (by decide) (hts _ tb_102) (fun _ h9 => h9) rfl d_Wo_fillRepairs_98 ?_
      refine lv_iload_n hx hb d_Wo_fillRepairs_101 rfl (lv_at hl 3 rfl) ?_
      refine lv_aload_n hx hb d_Wo_fillRepairs_102 rfl (lv_at hl 0 rfl) ?_
      refine va_get (D := (dC, dI)) (ci := 5) (v := .ref aW_factors) (C := "ReedSets$Word") (T := T_Wo) (N := 8) hx hb hts in_Wo hown hK hP 3 rfl rfl 3 (by decide) (hts _ tb_110) (fun _ h9 => h9) rfl d_Wo_fillRepairs_103 ?_
      refine lv_iload_n hx hb d_Wo_fillRepairs_106 rfl (lv_at hl 1 rfl) ?_
      refine lv_iload hx hb d_Wo_fillRepairs_107 (lv_at hl 4 rfl) ?_
      refine lv_isub hx hb d_Wo_fillRepairs_109 ?_
      obtain ⟨hi, h⟩ := h
      refine va_iald hx hb hK hP 5 0 rfl rfl hi d_Wo_fillRepairs_110 ?_
      refine mt_i (va_runV (As := [.int x3, .int (W_factors (x1 - x4).toNatClampNeg)]) (rest := [.int (W_bytes ((W_data + x4) + (1 : Int32)).toNatClampNeg), .int (W_data + x4), .ref aW_bytes]) ⟨hx, hb, hml, hown, hts⟩ (ct_Fi_product l dC dI aF aF_powers aF_logs cI cZ F_powers F_logs x3 (W_factors (x1 - x4).toNatClampNeg) _ h _) (tb_cV hts ok_Fi_product tb_98 rfl rfl ⟨Nat.le_of_ble_eq_true rfl, Nat.le_of_ble_eq_true rfl⟩) (mt_preV hK hP hD [.int x3, .int (W_factors (x1 - x4).toNatClampNeg)] [0, 1, 2] rfl (by decide) (ci := 1) (q0 := 0) rfl rfl) rfl rfl hl.1 rfl (lv_room (Nat.le_of_ble_eq_true rfl)) d_Wo_fillRepairs_111 ⟨Nat.zero_le _, Nat.zero_le _⟩) hP hD hS hA [0, 1, 2] rfl (fun _ => rfl) (fun r_111 u H locs h hP hD hS => ?_)
      have hP : va_P (dC, dI) vwCl (wd_Wo_fillRepairs aF aF_powers aF_logs aW aW_bytes aW_lost aW_factors cI cZ F_powers F_logs W_lostCount W_data W_repairs W_first W_bytes W_factors) H := hP
      have hD : va_D A (wd_Wo_fillRepairs aF aF_powers aF_logs aW aW_bytes aW_lost aW_factors cI cZ F_powers F_logs W_lostCount W_data W_repairs W_first W_bytes W_factors) := hD
      refine lv_ixor hx hb d_Wo_fillRepairs_114 ?_
      obtain ⟨hi, h⟩ := h
      refine va_iast hx hb hK hP hD hS 4 0 rfl rfl hi d_Wo_fillRepairs_115 (fun H locs hP hD hS => ?_)
      have hP : va_P (dC, dI) vwCl (wd_Wo_fillRepairs aF aF_powers aF_logs aW aW_bytes aW_lost aW_factors cI cZ F_powers F_logs W_lostCount W_data W_repairs W_first (upd W_bytes (W_data + x4).toNatClampNeg ((W_bytes ((W_data + x4) + (1 : Int32)).toNatClampNeg) ^^^ r_111)) W_factors) H := hP
      have hD : va_D A (wd_Wo_fillRepairs aF aF_powers aF_logs aW aW_bytes aW_lost aW_factors cI cZ F_powers F_logs W_lostCount W_data W_repairs W_first (upd W_bytes (W_data + x4).toNatClampNeg ((W_bytes ((W_data + x4) + (1 : Int32)).toNatClampNeg) ^^^ r_111)) W_factors) := hD
      obtain ⟨x4_116, ex4_116⟩ : ∃ y : Int32, y = (x4 + (1 : Int32)) := ⟨_, rfl⟩
      have h := h x4_116 ex4_116
      refine lv_iinc (v := x4_116) (lv' := [(4, .int x4_116), (0, .ref aW), (1, .int x1), (2, .int x2), (3, .int x3)]) hx hb d_Wo_fillRepairs_116 hl (k := 4) rfl (by rw [ex4_116]; rfl) (by decide) rfl (fun ls hl => ?_)
      refine lv_goto (tgt := 66) hx hb d_Wo_fillRepairs_119 (by decide) ?_
      exact HK66 (upd W_bytes (W_data + x4).toNatClampNeg ((W_bytes ((W_data + x4) + (1 : Int32)).toNatClampNeg) ^^^ r_111)) x1 x2 x3 x4_116 H locs ls h hP hD hS (lv_sub hl [1, 2, 3, 4, 0] rfl)
  have L66 : ∀ (K38 : (Nat → Int32) → Int32 → Int32 → Prop) (HK38 : ∀ (W_bytes : Nat → Int32) (x1 : Int32) (x2 : Int32) (H : Heap) (locs : List Loc) (ls : Array Slot), K38 W_bytes x1 x2 → va_P (dC, dI) vwCl (wd_Wo_fillRepairs aF aF_powers aF_logs aW aW_bytes aW_lost aW_factors cI cZ F_powers F_logs W_lostCount W_data W_repairs W_first W_bytes W_factors) H → va_D A (wd_Wo_fillRepairs aF aF_powers aF_logs aW aW_bytes aW_lost aW_factors cI cZ F_powers F_logs W_lostCount W_data W_repairs W_first W_bytes W_factors) → va_S A s.heap H locs → lv_has ls 5 [(0, .ref aW), (1, .int x1), (2, .int x2)] → W p l e rm_Wo_fillRepairs s m args below meth c H locs 0 0 Q (F0 m 38 ls [])) (n : Nat), ∀ (W_bytes : Nat → Int32) (x1 : Int32) (x2 : Int32) (x3 : Int32) (x4 : Int32) (H : Heap) (locs : List Loc) (ls : Array Slot), wp_Wo_fillRepairs_L66 F_powers F_logs W_data W_repairs W_factors post K38 n W_bytes x1 x2 x3 x4 → va_P (dC, dI) vwCl (wd_Wo_fillRepairs aF aF_powers aF_logs aW aW_bytes aW_lost aW_factors cI cZ F_powers F_logs W_lostCount W_data W_repairs W_first W_bytes W_factors) H → va_D A (wd_Wo_fillRepairs aF aF_powers aF_logs aW aW_bytes aW_lost aW_factors cI cZ F_powers F_logs W_lostCount W_data W_repairs W_first W_bytes W_factors) → va_S A s.heap H locs → lv_has ls 5 [(0, .ref aW), (1, .int x1), (2, .int x2), (3, .int x3), (4, .int x4)] → W p l e rm_Wo_fillRepairs s m args below meth c H locs 0 0 Q (F0 m 66 ls []) := by
    intro K38 HK38 n
    induction n with
    | zero => intro W_bytes x1 x2 x3 x4 H locs ls h hP hD hS hl; exact False.elim h
    | succ n ih => intro W_bytes x1 x2 x3 x4 H locs ls h hP hD hS hl; exact B66 K38 HK38 (wp_Wo_fillRepairs_L66 F_powers F_logs W_data W_repairs W_factors post K38 n) ih W_bytes x1 x2 x3 x4 H locs ls h hP hD hS hl
  have B38 : ∀ (K38 : (Nat → Int32) → Int32 → Int32 → Prop) (HK38 : ∀ (W_bytes : Nat → Int32) (x1 : Int32) (x2 : Int32) (H : Heap) (locs : List Loc) (ls : Array Slot), K38 W_bytes x1 x2 → va_P (dC, dI) vwCl (wd_Wo_fillRepairs aF aF_powers aF_logs aW aW_bytes aW_lost aW_factors cI cZ F_powers F_logs W_lostCount W_data W_repairs W_first W_bytes W_factors) H → va_D A (wd_Wo_fillRepairs aF aF_powers aF_logs aW aW_bytes aW_lost aW_factors cI cZ F_powers F_logs W_lostCount W_data W_repairs W_first W_bytes W_factors) → va_S A s.heap H locs → lv_has ls 5 [(0, .ref aW), (1, .int x1), (2, .int x2)] → W p l e rm_Wo_fillRepairs s m args below meth c H locs 0 0 Q (F0 m 38 ls [])), ∀ (W_bytes : Nat → Int32) (x1 : Int32) (x2 : Int32) (H : Heap) (locs : List Loc) (ls : Array Slot), wp_Wo_fillRepairs_b38 F_powers F_logs W_data W_repairs W_factors post K38 W_bytes x1 x2 → va_P (dC, dI) vwCl (wd_Wo_fillRepairs aF aF_powers aF_logs aW aW_bytes aW_lost aW_factors cI cZ F_powers F_logs W_lostCount W_data W_repairs W_first W_bytes W_factors) H → va_D A (wd_Wo_fillRepairs aF aF_powers aF_logs aW aW_bytes aW_lost aW_factors cI cZ F_powers F_logs W_lostCount W_data W_repairs W_first W_bytes W_factors) → va_S A s.heap H locs → lv_has ls 5 [(0, .ref aW), (1, .int x1), (2, .int x2)] → W p l e rm_Wo_fillRepairs s m args below meth c H locs 0 0 Q (F0 m 38 ls []) := by
    intro K38 HK38 W_bytes x1 x2 H locs ls h hP hD hS hl
    refine lv_iload_n hx hb d_Wo_fillRepairs_38 rfl (lv_at hl 2 rfl) ?_
    refine lv_aload_n hx hb d_Wo_fillRepairs_39 rfl (lv_at hl 0 rfl) ?_
    refine va_get (D := (dC, dI)) (ci := 5) (v := .int W_data) (C := "ReedSets$Word") (T := T_Wo) (N := 8) hx hb hts in_Wo hown hK hP 3 rfl rfl 5 (by decide) (hts _ tb_115) (fun _ h9 => h9) rfl d_Wo_fillRepairs_40 ?_
    refine lv_icmp_ge (tgt := 153) hx hb d_Wo_fillRepairs_43 (by decide) (fun g43 => ?_) (fun g43 => ?_)
    · have h := h.1 g43
      exact RET W_bytes H locs ls 153 d_Wo_fillRepairs_153 h hP hD hS
    · have h := h.2 g43
      refine lv_aload_n hx hb d_Wo_fillRepairs_46 rfl (lv_at hl 0 rfl) ?_
      refine va_get (D := (dC, dI)) (ci := 5) (v := .ref aW_bytes) (C := "ReedSets$Word") (T := T_Wo) (N := 8) hx hb hts in_Wo hown hK hP 3 rfl rfl 1 (by decide) (hts _ tb_103) (fun _ h9 => h9) rfl d_Wo_fillRepairs_47 ?_
      refine lv_iload_n hx hb d_Wo_fillRepairs_50 rfl (lv_at hl 2 rfl) ?_
      obtain ⟨hi, h⟩ := h
      refine va_iald hx hb hK hP 4 0 rfl rfl hi d_Wo_fillRepairs_51 ?_
      refine lv_aload_n hx hb d_Wo_fillRepairs_52 rfl (lv_at hl 0 rfl) ?_
      refine va_get (D := (dC, dI)) (ci := 5) (v := .ref aW_bytes) (C := "ReedSets$Word") (T := T_Wo) (N := 8) hx hb hts in_Wo hown hK hP 3 rfl rfl 1 (by decide) (hts _ tb_103) (fun _ h9 => h9) rfl d_Wo_fillRepairs_53 ?_
      refine lv_aload_n hx hb d_Wo_fillRepairs_56 rfl (lv_at hl 0 rfl) ?_
      refine va_get (D := (dC, dI)) (ci := 5) (v := .int W_data) (C := "ReedSets$Word") (T := T_Wo) (N := 8) hx hb hts in_Wo hown hK hP 3 rfl rfl 5 (by decide) (hts _ tb_115) (fun _ h9 => h9) rfl d_Wo_fillRepairs_57 ?_
      obtain ⟨hi, h⟩ := h
      refine va_iald hx hb hK hP 4 0 rfl rfl hi d_Wo_fillRepairs_60 ?_
      refine lv_ixor hx hb d_Wo_fillRepairs_61 ?_
      refine lv_topi (fun x3_62 ex3_62 => ?_)
      have h := h x3_62 ex3_62
      refine lv_istore_n (lv' := [(3, .int x3_62), (0, .ref aW), (1, .int x1), (2, .int x2)]) hx hb d_Wo_fillRepairs_62 rfl hl (by decide) rfl (fun ls hl => ?_)
      refine lv_iconst (v := (0 : Int32)) hx hb d_Wo_fillRepairs_63 (by decide) ?_
      refine lv_istore (lv' := [(4, .int (0 : Int32)), (3, .int x3_62), (0, .ref aW), (1, .int x1), (2, .int x2)]) hx hb d_Wo_fillRepairs_64 hl (by decide) rfl (fun ls hl => ?_)
      obtain ⟨n, h⟩ := h
      exact L66 K38 HK38 n W_bytes x1 x2 x3_62 (0 : Int32) H locs ls h hP hD hS (lv_sub hl [2, 3, 4, 1, 0] rfl)
  have L38 : ∀  (n : Nat), ∀ (W_bytes : Nat → Int32) (x1 : Int32) (x2 : Int32) (H : Heap) (locs : List Loc) (ls : Array Slot), wp_Wo_fillRepairs_L38 F_powers F_logs W_data W_repairs W_factors post  n W_bytes x1 x2 → va_P (dC, dI) vwCl (wd_Wo_fillRepairs aF aF_powers aF_logs aW aW_bytes aW_lost aW_factors cI cZ F_powers F_logs W_lostCount W_data W_repairs W_first W_bytes W_factors) H → va_D A (wd_Wo_fillRepairs aF aF_powers aF_logs aW aW_bytes aW_lost aW_factors cI cZ F_powers F_logs W_lostCount W_data W_repairs W_first W_bytes W_factors) → va_S A s.heap H locs → lv_has ls 5 [(0, .ref aW), (1, .int x1), (2, .int x2)] → W p l e rm_Wo_fillRepairs s m args below meth c H locs 0 0 Q (F0 m 38 ls []) := by
    intro  n
    induction n with
    | zero => intro W_bytes x1 x2 H locs ls h hP hD hS hl; exact False.elim h
    | succ n ih => intro W_bytes x1 x2 H locs ls h hP hD hS hl; exact B38  (wp_Wo_fillRepairs_L38 F_powers F_logs W_data W_repairs W_factors post  n) ih W_bytes x1 x2 H locs ls h hP hD hS hl
  obtain ⟨H, hH⟩ : ∃ H : Heap, H = s.heap := ⟨_, rfl⟩
  obtain ⟨locs, hlo⟩ : ∃ x : List Loc, x = [] := ⟨_, rfl⟩
  have hS : va_S A s.heap H locs := by rw [hH, hlo]; exact hS
  rw [← hH] at hP
  rw [← hlo]
  show W p l e rm_Wo_fillRepairs s m args below meth c s.heap locs 0 0 Q (F0 m 0 ls [])
  rw [← hH]
  refine lv_aload_n hx hb d_Wo_fillRepairs_0 rfl (lv_at hl 0 rfl) ?_
  refine va_get (D := (dC, dI)) (ci := 5) (v := .int W_repairs) (C := "ReedSets$Word") (T := T_Wo) (N := 8) hx hb hts in_Wo hown hK hP 3 rfl rfl 6 (by decide) (hts _ tb_117) (fun _ h9 => h9) rfl d_Wo_fillRepairs_1 ?_
  refine lv_if_ne (tgt := 8) hx hb d_Wo_fillRepairs_4 (by decide) (fun g4 => ?_) (fun g4 => ?_)
  · have h := h.1 g4
    refine lv_aload_n hx hb d_Wo_fillRepairs_8 rfl (lv_at hl 0 rfl) ?_
    refine va_get (D := (dC, dI)) (ci := 5) (v := .ref aW_bytes) (C := "ReedSets$Word") (T := T_Wo) (N := 8) hx hb hts in_Wo hown hK hP 3 rfl rfl 1 (by decide) (hts _ tb_103) (fun _ h9 => h9) rfl d_Wo_fillRepairs_9 ?_
    refine lv_aload_n hx hb d_Wo_fillRepairs_12 rfl (lv_at hl 0 rfl) ?_
    refine va_get (D := (dC, dI)) (ci := 5) (v := .int W_data) (C := "ReedSets$Word") (T := T_Wo) (N := 8) hx hb hts in_Wo hown hK hP 3 rfl rfl 5 (by decide) (hts _ tb_115) (fun _ h9 => h9) rfl d_Wo_fillRepairs_13 ?_
    refine lv_aload_n hx hb d_Wo_fillRepairs_16 rfl (lv_at hl 0 rfl) ?_
    refine va_get (D := (dC, dI)) (ci := 5) (v := .int W_data) (C := "ReedSets$Word") (T := T_Wo) (N := 8) hx hb hts in_Wo hown hK hP 3 rfl rfl 5 (by decide) (hts _ tb_115) (fun _ h9 => h9) rfl d_Wo_fillRepairs_17 ?_
    refine lv_aload_n hx hb d_Wo_fillRepairs_20 rfl (lv_at hl 0 rfl) ?_
    refine va_get (D := (dC, dI)) (ci := 5) (v := .int W_repairs) (C := "ReedSets$Word") (T := T_Wo) (N := 8) hx hb hts in_Wo hown hK hP 3 rfl rfl 6 (by decide) (hts _ tb_117) (fun _ h9 => h9) rfl d_Wo_fillRepairs_21 ?_
    refine lv_iadd hx hb d_Wo_fillRepairs_24 ?_
    refine lv_iconst (v := (0 : Int32)) hx hb d_Wo_fillRepairs_25 (by decide) ?_
    refine mt_v (va_runS (As := [.ref aW_bytes, .int W_data, .int (W_data + W_repairs), .int (0 : Int32)]) (rest := []) ⟨hx, hb, hml, hown, hts⟩ (ct_Arr_fill4 l dC dI aW_bytes cI cZ 240 W_bytes W_data (W_data + W_repairs) (0 : Int32) _ h _) (tb_cS hts ok_Arr_fill4 tb_364 rfl rfl ⟨Nat.le_of_ble_eq_true rfl, Nat.le_of_ble_eq_true rfl⟩) (mt_preS hK hP hD [.ref aW_bytes, .int W_data, .int (W_data + W_repairs), .int (0 : Int32)] [4] rfl (by decide)) rfl rfl hl.1 rfl (lv_room (Nat.le_of_ble_eq_true rfl)) d_Wo_fillRepairs_26 ⟨Nat.zero_le _, Nat.zero_le _⟩) hP hD hS hA [4] rfl (fun _ => rfl) (fun u H locs h hP hD hS => ?_)
    obtain ⟨W_bytes_26, rfl⟩ : ∃ z, z = u := ⟨_, rfl⟩
    have hP : va_P (dC, dI) vwCl (wd_Wo_fillRepairs aF aF_powers aF_logs aW aW_bytes aW_lost aW_factors cI cZ F_powers F_logs W_lostCount W_data W_repairs W_first W_bytes_26 W_factors) H := hP
    have hD : va_D A (wd_Wo_fillRepairs aF aF_powers aF_logs aW aW_bytes aW_lost aW_factors cI cZ F_powers F_logs W_lostCount W_data W_repairs W_first W_bytes_26 W_factors) := hD
    refine lv_aload_n hx hb d_Wo_fillRepairs_29 rfl (lv_at hl 0 rfl) ?_
    refine va_get (D := (dC, dI)) (ci := 5) (v := .int W_repairs) (C := "ReedSets$Word") (T := T_Wo) (N := 8) hx hb hts in_Wo hown hK hP 3 rfl rfl 6 (by decide) (hts _ tb_117) (fun _ h9 => h9) rfl d_Wo_fillRepairs_30 ?_
    refine lv_iconst (v := (1 : Int32)) hx hb d_Wo_fillRepairs_33 (by decide) ?_
    refine lv_isub hx hb d_Wo_fillRepairs_34 ?_
    refine lv_topi (fun x1_35 ex1_35 => ?_)
    have h := h x1_35 ex1_35
    refine lv_istore_n (lv' := [(1, .int x1_35), (0, .ref aW)]) hx hb d_Wo_fillRepairs_35 rfl hl (by decide) rfl (fun ls hl => ?_)
    refine lv_iconst (v := (0 : Int32)) hx hb d_Wo_fillRepairs_36 (by decide) ?_
    refine lv_istore_n (lv' := [(2, .int (0 : Int32)), (1, .int x1_35), (0, .ref aW)]) hx hb d_Wo_fillRepairs_37 rfl hl (by decide) rfl (fun ls hl => ?_)
    obtain ⟨n, h⟩ := h
    exact L38  n W_bytes_26 x1_35 (0 : Int32) H locs ls h hP hD hS (lv_sub hl [2, 1, 0] rfl)
  · have h := h.2 g4
    exact RET W_bytes H locs ls 7 d_Wo_fillRepairs_7 h hP hD hS
abbrev wd_Wo_valueFor (aF aF_powers aF_logs aW aW_bytes aW_lost aW_factors : Nat) (cI cZ : ClassId) (F_powers : Nat → Int32) (F_logs : Nat → Int32) (W_lostCount : Int32) (W_data : Int32) (W_repairs : Int32) (W_first : Int32) (W_bytes : Nat → Int32) (W_lost : Nat → Int32) : va_W := [(aF, .inr (1, [.ref aF_powers, .ref aF_logs])), (aF_powers, .inl (cI, 512, .inl F_powers)), (aF_logs, .inl (cI, 256, .inl F_logs)), (aW, .inr (5, [.ref aF, .ref aW_bytes, .ref aW_lost, .ref aW_factors, .int W_lostCount, .int W_data, .int W_repairs, .int W_first])), (aW_bytes, .inl (cI, 240, .inl W_bytes)), (aW_lost, .inl (cZ, 240, .inl W_lost))]
def wp_Wo_valueFor_b53 (F_powers : Nat → Int32) (F_logs : Nat → Int32) (W_data : Int32) (W_repairs : Int32) (W_bytes : Nat → Int32) (W_lost : Nat → Int32) (post : Int32 → Prop) (K14 : Int32 → Int32 → Int32 → Prop) (x2 : Int32) (x4 : Int32) (t0 : Int32) (t1 : Int32) : Prop := ∀ x3_54 : Int32, x3_54 = (t1 ^^^ t0) → (∀ x4_55 : Int32, x4_55 = (x4 + (1 : Int32)) → (K14 x2 x3_54 x4_55))
def wp_Wo_valueFor_b14 (F_powers : Nat → Int32) (F_logs : Nat → Int32) (W_data : Int32) (W_repairs : Int32) (W_bytes : Nat → Int32) (W_lost : Nat → Int32) (post : Int32 → Prop) (K14 : Int32 → Int32 → Int32 → Prop) (x2 : Int32) (x3 : Int32) (x4 : Int32) : Prop := wp_Wo_size W_data W_repairs (fun r_17 => ((r_17 ≤ x4 → (post x3)) ∧ (¬ r_17 ≤ x4 → (wp_Fi_product F_powers F_logs x3 x2 (fun r_29 => (vp_in x4 240 ∧ (((W_lost x4.toNatClampNeg) = 0 → (vp_in x4 240 ∧ (wp_Wo_valueFor_b53 F_powers F_logs W_data W_repairs W_bytes W_lost post K14 x2 x4 (W_bytes x4.toNatClampNeg) r_29))) ∧ (¬ (W_lost x4.toNatClampNeg) = 0 → (wp_Wo_valueFor_b53 F_powers F_logs W_data W_repairs W_bytes W_lost post K14 x2 x4 (0 : Int32) r_29)))))))))
def wp_Wo_valueFor_L14 (F_powers : Nat → Int32) (F_logs : Nat → Int32) (W_data : Int32) (W_repairs : Int32) (W_bytes : Nat → Int32) (W_lost : Nat → Int32) (post : Int32 → Prop)  : Nat → Int32 → Int32 → Int32 → Prop
  | 0 => fun _ _ _ => False
  | n + 1 => wp_Wo_valueFor_b14 F_powers F_logs W_data W_repairs W_bytes W_lost post (wp_Wo_valueFor_L14 F_powers F_logs W_data W_repairs W_bytes W_lost post n)
def wp_Wo_valueFor (F_powers : Nat → Int32) (F_logs : Nat → Int32) (W_data : Int32) (W_repairs : Int32) (W_bytes : Nat → Int32) (W_lost : Nat → Int32) (p1 : Int32) (post : Int32 → Prop) : Prop := wp_Fi_powerOfTwo F_powers p1 (fun r_5 => (∃ n : Nat, wp_Wo_valueFor_L14 F_powers F_logs W_data W_repairs W_bytes W_lost post  n r_5 (0 : Int32) (0 : Int32)))
abbrev rm_Wo_valueFor : Room := { frames := 1, cells := 0, slots := 0, locals := 22 }
set_option maxHeartbeats 4000000 in
set_option maxRecDepth 100000 in
theorem ct_Wo_valueFor (l : Launch) (dC : Nat → ClassId) (dI : Nat → Nat → Nat) (aF aF_powers aF_logs aW aW_bytes aW_lost aW_factors : Nat) (cI cZ : ClassId) (F_powers : Nat → Int32) (F_logs : Nat → Int32) (W_lostCount : Int32) (W_data : Int32) (W_repairs : Int32) (W_first : Int32) (W_bytes : Nat → Int32) (W_lost : Nat → Int32) (p1 : Int32) (post : Int32 → Prop) (h : wp_Wo_valueFor F_powers F_logs W_data W_repairs W_bytes W_lost p1 post) (sz : Nat) : Met l y_Wo_valueFor (Cond.code y_Wo_valueFor c_Wo_valueFor 5 (some .int) :: tb) rm_Wo_valueFor (mt_P (dC, dI) vwCl [(cI, .int), (cZ, .boolean)] [.ref aW, .int p1] (wd_Wo_valueFor aF aF_powers aF_logs aW aW_bytes aW_lost aW_factors cI cZ F_powers F_logs W_lostCount W_data W_repairs W_first W_bytes W_lost) sz) (va_Qi (fun (r : Int32) (u : Unit) => post r) (mt_B (dC, dI) vwCl [(cI, .int), (cZ, .boolean)] (wd_Wo_valueFor aF aF_powers aF_logs aW aW_bytes aW_lost aW_factors cI cZ F_powers F_logs W_lostCount W_data W_repairs W_first W_bytes W_lost) sz (fun u : Unit => wd_Wo_valueFor aF aF_powers aF_logs aW aW_bytes aW_lost aW_factors cI cZ F_powers F_logs W_lostCount W_data W_repairs W_first W_bytes W_lost)) (va_A (wd_Wo_valueFor aF aF_powers aF_logs aW aW_bytes aW_lost aW_factors cI cZ F_powers F_logs W_lostCount W_data W_repairs W_first W_bytes W_lost) sz)) 0 0 (va_A (wd_Wo_valueFor aF aF_powers aF_logs aW aW_bytes aW_lost aW_factors cI cZ F_powers F_logs W_lostCount W_data W_repairs W_first W_bytes W_lost) sz) := by
  refine mt_bd (by decide +kernel) (Nat.le_of_ble_eq_true rfl) ?_
  intro p e s m args below meth c hx hb hml hown hts hr hlk hnm hsz hP hK hD hA hS ls hl
  subst hsz
  have hown : s.vm.findClass "ReedSets$Word" = some m.cls := hown
  have hl : lv_has ls 5 [(0, .ref aW), (1, .int p1)] := hl
  refine lz_Q (fun Q hQ => ?_)
  obtain ⟨A, hAe⟩ : ∃ A : Nat → Prop, A = va_A (wd_Wo_valueFor aF aF_powers aF_logs aW aW_bytes aW_lost aW_factors cI cZ F_powers F_logs W_lostCount W_data W_repairs W_first W_bytes W_lost) s.heap.size := ⟨_, rfl⟩
  rw [← hAe] at hD hA hS
  have RET : ∀ (v : Int32)  (H : Heap) (locs : List Loc) (ls : Array Slot) (pc : Nat), decode c_Wo_valueFor pc = .ok (.ireturn, 1) → post v  → va_P (dC, dI) vwCl (wd_Wo_valueFor aF aF_powers aF_logs aW aW_bytes aW_lost aW_factors cI cZ F_powers F_logs W_lostCount W_data W_repairs W_first W_bytes W_lost) H → va_D A (wd_Wo_valueFor aF aF_powers aF_logs aW aW_bytes aW_lost aW_factors cI cZ F_powers F_logs W_lostCount W_data W_repairs W_first W_bytes W_lost) → va_S A s.heap H locs → W p l e rm_Wo_valueFor s m args below meth c H locs 0 0 Q (F0 m pc ls [.int v]) := by
    intro v  H locs ls pc hd hp h1 h2 h3
    rw [hQ]
    rw [hAe] at h2 h3
    exact mt_reti () hx hb hr hlk hd hK h1 h2 h3 hp
  have B53 : ∀ (K14 : Int32 → Int32 → Int32 → Prop) (HK14 : ∀ (x2 : Int32) (x3 : Int32) (x4 : Int32) (H : Heap) (locs : List Loc) (ls : Array Slot), K14 x2 x3 x4 → va_P (dC, dI) vwCl (wd_Wo_valueFor aF aF_powers aF_logs aW aW_bytes aW_lost aW_factors cI cZ F_powers F_logs W_lostCount W_data W_repairs W_first W_bytes W_lost) H → va_D A (wd_Wo_valueFor aF aF_powers aF_logs aW aW_bytes aW_lost aW_factors cI cZ F_powers F_logs W_lostCount W_data W_repairs W_first W_bytes W_lost) → va_S A s.heap H locs → lv_has ls 5 [(0, .ref aW), (2, .int x2), (3, .int x3), (4, .int x4)] → W p l e rm_Wo_valueFor s m args below meth c H locs 0 0 Q (F0 m 14 ls [])), ∀ (x2 : Int32) (x4 : Int32) (t0 : Int32) (t1 : Int32) (H : Heap) (locs : List Loc) (ls : Array Slot), wp_Wo_valueFor_b53 F_powers F_logs W_data W_repairs W_bytes W_lost post K14 x2 x4 t0 t1 → va_P (dC, dI) vwCl (wd_Wo_valueFor aF aF_powers aF_logs aW aW_bytes aW_lost aW_factors cI cZ F_powers F_logs W_lostCount W_data W_repairs W_first W_bytes W_lost) H → va_D A (wd_Wo_valueFor aF aF_powers aF_logs aW aW_bytes aW_lost aW_factors cI cZ F_powers F_logs W_lostCount W_data W_repairs W_first W_bytes W_lost) → va_S A s.heap H locs → lv_has ls 5 [(0, .ref aW), (2, .int x2), (4, .int x4)] → W p l e rm_Wo_valueFor s m args below meth c H locs 0 0 Q (F0 m 53 ls [.int t0, .int t1]) := by
    intro K14 HK14 x2 x4 t0 t1 H locs ls h hP hD hS hl
    refine lv_ixor hx hb d_Wo_valueFor_53 ?_
    refine lv_topi (fun x3_54 ex3_54 => ?_)
    have h := h x3_54 ex3_54
    refine lv_istore_n (lv' := [(3, .int x3_54), (0, .ref aW), (2, .int x2), (4, .int x4)]) hx hb d_Wo_valueFor_54 rfl hl (by decide) rfl (fun ls hl => ?_)
    obtain ⟨x4_55, ex4_55⟩ : ∃ y : Int32, y = (x4 + (1 : Int32)) := ⟨_, rfl⟩
    have h := h x4_55 ex4_55
    refine lv_iinc (v := x4_55) (lv' := [(4, .int x4_55), (3, .int x3_54), (0, .ref aW), (2, .int x2)]) hx hb d_Wo_valueFor_55 hl (k := 3) rfl (by rw [ex4_55]; rfl) (by decide) rfl (fun ls hl => ?_)
    refine lv_goto (tgt := 14) hx hb d_Wo_valueFor_58 (by decide) ?_
    exact HK14 x2 x3_54 x4_55 H locs ls h hP hD hS (lv_sub hl [2, 3, 1, 0] rfl)
  have B14 : ∀ (K14 : Int32 → Int32 → Int32 → Prop) (HK14 : ∀ (x2 : Int32) (x3 : Int32) (x4 : Int32) (H : Heap) (locs : List Loc) (ls : Array Slot), K14 x2 x3 x4 → va_P (dC, dI) vwCl (wd_Wo_valueFor aF aF_powers aF_logs aW aW_bytes aW_lost aW_factors cI cZ F_powers F_logs W_lostCount W_data W_repairs W_first W_bytes W_lost) H → va_D A (wd_Wo_valueFor aF aF_powers aF_logs aW aW_bytes aW_lost aW_factors cI cZ F_powers F_logs W_lostCount W_data W_repairs W_first W_bytes W_lost) → va_S A s.heap H locs → lv_has ls 5 [(0, .ref aW), (2, .int x2), (3, .int x3), (4, .int x4)] → W p l e rm_Wo_valueFor s m args below meth c H locs 0 0 Q (F0 m 14 ls [])), ∀ (x2 : Int32) (x3 : Int32) (x4 : Int32) (H : Heap) (locs : List Loc) (ls : Array Slot), wp_Wo_valueFor_b14 F_powers F_logs W_data W_repairs W_bytes W_lost post K14 x2 x3 x4 → va_P (dC, dI) vwCl (wd_Wo_valueFor aF aF_powers aF_logs aW aW_bytes aW_lost aW_factors cI cZ F_powers F_logs W_lostCount W_data W_repairs W_first W_bytes W_lost) H → va_D A (wd_Wo_valueFor aF aF_powers aF_logs aW aW_bytes aW_lost aW_factors cI cZ F_powers F_logs W_lostCount W_data W_repairs W_first W_bytes W_lost) → va_S A s.heap H locs → lv_has ls 5 [(0, .ref aW), (2, .int x2), (3, .int x3), (4, .int x4)] → W p l e rm_Wo_valueFor s m args below meth c H locs 0 0 Q (F0 m 14 ls []) := by
    intro K14 HK14 x2 x3 x4 H locs ls h hP hD hS hl
    refine lv_iload hx hb d_Wo_valueFor_14 (lv_at hl 3 rfl) ?_
    refine lv_aload_n hx hb d_Wo_valueFor_16 rfl (lv_at hl 0 rfl) ?_
    refine mt_i (va_runV (As := []) (rest := [.int x4]) ⟨hx, hb, hml, hown, hts⟩ (ct_Wo_size l dC dI aW aF aW_bytes aW_lost aW_factors cI cZ W_lostCount W_data W_repairs W_first _ h _) (tb_cV hts ok_Wo_size tb_351 rfl rfl ⟨Nat.le_of_ble_eq_true rfl, Nat.le_of_ble_eq_true rfl⟩) (mt_preV hK hP hD [] [3] rfl (by decide) (ci := 5) (q0 := 3) rfl rfl) rfl rfl hl.1 rfl (lv_room (Nat.le_of_ble_eq_true rfl)) d_Wo_valueFor_17 ⟨Nat.zero_le _, Nat.zero_le _⟩) hP hD hS hA [3] rfl (fun _ => rfl) (fun r_17 u H locs h hP hD hS => ?_)
    have hP : va_P (dC, dI) vwCl (wd_Wo_valueFor aF aF_powers aF_logs aW aW_bytes aW_lost aW_factors cI cZ F_powers F_logs W_lostCount W_data W_repairs W_first W_bytes W_lost) H := hP
    have hD : va_D A (wd_Wo_valueFor aF aF_powers aF_logs aW aW_bytes aW_lost aW_factors cI cZ F_powers F_logs W_lostCount W_data W_repairs W_first W_bytes W_lost) := hD
    refine lv_icmp_ge (tgt := 61) hx hb d_Wo_valueFor_20 (by decide) (fun g20 => ?_) (fun g20 => ?_)
    · have h := h.1 g20
      refine lv_iload_n hx hb d_Wo_valueFor_61 rfl (lv_at hl 2 rfl) ?_
      exact RET x3 H locs ls 62 d_Wo_valueFor_62 h hP hD hS
    · have h := h.2 g20
      refine lv_aload_n hx hb d_Wo_valueFor_23 rfl (lv_at hl 0 rfl) ?_
      refine va_get (D := (dC, dI)) (ci := 5) (v := .ref aF) (C := "ReedSets$Word") (T := T_Wo) (N := 8) hx hb hts in_Wo hown hK hP 3 rfl rfl 0 (by decide) (hts _ tb_102) (fun _ h9 => h9) rfl d_Wo_valueFor_24 ?_
      refine lv_iload_n hx hb d_Wo_valueFor_27 rfl (lv_at hl 2 rfl) ?_
      refine lv_iload_n hx hb d_Wo_valueFor_28 rfl (lv_at hl 1 rfl) ?_
      refine mt_i (va_runV (As := [.int x3, .int x2]) (rest := []) ⟨hx, hb, hml, hown, hts⟩ (ct_Fi_product l dC dI aF aF_powers aF_logs cI cZ F_powers F_logs x3 x2 _ h _) (tb_cV hts ok_Fi_product tb_98 rfl rfl ⟨Nat.le_of_ble_eq_true rfl, Nat.le_of_ble_eq_true rfl⟩) (mt_preV hK hP hD [.int x3, .int x2] [0, 1, 2] rfl (by decide) (ci := 1) (q0 := 0) rfl rfl) rfl rfl hl.1 rfl (lv_room (Nat.le_of_ble_eq_true rfl)) d_Wo_valueFor_29 ⟨Nat.zero_le _, Nat.zero_le _⟩) hP hD hS hA [0, 1, 2] rfl (fun _ => rfl) (fun r_29 u H locs h hP hD hS => ?_)
      have hP : va_P (dC, dI) vwCl (wd_Wo_valueFor aF aF_powers aF_logs aW aW_bytes aW_lost aW_factors cI cZ F_powers F_logs W_lostCount W_data W_repairs W_first W_bytes W_lost) H := hP
      have hD : va_D A (wd_Wo_valueFor aF aF_powers aF_logs aW aW_bytes aW_lost aW_factors cI cZ F_powers F_logs W_lostCount W_data W_repairs W_first W_bytes W_lost) := hD
      refine lv_aload_n hx hb d_Wo_valueFor_32 rfl (lv_at hl 0 rfl) ?_
      refine va_get (D := (dC, dI)) (ci := 5) (v := .ref aW_lost) (C := "ReedSets$Word") (T := T_Wo) (N := 8) hx hb hts in_Wo hown hK hP 3 rfl rfl 2 (by decide) (hts _ tb_107) (fun _ h9 => h9) rfl d_Wo_valueFor_33 ?_
      refine lv_iload hx hb d_Wo_valueFor_36 (lv_at hl 3 rfl) ?_
      obtain ⟨hi, h⟩ := h
      refine va_zald hx hb hK hP 5 1 rfl rfl hi d_Wo_valueFor_38 ?_
      refine lv_if_eq (tgt := 46) hx hb d_Wo_valueFor_39 (by decide) (fun g39 => ?_) (fun g39 => ?_)
      · have h := h.1 g39
        refine lv_aload_n hx hb d_Wo_valueFor_46 rfl (lv_at hl 0 rfl) ?_
        refine va_get (D := (dC, dI)) (ci := 5) (v := .ref aW_bytes) (C := "ReedSets$Word") (T := T_Wo) (N := 8) hx hb hts in_Wo hown hK hP 3 rfl rfl 1 (by decide) (hts _ tb_103) (fun _ h9 => h9) rfl d_Wo_valueFor_47 ?_
        refine lv_iload hx hb d_Wo_valueFor_50 (lv_at hl 3 rfl) ?_
        obtain ⟨hi, h⟩ := h
        refine va_iald hx hb hK hP 4 0 rfl rfl hi d_Wo_valueFor_52 ?_
        exact B53 K14 HK14 x2 x4 (W_bytes x4.toNatClampNeg) r_29 H locs ls h hP hD hS (lv_sub hl [0, 1, 3] rfl)
      · have h := h.2 g39
        refine lv_iconst (v := (0 : Int32)) hx hb d_Wo_valueFor_42 (by decide) ?_
        refine lv_goto (tgt := 53) hx hb d_Wo_valueFor_43 (by decide) ?_
        exact B53 K14 HK14 x2 x4 (0 : Int32) r_29 H locs ls h hP hD hS (lv_sub hl [0, 1, 3] rfl)
  have L14 : ∀  (n : Nat), ∀ (x2 : Int32) (x3 : Int32) (x4 : Int32) (H : Heap) (locs : List Loc) (ls : Array Slot), wp_Wo_valueFor_L14 F_powers F_logs W_data W_repairs W_bytes W_lost post  n x2 x3 x4 → va_P (dC, dI) vwCl (wd_Wo_valueFor aF aF_powers aF_logs aW aW_bytes aW_lost aW_factors cI cZ F_powers F_logs W_lostCount W_data W_repairs W_first W_bytes W_lost) H → va_D A (wd_Wo_valueFor aF aF_powers aF_logs aW aW_bytes aW_lost aW_factors cI cZ F_powers F_logs W_lostCount W_data W_repairs W_first W_bytes W_lost) → va_S A s.heap H locs → lv_has ls 5 [(0, .ref aW), (2, .int x2), (3, .int x3), (4, .int x4)] → W p l e rm_Wo_valueFor s m args below meth c H locs 0 0 Q (F0 m 14 ls []) := by
    intro  n
    induction n with
    | zero => intro x2 x3 x4 H locs ls h hP hD hS hl; exact False.elim h
    | succ n ih => intro x2 x3 x4 H locs ls h hP hD hS hl; exact B14  (wp_Wo_valueFor_L14 F_powers F_logs W_data W_repairs W_bytes W_lost post  n) ih x2 x3 x4 H locs ls h hP hD hS hl
  obtain ⟨H, hH⟩ : ∃ H : Heap, H = s.heap := ⟨_, rfl⟩
  obtain ⟨locs, hlo⟩ : ∃ x : List Loc, x = [] := ⟨_, rfl⟩
  have hS : va_S A s.heap H locs := by rw [hH, hlo]; exact hS
  rw [← hH] at hP
  rw [← hlo]
  show W p l e rm_Wo_valueFor s m args below meth c s.heap locs 0 0 Q (F0 m 0 ls [])
  rw [← hH]
  refine lv_aload_n hx hb d_Wo_valueFor_0 rfl (lv_at hl 0 rfl) ?_
  refine va_get (D := (dC, dI)) (ci := 5) (v := .ref aF) (C := "ReedSets$Word") (T := T_Wo) (N := 8) hx hb hts in_Wo hown hK hP 3 rfl rfl 0 (by decide) (hts _ tb_102) (fun _ h9 => h9) rfl d_Wo_valueFor_1 ?_
  refine lv_iload_n hx hb d_Wo_valueFor_4 rfl (lv_at hl 1 rfl) ?_
  refine mt_i (va_runV (As := [.int p1]) (rest := []) ⟨hx, hb, hml, hown, hts⟩ (ct_Fi_powerOfTwo l dC dI aF aF_powers aF_logs cI cZ F_powers p1 _ h _) (tb_cV hts ok_Fi_powerOfTwo tb_94 rfl rfl ⟨Nat.le_of_ble_eq_true rfl, Nat.le_of_ble_eq_true rfl⟩) (mt_preV hK hP hD [.int p1] [0, 1] rfl (by decide) (ci := 1) (q0 := 0) rfl rfl) rfl rfl hl.1 rfl (lv_room (Nat.le_of_ble_eq_true rfl)) d_Wo_valueFor_5 ⟨Nat.zero_le _, Nat.zero_le _⟩) hP hD hS hA [0, 1] rfl (fun _ => rfl) (fun r_5 u H locs h hP hD hS => ?_)
  have hP : va_P (dC, dI) vwCl (wd_Wo_valueFor aF aF_powers aF_logs aW aW_bytes aW_lost aW_factors cI cZ F_powers F_logs W_lostCount W_data W_repairs W_first W_bytes W_lost) H := hP
  have hD : va_D A (wd_Wo_valueFor aF aF_powers aF_logs aW aW_bytes aW_lost aW_factors cI cZ F_powers F_logs W_lostCount W_data W_repairs W_first W_bytes W_lost) := hD
  refine lv_istore_n (lv' := [(2, .int r_5), (0, .ref aW), (1, .int p1)]) hx hb d_Wo_valueFor_8 rfl hl (by decide) rfl (fun ls hl => ?_)
  refine lv_iconst (v := (0 : Int32)) hx hb d_Wo_valueFor_9 (by decide) ?_
  refine lv_istore_n (lv' := [(3, .int (0 : Int32)), (2, .int r_5), (0, .ref aW), (1, .int p1)]) hx hb d_Wo_valueFor_10 rfl hl (by decide) rfl (fun ls hl => ?_)
  refine lv_iconst (v := (0 : Int32)) hx hb d_Wo_valueFor_11 (by decide) ?_
  refine lv_istore (lv' := [(4, .int (0 : Int32)), (3, .int (0 : Int32)), (2, .int r_5), (0, .ref aW), (1, .int p1)]) hx hb d_Wo_valueFor_12 hl (by decide) rfl (fun ls hl => ?_)
  obtain ⟨n, h⟩ := h
  exact L14  n r_5 (0 : Int32) (0 : Int32) H locs ls h hP hD hS (lv_sub hl [3, 2, 1, 0] rfl)
abbrev wd_Wo_powerAt (aW aF aW_bytes aW_lost aW_factors : Nat) (cI cZ : ClassId) (W_lostCount : Int32) (W_data : Int32) (W_repairs : Int32) (W_first : Int32) : va_W := [(aW, .inr (5, [.ref aF, .ref aW_bytes, .ref aW_lost, .ref aW_factors, .int W_lostCount, .int W_data, .int W_repairs, .int W_first]))]
def wp_Wo_powerAt (W_data : Int32) (W_repairs : Int32) (p1 : Int32) (post : Int32 → Prop) : Prop := wp_Wo_size W_data W_repairs (fun r_1 => (post ((r_1 - (1 : Int32)) - p1)))
abbrev rm_Wo_powerAt : Room := { frames := 1, cells := 0, slots := 0, locals := 20 }
set_option maxHeartbeats 4000000 in
set_option maxRecDepth 100000 in
theorem ct_Wo_powerAt (l : Launch) (dC : Nat → ClassId) (dI : Nat → Nat → Nat) (aW aF aW_bytes aW_lost aW_factors : Nat) (cI cZ : ClassId) (W_lostCount : Int32) (W_data : Int32) (W_repairs : Int32) (W_first : Int32) (p1 : Int32) (post : Int32 → Prop) (h : wp_Wo_powerAt W_data W_repairs p1 post) (sz : Nat) : Met l y_Wo_powerAt (Cond.code y_Wo_powerAt c_Wo_powerAt 2 (some .int) :: tb) rm_Wo_powerAt (mt_P (dC, dI) vwCl [(cI, .int), (cZ, .boolean)] [.ref aW, .int p1] (wd_Wo_powerAt aW aF aW_bytes aW_lost aW_factors cI cZ W_lostCount W_data W_repairs W_first) sz) (va_Qi (fun (r : Int32) (u : Unit) => post r) (mt_B (dC, dI) vwCl [(cI, .int), (cZ, .boolean)] (wd_Wo_powerAt aW aF aW_bytes aW_lost aW_factors cI cZ W_lostCount W_data W_repairs W_first) sz (fun u : Unit => wd_Wo_powerAt aW aF aW_bytes aW_lost aW_factors cI cZ W_lostCount W_data W_repairs W_first)) (va_A (wd_Wo_powerAt aW aF aW_bytes aW_lost aW_factors cI cZ W_lostCount W_data W_repairs W_first) sz)) 0 0 (va_A (wd_Wo_powerAt aW aF aW_bytes aW_lost aW_factors cI cZ W_lostCount W_data W_repairs W_first) sz) := by
  refine mt_bd (by decide +kernel) (Nat.le_of_ble_eq_true rfl) ?_
  intro p e s m args below meth c hx hb hml hown hts hr hlk hnm hsz hP hK hD hA hS ls hl
  subst hsz
  have hown : s.vm.findClass "ReedSets$Word" = some m.cls := hown
  have hl : lv_has ls 2 [(0, .ref aW), (1, .int p1)] := hl
  refine lz_Q (fun Q hQ => ?_)
  obtain ⟨A, hAe⟩ : ∃ A : Nat → Prop, A = va_A (wd_Wo_powerAt aW aF aW_bytes aW_lost aW_factors cI cZ W_lostCount W_data W_repairs W_first) s.heap.size := ⟨_, rfl⟩
  rw [← hAe] at hD hA hS
  have RET : ∀ (v : Int32)  (H : Heap) (locs : List Loc) (ls : Array Slot) (pc : Nat), decode c_Wo_powerAt pc = .ok (.ireturn, 1) → post v  → va_P (dC, dI) vwCl (wd_Wo_powerAt aW aF aW_bytes aW_lost aW_factors cI cZ W_lostCount W_data W_repairs W_first) H → va_D A (wd_Wo_powerAt aW aF aW_bytes aW_lost aW_factors cI cZ W_lostCount W_data W_repairs W_first) → va_S A s.heap H locs → W p l e rm_Wo_powerAt s m args below meth c H locs 0 0 Q (F0 m pc ls [.int v]) := by
    intro v  H locs ls pc hd hp h1 h2 h3
    rw [hQ]
    rw [hAe] at h2 h3
    exact mt_reti () hx hb hr hlk hd hK h1 h2 h3 hp
  obtain ⟨H, hH⟩ : ∃ H : Heap, H = s.heap := ⟨_, rfl⟩
  obtain ⟨locs, hlo⟩ : ∃ x : List Loc, x = [] := ⟨_, rfl⟩
  have hS : va_S A s.heap H locs := by rw [hH, hlo]; exact hS
  rw [← hH] at hP
  rw [← hlo]
  show W p l e rm_Wo_powerAt s m args below meth c s.heap locs 0 0 Q (F0 m 0 ls [])
  rw [← hH]
  refine lv_aload_n hx hb d_Wo_powerAt_0 rfl (lv_at hl 0 rfl) ?_
  refine mt_i (va_runV (As := []) (rest := []) ⟨hx, hb, hml, hown, hts⟩ (ct_Wo_size l dC dI aW aF aW_bytes aW_lost aW_factors cI cZ W_lostCount W_data W_repairs W_first _ h _) (tb_cV hts ok_Wo_size tb_351 rfl rfl ⟨Nat.le_of_ble_eq_true rfl, Nat.le_of_ble_eq_true rfl⟩) (mt_preV hK hP hD [] [0] rfl (by decide) (ci := 5) (q0 := 0) rfl rfl) rfl rfl hl.1 rfl (lv_room (Nat.le_of_ble_eq_true rfl)) d_Wo_powerAt_1 ⟨Nat.zero_le _, Nat.zero_le _⟩) hP hD hS hA [0] rfl (fun _ => rfl) (fun r_1 u H locs h hP hD hS => ?_)
  have hP : va_P (dC, dI) vwCl (wd_Wo_powerAt aW aF aW_bytes aW_lost aW_factors cI cZ W_lostCount W_data W_repairs W_first) H := hP
  have hD : va_D A (wd_Wo_powerAt aW aF aW_bytes aW_lost aW_factors cI cZ W_lostCount W_data W_repairs W_first) := hD
  refine lv_iconst (v := (1 : Int32)) hx hb d_Wo_powerAt_4 (by decide) ?_
  refine lv_isub hx hb d_Wo_powerAt_5 ?_
  refine lv_iload_n hx hb d_Wo_powerAt_6 rfl (lv_at hl 1 rfl) ?_
  refine lv_isub hx hb d_Wo_powerAt_7 ?_
  exact RET ((r_1 - (1 : Int32)) - p1) H locs ls 8 d_Wo_powerAt_8 h hP hD hS
abbrev wd_Math_min  (cI cZ : ClassId)  : va_W := []
def wp_Math_min_b10  (post : Int32 → Prop)  (t0 : Int32) : Prop := post t0
def wp_Math_min (p0 : Int32) (p1 : Int32) (post : Int32 → Prop) : Prop := (p1 < p0 → (wp_Math_min_b10 post  p1)) ∧ (¬ p1 < p0 → (wp_Math_min_b10 post  p0))
abbrev rm_Math_min : Room := { frames := 0, cells := 0, slots := 0, locals := 0 }
set_option maxHeartbeats 4000000 in
set_option maxRecDepth 100000 in
theorem ct_Math_min (l : Launch) (dC : Nat → ClassId) (dI : Nat → Nat → Nat)  (cI cZ : ClassId)  (p0 : Int32) (p1 : Int32) (post : Int32 → Prop) (h : wp_Math_min p0 p1 post) (sz : Nat) : Met l y_Math_min (Cond.code y_Math_min c_Math_min 2 (some .int) :: tb) rm_Math_min (mt_P (dC, dI) vwCl [(cI, .int), (cZ, .boolean)] [.int p0, .int p1] (wd_Math_min cI cZ) sz) (va_Qi (fun (r : Int32) (u : Unit) => post r) (mt_B (dC, dI) vwCl [(cI, .int), (cZ, .boolean)] (wd_Math_min cI cZ) sz (fun u : Unit => wd_Math_min cI cZ)) (va_A (wd_Math_min cI cZ) sz)) 0 0 (va_A (wd_Math_min cI cZ) sz) := by
  refine mt_bd (by decide +kernel) (Nat.le_of_ble_eq_true rfl) ?_
  intro p e s m args below meth c hx hb hml hown hts hr hlk hnm hsz hP hK hD hA hS ls hl
  subst hsz
  have hown : s.vm.findClass "java/lang/Math" = some m.cls := hown
  have hl : lv_has ls 2 [(0, .int p0), (1, .int p1)] := hl
  refine lz_Q (fun Q hQ => ?_)
  obtain ⟨A, hAe⟩ : ∃ A : Nat → Prop, A = va_A (wd_Math_min cI cZ) s.heap.size := ⟨_, rfl⟩
  rw [← hAe] at hD hA hS
  have RET : ∀ (v : Int32)  (H : Heap) (locs : List Loc) (ls : Array Slot) (pc : Nat), decode c_Math_min pc = .ok (.ireturn, 1) → post v  → va_P (dC, dI) vwCl (wd_Math_min cI cZ) H → va_D A (wd_Math_min cI cZ) → va_S A s.heap H locs → W p l e rm_Math_min s m args below meth c H locs 0 0 Q (F0 m pc ls [.int v]) := by
    intro v  H locs ls pc hd hp h1 h2 h3
    rw [hQ]
    rw [hAe] at h2 h3
    exact mt_reti () hx hb hr hlk hd hK h1 h2 h3 hp
  have B10 : ∀ (t0 : Int32) (H : Heap) (locs : List Loc) (ls : Array Slot), wp_Math_min_b10 post  t0 → va_P (dC, dI) vwCl (wd_Math_min cI cZ) H → va_D A (wd_Math_min cI cZ) → va_S A s.heap H locs → lv_has ls 2 [] → W p l e rm_Math_min s m args below meth c H locs 0 0 Q (F0 m 10 ls [.int t0]) := by
    intro  t0 H locs ls h hP hD hS hl
    exact RET t0 H locs ls 10 d_Math_min_10 h hP hD hS
  obtain ⟨H, hH⟩ : ∃ H : Heap, H = s.heap := ⟨_, rfl⟩
  obtain ⟨locs, hlo⟩ : ∃ x : List Loc, x = [] := ⟨_, rfl⟩
  have hS : va_S A s.heap H locs := by rw [hH, hlo]; exact hS
  rw [← hH] at hP
  rw [← hlo]
  show W p l e rm_Math_min s m args below meth c s.heap locs 0 0 Q (F0 m 0 ls [])
  rw [← hH]
  refine lv_iload_n hx hb d_Math_min_0 rfl (lv_at hl 0 rfl) ?_
  refine lv_iload_n hx hb d_Math_min_1 rfl (lv_at hl 1 rfl) ?_
  refine lv_icmp_gt (tgt := 9) hx hb d_Math_min_2 (by decide) (fun g2 => ?_) (fun g2 => ?_)
  · have h := h.1 g2
    refine lv_iload_n hx hb d_Math_min_9 rfl (lv_at hl 1 rfl) ?_
    exact B10  p1 H locs ls h hP hD hS (lv_sub hl [] rfl)
  · have h := h.2 g2
    refine lv_iload_n hx hb d_Math_min_5 rfl (lv_at hl 0 rfl) ?_
    refine lv_goto (tgt := 10) hx hb d_Math_min_6 (by decide) ?_
    exact B10  p0 H locs ls h hP hD hS (lv_sub hl [] rfl)
abbrev wd_Fi_valueOf (aF aF_powers aF_logs aA : Nat) (cI cZ : ClassId) (F_powers : Nat → Int32) (F_logs : Nat → Int32) (A_ : Nat → Int32) : va_W := [(aF, .inr (1, [.ref aF_powers, .ref aF_logs])), (aF_powers, .inl (cI, 512, .inl F_powers)), (aF_logs, .inl (cI, 256, .inl F_logs)), (aA, .inl (cI, 41, .inl A_))]
def wp_Fi_valueOf_b13 (F_powers : Nat → Int32) (F_logs : Nat → Int32) (A_ : Nat → Int32) (post : Int32 → Prop) (K13 : Int32 → Int32 → Int32 → Prop) (x3 : Int32) (x4 : Int32) (x5 : Int32) : Prop := (x5 < 0 → (post x4)) ∧ (¬ x5 < 0 → (wp_Fi_product F_powers F_logs x4 x3 (fun r_22 => (vp_in x5 41 ∧ (∀ x4_30 : Int32, x4_30 = (r_22 ^^^ (A_ x5.toNatClampNeg)) → (∀ x5_32 : Int32, x5_32 = (x5 + (-1 : Int32)) → (K13 x3 x4_30 x5_32)))))))
def wp_Fi_valueOf_L13 (F_powers : Nat → Int32) (F_logs : Nat → Int32) (A_ : Nat → Int32) (post : Int32 → Prop)  : Nat → Int32 → Int32 → Int32 → Prop
  | 0 => fun _ _ _ => False
  | n + 1 => wp_Fi_valueOf_b13 F_powers F_logs A_ post (wp_Fi_valueOf_L13 F_powers F_logs A_ post n)
def wp_Fi_valueOf (F_powers : Nat → Int32) (F_logs : Nat → Int32) (A_ : Nat → Int32) (p2 : Int32) (p3 : Int32) (post : Int32 → Prop) : Prop := wp_Math_min p2 (41 : Int32) (fun r_6 => (∀ x5_11 : Int32, x5_11 = (r_6 - (1 : Int32)) → (∃ n : Nat, wp_Fi_valueOf_L13 F_powers F_logs A_ post  n p3 (0 : Int32) x5_11)))
abbrev rm_Fi_valueOf : Room := { frames := 1, cells := 0, slots := 0, locals := 22 }
set_option maxHeartbeats 4000000 in
set_option maxRecDepth 100000 in
theorem ct_Fi_valueOf (l : Launch) (dC : Nat → ClassId) (dI : Nat → Nat → Nat) (aF aF_powers aF_logs aA : Nat) (cI cZ : ClassId) (F_powers : Nat → Int32) (F_logs : Nat → Int32) (A_ : Nat → Int32) (p2 : Int32) (p3 : Int32) (post : Int32 → Prop) (h : wp_Fi_valueOf F_powers F_logs A_ p2 p3 post) (sz : Nat) : Met l y_Fi_valueOf (Cond.code y_Fi_valueOf c_Fi_valueOf 6 (some .int) :: tb) rm_Fi_valueOf (mt_P (dC, dI) vwCl [(cI, .int), (cZ, .boolean)] [.ref aF, .ref aA, .int p2, .int p3] (wd_Fi_valueOf aF aF_powers aF_logs aA cI cZ F_powers F_logs A_) sz) (va_Qi (fun (r : Int32) (u : Unit) => post r) (mt_B (dC, dI) vwCl [(cI, .int), (cZ, .boolean)] (wd_Fi_valueOf aF aF_powers aF_logs aA cI cZ F_powers F_logs A_) sz (fun u : Unit => wd_Fi_valueOf aF aF_powers aF_logs aA cI cZ F_powers F_logs A_)) (va_A (wd_Fi_valueOf aF aF_powers aF_logs aA cI cZ F_powers F_logs A_) sz)) 0 0 (va_A (wd_Fi_valueOf aF aF_powers aF_logs aA cI cZ F_powers F_logs A_) sz) := by
  refine mt_bd (by decide +kernel) (Nat.le_of_ble_eq_true rfl) ?_
  intro p e s m args below meth c hx hb hml hown hts hr hlk hnm hsz hP hK hD hA hS ls hl
  subst hsz
  have hown : s.vm.findClass "ReedSets$Field" = some m.cls := hown
  have hl : lv_has ls 6 [(0, .ref aF), (1, .ref aA), (2, .int p2), (3, .int p3)] := hl
  refine lz_Q (fun Q hQ => ?_)
  obtain ⟨A, hAe⟩ : ∃ A : Nat → Prop, A = va_A (wd_Fi_valueOf aF aF_powers aF_logs aA cI cZ F_powers F_logs A_) s.heap.size := ⟨_, rfl⟩
  rw [← hAe] at hD hA hS
  have RET : ∀ (v : Int32)  (H : Heap) (locs : List Loc) (ls : Array Slot) (pc : Nat), decode c_Fi_valueOf pc = .ok (.ireturn, 1) → post v  → va_P (dC, dI) vwCl (wd_Fi_valueOf aF aF_powers aF_logs aA cI cZ F_powers F_logs A_) H → va_D A (wd_Fi_valueOf aF aF_powers aF_logs aA cI cZ F_powers F_logs A_) → va_S A s.heap H locs → W p l e rm_Fi_valueOf s m args below meth c H locs 0 0 Q (F0 m pc ls [.int v]) := by
    intro v  H locs ls pc hd hp h1 h2 h3
    rw [hQ]
    rw [hAe] at h2 h3
    exact mt_reti () hx hb hr hlk hd hK h1 h2 h3 hp
  have B13 : ∀ (K13 : Int32 → Int32 → Int32 → Prop) (HK13 : ∀ (x3 : Int32) (x4 : Int32) (x5 : Int32) (H : Heap) (locs : List Loc) (ls : Array Slot), K13 x3 x4 x5 → va_P (dC, dI) vwCl (wd_Fi_valueOf aF aF_powers aF_logs aA cI cZ F_powers F_logs A_) H → va_D A (wd_Fi_valueOf aF aF_powers aF_logs aA cI cZ F_powers F_logs A_) → va_S A s.heap H locs → lv_has ls 6 [(0, .ref aF), (1, .ref aA), (3, .int x3), (4, .int x4), (5, .int x5)] → W p l e rm_Fi_valueOf s m args below meth c H locs 0 0 Q (F0 m 13 ls [])), ∀ (x3 : Int32) (x4 : Int32) (x5 : Int32) (H : Heap) (locs : List Loc) (ls : Array Slot), wp_Fi_valueOf_b13 F_powers F_logs A_ post K13 x3 x4 x5 → va_P (dC, dI) vwCl (wd_Fi_valueOf aF aF_powers aF_logs aA cI cZ F_powers F_logs A_) H → va_D A (wd_Fi_valueOf aF aF_powers aF_logs aA cI cZ F_powers F_logs A_) → va_S A s.heap H locs → lv_has ls 6 [(0, .ref aF), (1, .ref aA), (3, .int x3), (4, .int x4), (5, .int x5)] → W p l e rm_Fi_valueOf s m args below meth c H locs 0 0 Q (F0 m 13 ls []) := by
    intro K13 HK13 x3 x4 x5 H locs ls h hP hD hS hl
    refine lv_iload hx hb d_Fi_valueOf_13 (lv_at hl 4 rfl) ?_
    refine lv_if_lt (tgt := 38) hx hb d_Fi_valueOf_15 (by decide) (fun g15 => ?_) (fun g15 => ?_)
    · have h := h.1 g15
      refine lv_iload hx hb d_Fi_valueOf_38 (lv_at hl 3 rfl) ?_
      exact RET x4 H locs ls 40 d_Fi_valueOf_40 h hP hD hS
    · have h := h.2 g15
      refine lv_aload_n hx hb d_Fi_valueOf_18 rfl (lv_at hl 0 rfl) ?_
      refine lv_iload hx hb d_Fi_valueOf_19 (lv_at hl 3 rfl) ?_
      refine lv_iload_n hx hb d_Fi_valueOf_21 rfl (lv_at hl 2 rfl) ?_
      refine mt_i (va_runV (As := [.int x4, .int x3]) (rest := []) ⟨hx, hb, hml, hown, hts⟩ (ct_Fi_product l dC dI aF aF_powers aF_logs cI cZ F_powers F_logs x4 x3 _ h _) (tb_cV hts ok_Fi_product tb_447 rfl rfl ⟨Nat.le_of_ble_eq_true rfl, Nat.le_of_ble_eq_true rfl⟩) (mt_preV hK hP hD [.int x4, .int x3] [0, 1, 2] rfl (by decide) (ci := 1) (q0 := 0) rfl rfl) rfl rfl hl.1 rfl (lv_room (Nat.le_of_ble_eq_true rfl)) d_Fi_valueOf_22 ⟨Nat.zero_le _, Nat.zero_le _⟩) hP hD hS hA [0, 1, 2] rfl (fun _ => rfl) (fun r_22 u H locs h hP hD hS => ?_)
      have hP : va_P (dC, dI) vwCl (wd_Fi_valueOf aF aF_powers aF_logs aA cI cZ F_powers F_logs A_) H := hP
      have hD : va_D A (wd_Fi_valueOf aF aF_powers aF_logs aA cI cZ F_powers F_logs A_) := hD
      refine lv_aload_n hx hb d_Fi_valueOf_25 rfl (lv_at hl 1 rfl) ?_
      refine lv_iload hx hb d_Fi_valueOf_26 (lv_at hl 4 rfl) ?_
      obtain ⟨hi, h⟩ := h
      refine va_iald hx hb hK hP 3 0 rfl rfl hi d_Fi_valueOf_28 ?_
      refine lv_ixor hx hb d_Fi_valueOf_29 ?_
      refine lv_topi (fun x4_30 ex4_30 => ?_)
      have h := h x4_30 ex4_30
      refine lv_istore (lv' := [(4, .int x4_30), (0, .ref aF), (1, .ref aA), (3, .int x3), (5, .int x5)]) hx hb d_Fi_valueOf_30 hl (by decide) rfl (fun ls hl => ?_)
      obtain ⟨x5_32, ex5_32⟩ : ∃ y : Int32, y = (x5 + (-1 : Int32)) := ⟨_, rfl⟩
      have h := h x5_32 ex5_32
      refine lv_iinc (v := x5_32) (lv' := [(5, .int x5_32), (4, .int x4_30), (0, .ref aF), (1, .ref aA), (3, .int x3)]) hx hb d_Fi_valueOf_32 hl (k := 4) rfl (by rw [ex5_32]; rfl) (by decide) rfl (fun ls hl => ?_)
      refine lv_goto (tgt := 13) hx hb d_Fi_valueOf_35 (by decide) ?_
      exact HK13 x3 x4_30 x5_32 H locs ls h hP hD hS (lv_sub hl [2, 3, 4, 1, 0] rfl)
  have L13 : ∀  (n : Nat), ∀ (x3 : Int32) (x4 : Int32) (x5 : Int32) (H : Heap) (locs : List Loc) (ls : Array Slot), wp_Fi_valueOf_L13 F_powers F_logs A_ post  n x3 x4 x5 → va_P (dC, dI) vwCl (wd_Fi_valueOf aF aF_powers aF_logs aA cI cZ F_powers F_logs A_) H → va_D A (wd_Fi_valueOf aF aF_powers aF_logs aA cI cZ F_powers F_logs A_) → va_S A s.heap H locs → lv_has ls 6 [(0, .ref aF), (1, .ref aA), (3, .int x3), (4, .int x4), (5, .int x5)] → W p l e rm_Fi_valueOf s m args below meth c H locs 0 0 Q (F0 m 13 ls []) := by
    intro  n
    induction n with
    | zero => intro x3 x4 x5 H locs ls h hP hD hS hl; exact False.elim h
    | succ n ih => intro x3 x4 x5 H locs ls h hP hD hS hl; exact B13  (wp_Fi_valueOf_L13 F_powers F_logs A_ post  n) ih x3 x4 x5 H locs ls h hP hD hS hl
  obtain ⟨H, hH⟩ : ∃ H : Heap, H = s.heap := ⟨_, rfl⟩
  obtain ⟨locs, hlo⟩ : ∃ x : List Loc, x = [] := ⟨_, rfl⟩
  have hS : va_S A s.heap H locs := by rw [hH, hlo]; exact hS
  rw [← hH] at hP
  rw [← hlo]
  show W p l e rm_Fi_valueOf s m args below meth c s.heap locs 0 0 Q (F0 m 0 ls [])
  rw [← hH]
  refine lv_iconst (v := (0 : Int32)) hx hb d_Fi_valueOf_0 (by decide) ?_
  refine lv_istore (lv' := [(4, .int (0 : Int32)), (0, .ref aF), (1, .ref aA), (2, .int p2), (3, .int p3)]) hx hb d_Fi_valueOf_1 hl (by decide) rfl (fun ls hl => ?_)
  refine lv_iload_n hx hb d_Fi_valueOf_3 rfl (lv_at hl 3 rfl) ?_
  refine lv_aload_n hx hb d_Fi_valueOf_4 rfl (lv_at hl 2 rfl) ?_
  refine va_alen hx hb hK hP 3 0 rfl rfl (v := (41 : Int32)) rfl d_Fi_valueOf_5 ?_
  refine mt_i (va_runS (As := [.int p2, .int (41 : Int32)]) (rest := []) ⟨hx, hb, hml, hown, hts⟩ (ct_Math_min l dC dI  cI cZ p2 (41 : Int32) _ h _) (tb_cS hts ok_Math_min tb_444 rfl rfl ⟨Nat.le_of_ble_eq_true rfl, Nat.le_of_ble_eq_true rfl⟩) (mt_preS hK hP hD [.int p2, .int (41 : Int32)] [] rfl (by decide)) rfl rfl hl.1 rfl (lv_room (Nat.le_of_ble_eq_true rfl)) d_Fi_valueOf_6 ⟨Nat.zero_le _, Nat.zero_le _⟩) hP hD hS hA [] rfl (fun _ => rfl) (fun r_6 u H locs h hP hD hS => ?_)
  have hP : va_P (dC, dI) vwCl (wd_Fi_valueOf aF aF_powers aF_logs aA cI cZ F_powers F_logs A_) H := hP
  have hD : va_D A (wd_Fi_valueOf aF aF_powers aF_logs aA cI cZ F_powers F_logs A_) := hD
  refine lv_iconst (v := (1 : Int32)) hx hb d_Fi_valueOf_9 (by decide) ?_
  refine lv_isub hx hb d_Fi_valueOf_10 ?_
  refine lv_topi (fun x5_11 ex5_11 => ?_)
  have h := h x5_11 ex5_11
  refine lv_istore (lv' := [(5, .int x5_11), (4, .int (0 : Int32)), (0, .ref aF), (1, .ref aA), (2, .int p2), (3, .int p3)]) hx hb d_Fi_valueOf_11 hl (by decide) rfl (fun ls hl => ?_)
  obtain ⟨n, h⟩ := h
  exact L13  n p3 (0 : Int32) x5_11 H locs ls h hP hD hS (lv_sub hl [2, 3, 5, 1, 0] rfl)
abbrev wd_Wo_take (aW aF aW_bytes aW_lost aW_factors : Nat) (cI cZ : ClassId) (W_lostCount : Int32) (W_data : Int32) (W_repairs : Int32) (W_first : Int32) (W_bytes : Nat → Int32) (W_lost : Nat → Int32) : va_W := [(aW, .inr (5, [.ref aF, .ref aW_bytes, .ref aW_lost, .ref aW_factors, .int W_lostCount, .int W_data, .int W_repairs, .int W_first])), (aW_bytes, .inl (cI, 240, .inl W_bytes)), (aW_lost, .inl (cZ, 240, .inl W_lost))]
def wp_Wo_take_b28  (post : Int32 → (Nat → Int32) → (Nat → Int32) → Prop)  (W_lostCount : Int32) (W_bytes : Nat → Int32) (W_lost : Nat → Int32) : Prop := post W_lostCount W_bytes W_lost
def wp_Wo_take (W_lostCount : Int32) (W_bytes : Nat → Int32) (W_lost : Nat → Int32) (p1 : Int32) (p2 : Int32) (p3 : Int32) (post : Int32 → (Nat → Int32) → (Nat → Int32) → Prop) : Prop := vp_in p1 240 ∧ (vp_in p1 240 ∧ ((p3 = 0 → (wp_Wo_take_b28 post  W_lostCount (upd W_bytes p1.toNatClampNeg p2) (upd W_lost p1.toNatClampNeg (vp_nar .boolean p3)))) ∧ (¬ p3 = 0 → (∀ y_25 : Int32, y_25 = (W_lostCount + (1 : Int32)) → (wp_Wo_take_b28 post  y_25 (upd W_bytes p1.toNatClampNeg p2) (upd W_lost p1.toNatClampNeg (vp_nar .boolean p3)))))))
abbrev rm_Wo_take : Room := { frames := 0, cells := 0, slots := 0, locals := 0 }
set_option maxHeartbeats 4000000 in
set_option maxRecDepth 100000 in
theorem ct_Wo_take (l : Launch) (dC : Nat → ClassId) (dI : Nat → Nat → Nat) (aW aF aW_bytes aW_lost aW_factors : Nat) (cI cZ : ClassId) (W_lostCount : Int32) (W_data : Int32) (W_repairs : Int32) (W_first : Int32) (W_bytes : Nat → Int32) (W_lost : Nat → Int32) (p1 : Int32) (p2 : Int32) (p3 : Int32) (post : Int32 → (Nat → Int32) → (Nat → Int32) → Prop) (h : wp_Wo_take W_lostCount W_bytes W_lost p1 p2 p3 post) (sz : Nat) : Met l y_Wo_take (Cond.code y_Wo_take c_Wo_take 4 none :: tb) rm_Wo_take (mt_P (dC, dI) vwCl [(cI, .int), (cZ, .boolean)] [.ref aW, .int p1, .int p2, .int p3] (wd_Wo_take aW aF aW_bytes aW_lost aW_factors cI cZ W_lostCount W_data W_repairs W_first W_bytes W_lost) sz) (va_Qv (fun (u : Int32 × (Nat → Int32) × (Nat → Int32)) => post u.1 u.2.1 u.2.2) (mt_B (dC, dI) vwCl [(cI, .int), (cZ, .boolean)] (wd_Wo_take aW aF aW_bytes aW_lost aW_factors cI cZ W_lostCount W_data W_repairs W_first W_bytes W_lost) sz (fun u : Int32 × (Nat → Int32) × (Nat → Int32) => wd_Wo_take aW aF aW_bytes aW_lost aW_factors cI cZ u.1 W_data W_repairs W_first u.2.1 u.2.2)) (va_A (wd_Wo_take aW aF aW_bytes aW_lost aW_factors cI cZ W_lostCount W_data W_repairs W_first W_bytes W_lost) sz)) 0 0 (va_A (wd_Wo_take aW aF aW_bytes aW_lost aW_factors cI cZ W_lostCount W_data W_repairs W_first W_bytes W_lost) sz) := by
  refine mt_bd (by decide +kernel) (Nat.le_of_ble_eq_true rfl) ?_
  intro p e s m args below meth c hx hb hml hown hts hr hlk hnm hsz hP hK hD hA hS ls hl
  subst hsz
  have hown : s.vm.findClass "ReedSets$Word" = some m.cls := hown
  have hl : lv_has ls 4 [(0, .ref aW), (1, .int p1), (2, .int p2), (3, .int p3)] := hl
  refine lz_Q (fun Q hQ => ?_)
  obtain ⟨A, hAe⟩ : ∃ A : Nat → Prop, A = va_A (wd_Wo_take aW aF aW_bytes aW_lost aW_factors cI cZ W_lostCount W_data W_repairs W_first W_bytes W_lost) s.heap.size := ⟨_, rfl⟩
  rw [← hAe] at hD hA hS
  have RET : ∀ (W_lostCount : Int32) (W_bytes : Nat → Int32) (W_lost : Nat → Int32) (H : Heap) (locs : List Loc) (ls : Array Slot) (pc : Nat), decode c_Wo_take pc = .ok (.return_, 1) → post W_lostCount W_bytes W_lost → va_P (dC, dI) vwCl (wd_Wo_take aW aF aW_bytes aW_lost aW_factors cI cZ W_lostCount W_data W_repairs W_first W_bytes W_lost) H → va_D A (wd_Wo_take aW aF aW_bytes aW_lost aW_factors cI cZ W_lostCount W_data W_repairs W_first W_bytes W_lost) → va_S A s.heap H locs → W p l e rm_Wo_take s m args below meth c H locs 0 0 Q (F0 m pc ls []) := by
    intro W_lostCount W_bytes W_lost H locs ls pc hd hp h1 h2 h3
    rw [hQ]
    rw [hAe] at h2 h3
    exact mt_retv (W_lostCount, W_bytes, W_lost) hx hb hr hlk hd hK h1 h2 h3 hp
  have B28 : ∀ (W_lostCount : Int32) (W_bytes : Nat → Int32) (W_lost : Nat → Int32) (H : Heap) (locs : List Loc) (ls : Array Slot), wp_Wo_take_b28 post  W_lostCount W_bytes W_lost → va_P (dC, dI) vwCl (wd_Wo_take aW aF aW_bytes aW_lost aW_factors cI cZ W_lostCount W_data W_repairs W_first W_bytes W_lost) H → va_D A (wd_Wo_take aW aF aW_bytes aW_lost aW_factors cI cZ W_lostCount W_data W_repairs W_first W_bytes W_lost) → va_S A s.heap H locs → lv_has ls 4 [] → W p l e rm_Wo_take s m args below meth c H locs 0 0 Q (F0 m 28 ls []) := by
    intro  W_lostCount W_bytes W_lost H locs ls h hP hD hS hl
    exact RET W_lostCount W_bytes W_lost H locs ls 28 d_Wo_take_28 h hP hD hS
  obtain ⟨H, hH⟩ : ∃ H : Heap, H = s.heap := ⟨_, rfl⟩
  obtain ⟨locs, hlo⟩ : ∃ x : List Loc, x = [] := ⟨_, rfl⟩
  have hS : va_S A s.heap H locs := by rw [hH, hlo]; exact hS
  rw [← hH] at hP
  rw [← hlo]
  show W p l e rm_Wo_take s m args below meth c s.heap locs 0 0 Q (F0 m 0 ls [])
  rw [← hH]
  refine lv_aload_n hx hb d_Wo_take_0 rfl (lv_at hl 0 rfl) ?_
  refine va_get (D := (dC, dI)) (ci := 5) (v := .ref aW_bytes) (C := "ReedSets$Word") (T := T_Wo) (N := 8) hx hb hts in_Wo hown hK hP 0 rfl rfl 1 (by decide) (hts _ tb_103) (fun _ h9 => h9) rfl d_Wo_take_1 ?_
  refine lv_iload_n hx hb d_Wo_take_4 rfl (lv_at hl 1 rfl) ?_
  refine lv_iload_n hx hb d_Wo_take_5 rfl (lv_at hl 2 rfl) ?_
  obtain ⟨hi, h⟩ := h
  refine va_iast hx hb hK hP hD hS 1 0 rfl rfl hi d_Wo_take_6 (fun H locs hP hD hS => ?_)
  have hP : va_P (dC, dI) vwCl (wd_Wo_take aW aF aW_bytes aW_lost aW_factors cI cZ W_lostCount W_data W_repairs W_first (upd W_bytes p1.toNatClampNeg p2) W_lost) H := hP
  have hD : va_D A (wd_Wo_take aW aF aW_bytes aW_lost aW_factors cI cZ W_lostCount W_data W_repairs W_first (upd W_bytes p1.toNatClampNeg p2) W_lost) := hD
  refine lv_aload_n hx hb d_Wo_take_7 rfl (lv_at hl 0 rfl) ?_
  refine va_get (D := (dC, dI)) (ci := 5) (v := .ref aW_lost) (C := "ReedSets$Word") (T := T_Wo) (N := 8) hx hb hts in_Wo hown hK hP 0 rfl rfl 2 (by decide) (hts _ tb_107) (fun _ h9 => h9) rfl d_Wo_take_8 ?_
  refine lv_iload_n hx hb d_Wo_take_11 rfl (lv_at hl 1 rfl) ?_
  refine lv_iload_n hx hb d_Wo_take_12 rfl (lv_at hl 3 rfl) ?_
  obtain ⟨hi, h⟩ := h
  refine va_zast hx hb hK hP hD hS 2 1 rfl rfl hi d_Wo_take_13 (fun H locs hP hD hS => ?_)
  have hP : va_P (dC, dI) vwCl (wd_Wo_take aW aF aW_bytes aW_lost aW_factors cI cZ W_lostCount W_data W_repairs W_first (upd W_bytes p1.toNatClampNeg p2) (upd W_lost p1.toNatClampNeg (vp_nar .boolean p3))) H := hP
  have hD : va_D A (wd_Wo_take aW aF aW_bytes aW_lost aW_factors cI cZ W_lostCount W_data W_repairs W_first (upd W_bytes p1.toNatClampNeg p2) (upd W_lost p1.toNatClampNeg (vp_nar .boolean p3))) := hD
  refine lv_iload_n hx hb d_Wo_take_14 rfl (lv_at hl 3 rfl) ?_
  refine lv_if_eq (tgt := 28) hx hb d_Wo_take_15 (by decide) (fun g15 => ?_) (fun g15 => ?_)
  · have h := h.1 g15
    exact B28  W_lostCount (upd W_bytes p1.toNatClampNeg p2) (upd W_lost p1.toNatClampNeg (vp_nar .boolean p3)) H locs ls h hP hD hS (lv_sub hl [] rfl)
  · have h := h.2 g15
    refine lv_aload_n hx hb d_Wo_take_18 rfl (lv_at hl 0 rfl) ?_
    refine lv_dup hx hb d_Wo_take_19 rfl ?_
    refine va_get (D := (dC, dI)) (ci := 5) (v := .int W_lostCount) (C := "ReedSets$Word") (T := T_Wo) (N := 8) hx hb hts in_Wo hown hK hP 0 rfl rfl 4 (by decide) (hts _ tb_113) (fun _ h9 => h9) rfl d_Wo_take_20 ?_
    refine lv_iconst (v := (1 : Int32)) hx hb d_Wo_take_23 (by decide) ?_
    refine lv_iadd hx hb d_Wo_take_24 ?_
    refine lv_topi (fun y_25 ey_25 => ?_)
    have h := h y_25 ey_25
    refine va_put (D := (dC, dI)) (ci := 5) (v := .int y_25) (ty := .int) (C := "ReedSets$Word") (T := T_Wo) (N := 8) hx hb hts in_Wo ty_Wo tk_Wo nm_Wo hown hK hP hD hS 0 rfl rfl 4 (by decide) (hts _ tb_113) (fun _ h9 => h9) rfl (by decide +kernel) rfl rfl (Nat.le_of_ble_eq_true rfl) d_Wo_take_25 (fun H locs hP hD hS => ?_)
    have hP : va_P (dC, dI) vwCl (wd_Wo_take aW aF aW_bytes aW_lost aW_factors cI cZ y_25 W_data W_repairs W_first (upd W_bytes p1.toNatClampNeg p2) (upd W_lost p1.toNatClampNeg (vp_nar .boolean p3))) H := hP
    have hD : va_D A (wd_Wo_take aW aF aW_bytes aW_lost aW_factors cI cZ y_25 W_data W_repairs W_first (upd W_bytes p1.toNatClampNeg p2) (upd W_lost p1.toNatClampNeg (vp_nar .boolean p3))) := hD
    exact B28  y_25 (upd W_bytes p1.toNatClampNeg p2) (upd W_lost p1.toNatClampNeg (vp_nar .boolean p3)) H locs ls h hP hD hS (lv_sub hl [] rfl)
