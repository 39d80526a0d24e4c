abbrev wd_Mo_isByte  (cI cZ : ClassId)  : va_W := []
def wp_Mo_isByte_b16  (post : Int32 → Prop)  (t0 : Int32) : Prop := narrow .boolean (.int t0) = .int t0 ∧ (post t0)
def wp_Mo_isByte_b15  (post : Int32 → Prop)   : Prop := wp_Mo_isByte_b16 post  (0 : Int32)
def wp_Mo_isByte (p0 : Int32) (post : Int32 → Prop) : Prop := (p0 < 0 → (wp_Mo_isByte_b15 post  )) ∧ (¬ p0 < 0 → (((256 : Int32) ≤ p0 → (wp_Mo_isByte_b15 post  )) ∧ (¬ (256 : Int32) ≤ p0 → (wp_Mo_isByte_b16 post  (1 : Int32)))))
abbrev rm_Mo_isByte : Room := { frames := 0, cells := 0, slots := 0, locals := 0 }
set_option maxHeartbeats 4000000 in
set_option maxRecDepth 100000 in
theorem ct_Mo_isByte (l : Launch) (dC : Nat → ClassId) (dI : Nat → Nat → Nat)  (cI cZ : ClassId)  (p0 : Int32) (post : Int32 → Prop) (h : wp_Mo_isByte p0 post) (sz : Nat) : Met l y_Mo_isByte (Cond.code y_Mo_isByte c_Mo_isByte 1 (some .boolean) :: tb) rm_Mo_isByte (mt_P (dC, dI) vwCl [(cI, .int), (cZ, .boolean)] [.int p0] (wd_Mo_isByte cI cZ) sz) (va_Qi (fun (r : Int32) (u : Unit) => post r) (mt_B (dC, dI) vwCl [(cI, .int), (cZ, .boolean)] (wd_Mo_isByte cI cZ) sz (fun u : Unit => wd_Mo_isByte cI cZ)) (va_A (wd_Mo_isByte cI cZ) sz)) 0 0 (va_A (wd_Mo_isByte cI cZ) sz) := by
  refine mt_bd (by decide +kernel) (Nat.le_of_ble_eq_true rfl) ?_
  intro p e s m args below meth c hx hb hml hown hts hr hlk hnm hsz hP hK hD hA hS ls hl
  subst hsz
  have hown : s.vm.findClass "ReedSetsModel" = some m.cls := hown
  have hl : lv_has ls 1 [(0, .int p0)] := hl
  refine lz_Q (fun Q hQ => ?_)
  obtain ⟨A, hAe⟩ : ∃ A : Nat → Prop, A = va_A (wd_Mo_isByte cI cZ) s.heap.size := ⟨_, rfl⟩
  rw [← hAe] at hD hA hS
  have RET : ∀ (v : Int32)  (H : Heap) (locs : List Loc) (ls : Array Slot) (pc : Nat), decode c_Mo_isByte pc = .ok (.ireturn, 1) → narrow .boolean (.int v) = .int v → post v  → va_P (dC, dI) vwCl (wd_Mo_isByte cI cZ) H → va_D A (wd_Mo_isByte cI cZ) → va_S A s.heap H locs → W p l e rm_Mo_isByte s m args below meth c H locs 0 0 Q (F0 m pc ls [.int v]) := by
    intro v  H locs ls pc hd hz hp h1 h2 h3
    rw [hQ]
    rw [hAe] at h2 h3
    exact mt_retz () hx hb hr hlk hd hK h1 h2 h3 hz hp
  have B16 : ∀ (t0 : Int32) (H : Heap) (locs : List Loc) (ls : Array Slot), wp_Mo_isByte_b16 post  t0 → va_P (dC, dI) vwCl (wd_Mo_isByte cI cZ) H → va_D A (wd_Mo_isByte cI cZ) → va_S A s.heap H locs → lv_has ls 1 [] → W p l e rm_Mo_isByte s m args below meth c H locs 0 0 Q (F0 m 16 ls [.int t0]) := by
    intro  t0 H locs ls h hP hD hS hl
    obtain ⟨hz, h⟩ := h
    exact RET t0 H locs ls 16 d_Mo_isByte_16 hz h hP hD hS
  have B15 : ∀  (H : Heap) (locs : List Loc) (ls : Array Slot), wp_Mo_isByte_b15 post   → va_P (dC, dI) vwCl (wd_Mo_isByte cI cZ) H → va_D A (wd_Mo_isByte cI cZ) → va_S A s.heap H locs → lv_has ls 1 [] → W p l e rm_Mo_isByte s m args below meth c H locs 0 0 Q (F0 m 15 ls []) := by
    intro   H locs ls h hP hD hS hl
    refine lv_iconst (v := (0 : Int32)) hx hb d_Mo_isByte_15 (by decide) ?_
    exact B16  (0 : Int32) H locs ls h hP hD hS (lv_sub hl [] rfl)
  obtain ⟨H, hH⟩ : ∃ H : Heap, H = s.heap := ⟨_, rfl⟩
  obtain ⟨locs, hlo⟩ : ∃ x : List Loc, x = [] := ⟨_, rfl⟩
  have hS : va_S A s.heap H locs := by rw [hH, hlo]; exact hS
  rw [← hH] at hP
  rw [← hlo]
  show W p l e rm_Mo_isByte s m args below meth c s.heap locs 0 0 Q (F0 m 0 ls [])
  rw [← hH]
  refine lv_iload_n hx hb d_Mo_isByte_0 rfl (lv_at hl 0 rfl) ?_
  refine lv_if_lt (tgt := 15) hx hb d_Mo_isByte_1 (by decide) (fun g1 => ?_) (fun g1 => ?_)
  · have h := h.1 g1
    exact B15   H locs ls h hP hD hS (lv_sub hl [] rfl)
  · have h := h.2 g1
    refine lv_iload_n hx hb d_Mo_isByte_4 rfl (lv_at hl 0 rfl) ?_
    refine lv_sipush (v := (256 : Int32)) hx hb d_Mo_isByte_5 (by decide) ?_
    refine lv_icmp_ge (tgt := 15) hx hb d_Mo_isByte_8 (by decide) (fun g8 => ?_) (fun g8 => ?_)
    · have h := h.1 g8
      exact B15   H locs ls h hP hD hS (lv_sub hl [] rfl)
    · have h := h.2 g8
      refine lv_iconst (v := (1 : Int32)) hx hb d_Mo_isByte_11 (by decide) ?_
      refine lv_goto (tgt := 16) hx hb d_Mo_isByte_12 (by decide) ?_
      exact B16  (1 : Int32) H locs ls h hP hD hS (lv_sub hl [] rfl)
abbrev wd_Mo_by  (cI cZ : ClassId)  : va_W := []
def wp_Mo_by_b52  (post : Int32 → Prop) (K7 : Int32 → Int32 → Int32 → Int32 → Prop) (x1 : Int32) (x2 : Int32) (x4 : Int32) (t0 : Int32) : Prop := ∀ x4_53 : Int32, x4_53 = (x4 + (1 : Int32)) → (K7 x1 x2 t0 x4_53)
def wp_Mo_by_b31  (post : Int32 → Prop) (K7 : Int32 → Int32 → Int32 → Int32 → Prop) (x1 : Int32) (x3 : Int32) (x4 : Int32) (t0 : Int32) : Prop := ∀ x3_35 : Int32, x3_35 = (x3 <<< ((1 : Int32) &&& 31)) → ((x3_35 ≤ (255 : Int32) → (wp_Mo_by_b52 post K7 x1 t0 x4 x3_35)) ∧ (¬ x3_35 ≤ (255 : Int32) → (wp_Mo_by_b52 post K7 x1 t0 x4 (x3_35 ^^^ (285 : Int32)))))
def wp_Mo_by_b7  (post : Int32 → Prop) (K7 : Int32 → Int32 → Int32 → Int32 → Prop) (x1 : Int32) (x2 : Int32) (x3 : Int32) (x4 : Int32) : Prop := ((8 : Int32) ≤ x4 → (post x2)) ∧ (¬ (8 : Int32) ≤ x4 → ((¬ ((x1 >>> (x4 &&& 31)) &&& (1 : Int32)) = (1 : Int32) → (wp_Mo_by_b31 post K7 x1 x3 x4 x2)) ∧ (((x1 >>> (x4 &&& 31)) &&& (1 : Int32)) = (1 : Int32) → (wp_Mo_by_b31 post K7 x1 x3 x4 (x2 ^^^ x3)))))
def wp_Mo_by_L7  (post : Int32 → Prop)  : Nat → Int32 → Int32 → Int32 → Int32 → Prop
  | 0 => fun _ _ _ _ => False
  | n + 1 => wp_Mo_by_b7 post (wp_Mo_by_L7 post n)
def wp_Mo_by (p0 : Int32) (p1 : Int32) (post : Int32 → Prop) : Prop := ∃ n : Nat, wp_Mo_by_L7 post  n p1 (0 : Int32) p0 (0 : Int32)
abbrev rm_Mo_by : Room := { frames := 0, cells := 0, slots := 0, locals := 0 }
set_option maxHeartbeats 4000000 in
set_option maxRecDepth 100000 in
theorem ct_Mo_by (l : Launch) (dC : Nat → ClassId) (dI : Nat → Nat → Nat)  (cI cZ : ClassId)  (p0 : Int32) (p1 : Int32) (post : Int32 → Prop) (h : wp_Mo_by p0 p1 post) (sz : Nat) : Met l y_Mo_by (Cond.code y_Mo_by c_Mo_by 5 (some .int) :: tb) rm_Mo_by (mt_P (dC, dI) vwCl [(cI, .int), (cZ, .boolean)] [.int p0, .int p1] (wd_Mo_by cI cZ) sz) (va_Qi (fun (r : Int32) (u : Unit) => post r) (mt_B (dC, dI) vwCl [(cI, .int), (cZ, .boolean)] (wd_Mo_by cI cZ) sz (fun u : Unit => wd_Mo_by cI cZ)) (va_A (wd_Mo_by cI cZ) sz)) 0 0 (va_A (wd_Mo_by cI cZ) sz) := by
  refine mt_bd (by decide +kernel) (Nat.le_of_ble_eq_true rfl) ?_
  intro p e s m args below meth c hx hb hml hown hts hr hlk hnm hsz hP hK hD hA hS ls hl
  subst hsz
  have hown : s.vm.findClass "ReedSetsModel" = some m.cls := hown
  have hl : lv_has ls 5 [(0, .int p0), (1, .int p1)] := hl
  refine lz_Q (fun Q hQ => ?_)
  obtain ⟨A, hAe⟩ : ∃ A : Nat → Prop, A = va_A (wd_Mo_by cI cZ) s.heap.size := ⟨_, rfl⟩
  rw [← hAe] at hD hA hS
  have RET : ∀ (v : Int32)  (H : Heap) (locs : List Loc) (ls : Array Slot) (pc : Nat), decode c_Mo_by pc = .ok (.ireturn, 1) → post v  → va_P (dC, dI) vwCl (wd_Mo_by cI cZ) H → va_D A (wd_Mo_by cI cZ) → va_S A s.heap H locs → W p l e rm_Mo_by s m args below meth c H locs 0 0 Q (F0 m pc ls [.int v]) := by
    intro v  H locs ls pc hd hp h1 h2 h3
    rw [hQ]
    rw [hAe] at h2 h3
    exact mt_reti () hx hb hr hlk hd hK h1 h2 h3 hp
  have B52 : ∀ (K7 : Int32 → Int32 → Int32 → Int32 → Prop) (HK7 : ∀ (x1 : Int32) (x2 : Int32) (x3 : Int32) (x4 : Int32) (H : Heap) (locs : List Loc) (ls : Array Slot), K7 x1 x2 x3 x4 → va_P (dC, dI) vwCl (wd_Mo_by cI cZ) H → va_D A (wd_Mo_by cI cZ) → va_S A s.heap H locs → lv_has ls 5 [(1, .int x1), (2, .int x2), (3, .int x3), (4, .int x4)] → W p l e rm_Mo_by s m args below meth c H locs 0 0 Q (F0 m 7 ls [])), ∀ (x1 : Int32) (x2 : Int32) (x4 : Int32) (t0 : Int32) (H : Heap) (locs : List Loc) (ls : Array Slot), wp_Mo_by_b52 post K7 x1 x2 x4 t0 → va_P (dC, dI) vwCl (wd_Mo_by cI cZ) H → va_D A (wd_Mo_by cI cZ) → va_S A s.heap H locs → lv_has ls 5 [(1, .int x1), (2, .int x2), (4, .int x4)] → W p l e rm_Mo_by s m args below meth c H locs 0 0 Q (F0 m 52 ls [.int t0]) := by
    intro K7 HK7 x1 x2 x4 t0 H locs ls h hP hD hS hl
    refine lv_istore_n (lv' := [(3, .int t0), (1, .int x1), (2, .int x2), (4, .int x4)]) hx hb d_Mo_by_52 rfl hl (by decide) rfl (fun ls hl => ?_)
    obtain ⟨x4_53, ex4_53⟩ : ∃ y : Int32, y = (x4 + (1 : Int32)) := ⟨_, rfl⟩
    have h := h x4_53 ex4_53
    refine lv_iinc (v := x4_53) (lv' := [(4, .int x4_53), (3, .int t0), (1, .int x1), (2, .int x2)]) hx hb d_Mo_by_53 hl (k := 3) rfl (by rw [ex4_53]; rfl) (by decide) rfl (fun ls hl => ?_)
    refine lv_goto (tgt := 7) hx hb d_Mo_by_56 (by decide) ?_
    exact HK7 x1 x2 t0 x4_53 H locs ls h hP hD hS (lv_sub hl [2, 3, 1, 0] rfl)
  have B31 : ∀ (K7 : Int32 → Int32 → Int32 → Int32 → Prop) (HK7 : ∀ (x1 : Int32) (x2 : Int32) (x3 : Int32) (x4 : Int32) (H : Heap) (locs : List Loc) (ls : Array Slot), K7 x1 x2 x3 x4 → va_P (dC, dI) vwCl (wd_Mo_by cI cZ) H → va_D A (wd_Mo_by cI cZ) → va_S A s.heap H locs → lv_has ls 5 [(1, .int x1), (2, .int x2), (3, .int x3), (4, .int x4)] → W p l e rm_Mo_by s m args below meth c H locs 0 0 Q (F0 m 7 ls [])), ∀ (x1 : Int32) (x3 : Int32) (x4 : Int32) (t0 : Int32) (H : Heap) (locs : List Loc) (ls : Array Slot), wp_Mo_by_b31 post K7 x1 x3 x4 t0 → va_P (dC, dI) vwCl (wd_Mo_by cI cZ) H → va_D A (wd_Mo_by cI cZ) → va_S A s.heap H locs → lv_has ls 5 [(1, .int x1), (3, .int x3), (4, .int x4)] → W p l e rm_Mo_by s m args below meth c H locs 0 0 Q (F0 m 31 ls [.int t0]) := by
    intro K7 HK7 x1 x3 x4 t0 H locs ls h hP hD hS hl
    refine lv_istore_n (lv' := [(2, .int t0), (1, .int x1), (3, .int x3), (4, .int x4)]) hx hb d_Mo_by_31 rfl hl (by decide) rfl (fun ls hl => ?_)
    refine lv_iload_n hx hb d_Mo_by_32 rfl (lv_at hl 2 rfl) ?_
    refine lv_iconst (v := (1 : Int32)) hx hb d_Mo_by_33 (by decide) ?_
    refine lv_ishl hx hb d_Mo_by_34 ?_
    refine lv_topi (fun x3_35 ex3_35 => ?_)
    have h := h x3_35 ex3_35
    refine lv_istore_n (lv' := [(3, .int x3_35), (2, .int t0), (1, .int x1), (4, .int x4)]) hx hb d_Mo_by_35 rfl hl (by decide) rfl (fun ls hl => ?_)
    refine lv_iload_n hx hb d_Mo_by_36 rfl (lv_at hl 0 rfl) ?_
    refine lv_sipush (v := (255 : Int32)) hx hb d_Mo_by_37 (by decide) ?_
    refine lv_icmp_le (tgt := 51) hx hb d_Mo_by_40 (by decide) (fun g40 => ?_) (fun g40 => ?_)
    · have h := h.1 g40
      refine lv_iload_n hx hb d_Mo_by_51 rfl (lv_at hl 0 rfl) ?_
      exact B52 K7 HK7 x1 t0 x4 x3_35 H locs ls h hP hD hS (lv_sub hl [2, 1, 3] rfl)
    · have h := h.2 g40
      refine lv_iload_n hx hb d_Mo_by_43 rfl (lv_at hl 0 rfl) ?_
      refine lv_sipush (v := (285 : Int32)) hx hb d_Mo_by_44 (by decide) ?_
      refine lv_ixor hx hb d_Mo_by_47 ?_
      refine lv_goto (tgt := 52) hx hb d_Mo_by_48 (by decide) ?_
      exact B52 K7 HK7 x1 t0 x4 (x3_35 ^^^ (285 : Int32)) H locs ls h hP hD hS (lv_sub hl [2, 1, 3] rfl)
  have B7 : ∀ (K7 : Int32 → Int32 → Int32 → Int32 → Prop) (HK7 : ∀ (x1 : Int32) (x2 : Int32) (x3 : Int32) (x4 : Int32) (H : Heap) (locs : List Loc) (ls : Array Slot), K7 x1 x2 x3 x4 → va_P (dC, dI) vwCl (wd_Mo_by cI cZ) H → va_D A (wd_Mo_by cI cZ) → va_S A s.heap H locs → lv_has ls 5 [(1, .int x1), (2, .int x2), (3, .int x3), (4, .int x4)] → W p l e rm_Mo_by s m args below meth c H locs 0 0 Q (F0 m 7 ls [])), ∀ (x1 : Int32) (x2 : Int32) (x3 : Int32) (x4 : Int32) (H : Heap) (locs : List Loc) (ls : Array Slot), wp_Mo_by_b7 post K7 x1 x2 x3 x4 → va_P (dC, dI) vwCl (wd_Mo_by cI cZ) H → va_D A (wd_Mo_by cI cZ) → va_S A s.heap H locs → lv_has ls 5 [(1, .int x1), (2, .int x2), (3, .int x3), (4, .int x4)] → W p l e rm_Mo_by s m args below meth c H locs 0 0 Q (F0 m 7 ls []) := by
    intro K7 HK7 x1 x2 x3 x4 H locs ls h hP hD hS hl
    refine lv_iload hx hb d_Mo_by_7 (lv_at hl 3 rfl) ?_
    refine lv_bipush (v := (8 : Int32)) hx hb d_Mo_by_9 (by decide) ?_
    refine lv_icmp_ge (tgt := 59) hx hb d_Mo_by_11 (by decide) (fun g11 => ?_) (fun g11 => ?_)
    · have h := h.1 g11
      refine lv_iload_n hx hb d_Mo_by_59 rfl (lv_at hl 1 rfl) ?_
      exact RET x2 H locs ls 60 d_Mo_by_60 h hP hD hS
    · have h := h.2 g11
      refine lv_iload_n hx hb d_Mo_by_14 rfl (lv_at hl 0 rfl) ?_
      refine lv_iload hx hb d_Mo_by_15 (lv_at hl 3 rfl) ?_
      refine lv_ishr hx hb d_Mo_by_17 ?_
      refine lv_iconst (v := (1 : Int32)) hx hb d_Mo_by_18 (by decide) ?_
      refine lv_iand hx hb d_Mo_by_19 ?_
      refine lv_iconst (v := (1 : Int32)) hx hb d_Mo_by_20 (by decide) ?_
      refine lv_icmp_ne (tgt := 30) hx hb d_Mo_by_21 (by decide) (fun g21 => ?_) (fun g21 => ?_)
      · have h := h.1 g21
        refine lv_iload_n hx hb d_Mo_by_30 rfl (lv_at hl 1 rfl) ?_
        exact B31 K7 HK7 x1 x3 x4 x2 H locs ls h hP hD hS (lv_sub hl [0, 2, 3] rfl)
      · have h := h.2 g21
        refine lv_iload_n hx hb d_Mo_by_24 rfl (lv_at hl 1 rfl) ?_
        refine lv_iload_n hx hb d_Mo_by_25 rfl (lv_at hl 2 rfl) ?_
        refine lv_ixor hx hb d_Mo_by_26 ?_
        refine lv_goto (tgt := 31) hx hb d_Mo_by_27 (by decide) ?_
        exact B31 K7 HK7 x1 x3 x4 (x2 ^^^ x3) H locs ls h hP hD hS (lv_sub hl [0, 2, 3] rfl)
  have L7 : ∀  (n : Nat), ∀ (x1 : Int32) (x2 : Int32) (x3 : Int32) (x4 : Int32) (H : Heap) (locs : List Loc) (ls : Array Slot), wp_Mo_by_L7 post  n x1 x2 x3 x4 → va_P (dC, dI) vwCl (wd_Mo_by cI cZ) H → va_D A (wd_Mo_by cI cZ) → va_S A s.heap H locs → lv_has ls 5 [(1, .int x1), (2, .int x2), (3, .int x3), (4, .int x4)] → W p l e rm_Mo_by s m args below meth c H locs 0 0 Q (F0 m 7 ls []) := by
    intro  n
    induction n with
    | zero => intro x1 x2 x3 x4 H locs ls h hP hD hS hl; exact False.elim h
    | succ n ih => intro x1 x2 x3 x4 H locs ls h hP hD hS hl; exact B7  (wp_Mo_by_L7 post  n) ih x1 x2 x3 x4 H locs ls h hP hD hS hl
  obtain ⟨H, hH⟩ : ∃ H : Heap, H = s.heap := ⟨_, rfl⟩
  obtain ⟨locs, hlo⟩ : ∃ x : List Loc, x = [] := ⟨_, rfl⟩
  have hS : va_S A s.heap H locs := by rw [hH, hlo]; exact hS
  rw [← hH] at hP
  rw [← hlo]
  show W p l e rm_Mo_by s m args below meth c s.heap locs 0 0 Q (F0 m 0 ls [])
  rw [← hH]
  refine lv_iconst (v := (0 : Int32)) hx hb d_Mo_by_0 (by decide) ?_
  refine lv_istore_n (lv' := [(2, .int (0 : Int32)), (0, .int p0), (1, .int p1)]) hx hb d_Mo_by_1 rfl hl (by decide) rfl (fun ls hl => ?_)
  refine lv_iload_n hx hb d_Mo_by_2 rfl (lv_at hl 1 rfl) ?_
  refine lv_istore_n (lv' := [(3, .int p0), (2, .int (0 : Int32)), (0, .int p0), (1, .int p1)]) hx hb d_Mo_by_3 rfl hl (by decide) rfl (fun ls hl => ?_)
  refine lv_iconst (v := (0 : Int32)) hx hb d_Mo_by_4 (by decide) ?_
  refine lv_istore (lv' := [(4, .int (0 : Int32)), (3, .int p0), (2, .int (0 : Int32)), (0, .int p0), (1, .int p1)]) hx hb d_Mo_by_5 hl (by decide) rfl (fun ls hl => ?_)
  obtain ⟨n, h⟩ := h
  exact L7  n p1 (0 : Int32) p0 (0 : Int32) H locs ls h hP hD hS (lv_sub hl [4, 2, 1, 0] rfl)
abbrev wd_Mo_raised  (cI cZ : ClassId)  : va_W := []
def wp_Mo_raised_b29  (post : Int32 → Prop) (K7 : Int32 → Int32 → Int32 → Prop) (x3 : Int32) (x4 : Int32) (t0 : Int32) : Prop := wp_Mo_by x3 x3 (fun r_32 => (∀ x4_40 : Int32, x4_40 = (x4 >>> ((1 : Int32) &&& 31)) → (K7 t0 r_32 x4_40)))
def wp_Mo_raised_b7  (post : Int32 → Prop) (K7 : Int32 → Int32 → Int32 → Prop) (x2 : Int32) (x3 : Int32) (x4 : Int32) : Prop := (x4 ≤ 0 → (post x2)) ∧ (¬ x4 ≤ 0 → ((¬ (x4 &&& (1 : Int32)) = (1 : Int32) → (wp_Mo_raised_b29 post K7 x3 x4 x2)) ∧ ((x4 &&& (1 : Int32)) = (1 : Int32) → (wp_Mo_by x2 x3 (fun r_22 => (wp_Mo_raised_b29 post K7 x3 x4 r_22))))))
def wp_Mo_raised_L7  (post : Int32 → Prop)  : Nat → Int32 → Int32 → Int32 → Prop
  | 0 => fun _ _ _ => False
  | n + 1 => wp_Mo_raised_b7 post (wp_Mo_raised_L7 post n)
def wp_Mo_raised (p0 : Int32) (p1 : Int32) (post : Int32 → Prop) : Prop := ∃ n : Nat, wp_Mo_raised_L7 post  n (1 : Int32) p0 p1
abbrev rm_Mo_raised : Room := { frames := 1, cells := 0, slots := 0, locals := 24 }
set_option maxHeartbeats 4000000 in
set_option maxRecDepth 100000 in
theorem ct_Mo_raised (l : Launch) (dC : Nat → ClassId) (dI : Nat → Nat → Nat)  (cI cZ : ClassId)  (p0 : Int32) (p1 : Int32) (post : Int32 → Prop) (h : wp_Mo_raised p0 p1 post) (sz : Nat) : Met l y_Mo_raised (Cond.code y_Mo_raised c_Mo_raised 5 (some .int) :: tb) rm_Mo_raised (mt_P (dC, dI) vwCl [(cI, .int), (cZ, .boolean)] [.int p0, .int p1] (wd_Mo_raised cI cZ) sz) (va_Qi (fun (r : Int32) (u : Unit) => post r) (mt_B (dC, dI) vwCl [(cI, .int), (cZ, .boolean)] (wd_Mo_raised cI cZ) sz (fun u : Unit => wd_Mo_raised cI cZ)) (va_A (wd_Mo_raised cI cZ) sz)) 0 0 (va_A (wd_Mo_raised cI cZ) sz) := by
  refine mt_bd (by decide +kernel) (Nat.le_of_ble_eq_true rfl) ?_
  intro p e s m args below meth c hx hb hml hown hts hr hlk hnm hsz hP hK hD hA hS ls hl
  subst hsz
  have hown : s.vm.findClass "ReedSetsModel" = some m.cls := hown
  have hl : lv_has ls 5 [(0, .int p0), (1, .int p1)] := hl
  refine lz_Q (fun Q hQ => ?_)
  obtain ⟨A, hAe⟩ : ∃ A : Nat → Prop, A = va_A (wd_Mo_raised cI cZ) s.heap.size := ⟨_, rfl⟩
  rw [← hAe] at hD hA hS
  have RET : ∀ (v : Int32)  (H : Heap) (locs : List Loc) (ls : Array Slot) (pc : Nat), decode c_Mo_raised pc = .ok (.ireturn, 1) → post v  → va_P (dC, dI) vwCl (wd_Mo_raised cI cZ) H → va_D A (wd_Mo_raised cI cZ) → va_S A s.heap H locs → W p l e rm_Mo_raised s m args below meth c H locs 0 0 Q (F0 m pc ls [.int v]) := by
    intro v  H locs ls pc hd hp h1 h2 h3
    rw [hQ]
    rw [hAe] at h2 h3
    exact mt_reti () hx hb hr hlk hd hK h1 h2 h3 hp
  have B29 : ∀ (K7 : Int32 → Int32 → Int32 → Prop) (HK7 : ∀ (x2 : Int32) (x3 : Int32) (x4 : Int32) (H : Heap) (locs : List Loc) (ls : Array Slot), K7 x2 x3 x4 → va_P (dC, dI) vwCl (wd_Mo_raised cI cZ) H → va_D A (wd_Mo_raised cI cZ) → va_S A s.heap H locs → lv_has ls 5 [(2, .int x2), (3, .int x3), (4, .int x4)] → W p l e rm_Mo_raised s m args below meth c H locs 0 0 Q (F0 m 7 ls [])), ∀ (x3 : Int32) (x4 : Int32) (t0 : Int32) (H : Heap) (locs : List Loc) (ls : Array Slot), wp_Mo_raised_b29 post K7 x3 x4 t0 → va_P (dC, dI) vwCl (wd_Mo_raised cI cZ) H → va_D A (wd_Mo_raised cI cZ) → va_S A s.heap H locs → lv_has ls 5 [(3, .int x3), (4, .int x4)] → W p l e rm_Mo_raised s m args below meth c H locs 0 0 Q (F0 m 29 ls [.int t0]) := by
    intro K7 HK7 x3 x4 t0 H locs ls h hP hD hS hl
    refine lv_istore_n (lv' := [(2, .int t0), (3, .int x3), (4, .int x4)]) hx hb d_Mo_raised_29 rfl hl (by decide) rfl (fun ls hl => ?_)
    refine lv_iload_n hx hb d_Mo_raised_30 rfl (lv_at hl 1 rfl) ?_
    refine lv_iload_n hx hb d_Mo_raised_31 rfl (lv_at hl 1 rfl) ?_
    refine mt_i (va_runS (As := [.int x3, .int x3]) (rest := []) ⟨hx, hb, hml, hown, hts⟩ (ct_Mo_by l dC dI  cI cZ x3 x3 _ h _) (tb_cS hts ok_Mo_by tb_786 rfl rfl ⟨Nat.le_of_ble_eq_true rfl, Nat.le_of_ble_eq_true rfl⟩) (mt_preS hK hP hD [.int x3, .int x3] [] rfl (by decide)) rfl rfl hl.1 rfl (lv_room (Nat.le_of_ble_eq_true rfl)) d_Mo_raised_32 ⟨Nat.zero_le _, Nat.zero_le _⟩) hP hD hS hA [] rfl (fun _ => rfl) (fun r_32 u H locs h hP hD hS => ?_)
    have hP : va_P (dC, dI) vwCl (wd_Mo_raised cI cZ) H := hP
    have hD : va_D A (wd_Mo_raised cI cZ) := hD
    refine lv_istore_n (lv' := [(3, .int r_32), (2, .int t0), (4, .int x4)]) hx hb d_Mo_raised_35 rfl hl (by decide) rfl (fun ls hl => ?_)
    refine lv_iload hx hb d_Mo_raised_36 (lv_at hl 2 rfl) ?_
    refine lv_iconst (v := (1 : Int32)) hx hb d_Mo_raised_38 (by decide) ?_
    refine lv_ishr hx hb d_Mo_raised_39 ?_
    refine lv_topi (fun x4_40 ex4_40 => ?_)
    have h := h x4_40 ex4_40
    refine lv_istore (lv' := [(4, .int x4_40), (3, .int r_32), (2, .int t0)]) hx hb d_Mo_raised_40 hl (by decide) rfl (fun ls hl => ?_)
    refine lv_goto (tgt := 7) hx hb d_Mo_raised_42 (by decide) ?_
    exact HK7 t0 r_32 x4_40 H locs ls h hP hD hS (lv_sub hl [2, 1, 0] rfl)
  have B7 : ∀ (K7 : Int32 → Int32 → Int32 → Prop) (HK7 : ∀ (x2 : Int32) (x3 : Int32) (x4 : Int32) (H : Heap) (locs : List Loc) (ls : Array Slot), K7 x2 x3 x4 → va_P (dC, dI) vwCl (wd_Mo_raised cI cZ) H → va_D A (wd_Mo_raised cI cZ) → va_S A s.heap H locs → lv_has ls 5 [(2, .int x2), (3, .int x3), (4, .int x4)] → W p l e rm_Mo_raised s m args below meth c H locs 0 0 Q (F0 m 7 ls [])), ∀ (x2 : Int32) (x3 : Int32) (x4 : Int32) (H : Heap) (locs : List Loc) (ls : Array Slot), wp_Mo_raised_b7 post K7 x2 x3 x4 → va_P (dC, dI) vwCl (wd_Mo_raised cI cZ) H → va_D A (wd_Mo_raised cI cZ) → va_S A s.heap H locs → lv_has ls 5 [(2, .int x2), (3, .int x3), (4, .int x4)] → W p l e rm_Mo_raised s m args below meth c H locs 0 0 Q (F0 m 7 ls []) := by
    intro K7 HK7 x2 x3 x4 H locs ls h hP hD hS hl
    refine lv_iload hx hb d_Mo_raised_7 (lv_at hl 2 rfl) ?_
    refine lv_if_le (tgt := 45) hx hb d_Mo_raised_9 (by decide) (fun g9 => ?_) (fun g9 => ?_)
    · have h := h.1 g9
      refine lv_iload_n hx hb d_Mo_raised_45 rfl (lv_at hl 0 rfl) ?_
      exact RET x2 H locs ls 46 d_Mo_raised_46 h hP hD hS
    · have h := h.2 g9
      refine lv_iload hx hb d_Mo_raised_12 (lv_at hl 2 rfl) ?_
      refine lv_iconst (v := (1 : Int32)) hx hb d_Mo_raised_14 (by decide) ?_
      refine lv_iand hx hb d_Mo_raised_15 ?_
      refine lv_iconst (v := (1 : Int32)) hx hb d_Mo_raised_16 (by decide) ?_
      refine lv_icmp_ne (tgt := 28) hx hb d_Mo_raised_17 (by decide) (fun g17 => ?_) (fun g17 => ?_)
      · have h := h.1 g17
        refine lv_iload_n hx hb d_Mo_raised_28 rfl (lv_at hl 0 rfl) ?_
        exact B29 K7 HK7 x3 x4 x2 H locs ls h hP hD hS (lv_sub hl [1, 2] rfl)
      · have h := h.2 g17
        refine lv_iload_n hx hb d_Mo_raised_20 rfl (lv_at hl 0 rfl) ?_
        refine lv_iload_n hx hb d_Mo_raised_21 rfl (lv_at hl 1 rfl) ?_
        refine mt_i (va_runS (As := [.int x2, .int x3]) (rest := []) ⟨hx, hb, hml, hown, hts⟩ (ct_Mo_by l dC dI  cI cZ x2 x3 _ h _) (tb_cS hts ok_Mo_by tb_786 rfl rfl ⟨Nat.le_of_ble_eq_true rfl, Nat.le_of_ble_eq_true rfl⟩) (mt_preS hK hP hD [.int x2, .int x3] [] rfl (by decide)) rfl rfl hl.1 rfl (lv_room (Nat.le_of_ble_eq_true rfl)) d_Mo_raised_22 ⟨Nat.zero_le _, Nat.zero_le _⟩) hP hD hS hA [] rfl (fun _ => rfl) (fun r_22 u H locs h hP hD hS => ?_)
        have hP : va_P (dC, dI) vwCl (wd_Mo_raised cI cZ) H := hP
        have hD : va_D A (wd_Mo_raised cI cZ) := hD
        refine lv_goto (tgt := 29) hx hb d_Mo_raised_25 (by decide) ?_
        exact B29 K7 HK7 x3 x4 r_22 H locs ls h hP hD hS (lv_sub hl [1, 2] rfl)
  have L7 : ∀  (n : Nat), ∀ (x2 : Int32) (x3 : Int32) (x4 : Int32) (H : Heap) (locs : List Loc) (ls : Array Slot), wp_Mo_raised_L7 post  n x2 x3 x4 → va_P (dC, dI) vwCl (wd_Mo_raised cI cZ) H → va_D A (wd_Mo_raised cI cZ) → va_S A s.heap H locs → lv_has ls 5 [(2, .int x2), (3, .int x3), (4, .int x4)] → W p l e rm_Mo_raised s m args below meth c H locs 0 0 Q (F0 m 7 ls []) := by
    intro  n
    induction n with
    | zero => intro x2 x3 x4 H locs ls h hP hD hS hl; exact False.elim h
    | succ n ih => intro x2 x3 x4 H locs ls h hP hD hS hl; exact B7  (wp_Mo_raised_L7 post  n) ih x2 x3 x4 H locs ls h hP hD hS hl
  obtain ⟨H, hH⟩ : ∃ H : Heap, H = s.heap := ⟨_, rfl⟩
  obtain ⟨locs, hlo⟩ : ∃ x : List Loc, x = [] := ⟨_, rfl⟩
  have hS : va_S A s.heap H locs := by rw [hH, hlo]; exact hS
  rw [← hH] at hP
  rw [← hlo]
  show W p l e rm_Mo_raised s m args below meth c s.heap locs 0 0 Q (F0 m 0 ls [])
  rw [← hH]
  refine lv_iconst (v := (1 : Int32)) hx hb d_Mo_raised_0 (by decide) ?_
  refine lv_istore_n (lv' := [(2, .int (1 : Int32)), (0, .int p0), (1, .int p1)]) hx hb d_Mo_raised_1 rfl hl (by decide) rfl (fun ls hl => ?_)
  refine lv_iload_n hx hb d_Mo_raised_2 rfl (lv_at hl 1 rfl) ?_
  refine lv_istore_n (lv' := [(3, .int p0), (2, .int (1 : Int32)), (0, .int p0), (1, .int p1)]) hx hb d_Mo_raised_3 rfl hl (by decide) rfl (fun ls hl => ?_)
  refine lv_iload_n hx hb d_Mo_raised_4 rfl (lv_at hl 3 rfl) ?_
  refine lv_istore (lv' := [(4, .int p1), (3, .int p0), (2, .int (1 : Int32)), (0, .int p0), (1, .int p1)]) hx hb d_Mo_raised_5 hl (by decide) rfl (fun ls hl => ?_)
  obtain ⟨n, h⟩ := h
  exact L7  n (1 : Int32) p0 p1 H locs ls h hP hD hS (lv_sub hl [2, 1, 0] rfl)
abbrev wd_Mo_inverse  (cI cZ : ClassId)  : va_W := []
def wp_Mo_inverse (p0 : Int32) (post : Int32 → Prop) : Prop := wp_Mo_raised p0 (254 : Int32) (fun r_4 => (post r_4))
abbrev rm_Mo_inverse : Room := { frames := 2, cells := 0, slots := 0, locals := 48 }
set_option maxHeartbeats 4000000 in
set_option maxRecDepth 100000 in
theorem ct_Mo_inverse (l : Launch) (dC : Nat → ClassId) (dI : Nat → Nat → Nat)  (cI cZ : ClassId)  (p0 : Int32) (post : Int32 → Prop) (h : wp_Mo_inverse p0 post) (sz : Nat) : Met l y_Mo_inverse (Cond.code y_Mo_inverse c_Mo_inverse 1 (some .int) :: tb) rm_Mo_inverse (mt_P (dC, dI) vwCl [(cI, .int), (cZ, .boolean)] [.int p0] (wd_Mo_inverse cI cZ) sz) (va_Qi (fun (r : Int32) (u : Unit) => post r) (mt_B (dC, dI) vwCl [(cI, .int), (cZ, .boolean)] (wd_Mo_inverse cI cZ) sz (fun u : Unit => wd_Mo_inverse cI cZ)) (va_A (wd_Mo_inverse cI cZ) sz)) 0 0 (va_A (wd_Mo_inverse cI cZ) sz) := by
  refine mt_bd (by decide +kernel) (Nat.le_of_ble_eq_true rfl) ?_
  intro p e s m args below meth c hx hb hml hown hts hr hlk hnm hsz hP hK hD hA hS ls hl
  subst hsz
  have hown : s.vm.findClass "ReedSetsModel" = some m.cls := hown
  have hl : lv_has ls 1 [(0, .int p0)] := hl
  refine lz_Q (fun Q hQ => ?_)
  obtain ⟨A, hAe⟩ : ∃ A : Nat → Prop, A = va_A (wd_Mo_inverse cI cZ) s.heap.size := ⟨_, rfl⟩
  rw [← hAe] at hD hA hS
  have RET : ∀ (v : Int32)  (H : Heap) (locs : List Loc) (ls : Array Slot) (pc : Nat), decode c_Mo_inverse pc = .ok (.ireturn, 1) → post v  → va_P (dC, dI) vwCl (wd_Mo_inverse cI cZ) H → va_D A (wd_Mo_inverse cI cZ) → va_S A s.heap H locs → W p l e rm_Mo_inverse s m args below meth c H locs 0 0 Q (F0 m pc ls [.int v]) := by
    intro v  H locs ls pc hd hp h1 h2 h3
    rw [hQ]
    rw [hAe] at h2 h3
    exact mt_reti () hx hb hr hlk hd hK h1 h2 h3 hp
  obtain ⟨H, hH⟩ : ∃ H : Heap, H = s.heap := ⟨_, rfl⟩
  obtain ⟨locs, hlo⟩ : ∃ x : List Loc, x = [] := ⟨_, rfl⟩
  have hS : va_S A s.heap H locs := by rw [hH, hlo]; exact hS
  rw [← hH] at hP
  rw [← hlo]
  show W p l e rm_Mo_inverse s m args below meth c s.heap locs 0 0 Q (F0 m 0 ls [])
  rw [← hH]
  refine lv_iload_n hx hb d_Mo_inverse_0 rfl (lv_at hl 0 rfl) ?_
  refine lv_sipush (v := (254 : Int32)) hx hb d_Mo_inverse_1 (by decide) ?_
  refine mt_i (va_runS (As := [.int p0, .int (254 : Int32)]) (rest := []) ⟨hx, hb, hml, hown, hts⟩ (ct_Mo_raised l dC dI  cI cZ p0 (254 : Int32) _ h _) (tb_cS hts ok_Mo_raised tb_796 rfl rfl ⟨Nat.le_of_ble_eq_true rfl, Nat.le_of_ble_eq_true rfl⟩) (mt_preS hK hP hD [.int p0, .int (254 : Int32)] [] rfl (by decide)) rfl rfl hl.1 rfl (lv_room (Nat.le_of_ble_eq_true rfl)) d_Mo_inverse_4 ⟨Nat.zero_le _, Nat.zero_le _⟩) hP hD hS hA [] rfl (fun _ => rfl) (fun r_4 u H locs h hP hD hS => ?_)
  have hP : va_P (dC, dI) vwCl (wd_Mo_inverse cI cZ) H := hP
  have hD : va_D A (wd_Mo_inverse cI cZ) := hD
  exact RET r_4 H locs ls 7 d_Mo_inverse_7 h hP hD hS
abbrev wd_Mo_times (aM aM_word aM_lost aM_generators aM_changedPlaces aM_changedBy aM_work aM_workLost aM_sums aM_rest aM_spots aM_matrix aM_answer aM_block aM_sent aM_asLaid aM_sentLost aM_told aM_shares aM_used aM_downs aM_weights : Nat) (cI cZ : ClassId) (M_n : Int32) (M_k : Int32) (M_b : Int32) (M_changes : Int32) (M_workSize : Int32) (M_workRepairs : Int32) (M_workFirst : Int32) (M_spotCount : Int32) (M_blockSize : Int32) (M_laid : Int32) (M_stripes : Int32) (M_longest : Int32) (M_laidRepairs : Int32) (M_laidFirst : Int32) (M_degree : Int32) (M_wide : Int32) (M_toldCount : Int32) : va_W := [(aM, .inr (7, [.int M_n, .int M_k, .int M_b, .ref aM_word, .ref aM_lost, .ref aM_generators, .int M_changes, .ref aM_changedPlaces, .ref aM_changedBy, .ref aM_work, .ref aM_workLost, .int M_workSize, .int M_workRepairs, .int M_workFirst, .ref aM_sums, .ref aM_rest, .ref aM_spots, .int M_spotCount, .ref aM_matrix, .ref aM_answer, .ref aM_block, .int M_blockSize, .int M_laid, .int M_stripes, .int M_longest, .int M_laidRepairs, .int M_laidFirst, .ref aM_sent, .ref aM_asLaid, .ref aM_sentLost, .int M_degree, .int M_wide, .ref aM_told, .ref aM_shares, .int M_toldCount, .ref aM_used, .ref aM_downs, .ref aM_weights]))]
def wp_Mo_times_b23  (post : Int32 → Prop)  (t0 : Int32) : Prop := post t0
def wp_Mo_times_b22  (post : Int32 → Prop)   : Prop := wp_Mo_times_b23 post  (-1 : Int32)
def wp_Mo_times (p1 : Int32) (p2 : Int32) (post : Int32 → Prop) : Prop := wp_Mo_isByte p1 (fun r_1 => ((r_1 = 0 → (wp_Mo_times_b22 post  )) ∧ (¬ r_1 = 0 → (wp_Mo_isByte p2 (fun r_8 => ((r_8 = 0 → (wp_Mo_times_b22 post  )) ∧ (¬ r_8 = 0 → (wp_Mo_by p1 p2 (fun r_16 => (wp_Mo_times_b23 post  r_16))))))))))
abbrev rm_Mo_times : Room := { frames := 1, cells := 0, slots := 0, locals := 24 }
set_option maxHeartbeats 4000000 in
set_option maxRecDepth 100000 in
theorem ct_Mo_times (l : Launch) (dC : Nat → ClassId) (dI : Nat → Nat → Nat) (aM aM_word aM_lost aM_generators aM_changedPlaces aM_changedBy aM_work aM_workLost aM_sums aM_rest aM_spots aM_matrix aM_answer aM_block aM_sent aM_asLaid aM_sentLost aM_told aM_shares aM_used aM_downs aM_weights : Nat) (cI cZ : ClassId) (M_n : Int32) (M_k : Int32) (M_b : Int32) (M_changes : Int32) (M_workSize : Int32) (M_workRepairs : Int32) (M_workFirst : Int32) (M_spotCount : Int32) (M_blockSize : Int32) (M_laid : Int32) (M_stripes : Int32) (M_longest : Int32) (M_laidRepairs : Int32) (M_laidFirst : Int32) (M_degree : Int32) (M_wide : Int32) (M_toldCount : Int32) (p1 : Int32) (p2 : Int32) (post : Int32 → Prop) (h : wp_Mo_times p1 p2 post) (sz : Nat) : Met l y_Mo_times (Cond.code y_Mo_times c_Mo_times 3 (some .int) :: tb) rm_Mo_times (mt_P (dC, dI) vwCl [(cI, .int), (cZ, .boolean)] [.ref aM, .int p1, .int p2] (wd_Mo_times aM aM_word aM_lost aM_generators aM_changedPlaces aM_changedBy aM_work aM_workLost aM_sums aM_rest aM_spots aM_matrix aM_answer aM_block aM_sent aM_asLaid aM_sentLost aM_told aM_shares aM_used aM_downs aM_weights cI cZ M_n M_k M_b M_changes M_workSize M_workRepairs M_workFirst M_spotCount M_blockSize M_laid M_stripes M_longest M_laidRepairs M_laidFirst M_degree M_wide M_toldCount) sz) (va_Qi (fun (r : Int32) (u : Unit) => post r) (mt_B (dC, dI) vwCl [(cI, .int), (cZ, .boolean)] (wd_Mo_times aM aM_word aM_lost aM_generators aM_changedPlaces aM_changedBy aM_work aM_workLost aM_sums aM_rest aM_spots aM_matrix aM_answer aM_block aM_sent aM_asLaid aM_sentLost aM_told aM_shares aM_used aM_downs aM_weights cI cZ M_n M_k M_b M_changes M_workSize M_workRepairs M_workFirst M_spotCount M_blockSize M_laid M_stripes M_longest M_laidRepairs M_laidFirst M_degree M_wide M_toldCount) sz (fun u : Unit => wd_Mo_times aM aM_word aM_lost aM_generators aM_changedPlaces aM_changedBy aM_work aM_workLost aM_sums aM_rest aM_spots aM_matrix aM_answer aM_block aM_sent aM_asLaid aM_sentLost aM_told aM_shares aM_used aM_downs aM_weights cI cZ M_n M_k M_b M_changes M_workSize M_workRepairs M_workFirst M_spotCount M_blockSize M_laid M_stripes M_longest M_laidRepairs M_laidFirst M_degree M_wide M_toldCount)) (va_A (wd_Mo_times aM aM_word aM_lost aM_generators aM_changedPlaces aM_changedBy aM_work aM_workLost aM_sums aM_rest aM_spots aM_matrix aM_answer aM_block aM_sent aM_asLaid aM_sentLost aM_told aM_shares aM_used aM_downs aM_weights cI cZ M_n M_k M_b M_changes M_workSize M_workRepairs M_workFirst M_spotCount M_blockSize M_laid M_stripes M_longest M_laidRepairs M_laidFirst M_degree M_wide M_toldCount) sz)) 0 0 (va_A (wd_Mo_times aM aM_word aM_lost aM_generators aM_changedPlaces aM_changedBy aM_work aM_workLost aM_sums aM_rest aM_spots aM_matrix aM_answer aM_block aM_sent aM_asLaid aM_sentLost aM_told aM_shares aM_used aM_downs aM_weights cI cZ M_n M_k M_b M_changes M_workSize M_workRepairs M_workFirst M_spotCount M_blockSize M_laid M_stripes M_longest M_laidRepairs M_laidFirst M_degree M_wide M_toldCount) sz) := by
  refine mt_bd (by decide +kernel) (Nat.le_of_ble_eq_true rfl) ?_
  intro p e s m args below meth c hx hb hml hown hts hr hlk hnm hsz hP hK hD hA hS ls hl
  subst hsz
  have hown : s.vm.findClass "ReedSetsModel" = some m.cls := hown
  have hl : lv_has ls 3 [(0, .ref aM), (1, .int p1), (2, .int p2)] := hl
  refine lz_Q (fun Q hQ => ?_)
  obtain ⟨A, hAe⟩ : ∃ A : Nat → Prop, A = va_A (wd_Mo_times aM aM_word aM_lost aM_generators aM_changedPlaces aM_changedBy aM_work aM_workLost aM_sums aM_rest aM_spots aM_matrix aM_answer aM_block aM_sent aM_asLaid aM_sentLost aM_told aM_shares aM_used aM_downs aM_weights cI cZ M_n M_k M_b M_changes M_workSize M_workRepairs M_workFirst M_spotCount M_blockSize M_laid M_stripes M_longest M_laidRepairs M_laidFirst M_degree M_wide M_toldCount) s.heap.size := ⟨_, rfl⟩
  rw [← hAe] at hD hA hS
  have RET : ∀ (v : Int32)  (H : Heap) (locs : List Loc) (ls : Array Slot) (pc : Nat), decode c_Mo_times pc = .ok (.ireturn, 1) → post v  → va_P (dC, dI) vwCl (wd_Mo_times aM aM_word aM_lost aM_generators aM_changedPlaces aM_changedBy aM_work aM_workLost aM_sums aM_rest aM_spots aM_matrix aM_answer aM_block aM_sent aM_asLaid aM_sentLost aM_told aM_shares aM_used aM_downs aM_weights cI cZ M_n M_k M_b M_changes M_workSize M_workRepairs M_workFirst M_spotCount M_blockSize M_laid M_stripes M_longest M_laidRepairs M_laidFirst M_degree M_wide M_toldCount) H → va_D A (wd_Mo_times aM aM_word aM_lost aM_generators aM_changedPlaces aM_changedBy aM_work aM_workLost aM_sums aM_rest aM_spots aM_matrix aM_answer aM_block aM_sent aM_asLaid aM_sentLost aM_told aM_shares aM_used aM_downs aM_weights cI cZ M_n M_k M_b M_changes M_workSize M_workRepairs M_workFirst M_spotCount M_blockSize M_laid M_stripes M_longest M_laidRepairs M_laidFirst M_degree M_wide M_toldCount) → va_S A s.heap H locs → W p l e rm_Mo_times s m args below meth c H locs 0 0 Q (F0 m pc ls [.int v]) := by
    intro v  H locs ls pc hd hp h1 h2 h3
    rw [hQ]
    rw [hAe] at h2 h3
    exact mt_reti () hx hb hr hlk hd hK h1 h2 h3 hp
  have B23 : ∀ (t0 : Int32) (H : Heap) (locs : List Loc) (ls : Array Slot), wp_Mo_times_b23 post  t0 → va_P (dC, dI) vwCl (wd_Mo_times aM aM_word aM_lost aM_generators aM_changedPlaces aM_changedBy aM_work aM_workLost aM_sums aM_rest aM_spots aM_matrix aM_answer aM_block aM_sent aM_asLaid aM_sentLost aM_told aM_shares aM_used aM_downs aM_weights cI cZ M_n M_k M_b M_changes M_workSize M_workRepairs M_workFirst M_spotCount M_blockSize M_laid M_stripes M_longest M_laidRepairs M_laidFirst M_degree M_wide M_toldCount) H → va_D A (wd_Mo_times aM aM_word aM_lost aM_generators aM_changedPlaces aM_changedBy aM_work aM_workLost aM_sums aM_rest aM_spots aM_matrix aM_answer aM_block aM_sent aM_asLaid aM_sentLost aM_told aM_shares aM_used aM_downs aM_weights cI cZ M_n M_k M_b M_changes M_workSize M_workRepairs M_workFirst M_spotCount M_blockSize M_laid M_stripes M_longest M_laidRepairs M_laidFirst M_degree M_wide M_toldCount) → va_S A s.heap H locs → lv_has ls 3 [] → W p l e rm_Mo_times s m args below meth c H locs 0 0 Q (F0 m 23 ls [.int t0]) := by
    intro  t0 H locs ls h hP hD hS hl
    exact RET t0 H locs ls 23 d_Mo_times_23 h hP hD hS
  have B22 : ∀  (H : Heap) (locs : List Loc) (ls : Array Slot), wp_Mo_times_b22 post   → va_P (dC, dI) vwCl (wd_Mo_times aM aM_word aM_lost aM_generators aM_changedPlaces aM_changedBy aM_work aM_workLost aM_sums aM_rest aM_spots aM_matrix aM_answer aM_block aM_sent aM_asLaid aM_sentLost aM_told aM_shares aM_used aM_downs aM_weights cI cZ M_n M_k M_b M_changes M_workSize M_workRepairs M_workFirst M_spotCount M_blockSize M_laid M_stripes M_longest M_laidRepairs M_laidFirst M_degree M_wide M_toldCount) H → va_D A (wd_Mo_times aM aM_word aM_lost aM_generators aM_changedPlaces aM_changedBy aM_work aM_workLost aM_sums aM_rest aM_spots aM_matrix aM_answer aM_block aM_sent aM_asLaid aM_sentLost aM_told aM_shares aM_used aM_downs aM_weights cI cZ M_n M_k M_b M_changes M_workSize M_workRepairs M_workFirst M_spotCount M_blockSize M_laid M_stripes M_longest M_laidRepairs M_laidFirst M_degree M_wide M_toldCount) → va_S A s.heap H locs → lv_has ls 3 [] → W p l e rm_Mo_times s m args below meth c H locs 0 0 Q (F0 m 22 ls []) := by
    intro   H locs ls h hP hD hS hl
    refine lv_iconst (v := (-1 : Int32)) hx hb d_Mo_times_22 (by decide) ?_
    exact B23  (-1 : Int32) H locs ls h hP hD hS (lv_sub hl [] rfl)
  obtain ⟨H, hH⟩ : ∃ H : Heap, H = s.heap := ⟨_, rfl⟩
  obtain ⟨locs, hlo⟩ : ∃ x : List Loc, x = [] := ⟨_, rfl⟩
  have hS : va_S A s.heap H locs := by rw [hH, hlo]; exact hS
  rw [← hH] at hP
  rw [← hlo]
  show W p l e rm_Mo_times s m args below meth c s.heap locs 0 0 Q (F0 m 0 ls [])
  rw [← hH]
  refine lv_iload_n hx hb d_Mo_times_0 rfl (lv_at hl 1 rfl) ?_
  refine mt_i (va_runS (As := [.int p1]) (rest := []) ⟨hx, hb, hml, hown, hts⟩ (ct_Mo_isByte l dC dI  cI cZ p1 _ h _) (tb_cS hts ok_Mo_isByte tb_783 rfl rfl ⟨Nat.le_of_ble_eq_true rfl, Nat.le_of_ble_eq_true rfl⟩) (mt_preS hK hP hD [.int p1] [] rfl (by decide)) rfl rfl hl.1 rfl (lv_room (Nat.le_of_ble_eq_true rfl)) d_Mo_times_1 ⟨Nat.zero_le _, Nat.zero_le _⟩) hP hD hS hA [] rfl (fun _ => rfl) (fun r_1 u H locs h hP hD hS => ?_)
  have hP : va_P (dC, dI) vwCl (wd_Mo_times aM aM_word aM_lost aM_generators aM_changedPlaces aM_changedBy aM_work aM_workLost aM_sums aM_rest aM_spots aM_matrix aM_answer aM_block aM_sent aM_asLaid aM_sentLost aM_told aM_shares aM_used aM_downs aM_weights cI cZ M_n M_k M_b M_changes M_workSize M_workRepairs M_workFirst M_spotCount M_blockSize M_laid M_stripes M_longest M_laidRepairs M_laidFirst M_degree M_wide M_toldCount) H := hP
  have hD : va_D A (wd_Mo_times aM aM_word aM_lost aM_generators aM_changedPlaces aM_changedBy aM_work aM_workLost aM_sums aM_rest aM_spots aM_matrix aM_answer aM_block aM_sent aM_asLaid aM_sentLost aM_told aM_shares aM_used aM_downs aM_weights cI cZ M_n M_k M_b M_changes M_workSize M_workRepairs M_workFirst M_spotCount M_blockSize M_laid M_stripes M_longest M_laidRepairs M_laidFirst M_degree M_wide M_toldCount) := hD
  refine lv_if_eq (tgt := 22) hx hb d_Mo_times_4 (by decide) (fun g4 => ?_) (fun g4 => ?_)
  · have h := h.1 g4
    exact B22   H locs ls h hP hD hS (lv_sub hl [] rfl)
  · have h := h.2 g4
    refine lv_iload_n hx hb d_Mo_times_7 rfl (lv_at hl 2 rfl) ?_
    refine mt_i (va_runS (As := [.int p2]) (rest := []) ⟨hx, hb, hml, hown, hts⟩ (ct_Mo_isByte l dC dI  cI cZ p2 _ h _) (tb_cS hts ok_Mo_isByte tb_783 rfl rfl ⟨Nat.le_of_ble_eq_true rfl, Nat.le_of_ble_eq_true rfl⟩) (mt_preS hK hP hD [.int p2] [] rfl (by decide)) rfl rfl hl.1 rfl (lv_room (Nat.le_of_ble_eq_true rfl)) d_Mo_times_8 ⟨Nat.zero_le _, Nat.zero_le _⟩) hP hD hS hA [] rfl (fun _ => rfl) (fun r_8 u H locs h hP hD hS => ?_)
    have hP : va_P (dC, dI) vwCl (wd_Mo_times aM aM_word aM_lost aM_generators aM_changedPlaces aM_changedBy aM_work aM_workLost aM_sums aM_rest aM_spots aM_matrix aM_answer aM_block aM_sent aM_asLaid aM_sentLost aM_told aM_shares aM_used aM_downs aM_weights cI cZ M_n M_k M_b M_changes M_workSize M_workRepairs M_workFirst M_spotCount M_blockSize M_laid M_stripes M_longest M_laidRepairs M_laidFirst M_degree M_wide M_toldCount) H := hP
    have hD : va_D A (wd_Mo_times aM aM_word aM_lost aM_generators aM_changedPlaces aM_changedBy aM_work aM_workLost aM_sums aM_rest aM_spots aM_matrix aM_answer aM_block aM_sent aM_asLaid aM_sentLost aM_told aM_shares aM_used aM_downs aM_weights cI cZ M_n M_k M_b M_changes M_workSize M_workRepairs M_workFirst M_spotCount M_blockSize M_laid M_stripes M_longest M_laidRepairs M_laidFirst M_degree M_wide M_toldCount) := hD
    refine lv_if_eq (tgt := 22) hx hb d_Mo_times_11 (by decide) (fun g11 => ?_) (fun g11 => ?_)
    · have h := h.1 g11
      exact B22   H locs ls h hP hD hS (lv_sub hl [] rfl)
    · have h := h.2 g11
      refine lv_iload_n hx hb d_Mo_times_14 rfl (lv_at hl 1 rfl) ?_
      refine lv_iload_n hx hb d_Mo_times_15 rfl (lv_at hl 2 rfl) ?_
      refine mt_i (va_runS (As := [.int p1, .int p2]) (rest := []) ⟨hx, hb, hml, hown, hts⟩ (ct_Mo_by l dC dI  cI cZ p1 p2 _ h _) (tb_cS hts ok_Mo_by tb_786 rfl rfl ⟨Nat.le_of_ble_eq_true rfl, Nat.le_of_ble_eq_true rfl⟩) (mt_preS hK hP hD [.int p1, .int p2] [] rfl (by decide)) rfl rfl hl.1 rfl (lv_room (Nat.le_of_ble_eq_true rfl)) d_Mo_times_16 ⟨Nat.zero_le _, Nat.zero_le _⟩) hP hD hS hA [] rfl (fun _ => rfl) (fun r_16 u H locs h hP hD hS => ?_)
      have hP : va_P (dC, dI) vwCl (wd_Mo_times aM aM_word aM_lost aM_generators aM_changedPlaces aM_changedBy aM_work aM_workLost aM_sums aM_rest aM_spots aM_matrix aM_answer aM_block aM_sent aM_asLaid aM_sentLost aM_told aM_shares aM_used aM_downs aM_weights cI cZ M_n M_k M_b M_changes M_workSize M_workRepairs M_workFirst M_spotCount M_blockSize M_laid M_stripes M_longest M_laidRepairs M_laidFirst M_degree M_wide M_toldCount) H := hP
      have hD : va_D A (wd_Mo_times aM aM_word aM_lost aM_generators aM_changedPlaces aM_changedBy aM_work aM_workLost aM_sums aM_rest aM_spots aM_matrix aM_answer aM_block aM_sent aM_asLaid aM_sentLost aM_told aM_shares aM_used aM_downs aM_weights cI cZ M_n M_k M_b M_changes M_workSize M_workRepairs M_workFirst M_spotCount M_blockSize M_laid M_stripes M_longest M_laidRepairs M_laidFirst M_degree M_wide M_toldCount) := hD
      refine lv_goto (tgt := 23) hx hb d_Mo_times_19 (by decide) ?_
      exact B23  r_16 H locs ls h hP hD hS (lv_sub hl [] rfl)
abbrev wd_Mo_over (aM aM_word aM_lost aM_generators aM_changedPlaces aM_changedBy aM_work aM_workLost aM_sums aM_rest aM_spots aM_matrix aM_answer aM_block aM_sent aM_asLaid aM_sentLost aM_told aM_shares aM_used aM_downs aM_weights : Nat) (cI cZ : ClassId) (M_n : Int32) (M_k : Int32) (M_b : Int32) (M_changes : Int32) (M_workSize : Int32) (M_workRepairs : Int32) (M_workFirst : Int32) (M_spotCount : Int32) (M_blockSize : Int32) (M_laid : Int32) (M_stripes : Int32) (M_longest : Int32) (M_laidRepairs : Int32) (M_laidFirst : Int32) (M_degree : Int32) (M_wide : Int32) (M_toldCount : Int32) : va_W := [(aM, .inr (7, [.int M_n, .int M_k, .int M_b, .ref aM_word, .ref aM_lost, .ref aM_generators, .int M_changes, .ref aM_changedPlaces, .ref aM_changedBy, .ref aM_work, .ref aM_workLost, .int M_workSize, .int M_workRepairs, .int M_workFirst, .ref aM_sums, .ref aM_rest, .ref aM_spots, .int M_spotCount, .ref aM_matrix, .ref aM_answer, .ref aM_block, .int M_blockSize, .int M_laid, .int M_stripes, .int M_longest, .int M_laidRepairs, .int M_laidFirst, .ref aM_sent, .ref aM_asLaid, .ref aM_sentLost, .int M_degree, .int M_wide, .ref aM_told, .ref aM_shares, .int M_toldCount, .ref aM_used, .ref aM_downs, .ref aM_weights]))]
def wp_Mo_over_b30  (post : Int32 → Prop)  (t0 : Int32) : Prop := post t0
def wp_Mo_over_b29  (post : Int32 → Prop)   : Prop := wp_Mo_over_b30 post  (-1 : Int32)
def wp_Mo_over (p1 : Int32) (p2 : Int32) (post : Int32 → Prop) : Prop := wp_Mo_isByte p1 (fun r_1 => ((r_1 = 0 → (wp_Mo_over_b29 post  )) ∧ (¬ r_1 = 0 → (wp_Mo_isByte p2 (fun r_8 => ((r_8 = 0 → (wp_Mo_over_b29 post  )) ∧ (¬ r_8 = 0 → ((p2 = 0 → (wp_Mo_over_b29 post  )) ∧ (¬ p2 = 0 → (wp_Mo_inverse p2 (fun r_20 => (wp_Mo_by p1 r_20 (fun r_23 => (wp_Mo_over_b30 post  r_23))))))))))))))
abbrev rm_Mo_over : Room := { frames := 3, cells := 0, slots := 0, locals := 68 }
set_option maxHeartbeats 4000000 in
set_option maxRecDepth 100000 in
theorem ct_Mo_over (l : Launch) (dC : Nat → ClassId) (dI : Nat → Nat → Nat) (aM aM_word aM_lost aM_generators aM_changedPlaces aM_changedBy aM_work aM_workLost aM_sums aM_rest aM_spots aM_matrix aM_answer aM_block aM_sent aM_asLaid aM_sentLost aM_told aM_shares aM_used aM_downs aM_weights : Nat) (cI cZ : ClassId) (M_n : Int32) (M_k : Int32) (M_b : Int32) (M_changes : Int32) (M_workSize : Int32) (M_workRepairs : Int32) (M_workFirst : Int32) (M_spotCount : Int32) (M_blockSize : Int32) (M_laid : Int32) (M_stripes : Int32) (M_longest : Int32) (M_laidRepairs : Int32) (M_laidFirst : Int32) (M_degree : Int32) (M_wide : Int32) (M_toldCount : Int32) (p1 : Int32) (p2 : Int32) (post : Int32 → Prop) (h : wp_Mo_over p1 p2 post) (sz : Nat) : Met l y_Mo_over (Cond.code y_Mo_over c_Mo_over 3 (some .int) :: tb) rm_Mo_over (mt_P (dC, dI) vwCl [(cI, .int), (cZ, .boolean)] [.ref aM, .int p1, .int p2] (wd_Mo_over aM aM_word aM_lost aM_generators aM_changedPlaces aM_changedBy aM_work aM_workLost aM_sums aM_rest aM_spots aM_matrix aM_answer aM_block aM_sent aM_asLaid aM_sentLost aM_told aM_shares aM_used aM_downs aM_weights cI cZ M_n M_k M_b M_changes M_workSize M_workRepairs M_workFirst M_spotCount M_blockSize M_laid M_stripes M_longest M_laidRepairs M_laidFirst M_degree M_wide M_toldCount) sz) (va_Qi (fun (r : Int32) (u : Unit) => post r) (mt_B (dC, dI) vwCl [(cI, .int), (cZ, .boolean)] (wd_Mo_over aM aM_word aM_lost aM_generators aM_changedPlaces aM_changedBy aM_work aM_workLost aM_sums aM_rest aM_spots aM_matrix aM_answer aM_block aM_sent aM_asLaid aM_sentLost aM_told aM_shares aM_used aM_downs aM_weights cI cZ M_n M_k M_b M_changes M_workSize M_workRepairs M_workFirst M_spotCount M_blockSize M_laid M_stripes M_longest M_laidRepairs M_laidFirst M_degree M_wide M_toldCount) sz (fun u : Unit => wd_Mo_over aM aM_word aM_lost aM_generators aM_changedPlaces aM_changedBy aM_work aM_workLost aM_sums aM_rest aM_spots aM_matrix aM_answer aM_block aM_sent aM_asLaid aM_sentLost aM_told aM_shares aM_used aM_downs aM_weights cI cZ M_n M_k M_b M_changes M_workSize M_workRepairs M_workFirst M_spotCount M_blockSize M_laid M_stripes M_longest M_laidRepairs M_laidFirst M_degree M_wide M_toldCount)) (va_A (wd_Mo_over aM aM_word aM_lost aM_generators aM_changedPlaces aM_changedBy aM_work aM_workLost aM_sums aM_rest aM_spots aM_matrix aM_answer aM_block aM_sent aM_asLaid aM_sentLost aM_told aM_shares aM_used aM_downs aM_weights cI cZ M_n M_k M_b M_changes M_workSize M_workRepairs M_workFirst M_spotCount M_blockSize M_laid M_stripes M_longest M_laidRepairs M_laidFirst M_degree M_wide M_toldCount) sz)) 0 0 (va_A (wd_Mo_over aM aM_word aM_lost aM_generators aM_changedPlaces aM_changedBy aM_work aM_workLost aM_sums aM_rest aM_spots aM_matrix aM_answer aM_block aM_sent aM_asLaid aM_sentLost aM_told aM_shares aM_used aM_downs aM_weights cI cZ M_n M_k M_b M_changes M_workSize M_workRepairs M_workFirst M_spotCount M_blockSize M_laid M_stripes M_longest M_laidRepairs M_laidFirst M_degree M_wide M_toldCount) sz) := by
  refine mt_bd (by decide +kernel) (Nat.le_of_ble_eq_true rfl) ?_
  intro p e s m args below meth c hx hb hml hown hts hr hlk hnm hsz hP hK hD hA hS ls hl
  subst hsz
  have hown : s.vm.findClass "ReedSetsModel" = some m.cls := hown
  have hl : lv_has ls 3 [(0, .ref aM), (1, .int p1), (2, .int p2)] := hl
  refine lz_Q (fun Q hQ => ?_)
  obtain ⟨A, hAe⟩ : ∃ A : Nat → Prop, A = va_A (wd_Mo_over aM aM_word aM_lost aM_generators aM_changedPlaces aM_changedBy aM_work aM_workLost aM_sums aM_rest aM_spots aM_matrix aM_answer aM_block aM_sent aM_asLaid aM_sentLost aM_told aM_shares aM_used aM_downs aM_weights cI cZ M_n M_k M_b M_changes M_workSize M_workRepairs M_workFirst M_spotCount M_blockSize M_laid M_stripes M_longest M_laidRepairs M_laidFirst M_degree M_wide M_toldCount) s.heap.size := ⟨_, rfl⟩
  rw [← hAe] at hD hA hS
  have RET : ∀ (v : Int32)  (H : Heap) (locs : List Loc) (ls : Array Slot) (pc : Nat), decode c_Mo_over pc = .ok (.ireturn, 1) → post v  → va_P (dC, dI) vwCl (wd_Mo_over aM aM_word aM_lost aM_generators aM_changedPlaces aM_changedBy aM_work aM_workLost aM_sums aM_rest aM_spots aM_matrix aM_answer aM_block aM_sent aM_asLaid aM_sentLost aM_told aM_shares aM_used aM_downs aM_weights cI cZ M_n M_k M_b M_changes M_workSize M_workRepairs M_workFirst M_spotCount M_blockSize M_laid M_stripes M_longest M_laidRepairs M_laidFirst M_degree M_wide M_toldCount) H → va_D A (wd_Mo_over aM aM_word aM_lost aM_generators aM_changedPlaces aM_changedBy aM_work aM_workLost aM_sums aM_rest aM_spots aM_matrix aM_answer aM_block aM_sent aM_asLaid aM_sentLost aM_told aM_shares aM_used aM_downs aM_weights cI cZ M_n M_k M_b M_changes M_workSize M_workRepairs M_workFirst M_spotCount M_blockSize M_laid M_stripes M_longest M_laidRepairs M_laidFirst M_degree M_wide M_toldCount) → va_S A s.heap H locs → W p l e rm_Mo_over s m args below meth c H locs 0 0 Q (F0 m pc ls [.int v]) := by
    intro v  H locs ls pc hd hp h1 h2 h3
    rw [hQ]
    rw [hAe] at h2 h3
    exact mt_reti () hx hb hr hlk hd hK h1 h2 h3 hp
  have B30 : ∀ (t0 : Int32) (H : Heap) (locs : List Loc) (ls : Array Slot), wp_Mo_over_b30 post  t0 → va_P (dC, dI) vwCl (wd_Mo_over aM aM_word aM_lost aM_generators aM_changedPlaces aM_changedBy aM_work aM_workLost aM_sums aM_rest aM_spots aM_matrix aM_answer aM_block aM_sent aM_asLaid aM_sentLost aM_told aM_shares aM_used aM_downs aM_weights cI cZ M_n M_k M_b M_changes M_workSize M_workRepairs M_workFirst M_spotCount M_blockSize M_laid M_stripes M_longest M_laidRepairs M_laidFirst M_degree M_wide M_toldCount) H → va_D A (wd_Mo_over aM aM_word aM_lost aM_generators aM_changedPlaces aM_changedBy aM_work aM_workLost aM_sums aM_rest aM_spots aM_matrix aM_answer aM_block aM_sent aM_asLaid aM_sentLost aM_told aM_shares aM_used aM_downs aM_weights cI cZ M_n M_k M_b M_changes M_workSize M_workRepairs M_workFirst M_spotCount M_blockSize M_laid M_stripes M_longest M_laidRepairs M_laidFirst M_degree M_wide M_toldCount) → va_S A s.heap H locs → lv_has ls 3 [] → W p l e rm_Mo_over s m args below meth c H locs 0 0 Q (F0 m 30 ls [.int t0]) := by
    intro  t0 H locs ls h hP hD hS hl
    exact RET t0 H locs ls 30 d_Mo_over_30 h hP hD hS
  have B29 : ∀  (H : Heap) (locs : List Loc) (ls : Array Slot), wp_Mo_over_b29 post   → va_P (dC, dI) vwCl (wd_Mo_over aM aM_word aM_lost aM_generators aM_changedPlaces aM_changedBy aM_work aM_workLost aM_sums aM_rest aM_spots aM_matrix aM_answer aM_block aM_sent aM_asLaid aM_sentLost aM_told aM_shares aM_used aM_downs aM_weights cI cZ M_n M_k M_b M_changes M_workSize M_workRepairs M_workFirst M_spotCount M_blockSize M_laid M_stripes M_longest M_laidRepairs M_laidFirst M_degree M_wide M_toldCount) H → va_D A (wd_Mo_over aM aM_word aM_lost aM_generators aM_changedPlaces aM_changedBy aM_work aM_workLost aM_sums aM_rest aM_spots aM_matrix aM_answer aM_block aM_sent aM_asLaid aM_sentLost aM_told aM_shares aM_used aM_downs aM_weights cI cZ M_n M_k M_b M_changes M_workSize M_workRepairs M_workFirst M_spotCount M_blockSize M_laid M_stripes M_longest M_laidRepairs M_laidFirst M_degree M_wide M_toldCount) → va_S A s.heap H locs → lv_has ls 3 [] → W p l e rm_Mo_over s m args below meth c H locs 0 0 Q (F0 m 29 ls []) := by
    intro   H locs ls h hP hD hS hl
    refine lv_iconst (v := (-1 : Int32)) hx hb d_Mo_over_29 (by decide) ?_
    exact B30  (-1 : Int32) H locs ls h hP hD hS (lv_sub hl [] rfl)
  obtain ⟨H, hH⟩ : ∃ H : Heap, H = s.heap := ⟨_, rfl⟩
  obtain ⟨locs, hlo⟩ : ∃ x : List Loc, x = [] := ⟨_, rfl⟩
  have hS : va_S A s.heap H locs := by rw [hH, hlo]; exact hS
  rw [← hH] at hP
  rw [← hlo]
  show W p l e rm_Mo_over s m args below meth c s.heap locs 0 0 Q (F0 m 0 ls [])
  rw [← hH]
  refine lv_iload_n hx hb d_Mo_over_0 rfl (lv_at hl 1 rfl) ?_
  refine mt_i (va_runS (As := [.int p1]) (rest := []) ⟨hx, hb, hml, hown, hts⟩ (ct_Mo_isByte l dC dI  cI cZ p1 _ h _) (tb_cS hts ok_Mo_isByte tb_783 rfl rfl ⟨Nat.le_of_ble_eq_true rfl, Nat.le_of_ble_eq_true rfl⟩) (mt_preS hK hP hD [.int p1] [] rfl (by decide)) rfl rfl hl.1 rfl (lv_room (Nat.le_of_ble_eq_true rfl)) d_Mo_over_1 ⟨Nat.zero_le _, Nat.zero_le _⟩) hP hD hS hA [] rfl (fun _ => rfl) (fun r_1 u H locs h hP hD hS => ?_)
  have hP : va_P (dC, dI) vwCl (wd_Mo_over aM aM_word aM_lost aM_generators aM_changedPlaces aM_changedBy aM_work aM_workLost aM_sums aM_rest aM_spots aM_matrix aM_answer aM_block aM_sent aM_asLaid aM_sentLost aM_told aM_shares aM_used aM_downs aM_weights cI cZ M_n M_k M_b M_changes M_workSize M_workRepairs M_workFirst M_spotCount M_blockSize M_laid M_stripes M_longest M_laidRepairs M_laidFirst M_degree M_wide M_toldCount) H := hP
  have hD : va_D A (wd_Mo_over aM aM_word aM_lost aM_generators aM_changedPlaces aM_changedBy aM_work aM_workLost aM_sums aM_rest aM_spots aM_matrix aM_answer aM_block aM_sent aM_asLaid aM_sentLost aM_told aM_shares aM_used aM_downs aM_weights cI cZ M_n M_k M_b M_changes M_workSize M_workRepairs M_workFirst M_spotCount M_blockSize M_laid M_stripes M_longest M_laidRepairs M_laidFirst M_degree M_wide M_toldCount) := hD
  refine lv_if_eq (tgt := 29) hx hb d_Mo_over_4 (by decide) (fun g4 => ?_) (fun g4 => ?_)
  · have h := h.1 g4
    exact B29   H locs ls h hP hD hS (lv_sub hl [] rfl)
  · have h := h.2 g4
    refine lv_iload_n hx hb d_Mo_over_7 rfl (lv_at hl 2 rfl) ?_
    refine mt_i (va_runS (As := [.int p2]) (rest := []) ⟨hx, hb, hml, hown, hts⟩ (ct_Mo_isByte l dC dI  cI cZ p2 _ h _) (tb_cS hts ok_Mo_isByte tb_783 rfl rfl ⟨Nat.le_of_ble_eq_true rfl, Nat.le_of_ble_eq_true rfl⟩) (mt_preS hK hP hD [.int p2] [] rfl (by decide)) rfl rfl hl.1 rfl (lv_room (Nat.le_of_ble_eq_true rfl)) d_Mo_over_8 ⟨Nat.zero_le _, Nat.zero_le _⟩) hP hD hS hA [] rfl (fun _ => rfl) (fun r_8 u H locs h hP hD hS => ?_)
    have hP : va_P (dC, dI) vwCl (wd_Mo_over aM aM_word aM_lost aM_generators aM_changedPlaces aM_changedBy aM_work aM_workLost aM_sums aM_rest aM_spots aM_matrix aM_answer aM_block aM_sent aM_asLaid aM_sentLost aM_told aM_shares aM_used aM_downs aM_weights cI cZ M_n M_k M_b M_changes M_workSize M_workRepairs M_workFirst M_spotCount M_blockSize M_laid M_stripes M_longest M_laidRepairs M_laidFirst M_degree M_wide M_toldCount) H := hP
    have hD : va_D A (wd_Mo_over aM aM_word aM_lost aM_generators aM_changedPlaces aM_changedBy aM_work aM_workLost aM_sums aM_rest aM_spots aM_matrix aM_answer aM_block aM_sent aM_asLaid aM_sentLost aM_told aM_shares aM_used aM_downs aM_weights cI cZ M_n M_k M_b M_changes M_workSize M_workRepairs M_workFirst M_spotCount M_blockSize M_laid M_stripes M_longest M_laidRepairs M_laidFirst M_degree M_wide M_toldCount) := hD
    refine lv_if_eq (tgt := 29) hx hb d_Mo_over_11 (by decide) (fun g11 => ?_) (fun g11 => ?_)
    · have h := h.1 g11
      exact B29   H locs ls h hP hD hS (lv_sub hl [] rfl)
    · have h := h.2 g11
      refine lv_iload_n hx hb d_Mo_over_14 rfl (lv_at hl 2 rfl) ?_
      refine lv_if_eq (tgt := 29) hx hb d_Mo_over_15 (by decide) (fun g15 => ?_) (fun g15 => ?_)
      · have h := h.1 g15
        exact B29   H locs ls h hP hD hS (lv_sub hl [] rfl)
      · have h := h.2 g15
        refine lv_iload_n hx hb d_Mo_over_18 rfl (lv_at hl 1 rfl) ?_
        refine lv_iload_n hx hb d_Mo_over_19 rfl (lv_at hl 2 rfl) ?_
        refine mt_i (va_runS (As := [.int p2]) (rest := [.int p1]) ⟨hx, hb, hml, hown, hts⟩ (ct_Mo_inverse l dC dI  cI cZ p2 _ h _) (tb_cS hts ok_Mo_inverse tb_793 rfl rfl ⟨Nat.le_of_ble_eq_true rfl, Nat.le_of_ble_eq_true rfl⟩) (mt_preS hK hP hD [.int p2] [] rfl (by decide)) rfl rfl hl.1 rfl (lv_room (Nat.le_of_ble_eq_true rfl)) d_Mo_over_20 ⟨Nat.zero_le _, Nat.zero_le _⟩) hP hD hS hA [] rfl (fun _ => rfl) (fun r_20 u H locs h hP hD hS => ?_)
        have hP : va_P (dC, dI) vwCl (wd_Mo_over aM aM_word aM_lost aM_generators aM_changedPlaces aM_changedBy aM_work aM_workLost aM_sums aM_rest aM_spots aM_matrix aM_answer aM_block aM_sent aM_asLaid aM_sentLost aM_told aM_shares aM_used aM_downs aM_weights cI cZ M_n M_k M_b M_changes M_workSize M_workRepairs M_workFirst M_spotCount M_blockSize M_laid M_stripes M_longest M_laidRepairs M_laidFirst M_degree M_wide M_toldCount) H := hP
        have hD : va_D A (wd_Mo_over aM aM_word aM_lost aM_generators aM_changedPlaces aM_changedBy aM_work aM_workLost aM_sums aM_rest aM_spots aM_matrix aM_answer aM_block aM_sent aM_asLaid aM_sentLost aM_told aM_shares aM_used aM_downs aM_weights cI cZ M_n M_k M_b M_changes M_workSize M_workRepairs M_workFirst M_spotCount M_blockSize M_laid M_stripes M_longest M_laidRepairs M_laidFirst M_degree M_wide M_toldCount) := hD
        refine mt_i (va_runS (As := [.int p1, .int r_20]) (rest := []) ⟨hx, hb, hml, hown, hts⟩ (ct_Mo_by l dC dI  cI cZ p1 r_20 _ h _) (tb_cS hts ok_Mo_by tb_786 rfl rfl ⟨Nat.le_of_ble_eq_true rfl, Nat.le_of_ble_eq_true rfl⟩) (mt_preS hK hP hD [.int p1, .int r_20] [] rfl (by decide)) rfl rfl hl.1 rfl (lv_room (Nat.le_of_ble_eq_true rfl)) d_Mo_over_23 ⟨Nat.zero_le _, Nat.zero_le _⟩) hP hD hS hA [] rfl (fun _ => rfl) (fun r_23 u H locs h hP hD hS => ?_)
        have hP : va_P (dC, dI) vwCl (wd_Mo_over aM aM_word aM_lost aM_generators aM_changedPlaces aM_changedBy aM_work aM_workLost aM_sums aM_rest aM_spots aM_matrix aM_answer aM_block aM_sent aM_asLaid aM_sentLost aM_told aM_shares aM_used aM_downs aM_weights cI cZ M_n M_k M_b M_changes M_workSize M_workRepairs M_workFirst M_spotCount M_blockSize M_laid M_stripes M_longest M_laidRepairs M_laidFirst M_degree M_wide M_toldCount) H := hP
        have hD : va_D A (wd_Mo_over aM aM_word aM_lost aM_generators aM_changedPlaces aM_changedBy aM_work aM_workLost aM_sums aM_rest aM_spots aM_matrix aM_answer aM_block aM_sent aM_asLaid aM_sentLost aM_told aM_shares aM_used aM_downs aM_weights cI cZ M_n M_k M_b M_changes M_workSize M_workRepairs M_workFirst M_spotCount M_blockSize M_laid M_stripes M_longest M_laidRepairs M_laidFirst M_degree M_wide M_toldCount) := hD
        refine lv_goto (tgt := 30) hx hb d_Mo_over_26 (by decide) ?_
        exact B30  r_23 H locs ls h hP hD hS (lv_sub hl [] rfl)
abbrev wd_Mo_power (aM aM_word aM_lost aM_generators aM_changedPlaces aM_changedBy aM_work aM_workLost aM_sums aM_rest aM_spots aM_matrix aM_answer aM_block aM_sent aM_asLaid aM_sentLost aM_told aM_shares aM_used aM_downs aM_weights : Nat) (cI cZ : ClassId) (M_n : Int32) (M_k : Int32) (M_b : Int32) (M_changes : Int32) (M_workSize : Int32) (M_workRepairs : Int32) (M_workFirst : Int32) (M_spotCount : Int32) (M_blockSize : Int32) (M_laid : Int32) (M_stripes : Int32) (M_longest : Int32) (M_laidRepairs : Int32) (M_laidFirst : Int32) (M_degree : Int32) (M_wide : Int32) (M_toldCount : Int32) : va_W := [(aM, .inr (7, [.int M_n, .int M_k, .int M_b, .ref aM_word, .ref aM_lost, .ref aM_generators, .int M_changes, .ref aM_changedPlaces, .ref aM_changedBy, .ref aM_work, .ref aM_workLost, .int M_workSize, .int M_workRepairs, .int M_workFirst, .ref aM_sums, .ref aM_rest, .ref aM_spots, .int M_spotCount, .ref aM_matrix, .ref aM_answer, .ref aM_block, .int M_blockSize, .int M_laid, .int M_stripes, .int M_longest, .int M_laidRepairs, .int M_laidFirst, .ref aM_sent, .ref aM_asLaid, .ref aM_sentLost, .int M_degree, .int M_wide, .ref aM_told, .ref aM_shares, .int M_toldCount, .ref aM_used, .ref aM_downs, .ref aM_weights]))]
def wp_Mo_power_b15  (post : Int32 → Prop)   : Prop := post (-1 : Int32)
def wp_Mo_power_b30  (post : Int32 → Prop)  (t0 : Int32) : Prop := post t0
def wp_Mo_power_b51  (post : Int32 → Prop)  (t0 : Int32) (t1 : Int32) : Prop := wp_Mo_raised t1 t0 (fun r_51 => (post r_51))
def wp_Mo_power_b17  (post : Int32 → Prop)  (x1 : Int32) (x2 : Int32) : Prop := (¬ x1 = 0 → (∀ x3_36 : Int32, x3_36 = (x2 - x2 / (255 : Int32) * (255 : Int32)) → ((0 ≤ x3_36 → (wp_Mo_power_b51 post  x3_36 x1)) ∧ (¬ 0 ≤ x3_36 → (wp_Mo_power_b51 post  (x3_36 + (255 : Int32)) x1))))) ∧ (x1 = 0 → ((¬ x2 = 0 → (wp_Mo_power_b30 post  (0 : Int32))) ∧ (x2 = 0 → (wp_Mo_power_b30 post  (1 : Int32)))))
def wp_Mo_power (p1 : Int32) (p2 : Int32) (post : Int32 → Prop) : Prop := wp_Mo_isByte p1 (fun r_1 => ((r_1 = 0 → (wp_Mo_power_b15 post  )) ∧ (¬ r_1 = 0 → ((¬ p1 = 0 → (wp_Mo_power_b17 post  p1 p2)) ∧ (p1 = 0 → ((0 ≤ p2 → (wp_Mo_power_b17 post  p1 p2)) ∧ (¬ 0 ≤ p2 → (wp_Mo_power_b15 post  ))))))))
abbrev rm_Mo_power : Room := { frames := 2, cells := 0, slots := 0, locals := 48 }
set_option maxHeartbeats 4000000 in
set_option maxRecDepth 100000 in
theorem ct_Mo_power (l : Launch) (dC : Nat → ClassId) (dI : Nat → Nat → Nat) (aM aM_word aM_lost aM_generators aM_changedPlaces aM_changedBy aM_work aM_workLost aM_sums aM_rest aM_spots aM_matrix aM_answer aM_block aM_sent aM_asLaid aM_sentLost aM_told aM_shares aM_used aM_downs aM_weights : Nat) (cI cZ : ClassId) (M_n : Int32) (M_k : Int32) (M_b : Int32) (M_changes : Int32) (M_workSize : Int32) (M_workRepairs : Int32) (M_workFirst : Int32) (M_spotCount : Int32) (M_blockSize : Int32) (M_laid : Int32) (M_stripes : Int32) (M_longest : Int32) (M_laidRepairs : Int32) (M_laidFirst : Int32) (M_degree : Int32) (M_wide : Int32) (M_toldCount : Int32) (p1 : Int32) (p2 : Int32) (post : Int32 → Prop) (h : wp_Mo_power p1 p2 post) (sz : Nat) : Met l y_Mo_power (Cond.code y_Mo_power c_Mo_power 4 (some .int) :: tb) rm_Mo_power (mt_P (dC, dI) vwCl [(cI, .int), (cZ, .boolean)] [.ref aM, .int p1, .int p2] (wd_Mo_power aM aM_word aM_lost aM_generators aM_changedPlaces aM_changedBy aM_work aM_workLost aM_sums aM_rest aM_spots aM_matrix aM_answer aM_block aM_sent aM_asLaid aM_sentLost aM_told aM_shares aM_used aM_downs aM_weights cI cZ M_n M_k M_b M_changes M_workSize M_workRepairs M_workFirst M_spotCount M_blockSize M_laid M_stripes M_longest M_laidRepairs M_laidFirst M_degree M_wide M_toldCount) sz) (va_Qi (fun (r : Int32) (u : Unit) => post r) (mt_B (dC, dI) vwCl [(cI, .int), (cZ, .boolean)] (wd_Mo_power aM aM_word aM_lost aM_generators aM_changedPlaces aM_changedBy aM_work aM_workLost aM_sums aM_rest aM_spots aM_matrix aM_answer aM_block aM_sent aM_asLaid aM_sentLost aM_told aM_shares aM_used aM_downs aM_weights cI cZ M_n M_k M_b M_changes M_workSize M_workRepairs M_workFirst M_spotCount M_blockSize M_laid M_stripes M_longest M_laidRepairs M_laidFirst M_degree M_wide M_toldCount) sz (fun u : Unit => wd_Mo_power aM aM_word aM_lost aM_generators aM_changedPlaces aM_changedBy aM_work aM_workLost aM_sums aM_rest aM_spots aM_matrix aM_answer aM_block aM_sent aM_asLaid aM_sentLost aM_told aM_shares aM_used aM_downs aM_weights cI cZ M_n M_k M_b M_changes M_workSize M_workRepairs M_workFirst M_spotCount M_blockSize M_laid M_stripes M_longest M_laidRepairs M_laidFirst M_degree M_wide M_toldCount)) (va_A (wd_Mo_power aM aM_word aM_lost aM_generators aM_changedPlaces aM_changedBy aM_work aM_workLost aM_sums aM_rest aM_spots aM_matrix aM_answer aM_block aM_sent aM_asLaid aM_sentLost aM_told aM_shares aM_used aM_downs aM_weights cI cZ M_n M_k M_b M_changes M_workSize M_workRepairs M_workFirst M_spotCount M_blockSize M_laid M_stripes M_longest M_laidRepairs M_laidFirst M_degree M_wide M_toldCount) sz)) 0 0 (va_A (wd_Mo_power aM aM_word aM_lost aM_generators aM_changedPlaces aM_changedBy aM_work aM_workLost aM_sums aM_rest aM_spots aM_matrix aM_answer aM_block aM_sent aM_asLaid aM_sentLost aM_told aM_shares aM_used aM_downs aM_weights cI cZ M_n M_k M_b M_changes M_workSize M_workRepairs M_workFirst M_spotCount M_blockSize M_laid M_stripes M_longest M_laidRepairs M_laidFirst M_degree M_wide M_toldCount) sz) := by
  refine mt_bd (by decide +kernel) (Nat.le_of_ble_eq_true rfl) ?_
  intro p e s m args below meth c hx hb hml hown hts hr hlk hnm hsz hP hK hD hA hS ls hl
  subst hsz
  have hown : s.vm.findClass "ReedSetsModel" = some m.cls := hown
  have hl : lv_has ls 4 [(0, .ref aM), (1, .int p1), (2, .int p2)] := hl
  refine lz_Q (fun Q hQ => ?_)
  obtain ⟨A, hAe⟩ : ∃ A : Nat → Prop, A = va_A (wd_Mo_power aM aM_word aM_lost aM_generators aM_changedPlaces aM_changedBy aM_work aM_workLost aM_sums aM_rest aM_spots aM_matrix aM_answer aM_block aM_sent aM_asLaid aM_sentLost aM_told aM_shares aM_used aM_downs aM_weights cI cZ M_n M_k M_b M_changes M_workSize M_workRepairs M_workFirst M_spotCount M_blockSize M_laid M_stripes M_longest M_laidRepairs M_laidFirst M_degree M_wide M_toldCount) s.heap.size := ⟨_, rfl⟩
  rw [← hAe] at hD hA hS
  have RET : ∀ (v : Int32)  (H : Heap) (locs : List Loc) (ls : Array Slot) (pc : Nat), decode c_Mo_power pc = .ok (.ireturn, 1) → post v  → va_P (dC, dI) vwCl (wd_Mo_power aM aM_word aM_lost aM_generators aM_changedPlaces aM_changedBy aM_work aM_workLost aM_sums aM_rest aM_spots aM_matrix aM_answer aM_block aM_sent aM_asLaid aM_sentLost aM_told aM_shares aM_used aM_downs aM_weights cI cZ M_n M_k M_b M_changes M_workSize M_workRepairs M_workFirst M_spotCount M_blockSize M_laid M_stripes M_longest M_laidRepairs M_laidFirst M_degree M_wide M_toldCount) H → va_D A (wd_Mo_power aM aM_word aM_lost aM_generators aM_changedPlaces aM_changedBy aM_work aM_workLost aM_sums aM_rest aM_spots aM_matrix aM_answer aM_block aM_sent aM_asLaid aM_sentLost aM_told aM_shares aM_used aM_downs aM_weights cI cZ M_n M_k M_b M_changes M_workSize M_workRepairs M_workFirst M_spotCount M_blockSize M_laid M_stripes M_longest M_laidRepairs M_laidFirst M_degree M_wide M_toldCount) → va_S A s.heap H locs → W p l e rm_Mo_power s m args below meth c H locs 0 0 Q (F0 m pc ls [.int v]) := by
    intro v  H locs ls pc hd hp h1 h2 h3
    rw [hQ]
    rw [hAe] at h2 h3
    exact mt_reti () hx hb hr hlk hd hK h1 h2 h3 hp
  have B15 : ∀  (H : Heap) (locs : List Loc) (ls : Array Slot), wp_Mo_power_b15 post   → va_P (dC, dI) vwCl (wd_Mo_power aM aM_word aM_lost aM_generators aM_changedPlaces aM_changedBy aM_work aM_workLost aM_sums aM_rest aM_spots aM_matrix aM_answer aM_block aM_sent aM_asLaid aM_sentLost aM_told aM_shares aM_used aM_downs aM_weights cI cZ M_n M_k M_b M_changes M_workSize M_workRepairs M_workFirst M_spotCount M_blockSize M_laid M_stripes M_longest M_laidRepairs M_laidFirst M_degree M_wide M_toldCount) H → va_D A (wd_Mo_power aM aM_word aM_lost aM_generators aM_changedPlaces aM_changedBy aM_work aM_workLost aM_sums aM_rest aM_spots aM_matrix aM_answer aM_block aM_sent aM_asLaid aM_sentLost aM_told aM_shares aM_used aM_downs aM_weights cI cZ M_n M_k M_b M_changes M_workSize M_workRepairs M_workFirst M_spotCount M_blockSize M_laid M_stripes M_longest M_laidRepairs M_laidFirst M_degree M_wide M_toldCount) → va_S A s.heap H locs → lv_has ls 4 [] → W p l e rm_Mo_power s m args below meth c H locs 0 0 Q (F0 m 15 ls []) := by
    intro   H locs ls h hP hD hS hl
    refine lv_iconst (v := (-1 : Int32)) hx hb d_Mo_power_15 (by decide) ?_
    exact RET (-1 : Int32) H locs ls 16 d_Mo_power_16 h hP hD hS
  have B30 : ∀ (t0 : Int32) (H : Heap) (locs : List Loc) (ls : Array Slot), wp_Mo_power_b30 post  t0 → va_P (dC, dI) vwCl (wd_Mo_power aM aM_word aM_lost aM_generators aM_changedPlaces aM_changedBy aM_work aM_workLost aM_sums aM_rest aM_spots aM_matrix aM_answer aM_block aM_sent aM_asLaid aM_sentLost aM_told aM_shares aM_used aM_downs aM_weights cI cZ M_n M_k M_b M_changes M_workSize M_workRepairs M_workFirst M_spotCount M_blockSize M_laid M_stripes M_longest M_laidRepairs M_laidFirst M_degree M_wide M_toldCount) H → va_D A (wd_Mo_power aM aM_word aM_lost aM_generators aM_changedPlaces aM_changedBy aM_work aM_workLost aM_sums aM_rest aM_spots aM_matrix aM_answer aM_block aM_sent aM_asLaid aM_sentLost aM_told aM_shares aM_used aM_downs aM_weights cI cZ M_n M_k M_b M_changes M_workSize M_workRepairs M_workFirst M_spotCount M_blockSize M_laid M_stripes M_longest M_laidRepairs M_laidFirst M_degree M_wide M_toldCount) → va_S A s.heap H locs → lv_has ls 4 [] → W p l e rm_Mo_power s m args below meth c H locs 0 0 Q (F0 m 30 ls [.int t0]) := by
    intro  t0 H locs ls h hP hD hS hl
    exact RET t0 H locs ls 30 d_Mo_power_30 h hP hD hS
  have B51 : ∀ (t0 : Int32) (t1 : Int32) (H : Heap) (locs : List Loc) (ls : Array Slot), wp_Mo_power_b51 post  t0 t1 → va_P (dC, dI) vwCl (wd_Mo_power aM aM_word aM_lost aM_generators aM_changedPlaces aM_changedBy aM_work aM_workLost aM_sums aM_rest aM_spots aM_matrix aM_answer aM_block aM_sent aM_asLaid aM_sentLost aM_told aM_shares aM_used aM_downs aM_weights cI cZ M_n M_k M_b M_changes M_workSize M_workRepairs M_workFirst M_spotCount M_blockSize M_laid M_stripes M_longest M_laidRepairs M_laidFirst M_degree M_wide M_toldCount) H → va_D A (wd_Mo_power aM aM_word aM_lost aM_generators aM_changedPlaces aM_changedBy aM_work aM_workLost aM_sums aM_rest aM_spots aM_matrix aM_answer aM_block aM_sent aM_asLaid aM_sentLost aM_told aM_shares aM_used aM_downs aM_weights cI cZ M_n M_k M_b M_changes M_workSize M_workRepairs M_workFirst M_spotCount M_blockSize M_laid M_stripes M_longest M_laidRepairs M_laidFirst M_degree M_wide M_toldCount) → va_S A s.heap H locs → lv_has ls 4 [] → W p l e rm_Mo_power s m args below meth c H locs 0 0 Q (F0 m 51 ls [.int t0, .int t1]) := by
    intro  t0 t1 H locs ls h hP hD hS hl
    refine mt_i (va_runS (As := [.int t1, .int t0]) (rest := []) ⟨hx, hb, hml, hown, hts⟩ (ct_Mo_raised l dC dI  cI cZ t1 t0 _ h _) (tb_cS hts ok_Mo_raised tb_796 rfl rfl ⟨Nat.le_of_ble_eq_true rfl, Nat.le_of_ble_eq_true rfl⟩) (mt_preS hK hP hD [.int t1, .int t0] [] rfl (by decide)) rfl rfl hl.1 rfl (lv_room (Nat.le_of_ble_eq_true rfl)) d_Mo_power_51 ⟨Nat.zero_le _, Nat.zero_le _⟩) hP hD hS hA [] rfl (fun _ => rfl) (fun r_51 u H locs h hP hD hS => ?_)
    have hP : va_P (dC, dI) vwCl (wd_Mo_power aM aM_word aM_lost aM_generators aM_changedPlaces aM_changedBy aM_work aM_workLost aM_sums aM_rest aM_spots aM_matrix aM_answer aM_block aM_sent aM_asLaid aM_sentLost aM_told aM_shares aM_used aM_downs aM_weights cI cZ M_n M_k M_b M_changes M_workSize M_workRepairs M_workFirst M_spotCount M_blockSize M_laid M_stripes M_longest M_laidRepairs M_laidFirst M_degree M_wide M_toldCount) H := hP
    have hD : va_D A (wd_Mo_power aM aM_word aM_lost aM_generators aM_changedPlaces aM_changedBy aM_work aM_workLost aM_sums aM_rest aM_spots aM_matrix aM_answer aM_block aM_sent aM_asLaid aM_sentLost aM_told aM_shares aM_used aM_downs aM_weights cI cZ M_n M_k M_b M_changes M_workSize M_workRepairs M_workFirst M_spotCount M_blockSize M_laid M_stripes M_longest M_laidRepairs M_laidFirst M_degree M_wide M_toldCount) := hD
    exact RET r_51 H locs ls 54 d_Mo_power_54 h hP hD hS
  have B17 : ∀ (x1 : Int32) (x2 : Int32) (H : Heap) (locs : List Loc) (ls : Array Slot), wp_Mo_power_b17 post  x1 x2 → va_P (dC, dI) vwCl (wd_Mo_power aM aM_word aM_lost aM_generators aM_changedPlaces aM_changedBy aM_work aM_workLost aM_sums aM_rest aM_spots aM_matrix aM_answer aM_block aM_sent aM_asLaid aM_sentLost aM_told aM_shares aM_used aM_downs aM_weights cI cZ M_n M_k M_b M_changes M_workSize M_workRepairs M_workFirst M_spotCount M_blockSize M_laid M_stripes M_longest M_laidRepairs M_laidFirst M_degree M_wide M_toldCount) H → va_D A (wd_Mo_power aM aM_word aM_lost aM_generators aM_changedPlaces aM_changedBy aM_work aM_workLost aM_sums aM_rest aM_spots aM_matrix aM_answer aM_block aM_sent aM_asLaid aM_sentLost aM_told aM_shares aM_used aM_downs aM_weights cI cZ M_n M_k M_b M_changes M_workSize M_workRepairs M_workFirst M_spotCount M_blockSize M_laid M_stripes M_longest M_laidRepairs M_laidFirst M_degree M_wide M_toldCount) → va_S A s.heap H locs → lv_has ls 4 [(1, .int x1), (2, .int x2)] → W p l e rm_Mo_power s m args below meth c H locs 0 0 Q (F0 m 17 ls []) := by
    intro  x1 x2 H locs ls h hP hD hS hl
    refine lv_iload_n hx hb d_Mo_power_17 rfl (lv_at hl 0 rfl) ?_
    refine lv_if_ne (tgt := 31) hx hb d_Mo_power_18 (by decide) (fun g18 => ?_) (fun g18 => ?_)
    · have h := h.1 g18
      refine lv_iload_n hx hb d_Mo_power_31 rfl (lv_at hl 1 rfl) ?_
      refine lv_sipush (v := (255 : Int32)) hx hb d_Mo_power_32 (by decide) ?_
      refine lv_irem hx hb d_Mo_power_35 (by decide) ?_
      refine lv_topi (fun x3_36 ex3_36 => ?_)
      have h := h x3_36 ex3_36
      refine lv_istore_n (lv' := [(3, .int x3_36), (1, .int x1), (2, .int x2)]) hx hb d_Mo_power_36 rfl hl (by decide) rfl (fun ls hl => ?_)
      refine lv_iload_n hx hb d_Mo_power_37 rfl (lv_at hl 1 rfl) ?_
      refine lv_iload_n hx hb d_Mo_power_38 rfl (lv_at hl 0 rfl) ?_
      refine lv_if_ge (tgt := 50) hx hb d_Mo_power_39 (by decide) (fun g39 => ?_) (fun g39 => ?_)
      · have h := h.1 g39
        refine lv_iload_n hx hb d_Mo_power_50 rfl (lv_at hl 0 rfl) ?_
        exact B51  x3_36 x1 H locs ls h hP hD hS (lv_sub hl [] rfl)
      · have h := h.2 g39
        refine lv_iload_n hx hb d_Mo_power_42 rfl (lv_at hl 0 rfl) ?_
        refine lv_sipush (v := (255 : Int32)) hx hb d_Mo_power_43 (by decide) ?_
        refine lv_iadd hx hb d_Mo_power_46 ?_
        refine lv_goto (tgt := 51) hx hb d_Mo_power_47 (by decide) ?_
        exact B51  (x3_36 + (255 : Int32)) x1 H locs ls h hP hD hS (lv_sub hl [] rfl)
    · have h := h.2 g18
      refine lv_iload_n hx hb d_Mo_power_21 rfl (lv_at hl 1 rfl) ?_
      refine lv_if_ne (tgt := 29) hx hb d_Mo_power_22 (by decide) (fun g22 => ?_) (fun g22 => ?_)
      · have h := h.1 g22
        refine lv_iconst (v := (0 : Int32)) hx hb d_Mo_power_29 (by decide) ?_
        exact B30  (0 : Int32) H locs ls h hP hD hS (lv_sub hl [] rfl)
      · have h := h.2 g22
        refine lv_iconst (v := (1 : Int32)) hx hb d_Mo_power_25 (by decide) ?_
        refine lv_goto (tgt := 30) hx hb d_Mo_power_26 (by decide) ?_
        exact B30  (1 : Int32) H locs ls h hP hD hS (lv_sub hl [] rfl)
  obtain ⟨H, hH⟩ : ∃ H : Heap, H = s.heap := ⟨_, rfl⟩
  obtain ⟨locs, hlo⟩ : ∃ x : List Loc, x = [] := ⟨_, rfl⟩
  have hS : va_S A s.heap H locs := by rw [hH, hlo]; exact hS
  rw [← hH] at hP
  rw [← hlo]
  show W p l e rm_Mo_power s m args below meth c s.heap locs 0 0 Q (F0 m 0 ls [])
  rw [← hH]
  refine lv_iload_n hx hb d_Mo_power_0 rfl (lv_at hl 1 rfl) ?_
  refine mt_i (va_runS (As := [.int p1]) (rest := []) ⟨hx, hb, hml, hown, hts⟩ (ct_Mo_isByte l dC dI  cI cZ p1 _ h _) (tb_cS hts ok_Mo_isByte tb_783 rfl rfl ⟨Nat.le_of_ble_eq_true rfl, Nat.le_of_ble_eq_true rfl⟩) (mt_preS hK hP hD [.int p1] [] rfl (by decide)) rfl rfl hl.1 rfl (lv_room (Nat.le_of_ble_eq_true rfl)) d_Mo_power_1 ⟨Nat.zero_le _, Nat.zero_le _⟩) hP hD hS hA [] rfl (fun _ => rfl) (fun r_1 u H locs h hP hD hS => ?_)
  have hP : va_P (dC, dI) vwCl (wd_Mo_power aM aM_word aM_lost aM_generators aM_changedPlaces aM_changedBy aM_work aM_workLost aM_sums aM_rest aM_spots aM_matrix aM_answer aM_block aM_sent aM_asLaid aM_sentLost aM_told aM_shares aM_used aM_downs aM_weights cI cZ M_n M_k M_b M_changes M_workSize M_workRepairs M_workFirst M_spotCount M_blockSize M_laid M_stripes M_longest M_laidRepairs M_laidFirst M_degree M_wide M_toldCount) H := hP
  have hD : va_D A (wd_Mo_power aM aM_word aM_lost aM_generators aM_changedPlaces aM_changedBy aM_work aM_workLost aM_sums aM_rest aM_spots aM_matrix aM_answer aM_block aM_sent aM_asLaid aM_sentLost aM_told aM_shares aM_used aM_downs aM_weights cI cZ M_n M_k M_b M_changes M_workSize M_workRepairs M_workFirst M_spotCount M_blockSize M_laid M_stripes M_longest M_laidRepairs M_laidFirst M_degree M_wide M_toldCount) := hD
  refine lv_if_eq (tgt := 15) hx hb d_Mo_power_4 (by decide) (fun g4 => ?_) (fun g4 => ?_)
  · have h := h.1 g4
    exact B15   H locs ls h hP hD hS (lv_sub hl [] rfl)
  · have h := h.2 g4
    refine lv_iload_n hx hb d_Mo_power_7 rfl (lv_at hl 1 rfl) ?_
    refine lv_if_ne (tgt := 17) hx hb d_Mo_power_8 (by decide) (fun g8 => ?_) (fun g8 => ?_)
    · have h := h.1 g8
      exact B17  p1 p2 H locs ls h hP hD hS (lv_sub hl [1, 2] rfl)
    · have h := h.2 g8
      refine lv_iload_n hx hb d_Mo_power_11 rfl (lv_at hl 2 rfl) ?_
      refine lv_if_ge (tgt := 17) hx hb d_Mo_power_12 (by decide) (fun g12 => ?_) (fun g12 => ?_)
      · have h := h.1 g12
        exact B17  p1 p2 H locs ls h hP hD hS (lv_sub hl [1, 2] rfl)
      · have h := h.2 g12
        exact B15   H locs ls h hP hD hS (lv_sub hl [] rfl)
abbrev wd_Mo_log (aM aM_word aM_lost aM_generators aM_changedPlaces aM_changedBy aM_work aM_workLost aM_sums aM_rest aM_spots aM_matrix aM_answer aM_block aM_sent aM_asLaid aM_sentLost aM_told aM_shares aM_used aM_downs aM_weights : Nat) (cI cZ : ClassId) (M_n : Int32) (M_k : Int32) (M_b : Int32) (M_changes : Int32) (M_workSize : Int32) (M_workRepairs : Int32) (M_workFirst : Int32) (M_spotCount : Int32) (M_blockSize : Int32) (M_laid : Int32) (M_stripes : Int32) (M_longest : Int32) (M_laidRepairs : Int32) (M_laidFirst : Int32) (M_degree : Int32) (M_wide : Int32) (M_toldCount : Int32) : va_W := [(aM, .inr (7, [.int M_n, .int M_k, .int M_b, .ref aM_word, .ref aM_lost, .ref aM_generators, .int M_changes, .ref aM_changedPlaces, .ref aM_changedBy, .ref aM_work, .ref aM_workLost, .int M_workSize, .int M_workRepairs, .int M_workFirst, .ref aM_sums, .ref aM_rest, .ref aM_spots, .int M_spotCount, .ref aM_matrix, .ref aM_answer, .ref aM_block, .int M_blockSize, .int M_laid, .int M_stripes, .int M_longest, .int M_laidRepairs, .int M_laidFirst, .ref aM_sent, .ref aM_asLaid, .ref aM_sentLost, .int M_degree, .int M_wide, .ref aM_told, .ref aM_shares, .int M_toldCount, .ref aM_used, .ref aM_downs, .ref aM_weights]))]
def wp_Mo_log_b11  (post : Int32 → Prop)   : Prop := post (-1 : Int32)
def wp_Mo_log_b17  (post : Int32 → Prop) (K17 : Int32 → Int32 → Int32 → Prop) (x1 : Int32) (x2 : Int32) (x3 : Int32) : Prop := (x3 = x1 → (post x2)) ∧ (¬ x3 = x1 → (wp_Mo_by x3 (2 : Int32) (fun r_24 => (∀ x2_28 : Int32, x2_28 = (x2 + (1 : Int32)) → (K17 x1 x2_28 r_24)))))
def wp_Mo_log_L17  (post : Int32 → Prop)  : Nat → Int32 → Int32 → Int32 → Prop
  | 0 => fun _ _ _ => False
  | n + 1 => wp_Mo_log_b17 post (wp_Mo_log_L17 post n)
def wp_Mo_log (p1 : Int32) (post : Int32 → Prop) : Prop := wp_Mo_isByte p1 (fun r_1 => ((r_1 = 0 → (wp_Mo_log_b11 post  )) ∧ (¬ r_1 = 0 → ((¬ p1 = 0 → (∃ n : Nat, wp_Mo_log_L17 post  n p1 (0 : Int32) (1 : Int32))) ∧ (p1 = 0 → (wp_Mo_log_b11 post  ))))))
abbrev rm_Mo_log : Room := { frames := 1, cells := 0, slots := 0, locals := 24 }
set_option maxHeartbeats 4000000 in
set_option maxRecDepth 100000 in
theorem ct_Mo_log (l : Launch) (dC : Nat → ClassId) (dI : Nat → Nat → Nat) (aM aM_word aM_lost aM_generators aM_changedPlaces aM_changedBy aM_work aM_workLost aM_sums aM_rest aM_spots aM_matrix aM_answer aM_block aM_sent aM_asLaid aM_sentLost aM_told aM_shares aM_used aM_downs aM_weights : Nat) (cI cZ : ClassId) (M_n : Int32) (M_k : Int32) (M_b : Int32) (M_changes : Int32) (M_workSize : Int32) (M_workRepairs : Int32) (M_workFirst : Int32) (M_spotCount : Int32) (M_blockSize : Int32) (M_laid : Int32) (M_stripes : Int32) (M_longest : Int32) (M_laidRepairs : Int32) (M_laidFirst : Int32) (M_degree : Int32) (M_wide : Int32) (M_toldCount : Int32) (p1 : Int32) (post : Int32 → Prop) (h : wp_Mo_log p1 post) (sz : Nat) : Met l y_Mo_log (Cond.code y_Mo_log c_Mo_log 4 (some .int) :: tb) rm_Mo_log (mt_P (dC, dI) vwCl [(cI, .int), (cZ, .boolean)] [.ref aM, .int p1] (wd_Mo_log aM aM_word aM_lost aM_generators aM_changedPlaces aM_changedBy aM_work aM_workLost aM_sums aM_rest aM_spots aM_matrix aM_answer aM_block aM_sent aM_asLaid aM_sentLost aM_told aM_shares aM_used aM_downs aM_weights cI cZ M_n M_k M_b M_changes M_workSize M_workRepairs M_workFirst M_spotCount M_blockSize M_laid M_stripes M_longest M_laidRepairs M_laidFirst M_degree M_wide M_toldCount) sz) (va_Qi (fun (r : Int32) (u : Unit) => post r) (mt_B (dC, dI) vwCl [(cI, .int), (cZ, .boolean)] (wd_Mo_log aM aM_word aM_lost aM_generators aM_changedPlaces aM_changedBy aM_work aM_workLost aM_sums aM_rest aM_spots aM_matrix aM_answer aM_block aM_sent aM_asLaid aM_sentLost aM_told aM_shares aM_used aM_downs aM_weights cI cZ M_n M_k M_b M_changes M_workSize M_workRepairs M_workFirst M_spotCount M_blockSize M_laid M_stripes M_longest M_laidRepairs M_laidFirst M_degree M_wide M_toldCount) sz (fun u : Unit => wd_Mo_log aM aM_word aM_lost aM_generators aM_changedPlaces aM_changedBy aM_work aM_workLost aM_sums aM_rest aM_spots aM_matrix aM_answer aM_block aM_sent aM_asLaid aM_sentLost aM_told aM_shares aM_used aM_downs aM_weights cI cZ M_n M_k M_b M_changes M_workSize M_workRepairs M_workFirst M_spotCount M_blockSize M_laid M_stripes M_longest M_laidRepairs M_laidFirst M_degree M_wide M_toldCount)) (va_A (wd_Mo_log aM aM_word aM_lost aM_generators aM_changedPlaces aM_changedBy aM_work aM_workLost aM_sums aM_rest aM_spots aM_matrix aM_answer aM_block aM_sent aM_asLaid aM_sentLost aM_told aM_shares aM_used aM_downs aM_weights cI cZ M_n M_k M_b M_changes M_workSize M_workRepairs M_workFirst M_spotCount M_blockSize M_laid M_stripes M_longest M_laidRepairs M_laidFirst M_degree M_wide M_toldCount) sz)) 0 0 (va_A (wd_Mo_log aM aM_word aM_lost aM_generators aM_changedPlaces aM_changedBy aM_work aM_workLost aM_sums aM_rest aM_spots aM_matrix aM_answer aM_block aM_sent aM_asLaid aM_sentLost aM_told aM_shares aM_used aM_downs aM_weights cI cZ M_n M_k M_b M_changes M_workSize M_workRepairs M_workFirst M_spotCount M_blockSize M_laid M_stripes M_longest M_laidRepairs M_laidFirst M_degree M_wide M_toldCount) sz) := by
  refine mt_bd (by decide +kernel) (Nat.le_of_ble_eq_true rfl) ?_
  intro p e s m args below meth c hx hb hml hown hts hr hlk hnm hsz hP hK hD hA hS ls hl
  subst hsz
  have hown : s.vm.findClass "ReedSetsModel" = some m.cls := hown
  have hl : lv_has ls 4 [(0, .ref aM), (1, .int p1)] := hl
  refine lz_Q (fun Q hQ => ?_)
  obtain ⟨A, hAe⟩ : ∃ A : Nat → Prop, A = va_A (wd_Mo_log aM aM_word aM_lost aM_generators aM_changedPlaces aM_changedBy aM_work aM_workLost aM_sums aM_rest aM_spots aM_matrix aM_answer aM_block aM_sent aM_asLaid aM_sentLost aM_told aM_shares aM_used aM_downs aM_weights cI cZ M_n M_k M_b M_changes M_workSize M_workRepairs M_workFirst M_spotCount M_blockSize M_laid M_stripes M_longest M_laidRepairs M_laidFirst M_degree M_wide M_toldCount) s.heap.size := ⟨_, rfl⟩
  rw [← hAe] at hD hA hS
  have RET : ∀ (v : Int32)  (H : Heap) (locs : List Loc) (ls : Array Slot) (pc : Nat), decode c_Mo_log pc = .ok (.ireturn, 1) → post v  → va_P (dC, dI) vwCl (wd_Mo_log aM aM_word aM_lost aM_generators aM_changedPlaces aM_changedBy aM_work aM_workLost aM_sums aM_rest aM_spots aM_matrix aM_answer aM_block aM_sent aM_asLaid aM_sentLost aM_told aM_shares aM_used aM_downs aM_weights cI cZ M_n M_k M_b M_changes M_workSize M_workRepairs M_workFirst M_spotCount M_blockSize M_laid M_stripes M_longest M_laidRepairs M_laidFirst M_degree M_wide M_toldCount) H → va_D A (wd_Mo_log aM aM_word aM_lost aM_generators aM_changedPlaces aM_changedBy aM_work aM_workLost aM_sums aM_rest aM_spots aM_matrix aM_answer aM_block aM_sent aM_asLaid aM_sentLost aM_told aM_shares aM_used aM_downs aM_weights cI cZ M_n M_k M_b M_changes M_workSize M_workRepairs M_workFirst M_spotCount M_blockSize M_laid M_stripes M_longest M_laidRepairs M_laidFirst M_degree M_wide M_toldCount) → va_S A s.heap H locs → W p l e rm_Mo_log s m args below meth c H locs 0 0 Q (F0 m pc ls [.int v]) := by
    intro v  H locs ls pc hd hp h1 h2 h3
    rw [hQ]
    rw [hAe] at h2 h3
    exact mt_reti () hx hb hr hlk hd hK h1 h2 h3 hp
  have B11 : ∀  (H : Heap) (locs : List Loc) (ls : Array Slot), wp_Mo_log_b11 post   → va_P (dC, dI) vwCl (wd_Mo_log aM aM_word aM_lost aM_generators aM_changedPlaces aM_changedBy aM_work aM_workLost aM_sums aM_rest aM_spots aM_matrix aM_answer aM_block aM_sent aM_asLaid aM_sentLost aM_told aM_shares aM_used aM_downs aM_weights cI cZ M_n M_k M_b M_changes M_workSize M_workRepairs M_workFirst M_spotCount M_blockSize M_laid M_stripes M_longest M_laidRepairs M_laidFirst M_degree M_wide M_toldCount) H → va_D A (wd_Mo_log aM aM_word aM_lost aM_generators aM_changedPlaces aM_changedBy aM_work aM_workLost aM_sums aM_rest aM_spots aM_matrix aM_answer aM_block aM_sent aM_asLaid aM_sentLost aM_told aM_shares aM_used aM_downs aM_weights cI cZ M_n M_k M_b M_changes M_workSize M_workRepairs M_workFirst M_spotCount M_blockSize M_laid M_stripes M_longest M_laidRepairs M_laidFirst M_degree M_wide M_toldCount) → va_S A s.heap H locs → lv_has ls 4 [] → W p l e rm_Mo_log s m args below meth c H locs 0 0 Q (F0 m 11 ls []) := by
    intro   H locs ls h hP hD hS hl
    refine lv_iconst (v := (-1 : Int32)) hx hb d_Mo_log_11 (by decide) ?_
    exact RET (-1 : Int32) H locs ls 12 d_Mo_log_12 h hP hD hS
  have B17 : ∀ (K17 : Int32 → Int32 → Int32 → Prop) (HK17 : ∀ (x1 : Int32) (x2 : Int32) (x3 : Int32) (H : Heap) (locs : List Loc) (ls : Array Slot), K17 x1 x2 x3 → va_P (dC, dI) vwCl (wd_Mo_log aM aM_word aM_lost aM_generators aM_changedPlaces aM_changedBy aM_work aM_workLost aM_sums aM_rest aM_spots aM_matrix aM_answer aM_block aM_sent aM_asLaid aM_sentLost aM_told aM_shares aM_used aM_downs aM_weights cI cZ M_n M_k M_b M_changes M_workSize M_workRepairs M_workFirst M_spotCount M_blockSize M_laid M_stripes M_longest M_laidRepairs M_laidFirst M_degree M_wide M_toldCount) H → va_D A (wd_Mo_log aM aM_word aM_lost aM_generators aM_changedPlaces aM_changedBy aM_work aM_workLost aM_sums aM_rest aM_spots aM_matrix aM_answer aM_block aM_sent aM_asLaid aM_sentLost aM_told aM_shares aM_used aM_downs aM_weights cI cZ M_n M_k M_b M_changes M_workSize M_workRepairs M_workFirst M_spotCount M_blockSize M_laid M_stripes M_longest M_laidRepairs M_laidFirst M_degree M_wide M_toldCount) → va_S A s.heap H locs → lv_has ls 4 [(1, .int x1), (2, .int x2), (3, .int x3)] → W p l e rm_Mo_log s m args below meth c H locs 0 0 Q (F0 m 17 ls [])), ∀ (x1 : Int32) (x2 : Int32) (x3 : Int32) (H : Heap) (locs : List Loc) (ls : Array Slot), wp_Mo_log_b17 post K17 x1 x2 x3 → va_P (dC, dI) vwCl (wd_Mo_log aM aM_word aM_lost aM_generators aM_changedPlaces aM_changedBy aM_work aM_workLost aM_sums aM_rest aM_spots aM_matrix aM_answer aM_block aM_sent aM_asLaid aM_sentLost aM_told aM_shares aM_used aM_downs aM_weights cI cZ M_n M_k M_b M_changes M_workSize M_workRepairs M_workFirst M_spotCount M_blockSize M_laid M_stripes M_longest M_laidRepairs M_laidFirst M_degree M_wide M_toldCount) H → va_D A (wd_Mo_log aM aM_word aM_lost aM_generators aM_changedPlaces aM_changedBy aM_work aM_workLost aM_sums aM_rest aM_spots aM_matrix aM_answer aM_block aM_sent aM_asLaid aM_sentLost aM_told aM_shares aM_used aM_downs aM_weights cI cZ M_n M_k M_b M_changes M_workSize M_workRepairs M_workFirst M_spotCount M_blockSize M_laid M_stripes M_longest M_laidRepairs M_laidFirst M_degree M_wide M_toldCount) → va_S A s.heap H locs → lv_has ls 4 [(1, .int x1), (2, .int x2), (3, .int x3)] → W p l e rm_Mo_log s m args below meth c H locs 0 0 Q (F0 m 17 ls []) := by
    intro K17 HK17 x1 x2 x3 H locs ls h hP hD hS hl
    refine lv_iload_n hx hb d_Mo_log_17 rfl (lv_at hl 2 rfl) ?_
    refine lv_iload_n hx hb d_Mo_log_18 rfl (lv_at hl 0 rfl) ?_
    refine lv_icmp_eq (tgt := 34) hx hb d_Mo_log_19 (by decide) (fun g19 => ?_) (fun g19 => ?_)
    · have h := h.1 g19
      refine lv_iload_n hx hb d_Mo_log_34 rfl (lv_at hl 1 rfl) ?_
      exact RET x2 H locs ls 35 d_Mo_log_35 h hP hD hS
    · have h := h.2 g19
      refine lv_iload_n hx hb d_Mo_log_22 rfl (lv_at hl 2 rfl) ?_
      refine lv_iconst (v := (2 : Int32)) hx hb d_Mo_log_23 (by decide) ?_
      refine mt_i (va_runS (As := [.int x3, .int (2 : Int32)]) (rest := []) ⟨hx, hb, hml, hown, hts⟩ (ct_Mo_by l dC dI  cI cZ x3 (2 : Int32) _ h _) (tb_cS hts ok_Mo_by tb_786 rfl rfl ⟨Nat.le_of_ble_eq_true rfl, Nat.le_of_ble_eq_true rfl⟩) (mt_preS hK hP hD [.int x3, .int (2 : Int32)] [] rfl (by decide)) rfl rfl hl.1 rfl (lv_room (Nat.le_of_ble_eq_true rfl)) d_Mo_log_24 ⟨Nat.zero_le _, Nat.zero_le _⟩) hP hD hS hA [] rfl (fun _ => rfl) (fun r_24 u H locs h hP hD hS => ?_)
      have hP : va_P (dC, dI) vwCl (wd_Mo_log aM aM_word aM_lost aM_generators aM_changedPlaces aM_changedBy aM_work aM_workLost aM_sums aM_rest aM_spots aM_matrix aM_answer aM_block aM_sent aM_asLaid aM_sentLost aM_told aM_shares aM_used aM_downs aM_weights cI cZ M_n M_k M_b M_changes M_workSize M_workRepairs M_workFirst M_spotCount M_blockSize M_laid M_stripes M_longest M_laidRepairs M_laidFirst M_degree M_wide M_toldCount) H := hP
      have hD : va_D A (wd_Mo_log aM aM_word aM_lost aM_generators aM_changedPlaces aM_changedBy aM_work aM_workLost aM_sums aM_rest aM_spots aM_matrix aM_answer aM_block aM_sent aM_asLaid aM_sentLost aM_told aM_shares aM_used aM_downs aM_weights cI cZ M_n M_k M_b M_changes M_workSize M_workRepairs M_workFirst M_spotCount M_blockSize M_laid M_stripes M_longest M_laidRepairs M_laidFirst M_degree M_wide M_toldCount) := hD
      refine lv_istore_n (lv' := [(3, .int r_24), (1, .int x1), (2, .int x2)]) hx hb d_Mo_log_27 rfl hl (by decide) rfl (fun ls hl => ?_)
      obtain ⟨x2_28, ex2_28⟩ : ∃ y : Int32, y = (x2 + (1 : Int32)) := ⟨_, rfl⟩
      have h := h x2_28 ex2_28
      refine lv_iinc (v := x2_28) (lv' := [(2, .int x2_28), (3, .int r_24), (1, .int x1)]) hx hb d_Mo_log_28 hl (k := 2) rfl (by rw [ex2_28]; rfl) (by decide) rfl (fun ls hl => ?_)
      refine lv_goto (tgt := 17) hx hb d_Mo_log_31 (by decide) ?_
      exact HK17 x1 x2_28 r_24 H locs ls h hP hD hS (lv_sub hl [2, 0, 1] rfl)
  have L17 : ∀  (n : Nat), ∀ (x1 : Int32) (x2 : Int32) (x3 : Int32) (H : Heap) (locs : List Loc) (ls : Array Slot), wp_Mo_log_L17 post  n x1 x2 x3 → va_P (dC, dI) vwCl (wd_Mo_log aM aM_word aM_lost aM_generators aM_changedPlaces aM_changedBy aM_work aM_workLost aM_sums aM_rest aM_spots aM_matrix aM_answer aM_block aM_sent aM_asLaid aM_sentLost aM_told aM_shares aM_used aM_downs aM_weights cI cZ M_n M_k M_b M_changes M_workSize M_workRepairs M_workFirst M_spotCount M_blockSize M_laid M_stripes M_longest M_laidRepairs M_laidFirst M_degree M_wide M_toldCount) H → va_D A (wd_Mo_log aM aM_word aM_lost aM_generators aM_changedPlaces aM_changedBy aM_work aM_workLost aM_sums aM_rest aM_spots aM_matrix aM_answer aM_block aM_sent aM_asLaid aM_sentLost aM_told aM_shares aM_used aM_downs aM_weights cI cZ M_n M_k M_b M_changes M_workSize M_workRepairs M_workFirst M_spotCount M_blockSize M_laid M_stripes M_longest M_laidRepairs M_laidFirst M_degree M_wide M_toldCount) → va_S A s.heap H locs → lv_has ls 4 [(1, .int x1), (2, .int x2), (3, .int x3)] → W p l e rm_Mo_log s m args below meth c H locs 0 0 Q (F0 m 17 ls []) := by
    intro  n
    induction n with
    | zero => intro x1 x2 x3 H locs ls h hP hD hS hl; exact False.elim h
    | succ n ih => intro x1 x2 x3 H locs ls h hP hD hS hl; exact B17  (wp_Mo_log_L17 post  n) ih x1 x2 x3 H locs ls h hP hD hS hl
  obtain ⟨H, hH⟩ : ∃ H : Heap, H = s.heap := ⟨_, rfl⟩
  obtain ⟨locs, hlo⟩ : ∃ x : List Loc, x = [] := ⟨_, rfl⟩
  have hS : va_S A s.heap H locs := by rw [hH, hlo]; exact hS
  rw [← hH] at hP
  rw [← hlo]
  show W p l e rm_Mo_log s m args below meth c s.heap locs 0 0 Q (F0 m 0 ls [])
  rw [← hH]
  refine lv_iload_n hx hb d_Mo_log_0 rfl (lv_at hl 1 rfl) ?_
  refine mt_i (va_runS (As := [.int p1]) (rest := []) ⟨hx, hb, hml, hown, hts⟩ (ct_Mo_isByte l dC dI  cI cZ p1 _ h _) (tb_cS hts ok_Mo_isByte tb_783 rfl rfl ⟨Nat.le_of_ble_eq_true rfl, Nat.le_of_ble_eq_true rfl⟩) (mt_preS hK hP hD [.int p1] [] rfl (by decide)) rfl rfl hl.1 rfl (lv_room (Nat.le_of_ble_eq_true rfl)) d_Mo_log_1 ⟨Nat.zero_le _, Nat.zero_le _⟩) hP hD hS hA [] rfl (fun _ => rfl) (fun r_1 u H locs h hP hD hS => ?_)
  have hP : va_P (dC, dI) vwCl (wd_Mo_log aM aM_word aM_lost aM_generators aM_changedPlaces aM_changedBy aM_work aM_workLost aM_sums aM_rest aM_spots aM_matrix aM_answer aM_block aM_sent aM_asLaid aM_sentLost aM_told aM_shares aM_used aM_downs aM_weights cI cZ M_n M_k M_b M_changes M_workSize M_workRepairs M_workFirst M_spotCount M_blockSize M_laid M_stripes M_longest M_laidRepairs M_laidFirst M_degree M_wide M_toldCount) H := hP
  have hD : va_D A (wd_Mo_log aM aM_word aM_lost aM_generators aM_changedPlaces aM_changedBy aM_work aM_workLost aM_sums aM_rest aM_spots aM_matrix aM_answer aM_block aM_sent aM_asLaid aM_sentLost aM_told aM_shares aM_used aM_downs aM_weights cI cZ M_n M_k M_b M_changes M_workSize M_workRepairs M_workFirst M_spotCount M_blockSize M_laid M_stripes M_longest M_laidRepairs M_laidFirst M_degree M_wide M_toldCount) := hD
  refine lv_if_eq (tgt := 11) hx hb d_Mo_log_4 (by decide) (fun g4 => ?_) (fun g4 => ?_)
  · have h := h.1 g4
    exact B11   H locs ls h hP hD hS (lv_sub hl [] rfl)
  · have h := h.2 g4
    refine lv_iload_n hx hb d_Mo_log_7 rfl (lv_at hl 1 rfl) ?_
    refine lv_if_ne (tgt := 13) hx hb d_Mo_log_8 (by decide) (fun g8 => ?_) (fun g8 => ?_)
    · have h := h.1 g8
      refine lv_iconst (v := (0 : Int32)) hx hb d_Mo_log_13 (by decide) ?_
      refine lv_istore_n (lv' := [(2, .int (0 : Int32)), (0, .ref aM), (1, .int p1)]) hx hb d_Mo_log_14 rfl hl (by decide) rfl (fun ls hl => ?_)
      refine lv_iconst (v := (1 : Int32)) hx hb d_Mo_log_15 (by decide) ?_
      refine lv_istore_n (lv' := [(3, .int (1 : Int32)), (2, .int (0 : Int32)), (0, .ref aM), (1, .int p1)]) hx hb d_Mo_log_16 rfl hl (by decide) rfl (fun ls hl => ?_)
      obtain ⟨n, h⟩ := h
      exact L17  n p1 (0 : Int32) (1 : Int32) H locs ls h hP hD hS (lv_sub hl [3, 1, 0] rfl)
    · have h := h.2 g8
      exact B11   H locs ls h hP hD hS (lv_sub hl [] rfl)
abbrev wd_Mo_root  (cI cZ : ClassId)  : va_W := []
def wp_Mo_root (p0 : Int32) (post : Int32 → Prop) : Prop := wp_Mo_raised (2 : Int32) (p0 - p0 / (255 : Int32) * (255 : Int32)) (fun r_6 => (post r_6))
abbrev rm_Mo_root : Room := { frames := 2, cells := 0, slots := 0, locals := 48 }
set_option maxHeartbeats 4000000 in
set_option maxRecDepth 100000 in
theorem ct_Mo_root (l : Launch) (dC : Nat → ClassId) (dI : Nat → Nat → Nat)  (cI cZ : ClassId)  (p0 : Int32) (post : Int32 → Prop) (h : wp_Mo_root p0 post) (sz : Nat) : Met l y_Mo_root (Cond.code y_Mo_root c_Mo_root 1 (some .int) :: tb) rm_Mo_root (mt_P (dC, dI) vwCl [(cI, .int), (cZ, .boolean)] [.int p0] (wd_Mo_root cI cZ) sz) (va_Qi (fun (r : Int32) (u : Unit) => post r) (mt_B (dC, dI) vwCl [(cI, .int), (cZ, .boolean)] (wd_Mo_root cI cZ) sz (fun u : Unit => wd_Mo_root cI cZ)) (va_A (wd_Mo_root cI cZ) sz)) 0 0 (va_A (wd_Mo_root cI cZ) sz) := by
  refine mt_bd (by decide +kernel) (Nat.le_of_ble_eq_true rfl) ?_
  intro p e s m args below meth c hx hb hml hown hts hr hlk hnm hsz hP hK hD hA hS ls hl
  subst hsz
  have hown : s.vm.findClass "ReedSetsModel" = some m.cls := hown
  have hl : lv_has ls 1 [(0, .int p0)] := hl
  refine lz_Q (fun Q hQ => ?_)
  obtain ⟨A, hAe⟩ : ∃ A : Nat → Prop, A = va_A (wd_Mo_root cI cZ) s.heap.size := ⟨_, rfl⟩
  rw [← hAe] at hD hA hS
  have RET : ∀ (v : Int32)  (H : Heap) (locs : List Loc) (ls : Array Slot) (pc : Nat), decode c_Mo_root pc = .ok (.ireturn, 1) → post v  → va_P (dC, dI) vwCl (wd_Mo_root cI cZ) H → va_D A (wd_Mo_root cI cZ) → va_S A s.heap H locs → W p l e rm_Mo_root s m args below meth c H locs 0 0 Q (F0 m pc ls [.int v]) := by
    intro v  H locs ls pc hd hp h1 h2 h3
    rw [hQ]
    rw [hAe] at h2 h3
    exact mt_reti () hx hb hr hlk hd hK h1 h2 h3 hp
  obtain ⟨H, hH⟩ : ∃ H : Heap, H = s.heap := ⟨_, rfl⟩
  obtain ⟨locs, hlo⟩ : ∃ x : List Loc, x = [] := ⟨_, rfl⟩
  have hS : va_S A s.heap H locs := by rw [hH, hlo]; exact hS
  rw [← hH] at hP
  rw [← hlo]
  show W p l e rm_Mo_root s m args below meth c s.heap locs 0 0 Q (F0 m 0 ls [])
  rw [← hH]
  refine lv_iconst (v := (2 : Int32)) hx hb d_Mo_root_0 (by decide) ?_
  refine lv_iload_n hx hb d_Mo_root_1 rfl (lv_at hl 0 rfl) ?_
  refine lv_sipush (v := (255 : Int32)) hx hb d_Mo_root_2 (by decide) ?_
  refine lv_irem hx hb d_Mo_root_5 (by decide) ?_
  refine mt_i (va_runS (As := [.int (2 : Int32), .int (p0 - p0 / (255 : Int32) * (255 : Int32))]) (rest := []) ⟨hx, hb, hml, hown, hts⟩ (ct_Mo_raised l dC dI  cI cZ (2 : Int32) (p0 - p0 / (255 : Int32) * (255 : Int32)) _ h _) (tb_cS hts ok_Mo_raised tb_796 rfl rfl ⟨Nat.le_of_ble_eq_true rfl, Nat.le_of_ble_eq_true rfl⟩) (mt_preS hK hP hD [.int (2 : Int32), .int (p0 - p0 / (255 : Int32) * (255 : Int32))] [] rfl (by decide)) rfl rfl hl.1 rfl (lv_room (Nat.le_of_ble_eq_true rfl)) d_Mo_root_6 ⟨Nat.zero_le _, Nat.zero_le _⟩) hP hD hS hA [] rfl (fun _ => rfl) (fun r_6 u H locs h hP hD hS => ?_)
  have hP : va_P (dC, dI) vwCl (wd_Mo_root cI cZ) H := hP
  have hD : va_D A (wd_Mo_root cI cZ) := hD
  exact RET r_6 H locs ls 9 d_Mo_root_9 h hP hD hS
abbrev wd_Mo_code (aM aM_word aM_lost aM_generators aM_changedPlaces aM_changedBy aM_work aM_workLost aM_sums aM_rest aM_spots aM_matrix aM_answer aM_block aM_sent aM_asLaid aM_sentLost aM_told aM_shares aM_used aM_downs aM_weights : Nat) (cI cZ : ClassId) (M_n : Int32) (M_k : Int32) (M_b : Int32) (M_changes : Int32) (M_workSize : Int32) (M_workRepairs : Int32) (M_workFirst : Int32) (M_spotCount : Int32) (M_blockSize : Int32) (M_laid : Int32) (M_stripes : Int32) (M_longest : Int32) (M_laidRepairs : Int32) (M_laidFirst : Int32) (M_degree : Int32) (M_wide : Int32) (M_toldCount : Int32) (M_word : Nat → Int32) (M_lost : Nat → Int32) : va_W := [(aM, .inr (7, [.int M_n, .int M_k, .int M_b, .ref aM_word, .ref aM_lost, .ref aM_generators, .int M_changes, .ref aM_changedPlaces, .ref aM_changedBy, .ref aM_work, .ref aM_workLost, .int M_workSize, .int M_workRepairs, .int M_workFirst, .ref aM_sums, .ref aM_rest, .ref aM_spots, .int M_spotCount, .ref aM_matrix, .ref aM_answer, .ref aM_block, .int M_blockSize, .int M_laid, .int M_stripes, .int M_longest, .int M_laidRepairs, .int M_laidFirst, .ref aM_sent, .ref aM_asLaid, .ref aM_sentLost, .int M_degree, .int M_wide, .ref aM_told, .ref aM_shares, .int M_toldCount, .ref aM_used, .ref aM_downs, .ref aM_weights])), (aM_word, .inl (cI, 255, .inl M_word)), (aM_lost, .inl (cZ, 255, .inl M_lost))]
def wp_Mo_code_b42  (post : Int32 → Int32 → Int32 → Int32 → (Nat → Int32) → (Nat → Int32) → Prop)  (M_n : Int32) (M_k : Int32) (M_b : Int32) (M_word : Nat → Int32) (M_lost : Nat → Int32) : Prop := post (-1 : Int32) M_n M_k M_b M_word M_lost
def wp_Mo_code_b62  (post : Int32 → Int32 → Int32 → Int32 → (Nat → Int32) → (Nat → Int32) → Prop) (K62 : Int32 → Int32 → Int32 → (Nat → Int32) → (Nat → Int32) → Int32 → Prop) (M_n : Int32) (M_k : Int32) (M_b : Int32) (M_word : Nat → Int32) (M_lost : Nat → Int32) (x4 : Int32) : Prop := ((255 : Int32) ≤ x4 → (post (M_n + M_k) M_n M_k M_b M_word M_lost)) ∧ (¬ (255 : Int32) ≤ x4 → (vp_in x4 255 ∧ (vp_in x4 255 ∧ (∀ x4_86 : Int32, x4_86 = (x4 + (1 : Int32)) → (K62 M_n M_k M_b (upd M_word x4.toNatClampNeg (0 : Int32)) (upd M_lost x4.toNatClampNeg (0 : Int32)) x4_86)))))
def wp_Mo_code_L62  (post : Int32 → Int32 → Int32 → Int32 → (Nat → Int32) → (Nat → Int32) → Prop)  : Nat → Int32 → Int32 → Int32 → (Nat → Int32) → (Nat → Int32) → Int32 → Prop
  | 0 => fun _ _ _ _ _ _ => False
  | n + 1 => wp_Mo_code_b62 post (wp_Mo_code_L62 post n)
def wp_Mo_code (M_n : Int32) (M_k : Int32) (M_b : Int32) (M_word : Nat → Int32) (M_lost : Nat → Int32) (p1 : Int32) (p2 : Int32) (p3 : Int32) (post : Int32 → Int32 → Int32 → Int32 → (Nat → Int32) → (Nat → Int32) → Prop) : Prop := (p1 < (1 : Int32) → (wp_Mo_code_b42 post  M_n M_k M_b M_word M_lost)) ∧ (¬ p1 < (1 : Int32) → (((200 : Int32) < p1 → (wp_Mo_code_b42 post  M_n M_k M_b M_word M_lost)) ∧ (¬ (200 : Int32) < p1 → ((p2 < 0 → (wp_Mo_code_b42 post  M_n M_k M_b M_word M_lost)) ∧ (¬ p2 < 0 → (((40 : Int32) < p2 → (wp_Mo_code_b42 post  M_n M_k M_b M_word M_lost)) ∧ (¬ (40 : Int32) < p2 → (((255 : Int32) < (p1 + p2) → (wp_Mo_code_b42 post  M_n M_k M_b M_word M_lost)) ∧ (¬ (255 : Int32) < (p1 + p2) → ((p3 < 0 → (wp_Mo_code_b42 post  M_n M_k M_b M_word M_lost)) ∧ (¬ p3 < 0 → ((p3 ≤ (254 : Int32) → (∃ n : Nat, wp_Mo_code_L62 post  n p1 p2 p3 M_word M_lost (0 : Int32))) ∧ (¬ p3 ≤ (254 : Int32) → (wp_Mo_code_b42 post  M_n M_k M_b M_word M_lost))))))))))))))
abbrev rm_Mo_code : Room := { frames := 0, cells := 0, slots := 0, locals := 0 }
set_option maxHeartbeats 4000000 in
set_option maxRecDepth 100000 in
theorem ct_Mo_code (l : Launch) (dC : Nat → ClassId) (dI : Nat → Nat → Nat) (aM aM_word aM_lost aM_generators aM_changedPlaces aM_changedBy aM_work aM_workLost aM_sums aM_rest aM_spots aM_matrix aM_answer aM_block aM_sent aM_asLaid aM_sentLost aM_told aM_shares aM_used aM_downs aM_weights : Nat) (cI cZ : ClassId) (M_n : Int32) (M_k : Int32) (M_b : Int32) (M_changes : Int32) (M_workSize : Int32) (M_workRepairs : Int32) (M_workFirst : Int32) (M_spotCount : Int32) (M_blockSize : Int32) (M_laid : Int32) (M_stripes : Int32) (M_longest : Int32) (M_laidRepairs : Int32) (M_laidFirst : Int32) (M_degree : Int32) (M_wide : Int32) (M_toldCount : Int32) (M_word : Nat → Int32) (M_lost : Nat → Int32) (p1 : Int32) (p2 : Int32) (p3 : Int32) (post : Int32 → Int32 → Int32 → Int32 → (Nat → Int32) → (Nat → Int32) → Prop) (h : wp_Mo_code M_n M_k M_b M_word M_lost p1 p2 p3 post) (sz : Nat) : Met l y_Mo_code (Cond.code y_Mo_code c_Mo_code 5 (some .int) :: tb) rm_Mo_code (mt_P (dC, dI) vwCl [(cI, .int), (cZ, .boolean)] [.ref aM, .int p1, .int p2, .int p3] (wd_Mo_code aM aM_word aM_lost aM_generators aM_changedPlaces aM_changedBy aM_work aM_workLost aM_sums aM_rest aM_spots aM_matrix aM_answer aM_block aM_sent aM_asLaid aM_sentLost aM_told aM_shares aM_used aM_downs aM_weights cI cZ M_n M_k M_b M_changes M_workSize M_workRepairs M_workFirst M_spotCount M_blockSize M_laid M_stripes M_longest M_laidRepairs M_laidFirst M_degree M_wide M_toldCount M_word M_lost) sz) (va_Qi (fun (r : Int32) (u : Int32 × Int32 × Int32 × (Nat → Int32) × (Nat → Int32)) => post r u.1 u.2.1 u.2.2.1 u.2.2.2.1 u.2.2.2.2) (mt_B (dC, dI) vwCl [(cI, .int), (cZ, .boolean)] (wd_Mo_code aM aM_word aM_lost aM_generators aM_changedPlaces aM_changedBy aM_work aM_workLost aM_sums aM_rest aM_spots aM_matrix aM_answer aM_block aM_sent aM_asLaid aM_sentLost aM_told aM_shares aM_used aM_downs aM_weights cI cZ M_n M_k M_b M_changes M_workSize M_workRepairs M_workFirst M_spotCount M_blockSize M_laid M_stripes M_longest M_laidRepairs M_laidFirst M_degree M_wide M_toldCount M_word M_lost) sz (fun u : Int32 × Int32 × Int32 × (Nat → Int32) × (Nat → Int32) => wd_Mo_code aM aM_word aM_lost aM_generators aM_changedPlaces aM_changedBy aM_work aM_workLost aM_sums aM_rest aM_spots aM_matrix aM_answer aM_block aM_sent aM_asLaid aM_sentLost aM_told aM_shares aM_used aM_downs aM_weights cI cZ u.1 u.2.1 u.2.2.1 M_changes M_workSize M_workRepairs M_workFirst M_spotCount M_blockSize M_laid M_stripes M_longest M_laidRepairs M_laidFirst M_degree M_wide M_toldCount u.2.2.2.1 u.2.2.2.2)) (va_A (wd_Mo_code aM aM_word aM_lost aM_generators aM_changedPlaces aM_changedBy aM_work aM_workLost aM_sums aM_rest aM_spots aM_matrix aM_answer aM_block aM_sent aM_asLaid aM_sentLost aM_told aM_shares aM_used aM_downs aM_weights cI cZ M_n M_k M_b M_changes M_workSize M_workRepairs M_workFirst M_spotCount M_blockSize M_laid M_stripes M_longest M_laidRepairs M_laidFirst M_degree M_wide M_toldCount M_word M_lost) sz)) 0 0 (va_A (wd_Mo_code aM aM_word aM_lost aM_generators aM_changedPlaces aM_changedBy aM_work aM_workLost aM_sums aM_rest aM_spots aM_matrix aM_answer aM_block aM_sent aM_asLaid aM_sentLost aM_told aM_shares aM_used aM_downs aM_weights cI cZ M_n M_k M_b M_changes M_workSize M_workRepairs M_workFirst M_spotCount M_blockSize M_laid M_stripes M_longest M_laidRepairs M_laidFirst M_degree M_wide M_toldCount M_word M_lost) sz) := by
  refine mt_bd (by decide +kernel) (Nat.le_of_ble_eq_true rfl) ?_
  intro p e s m args below meth c hx hb hml hown hts hr hlk hnm hsz hP hK hD hA hS ls hl
  subst hsz
  have hown : s.vm.findClass "ReedSetsModel" = some m.cls := hown
  have hl : lv_has ls 5 [(0, .ref aM), (1, .int p1), (2, .int p2), (3, .int p3)] := hl
  refine lz_Q (fun Q hQ => ?_)
  obtain ⟨A, hAe⟩ : ∃ A : Nat → Prop, A = va_A (wd_Mo_code aM aM_word aM_lost aM_generators aM_changedPlaces aM_changedBy aM_work aM_workLost aM_sums aM_rest aM_spots aM_matrix aM_answer aM_block aM_sent aM_asLaid aM_sentLost aM_told aM_shares aM_used aM_downs aM_weights cI cZ M_n M_k M_b M_changes M_workSize M_workRepairs M_workFirst M_spotCount M_blockSize M_laid M_stripes M_longest M_laidRepairs M_laidFirst M_degree M_wide M_toldCount M_word M_lost) s.heap.size := ⟨_, rfl⟩
  rw [← hAe] at hD hA hS
  have RET : ∀ (v : Int32) (M_n : Int32) (M_k : Int32) (M_b : Int32) (M_word : Nat → Int32) (M_lost : Nat → Int32) (H : Heap) (locs : List Loc) (ls : Array Slot) (pc : Nat), decode c_Mo_code pc = .ok (.ireturn, 1) → post v M_n M_k M_b M_word M_lost → va_P (dC, dI) vwCl (wd_Mo_code aM aM_word aM_lost aM_generators aM_changedPlaces aM_changedBy aM_work aM_workLost aM_sums aM_rest aM_spots aM_matrix aM_answer aM_block aM_sent aM_asLaid aM_sentLost aM_told aM_shares aM_used aM_downs aM_weights cI cZ M_n M_k M_b M_changes M_workSize M_workRepairs M_workFirst M_spotCount M_blockSize M_laid M_stripes M_longest M_laidRepairs M_laidFirst M_degree M_wide M_toldCount M_word M_lost) H → va_D A (wd_Mo_code aM aM_word aM_lost aM_generators aM_changedPlaces aM_changedBy aM_work aM_workLost aM_sums aM_rest aM_spots aM_matrix aM_answer aM_block aM_sent aM_asLaid aM_sentLost aM_told aM_shares aM_used aM_downs aM_weights cI cZ M_n M_k M_b M_changes M_workSize M_workRepairs M_workFirst M_spotCount M_blockSize M_laid M_stripes M_longest M_laidRepairs M_laidFirst M_degree M_wide M_toldCount M_word M_lost) → va_S A s.heap H locs → W p l e rm_Mo_code s m args below meth c H locs 0 0 Q (F0 m pc ls [.int v]) := by
    intro v M_n M_k M_b M_word M_lost H locs ls pc hd hp h1 h2 h3
    rw [hQ]
    rw [hAe] at h2 h3
    exact mt_reti (M_n, M_k, M_b, M_word, M_lost) hx hb hr hlk hd hK h1 h2 h3 hp
  have B42 : ∀ (M_n : Int32) (M_k : Int32) (M_b : Int32) (M_word : Nat → Int32) (M_lost : Nat → Int32) (H : Heap) (locs : List Loc) (ls : Array Slot), wp_Mo_code_b42 post  M_n M_k M_b M_word M_lost → va_P (dC, dI) vwCl (wd_Mo_code aM aM_word aM_lost aM_generators aM_changedPlaces aM_changedBy aM_work aM_workLost aM_sums aM_rest aM_spots aM_matrix aM_answer aM_block aM_sent aM_asLaid aM_sentLost aM_told aM_shares aM_used aM_downs aM_weights cI cZ M_n M_k M_b M_changes M_workSize M_workRepairs M_workFirst M_spotCount M_blockSize M_laid M_stripes M_longest M_laidRepairs M_laidFirst M_degree M_wide M_toldCount M_word M_lost) H → va_D A (wd_Mo_code aM aM_word aM_lost aM_generators aM_changedPlaces aM_changedBy aM_work aM_workLost aM_sums aM_rest aM_spots aM_matrix aM_answer aM_block aM_sent aM_asLaid aM_sentLost aM_told aM_shares aM_used aM_downs aM_weights cI cZ M_n M_k M_b M_changes M_workSize M_workRepairs M_workFirst M_spotCount M_blockSize M_laid M_stripes M_longest M_laidRepairs M_laidFirst M_degree M_wide M_toldCount M_word M_lost) → va_S A s.heap H locs → lv_has ls 5 [] → W p l e rm_Mo_code s m args below meth c H locs 0 0 Q (F0 m 42 ls []) := by
    intro  M_n M_k M_b M_word M_lost H locs ls h hP hD hS hl
    refine lv_iconst (v := (-1 : Int32)) hx hb d_Mo_code_42 (by decide) ?_
    exact RET (-1 : Int32) M_n M_k M_b M_word M_lost H locs ls 43 d_Mo_code_43 h hP hD hS
  have B62 : ∀ (K62 : Int32 → Int32 → Int32 → (Nat → Int32) → (Nat → Int32) → Int32 → Prop) (HK62 : ∀ (M_n : Int32) (M_k : Int32) (M_b : Int32) (M_word : Nat → Int32) (M_lost : Nat → Int32) (x4 : Int32) (H : Heap) (locs : List Loc) (ls : Array Slot), K62 M_n M_k M_b M_word M_lost x4 → va_P (dC, dI) vwCl (wd_Mo_code aM aM_word aM_lost aM_generators aM_changedPlaces aM_changedBy aM_work aM_workLost aM_sums aM_rest aM_spots aM_matrix aM_answer aM_block aM_sent aM_asLaid aM_sentLost aM_told aM_shares aM_used aM_downs aM_weights cI cZ M_n M_k M_b M_changes M_workSize M_workRepairs M_workFirst M_spotCount M_blockSize M_laid M_stripes M_longest M_laidRepairs M_laidFirst M_degree M_wide M_toldCount M_word M_lost) H → va_D A (wd_Mo_code aM aM_word aM_lost aM_generators aM_changedPlaces aM_changedBy aM_work aM_workLost aM_sums aM_rest aM_spots aM_matrix aM_answer aM_block aM_sent aM_asLaid aM_sentLost aM_told aM_shares aM_used aM_downs aM_weights cI cZ M_n M_k M_b M_changes M_workSize M_workRepairs M_workFirst M_spotCount M_blockSize M_laid M_stripes M_longest M_laidRepairs M_laidFirst M_degree M_wide M_toldCount M_word M_lost) → va_S A s.heap H locs → lv_has ls 5 [(0, .ref aM), (4, .int x4)] → W p l e rm_Mo_code s m args below meth c H locs 0 0 Q (F0 m 62 ls [])), ∀ (M_n : Int32) (M_k : Int32) (M_b : Int32) (M_word : Nat → Int32) (M_lost : Nat → Int32) (x4 : Int32) (H : Heap) (locs : List Loc) (ls : Array Slot), wp_Mo_code_b62 post K62 M_n M_k M_b M_word M_lost x4 → va_P (dC, dI) vwCl (wd_Mo_code aM aM_word aM_lost aM_generators aM_changedPlaces aM_changedBy aM_work aM_workLost aM_sums aM_rest aM_spots aM_matrix aM_answer aM_block aM_sent aM_asLaid aM_sentLost aM_told aM_shares aM_used aM_downs aM_weights cI cZ M_n M_k M_b M_changes M_workSize M_workRepairs M_workFirst M_spotCount M_blockSize M_laid M_stripes M_longest M_laidRepairs M_laidFirst M_degree M_wide M_toldCount M_word M_lost) H → va_D A (wd_Mo_code aM aM_word aM_lost aM_generators aM_changedPlaces aM_changedBy aM_work aM_workLost aM_sums aM_rest aM_spots aM_matrix aM_answer aM_block aM_sent aM_asLaid aM_sentLost aM_told aM_shares aM_used aM_downs aM_weights cI cZ M_n M_k M_b M_changes M_workSize M_workRepairs M_workFirst M_spotCount M_blockSize M_laid M_stripes M_longest M_laidRepairs M_laidFirst M_degree M_wide M_toldCount M_word M_lost) → va_S A s.heap H locs → lv_has ls 5 [(0, .ref aM), (4, .int x4)] → W p l e rm_Mo_code s m args below meth c H locs 0 0 Q (F0 m 62 ls []) := by
    intro K62 HK62 M_n M_k M_b M_word M_lost x4 H locs ls h hP hD hS hl
    refine lv_iload hx hb d_Mo_code_62 (lv_at hl 1 rfl) ?_
    refine lv_sipush (v := (255 : Int32)) hx hb d_Mo_code_64 (by decide) ?_
    refine lv_icmp_ge (tgt := 92) hx hb d_Mo_code_67 (by decide) (fun g67 => ?_) (fun g67 => ?_)
    · have h := h.1 g67
      refine lv_aload_n hx hb d_Mo_code_92 rfl (lv_at hl 0 rfl) ?_
      refine va_get (D := (dC, dI)) (ci := 7) (v := .int M_n) (C := "ReedSetsModel") (T := T_Mo) (N := 38) hx hb hts in_Mo hown hK hP 0 rfl rfl 0 (by decide) (hts _ tb_664) (fun _ h9 => h9) rfl d_Mo_code_93 ?_
      refine lv_aload_n hx hb d_Mo_code_96 rfl (lv_at hl 0 rfl) ?_
      refine va_get (D := (dC, dI)) (ci := 7) (v := .int M_k) (C := "ReedSetsModel") (T := T_Mo) (N := 38) hx hb hts in_Mo hown hK hP 0 rfl rfl 1 (by decide) (hts _ tb_665) (fun _ h9 => h9) rfl d_Mo_code_97 ?_
      refine lv_iadd hx hb d_Mo_code_100 ?_
      exact RET (M_n + M_k) M_n M_k M_b M_word M_lost H locs ls 101 d_Mo_code_101 h hP hD hS
    · have h := h.2 g67
      refine lv_aload_n hx hb d_Mo_code_70 rfl (lv_at hl 0 rfl) ?_
      refine va_get (D := (dC, dI)) (ci := 7) (v := .ref aM_word) (C := "ReedSetsModel") (T := T_Mo) (N := 38) hx hb hts in_Mo hown hK hP 0 rfl rfl 3 (by decide) (hts _ tb_667) (fun _ h9 => h9) rfl d_Mo_code_71 ?_
      refine lv_iload hx hb d_Mo_code_74 (lv_at hl 1 rfl) ?_
      refine lv_iconst (v := (0 : Int32)) hx hb d_Mo_code_76 (by decide) ?_
      obtain ⟨hi, h⟩ := h
      refine va_iast hx hb hK hP hD hS 1 0 rfl rfl hi d_Mo_code_77 (fun H locs hP hD hS => ?_)
      have hP : va_P (dC, dI) vwCl (wd_Mo_code aM aM_word aM_lost aM_generators aM_changedPlaces aM_changedBy aM_work aM_workLost aM_sums aM_rest aM_spots aM_matrix aM_answer aM_block aM_sent aM_asLaid aM_sentLost aM_told aM_shares aM_used aM_downs aM_weights cI cZ M_n M_k M_b M_changes M_workSize M_workRepairs M_workFirst M_spotCount M_blockSize M_laid M_stripes M_longest M_laidRepairs M_laidFirst M_degree M_wide M_toldCount (upd M_word x4.toNatClampNeg (0 : Int32)) M_lost) H := hP
      have hD : va_D A (wd_Mo_code aM aM_word aM_lost aM_generators aM_changedPlaces aM_changedBy aM_work aM_workLost aM_sums aM_rest aM_spots aM_matrix aM_answer aM_block aM_sent aM_asLaid aM_sentLost aM_told aM_shares aM_used aM_downs aM_weights cI cZ M_n M_k M_b M_changes M_workSize M_workRepairs M_workFirst M_spotCount M_blockSize M_laid M_stripes M_longest M_laidRepairs M_laidFirst M_degree M_wide M_toldCount (upd M_word x4.toNatClampNeg (0 : Int32)) M_lost) := hD
      refine lv_aload_n hx hb d_Mo_code_78 rfl (lv_at hl 0 rfl) ?_
      refine va_get (D := (dC, dI)) (ci := 7) (v := .ref aM_lost) (C := "ReedSetsModel") (T := T_Mo) (N := 38) hx hb hts in_Mo hown hK hP 0 rfl rfl 4 (by decide) (hts _ tb_668) (fun _ h9 => h9) rfl d_Mo_code_79 ?_
      refine lv_iload hx hb d_Mo_code_82 (lv_at hl 1 rfl) ?_
      refine lv_iconst (v := (0 : Int32)) hx hb d_Mo_code_84 (by decide) ?_
      obtain ⟨hi, h⟩ := h
      refine va_zast hx hb hK hP hD hS 2 1 rfl rfl hi d_Mo_code_85 (fun H locs hP hD hS => ?_)
      have hP : va_P (dC, dI) vwCl (wd_Mo_code aM aM_word aM_lost aM_generators aM_changedPlaces aM_changedBy aM_work aM_workLost aM_sums aM_rest aM_spots aM_matrix aM_answer aM_block aM_sent aM_asLaid aM_sentLost aM_told aM_shares aM_used aM_downs aM_weights cI cZ M_n M_k M_b M_changes M_workSize M_workRepairs M_workFirst M_spotCount M_blockSize M_laid M_stripes M_longest M_laidRepairs M_laidFirst M_degree M_wide M_toldCount (upd M_word x4.toNatClampNeg (0 : Int32)) (upd M_lost x4.toNatClampNeg (0 : Int32))) H := hP
      have hD : va_D A (wd_Mo_code aM aM_word aM_lost aM_generators aM_changedPlaces aM_changedBy aM_work aM_workLost aM_sums aM_rest aM_spots aM_matrix aM_answer aM_block aM_sent aM_asLaid aM_sentLost aM_told aM_shares aM_used aM_downs aM_weights cI cZ M_n M_k M_b M_changes M_workSize M_workRepairs M_workFirst M_spotCount M_blockSize M_laid M_stripes M_longest M_laidRepairs M_laidFirst M_degree M_wide M_toldCount (upd M_word x4.toNatClampNeg (0 : Int32)) (upd M_lost x4.toNatClampNeg (0 : Int32))) := hD
      obtain ⟨x4_86, ex4_86⟩ : ∃ y : Int32, y = (x4 + (1 : Int32)) := ⟨_, rfl⟩
      have h := h x4_86 ex4_86
      refine lv_iinc (v := x4_86) (lv' := [(4, .int x4_86), (0, .ref aM)]) hx hb d_Mo_code_86 hl (k := 1) rfl (by rw [ex4_86]; rfl) (by decide) rfl (fun ls hl => ?_)
      refine lv_goto (tgt := 62) hx hb d_Mo_code_89 (by decide) ?_
      exact HK62 M_n M_k M_b (upd M_word x4.toNatClampNeg (0 : Int32)) (upd M_lost x4.toNatClampNeg (0 : Int32)) x4_86 H locs ls h hP hD hS (lv_sub hl [1, 0] rfl)
  have L62 : ∀  (n : Nat), ∀ (M_n : Int32) (M_k : Int32) (M_b : Int32) (M_word : Nat → Int32) (M_lost : Nat → Int32) (x4 : Int32) (H : Heap) (locs : List Loc) (ls : Array Slot), wp_Mo_code_L62 post  n M_n M_k M_b M_word M_lost x4 → va_P (dC, dI) vwCl (wd_Mo_code aM aM_word aM_lost aM_generators aM_changedPlaces aM_changedBy aM_work aM_workLost aM_sums aM_rest aM_spots aM_matrix aM_answer aM_block aM_sent aM_asLaid aM_sentLost aM_told aM_shares aM_used aM_downs aM_weights cI cZ M_n M_k M_b M_changes M_workSize M_workRepairs M_workFirst M_spotCount M_blockSize M_laid M_stripes M_longest M_laidRepairs M_laidFirst M_degree M_wide M_toldCount M_word M_lost) H → va_D A (wd_Mo_code aM aM_word aM_lost aM_generators aM_changedPlaces aM_changedBy aM_work aM_workLost aM_sums aM_rest aM_spots aM_matrix aM_answer aM_block aM_sent aM_asLaid aM_sentLost aM_told aM_shares aM_used aM_downs aM_weights cI cZ M_n M_k M_b M_changes M_workSize M_workRepairs M_workFirst M_spotCount M_blockSize M_laid M_stripes M_longest M_laidRepairs M_laidFirst M_degree M_wide M_toldCount M_word M_lost) → va_S A s.heap H locs → lv_has ls 5 [(0, .ref aM), (4, .int x4)] → W p l e rm_Mo_code s m args below meth c H locs 0 0 Q (F0 m 62 ls []) := by
    intro  n
    induction n with
    | zero => intro M_n M_k M_b M_word M_lost x4 H locs ls h hP hD hS hl; exact False.elim h
    | succ n ih => intro M_n M_k M_b M_word M_lost x4 H locs ls h hP hD hS hl; exact B62  (wp_Mo_code_L62 post  n) ih M_n M_k M_b M_word M_lost x4 H locs ls h hP hD hS hl
  obtain ⟨H, hH⟩ : ∃ H : Heap, H = s.heap := ⟨_, rfl⟩
  obtain ⟨locs, hlo⟩ : ∃ x : List Loc, x = [] := ⟨_, rfl⟩
  have hS : va_S A s.heap H locs := by rw [hH, hlo]; exact hS
  rw [← hH] at hP
  rw [← hlo]
  show W p l e rm_Mo_code s m args below meth c s.heap locs 0 0 Q (F0 m 0 ls [])
  rw [← hH]
  refine lv_iload_n hx hb d_Mo_code_0 rfl (lv_at hl 1 rfl) ?_
  refine lv_iconst (v := (1 : Int32)) hx hb d_Mo_code_1 (by decide) ?_
  refine lv_icmp_lt (tgt := 42) hx hb d_Mo_code_2 (by decide) (fun g2 => ?_) (fun g2 => ?_)
  · have h := h.1 g2
    exact B42  M_n M_k M_b M_word M_lost H locs ls h hP hD hS (lv_sub hl [] rfl)
  · have h := h.2 g2
    refine lv_iload_n hx hb d_Mo_code_5 rfl (lv_at hl 1 rfl) ?_
    refine lv_sipush (v := (200 : Int32)) hx hb d_Mo_code_6 (by decide) ?_
    refine lv_icmp_gt (tgt := 42) hx hb d_Mo_code_9 (by decide) (fun g9 => ?_) (fun g9 => ?_)
    · have h := h.1 g9
      exact B42  M_n M_k M_b M_word M_lost H locs ls h hP hD hS (lv_sub hl [] rfl)
    · have h := h.2 g9
      refine lv_iload_n hx hb d_Mo_code_12 rfl (lv_at hl 2 rfl) ?_
      refine lv_if_lt (tgt := 42) hx hb d_Mo_code_13 (by decide) (fun g13 => ?_) (fun g13 => ?_)
      · have h := h.1 g13
        exact B42  M_n M_k M_b M_word M_lost H locs ls h hP hD hS (lv_sub hl [] rfl)
      · have h := h.2 g13
        refine lv_iload_n hx hb d_Mo_code_16 rfl (lv_at hl 2 rfl) ?_
        refine lv_bipush (v := (40 : Int32)) hx hb d_Mo_code_17 (by decide) ?_
        refine lv_icmp_gt (tgt := 42) hx hb d_Mo_code_19 (by decide) (fun g19 => ?_) (fun g19 => ?_)
        · have h := h.1 g19
          exact B42  M_n M_k M_b M_word M_lost H locs ls h hP hD hS (lv_sub hl [] rfl)
        · have h := h.2 g19
          refine lv_iload_n hx hb d_Mo_code_22 rfl (lv_at hl 1 rfl) ?_
          refine lv_iload_n hx hb d_Mo_code_23 rfl (lv_at hl 2 rfl) ?_
          refine lv_iadd hx hb d_Mo_code_24 ?_
          refine lv_sipush (v := (255 : Int32)) hx hb d_Mo_code_25 (by decide) ?_
          refine lv_icmp_gt (tgt := 42) hx hb d_Mo_code_28 (by decide) (fun g28 => ?_) (fun g28 => ?_)
          · have h := h.1 g28
            exact B42  M_n M_k M_b M_word M_lost H locs ls h hP hD hS (lv_sub hl [] rfl)
          · have h := h.2 g28
            refine lv_iload_n hx hb d_Mo_code_31 rfl (lv_at hl 3 rfl) ?_
            refine lv_if_lt (tgt := 42) hx hb d_Mo_code_32 (by decide) (fun g32 => ?_) (fun g32 => ?_)
            · have h := h.1 g32
              exact B42  M_n M_k M_b M_word M_lost H locs ls h hP hD hS (lv_sub hl [] rfl)
            · have h := h.2 g32
              refine lv_iload_n hx hb d_Mo_code_35 rfl (lv_at hl 3 rfl) ?_
              refine lv_sipush (v := (254 : Int32)) hx hb d_Mo_code_36 (by decide) ?_
              refine lv_icmp_le (tgt := 44) hx hb d_Mo_code_39 (by decide) (fun g39 => ?_) (fun g39 => ?_)
              · have h := h.1 g39
                refine lv_aload_n hx hb d_Mo_code_44 rfl (lv_at hl 0 rfl) ?_
                refine lv_iload_n hx hb d_Mo_code_45 rfl (lv_at hl 1 rfl) ?_
                refine va_put (D := (dC, dI)) (ci := 7) (v := .int p1) (ty := .int) (C := "ReedSetsModel") (T := T_Mo) (N := 38) hx hb hts in_Mo ty_Mo tk_Mo nm_Mo hown hK hP hD hS 0 rfl rfl 0 (by decide) (hts _ tb_664) (fun _ h9 => h9) rfl (by decide +kernel) rfl rfl (Nat.le_of_ble_eq_true rfl) d_Mo_code_46 (fun H locs hP hD hS => ?_)
                have hP : va_P (dC, dI) vwCl (wd_Mo_code aM aM_word aM_lost aM_generators aM_changedPlaces aM_changedBy aM_work aM_workLost aM_sums aM_rest aM_spots aM_matrix aM_answer aM_block aM_sent aM_asLaid aM_sentLost aM_told aM_shares aM_used aM_downs aM_weights cI cZ p1 M_k M_b M_changes M_workSize M_workRepairs M_workFirst M_spotCount M_blockSize M_laid M_stripes M_longest M_laidRepairs M_laidFirst M_degree M_wide M_toldCount M_word M_lost) H := hP
                have hD : va_D A (wd_Mo_code aM aM_word aM_lost aM_generators aM_changedPlaces aM_changedBy aM_work aM_workLost aM_sums aM_rest aM_spots aM_matrix aM_answer aM_block aM_sent aM_asLaid aM_sentLost aM_told aM_shares aM_used aM_downs aM_weights cI cZ p1 M_k M_b M_changes M_workSize M_workRepairs M_workFirst M_spotCount M_blockSize M_laid M_stripes M_longest M_laidRepairs M_laidFirst M_degree M_wide M_toldCount M_word M_lost) := hD
                refine lv_aload_n hx hb d_Mo_code_49 rfl (lv_at hl 0 rfl) ?_
                refine lv_iload_n hx hb d_Mo_code_50 rfl (lv_at hl 2 rfl) ?_
                refine va_put (D := (dC, dI)) (ci := 7) (v := .int p2) (ty := .int) (C := "ReedSetsModel") (T := T_Mo) (N := 38) hx hb hts in_Mo ty_Mo tk_Mo nm_Mo hown hK hP hD hS 0 rfl rfl 1 (by decide) (hts _ tb_665) (fun _ h9 => h9) rfl (by decide +kernel) rfl rfl (Nat.le_of_ble_eq_true rfl) d_Mo_code_51 (fun H locs hP hD hS => ?_)
                have hP : va_P (dC, dI) vwCl (wd_Mo_code aM aM_word aM_lost aM_generators aM_changedPlaces aM_changedBy aM_work aM_workLost aM_sums aM_rest aM_spots aM_matrix aM_answer aM_block aM_sent aM_asLaid aM_sentLost aM_told aM_shares aM_used aM_downs aM_weights cI cZ p1 p2 M_b M_changes M_workSize M_workRepairs M_workFirst M_spotCount M_blockSize M_laid M_stripes M_longest M_laidRepairs M_laidFirst M_degree M_wide M_toldCount M_word M_lost) H := hP
                have hD : va_D A (wd_Mo_code aM aM_word aM_lost aM_generators aM_changedPlaces aM_changedBy aM_work aM_workLost aM_sums aM_rest aM_spots aM_matrix aM_answer aM_block aM_sent aM_asLaid aM_sentLost aM_told aM_shares aM_used aM_downs aM_weights cI cZ p1 p2 M_b M_changes M_workSize M_workRepairs M_workFirst M_spotCount M_blockSize M_laid M_stripes M_longest M_laidRepairs M_laidFirst M_degree M_wide M_toldCount M_word M_lost) := hD
                refine lv_aload_n hx hb d_Mo_code_54 rfl (lv_at hl 0 rfl) ?_
                refine lv_iload_n hx hb d_Mo_code_55 rfl (lv_at hl 3 rfl) ?_
                refine va_put (D := (dC, dI)) (ci := 7) (v := .int p3) (ty := .int) (C := "ReedSetsModel") (T := T_Mo) (N := 38) hx hb hts in_Mo ty_Mo tk_Mo nm_Mo hown hK hP hD hS 0 rfl rfl 2 (by decide) (hts _ tb_666) (fun _ h9 => h9) rfl (by decide +kernel) rfl rfl (Nat.le_of_ble_eq_true rfl) d_Mo_code_56 (fun H locs hP hD hS => ?_)
                have hP : va_P (dC, dI) vwCl (wd_Mo_code aM aM_word aM_lost aM_generators aM_changedPlaces aM_changedBy aM_work aM_workLost aM_sums aM_rest aM_spots aM_matrix aM_answer aM_block aM_sent aM_asLaid aM_sentLost aM_told aM_shares aM_used aM_downs aM_weights cI cZ p1 p2 p3 M_changes M_workSize M_workRepairs M_workFirst M_spotCount M_blockSize M_laid M_stripes M_longest M_laidRepairs M_laidFirst M_degree M_wide M_toldCount M_word M_lost) H := hP
                have hD : va_D A (wd_Mo_code aM aM_word aM_lost aM_generators aM_changedPlaces aM_changedBy aM_work aM_workLost aM_sums aM_rest aM_spots aM_matrix aM_answer aM_block aM_sent aM_asLaid aM_sentLost aM_told aM_shares aM_used aM_downs aM_weights cI cZ p1 p2 p3 M_changes M_workSize M_workRepairs M_workFirst M_spotCount M_blockSize M_laid M_stripes M_longest M_laidRepairs M_laidFirst M_degree M_wide M_toldCount M_word M_lost) := hD
                refine lv_iconst (v := (0 : Int32)) hx hb d_Mo_code_59 (by decide) ?_
                refine lv_istore (lv' := [(4, .int (0 : Int32)), (0, .ref aM), (1, .int p1), (2, .int p2), (3, .int p3)]) hx hb d_Mo_code_60 hl (by decide) rfl (fun ls hl => ?_)
                obtain ⟨n, h⟩ := h
                exact L62  n p1 p2 p3 M_word M_lost (0 : Int32) H locs ls h hP hD hS (lv_sub hl [1, 0] rfl)
              · have h := h.2 g39
                exact B42  M_n M_k M_b M_word M_lost H locs ls h hP hD hS (lv_sub hl [] rfl)
abbrev wd_Mo_makeGenerator (aM aM_word aM_lost aM_generators aM_changedPlaces aM_changedBy aM_work aM_workLost aM_sums aM_rest aM_spots aM_matrix aM_answer aM_block aM_sent aM_asLaid aM_sentLost aM_told aM_shares aM_used aM_downs aM_weights : Nat) (cI cZ : ClassId) (M_n : Int32) (M_k : Int32) (M_b : Int32) (M_changes : Int32) (M_workSize : Int32) (M_workRepairs : Int32) (M_workFirst : Int32) (M_spotCount : Int32) (M_blockSize : Int32) (M_laid : Int32) (M_stripes : Int32) (M_longest : Int32) (M_laidRepairs : Int32) (M_laidFirst : Int32) (M_degree : Int32) (M_wide : Int32) (M_toldCount : Int32) (M_generators : Nat → Int32) : va_W := [(aM, .inr (7, [.int M_n, .int M_k, .int M_b, .ref aM_word, .ref aM_lost, .ref aM_generators, .int M_changes, .ref aM_changedPlaces, .ref aM_changedBy, .ref aM_work, .ref aM_workLost, .int M_workSize, .int M_workRepairs, .int M_workFirst, .ref aM_sums, .ref aM_rest, .ref aM_spots, .int M_spotCount, .ref aM_matrix, .ref aM_answer, .ref aM_block, .int M_blockSize, .int M_laid, .int M_stripes, .int M_longest, .int M_laidRepairs, .int M_laidFirst, .ref aM_sent, .ref aM_asLaid, .ref aM_sentLost, .int M_degree, .int M_wide, .ref aM_told, .ref aM_shares, .int M_toldCount, .ref aM_used, .ref aM_downs, .ref aM_weights])), (aM_generators, .inl (cI, 41, .inl M_generators))]
def wp_Mo_makeGenerator_b77  (post : (Nat → Int32) → Prop) (K30 : (Nat → Int32) → Int32 → Int32 → Int32 → Prop) (K48 : (Nat → Int32) → Int32 → Int32 → Int32 → Int32 → Int32 → Prop) (M_generators : Nat → Int32) (x1 : Int32) (x2 : Int32) (x3 : Int32) (x4 : Int32) (x5 : Int32) (t0 : Int32) (t1 : Int32) : Prop := vp_in x5 41 ∧ (wp_Mo_by (M_generators x5.toNatClampNeg) x4 (fun r_86 => (vp_in t1 41 ∧ (∀ x5_91 : Int32, x5_91 = (x5 + (-1 : Int32)) → (K48 (upd M_generators t1.toNatClampNeg (t0 ^^^ r_86)) x1 x2 x3 x4 x5_91)))))
def wp_Mo_makeGenerator_b48  (post : (Nat → Int32) → Prop) (K30 : (Nat → Int32) → Int32 → Int32 → Int32 → Prop) (K48 : (Nat → Int32) → Int32 → Int32 → Int32 → Int32 → Int32 → Prop) (M_generators : Nat → Int32) (x1 : Int32) (x2 : Int32) (x3 : Int32) (x4 : Int32) (x5 : Int32) : Prop := (x5 < 0 → (∀ x3_97 : Int32, x3_97 = (x3 + (1 : Int32)) → (K30 M_generators x1 x2 x3_97))) ∧ (¬ x5 < 0 → ((x5 ≤ 0 → (wp_Mo_makeGenerator_b77 post K30 K48 M_generators x1 x2 x3 x4 x5 (0 : Int32) x5)) ∧ (¬ x5 ≤ 0 → (vp_in (x5 - (1 : Int32)) 41 ∧ (wp_Mo_makeGenerator_b77 post K30 K48 M_generators x1 x2 x3 x4 x5 (M_generators (x5 - (1 : Int32)).toNatClampNeg) x5)))))
def wp_Mo_makeGenerator_L48  (post : (Nat → Int32) → Prop) (K30 : (Nat → Int32) → Int32 → Int32 → Int32 → Prop) : Nat → (Nat → Int32) → Int32 → Int32 → Int32 → Int32 → Int32 → Prop
  | 0 => fun _ _ _ _ _ _ => False
  | n + 1 => wp_Mo_makeGenerator_b48 post K30 (wp_Mo_makeGenerator_L48 post K30 n)
def wp_Mo_makeGenerator_b30  (post : (Nat → Int32) → Prop) (K30 : (Nat → Int32) → Int32 → Int32 → Int32 → Prop) (M_generators : Nat → Int32) (x1 : Int32) (x2 : Int32) (x3 : Int32) : Prop := (x1 ≤ x3 → (post M_generators)) ∧ (¬ x1 ≤ x3 → (wp_Mo_root (x2 + x3) (fun r_38 => (∀ x5_46 : Int32, x5_46 = (x3 + (1 : Int32)) → (∃ n : Nat, wp_Mo_makeGenerator_L48 post K30 n M_generators x1 x2 x3 r_38 x5_46)))))
def wp_Mo_makeGenerator_L30  (post : (Nat → Int32) → Prop)  : Nat → (Nat → Int32) → Int32 → Int32 → Int32 → Prop
  | 0 => fun _ _ _ _ => False
  | n + 1 => wp_Mo_makeGenerator_b30 post (wp_Mo_makeGenerator_L30 post n)
def wp_Mo_makeGenerator_b2  (post : (Nat → Int32) → Prop) (K2 : (Nat → Int32) → Int32 → Int32 → Int32 → Prop) (M_generators : Nat → Int32) (x1 : Int32) (x2 : Int32) (x3 : Int32) : Prop := ((40 : Int32) < x3 → (vp_in (0 : Int32) 41 ∧ (∃ n : Nat, wp_Mo_makeGenerator_L30 post  n (upd M_generators (0 : Int32).toNatClampNeg (1 : Int32)) x1 x2 (0 : Int32)))) ∧ (¬ (40 : Int32) < x3 → (vp_in x3 41 ∧ (∀ x3_15 : Int32, x3_15 = (x3 + (1 : Int32)) → (K2 (upd M_generators x3.toNatClampNeg (0 : Int32)) x1 x2 x3_15))))
def wp_Mo_makeGenerator_L2  (post : (Nat → Int32) → Prop)  : Nat → (Nat → Int32) → Int32 → Int32 → Int32 → Prop
  | 0 => fun _ _ _ _ => False
  | n + 1 => wp_Mo_makeGenerator_b2 post (wp_Mo_makeGenerator_L2 post n)
def wp_Mo_makeGenerator (M_generators : Nat → Int32) (p1 : Int32) (p2 : Int32) (post : (Nat → Int32) → Prop) : Prop := ∃ n : Nat, wp_Mo_makeGenerator_L2 post  n M_generators p1 p2 (0 : Int32)
abbrev rm_Mo_makeGenerator : Room := { frames := 3, cells := 0, slots := 0, locals := 68 }
set_option maxHeartbeats 4000000 in
set_option maxRecDepth 100000 in
theorem ct_Mo_makeGenerator (l : Launch) (dC : Nat → ClassId) (dI : Nat → Nat → Nat) (aM aM_word aM_lost aM_generators aM_changedPlaces aM_changedBy aM_work aM_workLost aM_sums aM_rest aM_spots aM_matrix aM_answer aM_block aM_sent aM_asLaid aM_sentLost aM_told aM_shares aM_used aM_downs aM_weights : Nat) (cI cZ : ClassId) (M_n : Int32) (M_k : Int32) (M_b : Int32) (M_changes : Int32) (M_workSize : Int32) (M_workRepairs : Int32) (M_workFirst : Int32) (M_spotCount : Int32) (M_blockSize : Int32) (M_laid : Int32) (M_stripes : Int32) (M_longest : Int32) (M_laidRepairs : Int32) (M_laidFirst : Int32) (M_degree : Int32) (M_wide : Int32) (M_toldCount : Int32) (M_generators : Nat → Int32) (p1 : Int32) (p2 : Int32) (post : (Nat → Int32) → Prop) (h : wp_Mo_makeGenerator M_generators p1 p2 post) (sz : Nat) : Met l y_Mo_makeGenerator (Cond.code y_Mo_makeGenerator c_Mo_makeGenerator 6 none :: tb) rm_Mo_makeGenerator (mt_P (dC, dI) vwCl [(cI, .int), (cZ, .boolean)] [.ref aM, .int p1, .int p2] (wd_Mo_makeGenerator aM aM_word aM_lost aM_generators aM_changedPlaces aM_changedBy aM_work aM_workLost aM_sums aM_rest aM_spots aM_matrix aM_answer aM_block aM_sent aM_asLaid aM_sentLost aM_told aM_shares aM_used aM_downs aM_weights cI cZ M_n M_k M_b M_changes M_workSize M_workRepairs M_workFirst M_spotCount M_blockSize M_laid M_stripes M_longest M_laidRepairs M_laidFirst M_degree M_wide M_toldCount M_generators) sz) (va_Qv (fun (u : (Nat → Int32)) => post u) (mt_B (dC, dI) vwCl [(cI, .int), (cZ, .boolean)] (wd_Mo_makeGenerator aM aM_word aM_lost aM_generators aM_changedPlaces aM_changedBy aM_work aM_workLost aM_sums aM_rest aM_spots aM_matrix aM_answer aM_block aM_sent aM_asLaid aM_sentLost aM_told aM_shares aM_used aM_downs aM_weights cI cZ M_n M_k M_b M_changes M_workSize M_workRepairs M_workFirst M_spotCount M_blockSize M_laid M_stripes M_longest M_laidRepairs M_laidFirst M_degree M_wide M_toldCount M_generators) sz (fun u : (Nat → Int32) => wd_Mo_makeGenerator aM aM_word aM_lost aM_generators aM_changedPlaces aM_changedBy aM_work aM_workLost aM_sums aM_rest aM_spots aM_matrix aM_answer aM_block aM_sent aM_asLaid aM_sentLost aM_told aM_shares aM_used aM_downs aM_weights cI cZ M_n M_k M_b M_changes M_workSize M_workRepairs M_workFirst M_spotCount M_blockSize M_laid M_stripes M_longest M_laidRepairs M_laidFirst M_degree M_wide M_toldCount u)) (va_A (wd_Mo_makeGenerator aM aM_word aM_lost aM_generators aM_changedPlaces aM_changedBy aM_work aM_workLost aM_sums aM_rest aM_spots aM_matrix aM_answer aM_block aM_sent aM_asLaid aM_sentLost aM_told aM_shares aM_used aM_downs aM_weights cI cZ M_n M_k M_b M_changes M_workSize M_workRepairs M_workFirst M_spotCount M_blockSize M_laid M_stripes M_longest M_laidRepairs M_laidFirst M_degree M_wide M_toldCount M_generators) sz)) 0 0 (va_A (wd_Mo_makeGenerator aM aM_word aM_lost aM_generators aM_changedPlaces aM_changedBy aM_work aM_workLost aM_sums aM_rest aM_spots aM_matrix aM_answer aM_block aM_sent aM_asLaid aM_sentLost aM_told aM_shares aM_used aM_downs aM_weights cI cZ M_n M_k M_b M_changes M_workSize M_workRepairs M_workFirst M_spotCount M_blockSize M_laid M_stripes M_longest M_laidRepairs M_laidFirst M_degree M_wide M_toldCount M_generators) sz) := by
  refine mt_bd (by decide +kernel) (Nat.le_of_ble_eq_true rfl) ?_
  intro p e s m args below meth c hx hb hml hown hts hr hlk hnm hsz hP hK hD hA hS ls hl
  subst hsz
  have hown : s.vm.findClass "ReedSetsModel" = some m.cls := hown
  have hl : lv_has ls 6 [(0, .ref aM), (1, .int p1), (2, .int p2)] := hl
  refine lz_Q (fun Q hQ => ?_)
  obtain ⟨A, hAe⟩ : ∃ A : Nat → Prop, A = va_A (wd_Mo_makeGenerator aM aM_word aM_lost aM_generators aM_changedPlaces aM_changedBy aM_work aM_workLost aM_sums aM_rest aM_spots aM_matrix aM_answer aM_block aM_sent aM_asLaid aM_sentLost aM_told aM_shares aM_used aM_downs aM_weights cI cZ M_n M_k M_b M_changes M_workSize M_workRepairs M_workFirst M_spotCount M_blockSize M_laid M_stripes M_longest M_laidRepairs M_laidFirst M_degree M_wide M_toldCount M_generators) s.heap.size := ⟨_, rfl⟩
  rw [← hAe] at hD hA hS
  have RET : ∀ (M_generators : Nat → Int32) (H : Heap) (locs : List Loc) (ls : Array Slot) (pc : Nat), decode c_Mo_makeGenerator pc = .ok (.return_, 1) → post M_generators → va_P (dC, dI) vwCl (wd_Mo_makeGenerator aM aM_word aM_lost aM_generators aM_changedPlaces aM_changedBy aM_work aM_workLost aM_sums aM_rest aM_spots aM_matrix aM_answer aM_block aM_sent aM_asLaid aM_sentLost aM_told aM_shares aM_used aM_downs aM_weights cI cZ M_n M_k M_b M_changes M_workSize M_workRepairs M_workFirst M_spotCount M_blockSize M_laid M_stripes M_longest M_laidRepairs M_laidFirst M_degree M_wide M_toldCount M_generators) H → va_D A (wd_Mo_makeGenerator aM aM_word aM_lost aM_generators aM_changedPlaces aM_changedBy aM_work aM_workLost aM_sums aM_rest aM_spots aM_matrix aM_answer aM_block aM_sent aM_asLaid aM_sentLost aM_told aM_shares aM_used aM_downs aM_weights cI cZ M_n M_k M_b M_changes M_workSize M_workRepairs M_workFirst M_spotCount M_blockSize M_laid M_stripes M_longest M_laidRepairs M_laidFirst M_degree M_wide M_toldCount M_generators) → va_S A s.heap H locs → W p l e rm_Mo_makeGenerator s m args below meth c H locs 0 0 Q (F0 m pc ls []) := by
    intro M_generators H locs ls pc hd hp h1 h2 h3
    rw [hQ]
    rw [hAe] at h2 h3
    exact mt_retv (M_generators) hx hb hr hlk hd hK h1 h2 h3 hp
  have B77 : ∀ (K30 : (Nat → Int32) → Int32 → Int32 → Int32 → Prop) (HK30 : ∀ (M_generators : Nat → Int32) (x1 : Int32) (x2 : Int32) (x3 : Int32) (H : Heap) (locs : List Loc) (ls : Array Slot), K30 M_generators x1 x2 x3 → va_P (dC, dI) vwCl (wd_Mo_makeGenerator aM aM_word aM_lost aM_generators aM_changedPlaces aM_changedBy aM_work aM_workLost aM_sums aM_rest aM_spots aM_matrix aM_answer aM_block aM_sent aM_asLaid aM_sentLost aM_told aM_shares aM_used aM_downs aM_weights cI cZ M_n M_k M_b M_changes M_workSize M_workRepairs M_workFirst M_spotCount M_blockSize M_laid M_stripes M_longest M_laidRepairs M_laidFirst M_degree M_wide M_toldCount M_generators) H → va_D A (wd_Mo_makeGenerator aM aM_word aM_lost aM_generators aM_changedPlaces aM_changedBy aM_work aM_workLost aM_sums aM_rest aM_spots aM_matrix aM_answer aM_block aM_sent aM_asLaid aM_sentLost aM_told aM_shares aM_used aM_downs aM_weights cI cZ M_n M_k M_b M_changes M_workSize M_workRepairs M_workFirst M_spotCount M_blockSize M_laid M_stripes M_longest M_laidRepairs M_laidFirst M_degree M_wide M_toldCount M_generators) → va_S A s.heap H locs → lv_has ls 6 [(0, .ref aM), (1, .int x1), (2, .int x2), (3, .int x3)] → W p l e rm_Mo_makeGenerator s m args below meth c H locs 0 0 Q (F0 m 30 ls [])) (K48 : (Nat → Int32) → Int32 → Int32 → Int32 → Int32 → Int32 → Prop) (HK48 : ∀ (M_generators : Nat → Int32) (x1 : Int32) (x2 : Int32) (x3 : Int32) (x4 : Int32) (x5 : Int32) (H : Heap) (locs : List Loc) (ls : Array Slot), K48 M_generators x1 x2 x3 x4 x5 → va_P (dC, dI) vwCl (wd_Mo_makeGenerator aM aM_word aM_lost aM_generators aM_changedPlaces aM_changedBy aM_work aM_workLost aM_sums aM_rest aM_spots aM_matrix aM_answer aM_block aM_sent aM_asLaid aM_sentLost aM_told aM_shares aM_used aM_downs aM_weights cI cZ M_n M_k M_b M_changes M_workSize M_workRepairs M_workFirst M_spotCount M_blockSize M_laid M_stripes M_longest M_laidRepairs M_laidFirst M_degree M_wide M_toldCount M_generators) H → va_D A (wd_Mo_makeGenerator aM aM_word aM_lost aM_generators aM_changedPlaces aM_changedBy aM_work aM_workLost aM_sums aM_rest aM_spots aM_matrix aM_answer aM_block aM_sent aM_asLaid aM_sentLost aM_told aM_shares aM_used aM_downs aM_weights cI cZ M_n M_k M_b M_changes M_workSize M_workRepairs M_workFirst M_spotCount M_blockSize M_laid M_stripes M_longest M_laidRepairs M_laidFirst M_degree M_wide M_toldCount M_generators) → va_S A s.heap H locs → lv_has ls 6 [(0, .ref aM), (1, .int x1), (2, .int x2), (3, .int x3), (4, .int x4), (5, .int x5)] → W p l e rm_Mo_makeGenerator s m args below meth c H locs 0 0 Q (F0 m 48 ls [])), ∀ (M_generators : Nat → Int32) (x1 : Int32) (x2 : Int32) (x3 : Int32) (x4 : Int32) (x5 : Int32) (t0 : Int32) (t1 : Int32) (H : Heap) (locs : List Loc) (ls : Array Slot), wp_Mo_makeGenerator_b77 post K30 K48 M_generators x1 x2 x3 x4 x5 t0 t1 → va_P (dC, dI) vwCl (wd_Mo_makeGenerator aM aM_word aM_lost aM_generators aM_changedPlaces aM_changedBy aM_work aM_workLost aM_sums aM_rest aM_spots aM_matrix aM_answer aM_block aM_sent aM_asLaid aM_sentLost aM_told aM_shares aM_used aM_downs aM_weights cI cZ M_n M_k M_b M_changes M_workSize M_workRepairs M_workFirst M_spotCount M_blockSize M_laid M_stripes M_longest M_laidRepairs M_laidFirst M_degree M_wide M_toldCount M_generators) H → va_D A (wd_Mo_makeGenerator aM aM_word aM_lost aM_generators aM_changedPlaces aM_changedBy aM_work aM_workLost aM_sums aM_rest aM_spots aM_matrix aM_answer aM_block aM_sent aM_asLaid aM_sentLost aM_told aM_shares aM_used aM_downs aM_weights cI cZ M_n M_k M_b M_changes M_workSize M_workRepairs M_workFirst M_spotCount M_blockSize M_laid M_stripes M_longest M_laidRepairs M_laidFirst M_degree M_wide M_toldCount M_generators) → va_S A s.heap H locs → lv_has ls 6 [(0, .ref aM), (1, .int x1), (2, .int x2), (3, .int x3), (4, .int x4), (5, .int x5)] → W p l e rm_Mo_makeGenerator s m args below meth c H locs 0 0 Q (F0 m 77 ls [.int t0, .int t1, .ref aM_generators]) := by
    intro K30 HK30 K48 HK48 M_generators x1 x2 x3 x4 x5 t0 t1 H locs ls h hP hD hS hl
    refine lv_aload_n hx hb d_Mo_makeGenerator_77 rfl (lv_at hl 0 rfl) ?_
    refine va_get (D := (dC, dI)) (ci := 7) (v := .ref aM_generators) (C := "ReedSetsModel") (T := T_Mo) (N := 38) hx hb hts in_Mo hown hK hP 0 rfl rfl 5 (by decide) (hts _ tb_669) (fun _ h9 => h9) rfl d_Mo_makeGenerator_78 ?_
    refine lv_iload hx hb d_Mo_makeGenerator_81 (lv_at hl 5 rfl) ?_
    obtain ⟨hi, h⟩ := h
    refine va_iald hx hb hK hP 1 0 rfl rfl hi d_Mo_makeGenerator_83 ?_
    refine lv_iload hx hb d_Mo_makeGenerator_84 (lv_at hl 4 rfl) ?_
    refine mt_i (va_runS (As := [.int (M_generators x5.toNatClampNeg), .int x4]) (rest := [.int t0, .int t1, .ref aM_generators]) ⟨hx, hb, hml, hown, hts⟩ (ct_Mo_by l dC dI  cI cZ (M_generators x5.toNatClampNeg) x4 _ h _) (tb_cS hts ok_Mo_by tb_786 rfl rfl ⟨Nat.le_of_ble_eq_true rfl, Nat.le_of_ble_eq_true rfl⟩) (mt_preS hK hP hD [.int (M_generators x5.toNatClampNeg), .int x4] [] rfl (by decide)) rfl rfl hl.1 rfl (lv_room (Nat.le_of_ble_eq_true rfl)) d_Mo_makeGenerator_86 ⟨Nat.zero_le _, Nat.zero_le _⟩) hP hD hS hA [] rfl (fun _ => rfl) (fun r_86 u H locs h hP hD hS => ?_)
    have hP : va_P (dC, dI) vwCl (wd_Mo_makeGenerator aM aM_word aM_lost aM_generators aM_changedPlaces aM_changedBy aM_work aM_workLost aM_sums aM_rest aM_spots aM_matrix aM_answer aM_block aM_sent aM_asLaid aM_sentLost aM_told aM_shares aM_used aM_downs aM_weights cI cZ M_n M_k M_b M_changes M_workSize M_workRepairs M_workFirst M_spotCount M_blockSize M_laid M_stripes M_longest M_laidRepairs M_laidFirst M_degree M_wide M_toldCount M_generators) H := hP
    have hD : va_D A (wd_Mo_makeGenerator aM aM_word aM_lost aM_generators aM_changedPlaces aM_changedBy aM_work aM_workLost aM_sums aM_rest aM_spots aM_matrix aM_answer aM_block aM_sent aM_asLaid aM_sentLost aM_told aM_shares aM_used aM_downs aM_weights cI cZ M_n M_k M_b M_changes M_workSize M_workRepairs M_workFirst M_spotCount M_blockSize M_laid M_stripes M_longest M_laidRepairs M_laidFirst M_degree M_wide M_toldCount M_generators) := hD
    refine lv_ixor hx hb d_Mo_makeGenerator_89 ?_
    obtain ⟨hi, h⟩ := h
    refine va_iast hx hb hK hP hD hS 1 0 rfl rfl hi d_Mo_makeGenerator_90 (fun H locs hP hD hS => ?_)
    have hP : va_P (dC, dI) vwCl (wd_Mo_makeGenerator aM aM_word aM_lost aM_generators aM_changedPlaces aM_changedBy aM_work aM_workLost aM_sums aM_rest aM_spots aM_matrix aM_answer aM_block aM_sent aM_asLaid aM_sentLost aM_told aM_shares aM_used aM_downs aM_weights cI cZ M_n M_k M_b M_changes M_workSize M_workRepairs M_workFirst M_spotCount M_blockSize M_laid M_stripes M_longest M_laidRepairs M_laidFirst M_degree M_wide M_toldCount (upd M_generators t1.toNatClampNeg (t0 ^^^ r_86))) H := hP
    have hD : va_D A (wd_Mo_makeGenerator aM aM_word aM_lost aM_generators aM_changedPlaces aM_changedBy aM_work aM_workLost aM_sums aM_rest aM_spots aM_matrix aM_answer aM_block aM_sent aM_asLaid aM_sentLost aM_told aM_shares aM_used aM_downs aM_weights cI cZ M_n M_k M_b M_changes M_workSize M_workRepairs M_workFirst M_spotCount M_blockSize M_laid M_stripes M_longest M_laidRepairs M_laidFirst M_degree M_wide M_toldCount (upd M_generators t1.toNatClampNeg (t0 ^^^ r_86))) := hD
    obtain ⟨x5_91, ex5_91⟩ : ∃ y : Int32, y = (x5 + (-1 : Int32)) := ⟨_, rfl⟩
    have h := h x5_91 ex5_91
    refine lv_iinc (v := x5_91) (lv' := [(5, .int x5_91), (0, .ref aM), (1, .int x1), (2, .int x2), (3, .int x3), (4, .int x4)]) hx hb d_Mo_makeGenerator_91 hl (k := 5) rfl (by rw [ex5_91]; rfl) (by decide) rfl (fun ls hl => ?_)
    refine lv_goto (tgt := 48) hx hb d_Mo_makeGenerator_94 (by decide) ?_
    exact HK48 (upd M_generators t1.toNatClampNeg (t0 ^^^ r_86)) x1 x2 x3 x4 x5_91 H locs ls h hP hD hS (lv_sub hl [1, 2, 3, 4, 5, 0] rfl)
  have B48 : ∀ (K30 : (Nat → Int32) → Int32 → Int32 → Int32 → Prop) (HK30 : ∀ (M_generators : Nat → Int32) (x1 : Int32) (x2 : Int32) (x3 : Int32) (H : Heap) (locs : List Loc) (ls : Array Slot), K30 M_generators x1 x2 x3 → va_P (dC, dI) vwCl (wd_Mo_makeGenerator aM aM_word aM_lost aM_generators aM_changedPlaces aM_changedBy aM_work aM_workLost aM_sums aM_rest aM_spots aM_matrix aM_answer aM_block aM_sent aM_asLaid aM_sentLost aM_told aM_shares aM_used aM_downs aM_weights cI cZ M_n M_k M_b M_changes M_workSize M_workRepairs M_workFirst M_spotCount M_blockSize M_laid M_stripes M_longest M_laidRepairs M_laidFirst M_degree M_wide M_toldCount M_generators) H → va_D A (wd_Mo_makeGenerator aM aM_word aM_lost aM_generators aM_changedPlaces aM_changedBy aM_work aM_workLost aM_sums aM_rest aM_spots aM_matrix aM_answer aM_block aM_sent aM_asLaid aM_sentLost aM_told aM_shares aM_used aM_downs aM_weights cI cZ M_n M_k M_b M_changes M_workSize M_workRepairs M_workFirst M_spotCount M_blockSize M_laid M_stripes M_longest M_laidRepairs M_laidFirst M_degree M_wide M_toldCount M_generators) → va_S A s.heap H locs → lv_has ls 6 [(0, .ref aM), (1, .int x1), (2, .int x2), (3, .int x3)] → W p l e rm_Mo_makeGenerator s m args below meth c H locs 0 0 Q (F0 m 30 ls [])) (K48 : (Nat → Int32) → Int32 → Int32 → Int32 → Int32 → Int32 → Prop) (HK48 : ∀ (M_generators : Nat → Int32) (x1 : Int32) (x2 : Int32) (x3 : Int32) (x4 : Int32) (x5 : Int32) (H : Heap) (locs : List Loc) (ls : Array Slot), K48 M_generators x1 x2 x3 x4 x5 → va_P (dC, dI) vwCl (wd_Mo_makeGenerator aM aM_word aM_lost aM_generators aM_changedPlaces aM_changedBy aM_work aM_workLost aM_sums aM_rest aM_spots aM_matrix aM_answer aM_block aM_sent aM_asLaid aM_sentLost aM_told aM_shares aM_used aM_downs aM_weights cI cZ M_n M_k M_b M_changes M_workSize M_workRepairs M_workFirst M_spotCount M_blockSize M_laid M_stripes M_longest M_laidRepairs M_laidFirst M_degree M_wide M_toldCount M_generators) H → va_D A (wd_Mo_makeGenerator aM aM_word aM_lost aM_generators aM_changedPlaces aM_changedBy aM_work aM_workLost aM_sums aM_rest aM_spots aM_matrix aM_answer aM_block aM_sent aM_asLaid aM_sentLost aM_told aM_shares aM_used aM_downs aM_weights cI cZ M_n M_k M_b M_changes M_workSize M_workRepairs M_workFirst M_spotCount M_blockSize M_laid M_stripes M_longest M_laidRepairs M_laidFirst M_degree M_wide M_toldCount M_generators) → va_S A s.heap H locs → lv_has ls 6 [(0, .ref aM), (1, .int x1), (2, .int x2), (3, .int x3), (4, .int x4), (5, .int x5)] → W p l e rm_Mo_makeGenerator s m args below meth c H locs 0 0 Q (F0 m 48 ls [])), ∀ (M_generators : Nat → Int32) (x1 : Int32) (x2 : Int32) (x3 : Int32) (x4 : Int32) (x5 : Int32) (H : Heap) (locs : List Loc) (ls : Array Slot), wp_Mo_makeGenerator_b48 post K30 K48 M_generators x1 x2 x3 x4 x5 → va_P (dC, dI) vwCl (wd_Mo_makeGenerator aM aM_word aM_lost aM_generators aM_changedPlaces aM_changedBy aM_work aM_workLost aM_sums aM_rest aM_spots aM_matrix aM_answer aM_block aM_sent aM_asLaid aM_sentLost aM_told aM_shares aM_used aM_downs aM_weights cI cZ M_n M_k M_b M_changes M_workSize M_workRepairs M_workFirst M_spotCount M_blockSize M_laid M_stripes M_longest M_laidRepairs M_laidFirst M_degree M_wide M_toldCount M_generators) H → va_D A (wd_Mo_makeGenerator aM aM_word aM_lost aM_generators aM_changedPlaces aM_changedBy aM_work aM_workLost aM_sums aM_rest aM_spots aM_matrix aM_answer aM_block aM_sent aM_asLaid aM_sentLost aM_told aM_shares aM_used aM_downs aM_weights cI cZ M_n M_k M_b M_changes M_workSize M_workRepairs M_workFirst M_spotCount M_blockSize M_laid M_stripes M_longest M_laidRepairs M_laidFirst M_degree M_wide M_toldCount M_generators) → va_S A s.heap H locs → lv_has ls 6 [(0, .ref aM), (1, .int x1), (2, .int x2), (3, .int x3), (4, .int x4), (5, .int x5)] → W p l e rm_Mo_makeGenerator s m args below meth c H locs 0 0 Q (F0 m 48 ls []) := by
    intro K30 HK30 K48 HK48 M_generators x1 x2 x3 x4 x5 H locs ls h hP hD hS hl
    refine lv_iload hx hb d_Mo_makeGenerator_48 (lv_at hl 5 rfl) ?_
    refine lv_if_lt (tgt := 97) hx hb d_Mo_makeGenerator_50 (by decide) (fun g50 => ?_) (fun g50 => ?_)
    · have h := h.1 g50
      obtain ⟨x3_97, ex3_97⟩ : ∃ y : Int32, y = (x3 + (1 : Int32)) := ⟨_, rfl⟩
      have h := h x3_97 ex3_97
      refine lv_iinc (v := x3_97) (lv' := [(3, .int x3_97), (0, .ref aM), (1, .int x1), (2, .int x2), (4, .int x4), (5, .int x5)]) hx hb d_Mo_makeGenerator_97 hl (k := 3) rfl (by rw [ex3_97]; rfl) (by decide) rfl (fun ls hl => ?_)
      refine lv_goto (tgt := 30) hx hb d_Mo_makeGenerator_100 (by decide) ?_
      exact HK30 M_generators x1 x2 x3_97 H locs ls h hP hD hS (lv_sub hl [1, 2, 3, 0] rfl)
    · have h := h.2 g50
      refine lv_aload_n hx hb d_Mo_makeGenerator_53 rfl (lv_at hl 0 rfl) ?_
      refine va_get (D := (dC, dI)) (ci := 7) (v := .ref aM_generators) (C := "ReedSetsModel") (T := T_Mo) (N := 38) hx hb hts in_Mo hown hK hP 0 rfl rfl 5 (by decide) (hts _ tb_669) (fun _ h9 => h9) rfl d_Mo_makeGenerator_54 ?_
      refine lv_iload hx hb d_Mo_makeGenerator_57 (lv_at hl 5 rfl) ?_
      refine lv_iload hx hb d_Mo_makeGenerator_59 (lv_at hl 5 rfl) ?_
      refine lv_if_le (tgt := 76) hx hb d_Mo_makeGenerator_61 (by decide) (fun g61 => ?_) (fun g61 => ?_)
      · have h := h.1 g61
        refine lv_iconst (v := (0 : Int32)) hx hb d_Mo_makeGenerator_76 (by decide) ?_
        exact B77 K30 HK30 K48 HK48 M_generators x1 x2 x3 x4 x5 (0 : Int32) x5 H locs ls h hP hD hS (lv_sub hl [0, 1, 2, 3, 4, 5] rfl)
      · have h := h.2 g61
        refine lv_aload_n hx hb d_Mo_makeGenerator_64 rfl (lv_at hl 0 rfl) ?_
        refine va_get (D := (dC, dI)) (ci := 7) (v := .ref aM_generators) (C := "ReedSetsModel") (T := T_Mo) (N := 38) hx hb hts in_Mo hown hK hP 0 rfl rfl 5 (by decide) (hts _ tb_669) (fun _ h9 => h9) rfl d_Mo_makeGenerator_65 ?_
        refine lv_iload hx hb d_Mo_makeGenerator_68 (lv_at hl 5 rfl) ?_
        refine lv_iconst (v := (1 : Int32)) hx hb d_Mo_makeGenerator_70 (by decide) ?_
        refine lv_isub hx hb d_Mo_makeGenerator_71 ?_
        obtain ⟨hi, h⟩ := h
        refine va_iald hx hb hK hP 1 0 rfl rfl hi d_Mo_makeGenerator_72 ?_
        refine lv_goto (tgt := 77) hx hb d_Mo_makeGenerator_73 (by decide) ?_
        exact B77 K30 HK30 K48 HK48 M_generators x1 x2 x3 x4 x5 (M_generators (x5 - (1 : Int32)).toNatClampNeg) x5 H locs ls h hP hD hS (lv_sub hl [0, 1, 2, 3, 4, 5] rfl)
  have L48 : ∀ (K30 : (Nat → Int32) → Int32 → Int32 → Int32 → Prop) (HK30 : ∀ (M_generators : Nat → Int32) (x1 : Int32) (x2 : Int32) (x3 : Int32) (H : Heap) (locs : List Loc) (ls : Array Slot), K30 M_generators x1 x2 x3 → va_P (dC, dI) vwCl (wd_Mo_makeGenerator aM aM_word aM_lost aM_generators aM_changedPlaces aM_changedBy aM_work aM_workLost aM_sums aM_rest aM_spots aM_matrix aM_answer aM_block aM_sent aM_asLaid aM_sentLost aM_told aM_shares aM_used aM_downs aM_weights cI cZ M_n M_k M_b M_changes M_workSize M_workRepairs M_workFirst M_spotCount M_blockSize M_laid M_stripes M_longest M_laidRepairs M_laidFirst M_degree M_wide M_toldCount M_generators) H → va_D A (wd_Mo_makeGenerator aM aM_word aM_lost aM_generators aM_changedPlaces aM_changedBy aM_work aM_workLost aM_sums aM_rest aM_spots aM_matrix aM_answer aM_block aM_sent aM_asLaid aM_sentLost aM_told aM_shares aM_used aM_downs aM_weights cI cZ M_n M_k M_b M_changes M_workSize M_workRepairs M_workFirst M_spotCount M_blockSize M_laid M_stripes M_longest M_laidRepairs M_laidFirst M_degree M_wide M_toldCount M_generators) → va_S A s.heap H locs → lv_has ls 6 [(0, .ref aM), (1, .int x1), (2, .int x2), (3, .int x3)] → W p l e rm_Mo_makeGenerator s m args below meth c H locs 0 0 Q (F0 m 30 ls [])) (n : Nat), ∀ (M_generators : Nat → Int32) (x1 : Int32) (x2 : Int32) (x3 : Int32) (x4 : Int32) (x5 : Int32) (H : Heap) (locs : List Loc) (ls : Array Slot), wp_Mo_makeGenerator_L48 post K30 n M_generators x1 x2 x3 x4 x5 → va_P (dC, dI) vwCl (wd_Mo_makeGenerator aM aM_word aM_lost aM_generators aM_changedPlaces aM_changedBy aM_work aM_workLost aM_sums aM_rest aM_spots aM_matrix aM_answer aM_block aM_sent aM_asLaid aM_sentLost aM_told aM_shares aM_used aM_downs aM_weights cI cZ M_n M_k M_b M_changes M_workSize M_workRepairs M_workFirst M_spotCount M_blockSize M_laid M_stripes M_longest M_laidRepairs M_laidFirst M_degree M_wide M_toldCount M_generators) H → va_D A (wd_Mo_makeGenerator aM aM_word aM_lost aM_generators aM_changedPlaces aM_changedBy aM_work aM_workLost aM_sums aM_rest aM_spots aM_matrix aM_answer aM_block aM_sent aM_asLaid aM_sentLost aM_told aM_shares aM_used aM_downs aM_weights cI cZ M_n M_k M_b M_changes M_workSize M_workRepairs M_workFirst M_spotCount M_blockSize M_laid M_stripes M_longest M_laidRepairs M_laidFirst M_degree M_wide M_toldCount M_generators) → va_S A s.heap H locs → lv_has ls 6 [(0, .ref aM), (1, .int x1), (2, .int x2), (3, .int x3), (4, .int x4), (5, .int x5)] → W p l e rm_Mo_makeGenerator s m args below meth c H locs 0 0 Q (F0 m 48 ls []) := by
    intro K30 HK30 n
    induction n with
    | zero => intro M_generators x1 x2 x3 x4 x5 H locs ls h hP hD hS hl; exact False.elim h
    | succ n ih => intro M_generators x1 x2 x3 x4 x5 H locs ls h hP hD hS hl; exact B48 K30 HK30 (wp_Mo_makeGenerator_L48 post K30 n) ih M_generators x1 x2 x3 x4 x5 H locs ls h hP hD hS hl
  have B30 : ∀ (K30 : (Nat → Int32) → Int32 → Int32 → Int32 → Prop) (HK30 : ∀ (M_generators : Nat → Int32) (x1 : Int32) (x2 : Int32) (x3 : Int32) (H : Heap) (locs : List Loc) (ls : Array Slot), K30 M_generators x1 x2 x3 → va_P (dC, dI) vwCl (wd_Mo_makeGenerator aM aM_word aM_lost aM_generators aM_changedPlaces aM_changedBy aM_work aM_workLost aM_sums aM_rest aM_spots aM_matrix aM_answer aM_block aM_sent aM_asLaid aM_sentLost aM_told aM_shares aM_used aM_downs aM_weights cI cZ M_n M_k M_b M_changes M_workSize M_workRepairs M_workFirst M_spotCount M_blockSize M_laid M_stripes M_longest M_laidRepairs M_laidFirst M_degree M_wide M_toldCount M_generators) H → va_D A (wd_Mo_makeGenerator aM aM_word aM_lost aM_generators aM_changedPlaces aM_changedBy aM_work aM_workLost aM_sums aM_rest aM_spots aM_matrix aM_answer aM_block aM_sent aM_asLaid aM_sentLost aM_told aM_shares aM_used aM_downs aM_weights cI cZ M_n M_k M_b M_changes M_workSize M_workRepairs M_workFirst M_spotCount M_blockSize M_laid M_stripes M_longest M_laidRepairs M_laidFirst M_degree M_wide M_toldCount M_generators) → va_S A s.heap H locs → lv_has ls 6 [(0, .ref aM), (1, .int x1), (2, .int x2), (3, .int x3)] → W p l e rm_Mo_makeGenerator s m args below meth c H locs 0 0 Q (F0 m 30 ls [])), ∀ (M_generators : Nat → Int32) (x1 : Int32) (x2 : Int32) (x3 : Int32) (H : Heap) (locs : List Loc) (ls : Array Slot), wp_Mo_makeGenerator_b30 post K30 M_generators x1 x2 x3 → va_P (dC, dI) vwCl (wd_Mo_makeGenerator aM aM_word aM_lost aM_generators aM_changedPlaces aM_changedBy aM_work aM_workLost aM_sums aM_rest aM_spots aM_matrix aM_answer aM_block aM_sent aM_asLaid aM_sentLost aM_told aM_shares aM_used aM_downs aM_weights cI cZ M_n M_k M_b M_changes M_workSize M_workRepairs M_workFirst M_spotCount M_blockSize M_laid M_stripes M_longest M_laidRepairs M_laidFirst M_degree M_wide M_toldCount M_generators) H → va_D A (wd_Mo_makeGenerator aM aM_word aM_lost aM_generators aM_changedPlaces aM_changedBy aM_work aM_workLost aM_sums aM_rest aM_spots aM_matrix aM_answer aM_block aM_sent aM_asLaid aM_sentLost aM_told aM_shares aM_used aM_downs aM_weights cI cZ M_n M_k M_b M_changes M_workSize M_workRepairs M_workFirst M_spotCount M_blockSize M_laid M_stripes M_longest M_laidRepairs M_laidFirst M_degree M_wide M_toldCount M_generators) → va_S A s.heap H locs → lv_has ls 6 [(0, .ref aM), (1, .int x1), (2, .int x2), (3, .int x3)] → W p l e rm_Mo_makeGenerator s m args below meth c H locs 0 0 Q (F0 m 30 ls []) := by
    intro K30 HK30 M_generators x1 x2 x3 H locs ls h hP hD hS hl
    refine lv_iload_n hx hb d_Mo_makeGenerator_30 rfl (lv_at hl 3 rfl) ?_
    refine lv_iload_n hx hb d_Mo_makeGenerator_31 rfl (lv_at hl 1 rfl) ?_
    refine lv_icmp_ge (tgt := 103) hx hb d_Mo_makeGenerator_32 (by decide) (fun g32 => ?_) (fun g32 => ?_)
    · have h := h.1 g32
      exact RET M_generators H locs ls 103 d_Mo_makeGenerator_103 h hP hD hS
    · have h := h.2 g32
      refine lv_iload_n hx hb d_Mo_makeGenerator_35 rfl (lv_at hl 2 rfl) ?_
      refine lv_iload_n hx hb d_Mo_makeGenerator_36 rfl (lv_at hl 3 rfl) ?_
      refine lv_iadd hx hb d_Mo_makeGenerator_37 ?_
      refine mt_i (va_runS (As := [.int (x2 + x3)]) (rest := []) ⟨hx, hb, hml, hown, hts⟩ (ct_Mo_root l dC dI  cI cZ (x2 + x3) _ h _) (tb_cS hts ok_Mo_root tb_819 rfl rfl ⟨Nat.le_of_ble_eq_true rfl, Nat.le_of_ble_eq_true rfl⟩) (mt_preS hK hP hD [.int (x2 + x3)] [] rfl (by decide)) rfl rfl hl.1 rfl (lv_room (Nat.le_of_ble_eq_true rfl)) d_Mo_makeGenerator_38 ⟨Nat.zero_le _, Nat.zero_le _⟩) hP hD hS hA [] rfl (fun _ => rfl) (fun r_38 u H locs h hP hD hS => ?_)
      have hP : va_P (dC, dI) vwCl (wd_Mo_makeGenerator aM aM_word aM_lost aM_generators aM_changedPlaces aM_changedBy aM_work aM_workLost aM_sums aM_rest aM_spots aM_matrix aM_answer aM_block aM_sent aM_asLaid aM_sentLost aM_told aM_shares aM_used aM_downs aM_weights cI cZ M_n M_k M_b M_changes M_workSize M_workRepairs M_workFirst M_spotCount M_blockSize M_laid M_stripes M_longest M_laidRepairs M_laidFirst M_degree M_wide M_toldCount M_generators) H := hP
      have hD : va_D A (wd_Mo_makeGenerator aM aM_word aM_lost aM_generators aM_changedPlaces aM_changedBy aM_work aM_workLost aM_sums aM_rest aM_spots aM_matrix aM_answer aM_block aM_sent aM_asLaid aM_sentLost aM_told aM_shares aM_used aM_downs aM_weights cI cZ M_n M_k M_b M_changes M_workSize M_workRepairs M_workFirst M_spotCount M_blockSize M_laid M_stripes M_longest M_laidRepairs M_laidFirst M_degree M_wide M_toldCount M_generators) := hD
      refine lv_istore (lv' := [(4, .int r_38), (0, .ref aM), (1, .int x1), (2, .int x2), (3, .int x3)]) hx hb d_Mo_makeGenerator_41 hl (by decide) rfl (fun ls hl => ?_)
      refine lv_iload_n hx hb d_Mo_makeGenerator_43 rfl (lv_at hl 4 rfl) ?_
      refine lv_iconst (v := (1 : Int32)) hx hb d_Mo_makeGenerator_44 (by decide) ?_
      refine lv_iadd hx hb d_Mo_makeGenerator_45 ?_
      refine lv_topi (fun x5_46 ex5_46 => ?_)
      have h := h x5_46 ex5_46
      refine lv_istore (lv' := [(5, .int x5_46), (4, .int r_38), (0, .ref aM), (1, .int x1), (2, .int x2), (3, .int x3)]) hx hb d_Mo_makeGenerator_46 hl (by decide) rfl (fun ls hl => ?_)
      obtain ⟨n, h⟩ := h
      exact L48 K30 HK30 n M_generators x1 x2 x3 r_38 x5_46 H locs ls h hP hD hS (lv_sub hl [2, 3, 4, 5, 1, 0] rfl)
  have L30 : ∀  (n : Nat), ∀ (M_generators : Nat → Int32) (x1 : Int32) (x2 : Int32) (x3 : Int32) (H : Heap) (locs : List Loc) (ls : Array Slot), wp_Mo_makeGenerator_L30 post  n M_generators x1 x2 x3 → va_P (dC, dI) vwCl (wd_Mo_makeGenerator aM aM_word aM_lost aM_generators aM_changedPlaces aM_changedBy aM_work aM_workLost aM_sums aM_rest aM_spots aM_matrix aM_answer aM_block aM_sent aM_asLaid aM_sentLost aM_told aM_shares aM_used aM_downs aM_weights cI cZ M_n M_k M_b M_changes M_workSize M_workRepairs M_workFirst M_spotCount M_blockSize M_laid M_stripes M_longest M_laidRepairs M_laidFirst M_degree M_wide M_toldCount M_generators) H → va_D A (wd_Mo_makeGenerator aM aM_word aM_lost aM_generators aM_changedPlaces aM_changedBy aM_work aM_workLost aM_sums aM_rest aM_spots aM_matrix aM_answer aM_block aM_sent aM_asLaid aM_sentLost aM_told aM_shares aM_used aM_downs aM_weights cI cZ M_n M_k M_b M_changes M_workSize M_workRepairs M_workFirst M_spotCount M_blockSize M_laid M_stripes M_longest M_laidRepairs M_laidFirst M_degree M_wide M_toldCount M_generators) → va_S A s.heap H locs → lv_has ls 6 [(0, .ref aM), (1, .int x1), (2, .int x2), (3, .int x3)] → W p l e rm_Mo_makeGenerator s m args below meth c H locs 0 0 Q (F0 m 30 ls []) := by
    intro  n
    induction n with
    | zero => intro M_generators x1 x2 x3 H locs ls h hP hD hS hl; exact False.elim h
    | succ n ih => intro M_generators x1 x2 x3 H locs ls h hP hD hS hl; exact B30  (wp_Mo_makeGenerator_L30 post  n) ih M_generators x1 x2 x3 H locs ls h hP hD hS hl
  have B2 : ∀ (K2 : (Nat → Int32) → Int32 → Int32 → Int32 → Prop) (HK2 : ∀ (M_generators : Nat → Int32) (x1 : Int32) (x2 : Int32) (x3 : Int32) (H : Heap) (locs : List Loc) (ls : Array Slot), K2 M_generators x1 x2 x3 → va_P (dC, dI) vwCl (wd_Mo_makeGenerator aM aM_word aM_lost aM_generators aM_changedPlaces aM_changedBy aM_work aM_workLost aM_sums aM_rest aM_spots aM_matrix aM_answer aM_block aM_sent aM_asLaid aM_sentLost aM_told aM_shares aM_used aM_downs aM_weights cI cZ M_n M_k M_b M_changes M_workSize M_workRepairs M_workFirst M_spotCount M_blockSize M_laid M_stripes M_longest M_laidRepairs M_laidFirst M_degree M_wide M_toldCount M_generators) H → va_D A (wd_Mo_makeGenerator aM aM_word aM_lost aM_generators aM_changedPlaces aM_changedBy aM_work aM_workLost aM_sums aM_rest aM_spots aM_matrix aM_answer aM_block aM_sent aM_asLaid aM_sentLost aM_told aM_shares aM_used aM_downs aM_weights cI cZ M_n M_k M_b M_changes M_workSize M_workRepairs M_workFirst M_spotCount M_blockSize M_laid M_stripes M_longest M_laidRepairs M_laidFirst M_degree M_wide M_toldCount M_generators) → va_S A s.heap H locs → lv_has ls 6 [(0, .ref aM), (1, .int x1), (2, .int x2), (3, .int x3)] → W p l e rm_Mo_makeGenerator s m args below meth c H locs 0 0 Q (F0 m 2 ls [])), ∀ (M_generators : Nat → Int32) (x1 : Int32) (x2 : Int32) (x3 : Int32) (H : Heap) (locs : List Loc) (ls : Array Slot), wp_Mo_makeGenerator_b2 post K2 M_generators x1 x2 x3 → va_P (dC, dI) vwCl (wd_Mo_makeGenerator aM aM_word aM_lost aM_generators aM_changedPlaces aM_changedBy aM_work aM_workLost aM_sums aM_rest aM_spots aM_matrix aM_answer aM_block aM_sent aM_asLaid aM_sentLost aM_told aM_shares aM_used aM_downs aM_weights cI cZ M_n M_k M_b M_changes M_workSize M_workRepairs M_workFirst M_spotCount M_blockSize M_laid M_stripes M_longest M_laidRepairs M_laidFirst M_degree M_wide M_toldCount M_generators) H → va_D A (wd_Mo_makeGenerator aM aM_word aM_lost aM_generators aM_changedPlaces aM_changedBy aM_work aM_workLost aM_sums aM_rest aM_spots aM_matrix aM_answer aM_block aM_sent aM_asLaid aM_sentLost aM_told aM_shares aM_used aM_downs aM_weights cI cZ M_n M_k M_b M_changes M_workSize M_workRepairs M_workFirst M_spotCount M_blockSize M_laid M_stripes M_longest M_laidRepairs M_laidFirst M_degree M_wide M_toldCount M_generators) → va_S A s.heap H locs → lv_has ls 6 [(0, .ref aM), (1, .int x1), (2, .int x2), (3, .int x3)] → W p l e rm_Mo_makeGenerator s m args below meth c H locs 0 0 Q (F0 m 2 ls []) := by
    intro K2 HK2 M_generators x1 x2 x3 H locs ls h hP hD hS hl
    refine lv_iload_n hx hb d_Mo_makeGenerator_2 rfl (lv_at hl 3 rfl) ?_
    refine lv_bipush (v := (40 : Int32)) hx hb d_Mo_makeGenerator_3 (by decide) ?_
    refine lv_icmp_gt (tgt := 21) hx hb d_Mo_makeGenerator_5 (by decide) (fun g5 => ?_) (fun g5 => ?_)
    · have h := h.1 g5
      refine lv_aload_n hx hb d_Mo_makeGenerator_21 rfl (lv_at hl 0 rfl) ?_
      refine va_get (D := (dC, dI)) (ci := 7) (v := .ref aM_generators) (C := "ReedSetsModel") (T := T_Mo) (N := 38) hx hb hts in_Mo hown hK hP 0 rfl rfl 5 (by decide) (hts _ tb_669) (fun _ h9 => h9) rfl d_Mo_makeGenerator_22 ?_
      refine lv_iconst (v := (0 : Int32)) hx hb d_Mo_makeGenerator_25 (by decide) ?_
      refine lv_iconst (v := (1 : Int32)) hx hb d_Mo_makeGenerator_26 (by decide) ?_
      obtain ⟨hi, h⟩ := h
      refine va_iast hx hb hK hP hD hS 1 0 rfl rfl hi d_Mo_makeGenerator_27 (fun H locs hP hD hS => ?_)
      have hP : va_P (dC, dI) vwCl (wd_Mo_makeGenerator aM aM_word aM_lost aM_generators aM_changedPlaces aM_changedBy aM_work aM_workLost aM_sums aM_rest aM_spots aM_matrix aM_answer aM_block aM_sent aM_asLaid aM_sentLost aM_told aM_shares aM_used aM_downs aM_weights cI cZ M_n M_k M_b M_changes M_workSize M_workRepairs M_workFirst M_spotCount M_blockSize M_laid M_stripes M_longest M_laidRepairs M_laidFirst M_degree M_wide M_toldCount (upd M_generators (0 : Int32).toNatClampNeg (1 : Int32))) H := hP
      have hD : va_D A (wd_Mo_makeGenerator aM aM_word aM_lost aM_generators aM_changedPlaces aM_changedBy aM_work aM_workLost aM_sums aM_rest aM_spots aM_matrix aM_answer aM_block aM_sent aM_asLaid aM_sentLost aM_told aM_shares aM_used aM_downs aM_weights cI cZ M_n M_k M_b M_changes M_workSize M_workRepairs M_workFirst M_spotCount M_blockSize M_laid M_stripes M_longest M_laidRepairs M_laidFirst M_degree M_wide M_toldCount (upd M_generators (0 : Int32).toNatClampNeg (1 : Int32))) := hD
      refine lv_iconst (v := (0 : Int32)) hx hb d_Mo_makeGenerator_28 (by decide) ?_
      refine lv_istore_n (lv' := [(3, .int (0 : Int32)), (0, .ref aM), (1, .int x1), (2, .int x2)]) hx hb d_Mo_makeGenerator_29 rfl hl (by decide) rfl (fun ls hl => ?_)
      obtain ⟨n, h⟩ := h
      exact L30  n (upd M_generators (0 : Int32).toNatClampNeg (1 : Int32)) x1 x2 (0 : Int32) H locs ls h hP hD hS (lv_sub hl [1, 2, 3, 0] rfl)
    · have h := h.2 g5
      refine lv_aload_n hx hb d_Mo_makeGenerator_8 rfl (lv_at hl 0 rfl) ?_
      refine va_get (D := (dC, dI)) (ci := 7) (v := .ref aM_generators) (C := "ReedSetsModel") (T := T_Mo) (N := 38) hx hb hts in_Mo hown hK hP 0 rfl rfl 5 (by decide) (hts _ tb_669) (fun _ h9 => h9) rfl d_Mo_makeGenerator_9 ?_
      refine lv_iload_n hx hb d_Mo_makeGenerator_12 rfl (lv_at hl 3 rfl) ?_
      refine lv_iconst (v := (0 : Int32)) hx hb d_Mo_makeGenerator_13 (by decide) ?_
      obtain ⟨hi, h⟩ := h
      refine va_iast hx hb hK hP hD hS 1 0 rfl rfl hi d_Mo_makeGenerator_14 (fun H locs hP hD hS => ?_)
      have hP : va_P (dC, dI) vwCl (wd_Mo_makeGenerator aM aM_word aM_lost aM_generators aM_changedPlaces aM_changedBy aM_work aM_workLost aM_sums aM_rest aM_spots aM_matrix aM_answer aM_block aM_sent aM_asLaid aM_sentLost aM_told aM_shares aM_used aM_downs aM_weights cI cZ M_n M_k M_b M_changes M_workSize M_workRepairs M_workFirst M_spotCount M_blockSize M_laid M_stripes M_longest M_laidRepairs M_laidFirst M_degree M_wide M_toldCount (upd M_generators x3.toNatClampNeg (0 : Int32))) H := hP
      have hD : va_D A (wd_Mo_makeGenerator aM aM_word aM_lost aM_generators aM_changedPlaces aM_changedBy aM_work aM_workLost aM_sums aM_rest aM_spots aM_matrix aM_answer aM_block aM_sent aM_asLaid aM_sentLost aM_told aM_shares aM_used aM_downs aM_weights cI cZ M_n M_k M_b M_changes M_workSize M_workRepairs M_workFirst M_spotCount M_blockSize M_laid M_stripes M_longest M_laidRepairs M_laidFirst M_degree M_wide M_toldCount (upd M_generators x3.toNatClampNeg (0 : Int32))) := hD
      obtain ⟨x3_15, ex3_15⟩ : ∃ y : Int32, y = (x3 + (1 : Int32)) := ⟨_, rfl⟩
      have h := h x3_15 ex3_15
      refine lv_iinc (v := x3_15) (lv' := [(3, .int x3_15), (0, .ref aM), (1, .int x1), (2, .int x2)]) hx hb d_Mo_makeGenerator_15 hl (k := 3) rfl (by rw [ex3_15]; rfl) (by decide) rfl (fun ls hl => ?_)
      refine lv_goto (tgt := 2) hx hb d_Mo_makeGenerator_18 (by decide) ?_
      exact HK2 (upd M_generators x3.toNatClampNeg (0 : Int32)) x1 x2 x3_15 H locs ls h hP hD hS (lv_sub hl [1, 2, 3, 0] rfl)
  have L2 : ∀  (n : Nat), ∀ (M_generators : Nat → Int32) (x1 : Int32) (x2 : Int32) (x3 : Int32) (H : Heap) (locs : List Loc) (ls : Array Slot), wp_Mo_makeGenerator_L2 post  n M_generators x1 x2 x3 → va_P (dC, dI) vwCl (wd_Mo_makeGenerator aM aM_word aM_lost aM_generators aM_changedPlaces aM_changedBy aM_work aM_workLost aM_sums aM_rest aM_spots aM_matrix aM_answer aM_block aM_sent aM_asLaid aM_sentLost aM_told aM_shares aM_used aM_downs aM_weights cI cZ M_n M_k M_b M_changes M_workSize M_workRepairs M_workFirst M_spotCount M_blockSize M_laid M_stripes M_longest M_laidRepairs M_laidFirst M_degree M_wide M_toldCount M_generators) H → va_D A (wd_Mo_makeGenerator aM aM_word aM_lost aM_generators aM_changedPlaces aM_changedBy aM_work aM_workLost aM_sums aM_rest aM_spots aM_matrix aM_answer aM_block aM_sent aM_asLaid aM_sentLost aM_told aM_shares aM_used aM_downs aM_weights cI cZ M_n M_k M_b M_changes M_workSize M_workRepairs M_workFirst M_spotCount M_blockSize M_laid M_stripes M_longest M_laidRepairs M_laidFirst M_degree M_wide M_toldCount M_generators) → va_S A s.heap H locs → lv_has ls 6 [(0, .ref aM), (1, .int x1), (2, .int x2), (3, .int x3)] → W p l e rm_Mo_makeGenerator s m args below meth c H locs 0 0 Q (F0 m 2 ls []) := by
    intro  n
    induction n with
    | zero => intro M_generators x1 x2 x3 H locs ls h hP hD hS hl; exact False.elim h
    | succ n ih => intro M_generators x1 x2 x3 H locs ls h hP hD hS hl; exact B2  (wp_Mo_makeGenerator_L2 post  n) ih M_generators x1 x2 x3 H locs ls h hP hD hS hl
  obtain ⟨H, hH⟩ : ∃ H : Heap, H = s.heap := ⟨_, rfl⟩
  obtain ⟨locs, hlo⟩ : ∃ x : List Loc, x = [] := ⟨_, rfl⟩
  have hS : va_S A s.heap H locs := by rw [hH, hlo]; exact hS
  rw [← hH] at hP
  rw [← hlo]
  show W p l e rm_Mo_makeGenerator s m args below meth c s.heap locs 0 0 Q (F0 m 0 ls [])
  rw [← hH]
  refine lv_iconst (v := (0 : Int32)) hx hb d_Mo_makeGenerator_0 (by decide) ?_
  refine lv_istore_n (lv' := [(3, .int (0 : Int32)), (0, .ref aM), (1, .int p1), (2, .int p2)]) hx hb d_Mo_makeGenerator_1 rfl hl (by decide) rfl (fun ls hl => ?_)
  obtain ⟨n, h⟩ := h
  exact L2  n M_generators p1 p2 (0 : Int32) H locs ls h hP hD hS (lv_sub hl [1, 2, 3, 0] rfl)
abbrev wd_Mo_generator (aM aM_word aM_lost aM_generators aM_changedPlaces aM_changedBy aM_work aM_workLost aM_sums aM_rest aM_spots aM_matrix aM_answer aM_block aM_sent aM_asLaid aM_sentLost aM_told aM_shares aM_used aM_downs aM_weights : Nat) (cI cZ : ClassId) (M_n : Int32) (M_k : Int32) (M_b : Int32) (M_changes : Int32) (M_workSize : Int32) (M_workRepairs : Int32) (M_workFirst : Int32) (M_spotCount : Int32) (M_blockSize : Int32) (M_laid : Int32) (M_stripes : Int32) (M_longest : Int32) (M_laidRepairs : Int32) (M_laidFirst : Int32) (M_degree : Int32) (M_wide : Int32) (M_toldCount : Int32) (M_generators : Nat → Int32) : va_W := [(aM, .inr (7, [.int M_n, .int M_k, .int M_b, .ref aM_word, .ref aM_lost, .ref aM_generators, .int M_changes, .ref aM_changedPlaces, .ref aM_changedBy, .ref aM_work, .ref aM_workLost, .int M_workSize, .int M_workRepairs, .int M_workFirst, .ref aM_sums, .ref aM_rest, .ref aM_spots, .int M_spotCount, .ref aM_matrix, .ref aM_answer, .ref aM_block, .int M_blockSize, .int M_laid, .int M_stripes, .int M_longest, .int M_laidRepairs, .int M_laidFirst, .ref aM_sent, .ref aM_asLaid, .ref aM_sentLost, .int M_degree, .int M_wide, .ref aM_told, .ref aM_shares, .int M_toldCount, .ref aM_used, .ref aM_downs, .ref aM_weights])), (aM_generators, .inl (cI, 41, .inl M_generators))]
def wp_Mo_generator_b12 (M_k : Int32) (M_b : Int32) (post : Int32 → (Nat → Int32) → Prop)  (M_generators : Nat → Int32) : Prop := post (-1 : Int32) M_generators
def wp_Mo_generator (M_k : Int32) (M_b : Int32) (M_generators : Nat → Int32) (p1 : Int32) (post : Int32 → (Nat → Int32) → Prop) : Prop := (p1 < 0 → (wp_Mo_generator_b12 M_k M_b post  M_generators)) ∧ (¬ p1 < 0 → ((p1 ≤ M_k → (wp_Mo_makeGenerator M_generators M_k M_b (fun M_generators_23 => (vp_in p1 41 ∧ (post (M_generators_23 p1.toNatClampNeg) M_generators_23))))) ∧ (¬ p1 ≤ M_k → (wp_Mo_generator_b12 M_k M_b post  M_generators))))
abbrev rm_Mo_generator : Room := { frames := 4, cells := 0, slots := 0, locals := 93 }
set_option maxHeartbeats 4000000 in
set_option maxRecDepth 100000 in
theorem ct_Mo_generator (l : Launch) (dC : Nat → ClassId) (dI : Nat → Nat → Nat) (aM aM_word aM_lost aM_generators aM_changedPlaces aM_changedBy aM_work aM_workLost aM_sums aM_rest aM_spots aM_matrix aM_answer aM_block aM_sent aM_asLaid aM_sentLost aM_told aM_shares aM_used aM_downs aM_weights : Nat) (cI cZ : ClassId) (M_n : Int32) (M_k : Int32) (M_b : Int32) (M_changes : Int32) (M_workSize : Int32) (M_workRepairs : Int32) (M_workFirst : Int32) (M_spotCount : Int32) (M_blockSize : Int32) (M_laid : Int32) (M_stripes : Int32) (M_longest : Int32) (M_laidRepairs : Int32) (M_laidFirst : Int32) (M_degree : Int32) (M_wide : Int32) (M_toldCount : Int32) (M_generators : Nat → Int32) (p1 : Int32) (post : Int32 → (Nat → Int32) → Prop) (h : wp_Mo_generator M_k M_b M_generators p1 post) (sz : Nat) : Met l y_Mo_generator (Cond.code y_Mo_generator c_Mo_generator 2 (some .int) :: tb) rm_Mo_generator (mt_P (dC, dI) vwCl [(cI, .int), (cZ, .boolean)] [.ref aM, .int p1] (wd_Mo_generator aM aM_word aM_lost aM_generators aM_changedPlaces aM_changedBy aM_work aM_workLost aM_sums aM_rest aM_spots aM_matrix aM_answer aM_block aM_sent aM_asLaid aM_sentLost aM_told aM_shares aM_used aM_downs aM_weights cI cZ M_n M_k M_b M_changes M_workSize M_workRepairs M_workFirst M_spotCount M_blockSize M_laid M_stripes M_longest M_laidRepairs M_laidFirst M_degree M_wide M_toldCount M_generators) sz) (va_Qi (fun (r : Int32) (u : (Nat → Int32)) => post r u) (mt_B (dC, dI) vwCl [(cI, .int), (cZ, .boolean)] (wd_Mo_generator aM aM_word aM_lost aM_generators aM_changedPlaces aM_changedBy aM_work aM_workLost aM_sums aM_rest aM_spots aM_matrix aM_answer aM_block aM_sent aM_asLaid aM_sentLost aM_told aM_shares aM_used aM_downs aM_weights cI cZ M_n M_k M_b M_changes M_workSize M_workRepairs M_workFirst M_spotCount M_blockSize M_laid M_stripes M_longest M_laidRepairs M_laidFirst M_degree M_wide M_toldCount M_generators) sz (fun u : (Nat → Int32) => wd_Mo_generator aM aM_word aM_lost aM_generators aM_changedPlaces aM_changedBy aM_work aM_workLost aM_sums aM_rest aM_spots aM_matrix aM_answer aM_block aM_sent aM_asLaid aM_sentLost aM_told aM_shares aM_used aM_downs aM_weights cI cZ M_n M_k M_b M_changes M_workSize M_workRepairs M_workFirst M_spotCount M_blockSize M_laid M_stripes M_longest M_laidRepairs M_laidFirst M_degree M_wide M_toldCount u)) (va_A (wd_Mo_generator aM aM_word aM_lost aM_generators aM_changedPlaces aM_changedBy aM_work aM_workLost aM_sums aM_rest aM_spots aM_matrix aM_answer aM_block aM_sent aM_asLaid aM_sentLost aM_told aM_shares aM_used aM_downs aM_weights cI cZ M_n M_k M_b M_changes M_workSize M_workRepairs M_workFirst M_spotCount M_blockSize M_laid M_stripes M_longest M_laidRepairs M_laidFirst M_degree M_wide M_toldCount M_generators) sz)) 0 0 (va_A (wd_Mo_generator aM aM_word aM_lost aM_generators aM_changedPlaces aM_changedBy aM_work aM_workLost aM_sums aM_rest aM_spots aM_matrix aM_answer aM_block aM_sent aM_asLaid aM_sentLost aM_told aM_shares aM_used aM_downs aM_weights cI cZ M_n M_k M_b M_changes M_workSize M_workRepairs M_workFirst M_spotCount M_blockSize M_laid M_stripes M_longest M_laidRepairs M_laidFirst M_degree M_wide M_toldCount M_generators) sz) := by
  refine mt_bd (by decide +kernel) (Nat.le_of_ble_eq_true rfl) ?_
  intro p e s m args below meth c hx hb hml hown hts hr hlk hnm hsz hP hK hD hA hS ls hl
  subst hsz
  have hown : s.vm.findClass "ReedSetsModel" = some m.cls := hown
  have hl : lv_has ls 2 [(0, .ref aM), (1, .int p1)] := hl
  refine lz_Q (fun Q hQ => ?_)
  obtain ⟨A, hAe⟩ : ∃ A : Nat → Prop, A = va_A (wd_Mo_generator aM aM_word aM_lost aM_generators aM_changedPlaces aM_changedBy aM_work aM_workLost aM_sums aM_rest aM_spots aM_matrix aM_answer aM_block aM_sent aM_asLaid aM_sentLost aM_told aM_shares aM_used aM_downs aM_weights cI cZ M_n M_k M_b M_changes M_workSize M_workRepairs M_workFirst M_spotCount M_blockSize M_laid M_stripes M_longest M_laidRepairs M_laidFirst M_degree M_wide M_toldCount M_generators) s.heap.size := ⟨_, rfl⟩
  rw [← hAe] at hD hA hS
  have RET : ∀ (v : Int32) (M_generators : Nat → Int32) (H : Heap) (locs : List Loc) (ls : Array Slot) (pc : Nat), decode c_Mo_generator pc = .ok (.ireturn, 1) → post v M_generators → va_P (dC, dI) vwCl (wd_Mo_generator aM aM_word aM_lost aM_generators aM_changedPlaces aM_changedBy aM_work aM_workLost aM_sums aM_rest aM_spots aM_matrix aM_answer aM_block aM_sent aM_asLaid aM_sentLost aM_told aM_shares aM_used aM_downs aM_weights cI cZ M_n M_k M_b M_changes M_workSize M_workRepairs M_workFirst M_spotCount M_blockSize M_laid M_stripes M_longest M_laidRepairs M_laidFirst M_degree M_wide M_toldCount M_generators) H → va_D A (wd_Mo_generator aM aM_word aM_lost aM_generators aM_changedPlaces aM_changedBy aM_work aM_workLost aM_sums aM_rest aM_spots aM_matrix aM_answer aM_block aM_sent aM_asLaid aM_sentLost aM_told aM_shares aM_used aM_downs aM_weights cI cZ M_n M_k M_b M_changes M_workSize M_workRepairs M_workFirst M_spotCount M_blockSize M_laid M_stripes M_longest M_laidRepairs M_laidFirst M_degree M_wide M_toldCount M_generators) → va_S A s.heap H locs → W p l e rm_Mo_generator s m args below meth c H locs 0 0 Q (F0 m pc ls [.int v]) := by
    intro v M_generators H locs ls pc hd hp h1 h2 h3
    rw [hQ]
    rw [hAe] at h2 h3
    exact mt_reti (M_generators) hx hb hr hlk hd hK h1 h2 h3 hp
  have B12 : ∀ (M_generators : Nat → Int32) (H : Heap) (locs : List Loc) (ls : Array Slot), wp_Mo_generator_b12 M_k M_b post  M_generators → va_P (dC, dI) vwCl (wd_Mo_generator aM aM_word aM_lost aM_generators aM_changedPlaces aM_changedBy aM_work aM_workLost aM_sums aM_rest aM_spots aM_matrix aM_answer aM_block aM_sent aM_asLaid aM_sentLost aM_told aM_shares aM_used aM_downs aM_weights cI cZ M_n M_k M_b M_changes M_workSize M_workRepairs M_workFirst M_spotCount M_blockSize M_laid M_stripes M_longest M_laidRepairs M_laidFirst M_degree M_wide M_toldCount M_generators) H → va_D A (wd_Mo_generator aM aM_word aM_lost aM_generators aM_changedPlaces aM_changedBy aM_work aM_workLost aM_sums aM_rest aM_spots aM_matrix aM_answer aM_block aM_sent aM_asLaid aM_sentLost aM_told aM_shares aM_used aM_downs aM_weights cI cZ M_n M_k M_b M_changes M_workSize M_workRepairs M_workFirst M_spotCount M_blockSize M_laid M_stripes M_longest M_laidRepairs M_laidFirst M_degree M_wide M_toldCount M_generators) → va_S A s.heap H locs → lv_has ls 2 [] → W p l e rm_Mo_generator s m args below meth c H locs 0 0 Q (F0 m 12 ls []) := by
    intro  M_generators H locs ls h hP hD hS hl
    refine lv_iconst (v := (-1 : Int32)) hx hb d_Mo_generator_12 (by decide) ?_
    exact RET (-1 : Int32) M_generators H locs ls 13 d_Mo_generator_13 h hP hD hS
  obtain ⟨H, hH⟩ : ∃ H : Heap, H = s.heap := ⟨_, rfl⟩
  obtain ⟨locs, hlo⟩ : ∃ x : List Loc, x = [] := ⟨_, rfl⟩
  have hS : va_S A s.heap H locs := by rw [hH, hlo]; exact hS
  rw [← hH] at hP
  rw [← hlo]
  show W p l e rm_Mo_generator s m args below meth c s.heap locs 0 0 Q (F0 m 0 ls [])
  rw [← hH]
  refine lv_iload_n hx hb d_Mo_generator_0 rfl (lv_at hl 1 rfl) ?_
  refine lv_if_lt (tgt := 12) hx hb d_Mo_generator_1 (by decide) (fun g1 => ?_) (fun g1 => ?_)
  · have h := h.1 g1
    exact B12  M_generators H locs ls h hP hD hS (lv_sub hl [] rfl)
  · have h := h.2 g1
    refine lv_iload_n hx hb d_Mo_generator_4 rfl (lv_at hl 1 rfl) ?_
    refine lv_aload_n hx hb d_Mo_generator_5 rfl (lv_at hl 0 rfl) ?_
    refine va_get (D := (dC, dI)) (ci := 7) (v := .int M_k) (C := "ReedSetsModel") (T := T_Mo) (N := 38) hx hb hts in_Mo hown hK hP 0 rfl rfl 1 (by decide) (hts _ tb_665) (fun _ h9 => h9) rfl d_Mo_generator_6 ?_
    refine lv_icmp_le (tgt := 14) hx hb d_Mo_generator_9 (by decide) (fun g9 => ?_) (fun g9 => ?_)
    · have h := h.1 g9
      refine lv_aload_n hx hb d_Mo_generator_14 rfl (lv_at hl 0 rfl) ?_
      refine lv_aload_n hx hb d_Mo_generator_15 rfl (lv_at hl 0 rfl) ?_
      refine va_get (D := (dC, dI)) (ci := 7) (v := .int M_k) (C := "ReedSetsModel") (T := T_Mo) (N := 38) hx hb hts in_Mo hown hK hP 0 rfl rfl 1 (by decide) (hts _ tb_665) (fun _ h9 => h9) rfl d_Mo_generator_16 ?_
      refine lv_aload_n hx hb d_Mo_generator_19 rfl (lv_at hl 0 rfl) ?_
      refine va_get (D := (dC, dI)) (ci := 7) (v := .int M_b) (C := "ReedSetsModel") (T := T_Mo) (N := 38) hx hb hts in_Mo hown hK hP 0 rfl rfl 2 (by decide) (hts _ tb_666) (fun _ h9 => h9) rfl d_Mo_generator_20 ?_
      refine mt_v (va_runV (As := [.int M_k, .int M_b]) (rest := []) ⟨hx, hb, hml, hown, hts⟩ (ct_Mo_makeGenerator l dC dI aM aM_word aM_lost aM_generators aM_changedPlaces aM_changedBy aM_work aM_workLost aM_sums aM_rest aM_spots aM_matrix aM_answer aM_block aM_sent aM_asLaid aM_sentLost aM_told aM_shares aM_used aM_downs aM_weights cI cZ M_n M_k M_b M_changes M_workSize M_workRepairs M_workFirst M_spotCount M_blockSize M_laid M_stripes M_longest M_laidRepairs M_laidFirst M_degree M_wide M_toldCount M_generators M_k M_b _ h _) (tb_cV hts ok_Mo_makeGenerator tb_815 rfl rfl ⟨Nat.le_of_ble_eq_true rfl, Nat.le_of_ble_eq_true rfl⟩) (mt_preV hK hP hD [.int M_k, .int M_b] [0, 1] rfl (by decide) (ci := 7) (q0 := 0) rfl rfl) rfl rfl hl.1 rfl (lv_room (Nat.le_of_ble_eq_true rfl)) d_Mo_generator_23 ⟨Nat.zero_le _, Nat.zero_le _⟩) hP hD hS hA [0, 1] rfl (fun _ => rfl) (fun u H locs h hP hD hS => ?_)
      obtain ⟨M_generators_23, rfl⟩ : ∃ z, z = u := ⟨_, rfl⟩
      have hP : va_P (dC, dI) vwCl (wd_Mo_generator aM aM_word aM_lost aM_generators aM_changedPlaces aM_changedBy aM_work aM_workLost aM_sums aM_rest aM_spots aM_matrix aM_answer aM_block aM_sent aM_asLaid aM_sentLost aM_told aM_shares aM_used aM_downs aM_weights cI cZ M_n M_k M_b M_changes M_workSize M_workRepairs M_workFirst M_spotCount M_blockSize M_laid M_stripes M_longest M_laidRepairs M_laidFirst M_degree M_wide M_toldCount M_generators_23) H := hP
      have hD : va_D A (wd_Mo_generator aM aM_word aM_lost aM_generators aM_changedPlaces aM_changedBy aM_work aM_workLost aM_sums aM_rest aM_spots aM_matrix aM_answer aM_block aM_sent aM_asLaid aM_sentLost aM_told aM_shares aM_used aM_downs aM_weights cI cZ M_n M_k M_b M_changes M_workSize M_workRepairs M_workFirst M_spotCount M_blockSize M_laid M_stripes M_longest M_laidRepairs M_laidFirst M_degree M_wide M_toldCount M_generators_23) := hD
      refine lv_aload_n hx hb d_Mo_generator_26 rfl (lv_at hl 0 rfl) ?_
      refine va_get (D := (dC, dI)) (ci := 7) (v := .ref aM_generators) (C := "ReedSetsModel") (T := T_Mo) (N := 38) hx hb hts in_Mo hown hK hP 0 rfl rfl 5 (by decide) (hts _ tb_669) (fun _ h9 => h9) rfl d_Mo_generator_27 ?_
      refine lv_iload_n hx hb d_Mo_generator_30 rfl (lv_at hl 1 rfl) ?_
      obtain ⟨hi, h⟩ := h
      refine va_iald hx hb hK hP 1 0 rfl rfl hi d_Mo_generator_31 ?_
      exact RET (M_generators_23 p1.toNatClampNeg) M_generators_23 H locs ls 32 d_Mo_generator_32 h hP hD hS
    · have h := h.2 g9
      exact B12  M_generators H locs ls h hP hD hS (lv_sub hl [] rfl)
abbrev wd_Mo_isPlace (aM aM_word aM_lost aM_generators aM_changedPlaces aM_changedBy aM_work aM_workLost aM_sums aM_rest aM_spots aM_matrix aM_answer aM_block aM_sent aM_asLaid aM_sentLost aM_told aM_shares aM_used aM_downs aM_weights : Nat) (cI cZ : ClassId) (M_n : Int32) (M_k : Int32) (M_b : Int32) (M_changes : Int32) (M_workSize : Int32) (M_workRepairs : Int32) (M_workFirst : Int32) (M_spotCount : Int32) (M_blockSize : Int32) (M_laid : Int32) (M_stripes : Int32) (M_longest : Int32) (M_laidRepairs : Int32) (M_laidFirst : Int32) (M_degree : Int32) (M_wide : Int32) (M_toldCount : Int32) : va_W := [(aM, .inr (7, [.int M_n, .int M_k, .int M_b, .ref aM_word, .ref aM_lost, .ref aM_generators, .int M_changes, .ref aM_changedPlaces, .ref aM_changedBy, .ref aM_work, .ref aM_workLost, .int M_workSize, .int M_workRepairs, .int M_workFirst, .ref aM_sums, .ref aM_rest, .ref aM_spots, .int M_spotCount, .ref aM_matrix, .ref aM_answer, .ref aM_block, .int M_blockSize, .int M_laid, .int M_stripes, .int M_longest, .int M_laidRepairs, .int M_laidFirst, .ref aM_sent, .ref aM_asLaid, .ref aM_sentLost, .int M_degree, .int M_wide, .ref aM_told, .ref aM_shares, .int M_toldCount, .ref aM_used, .ref aM_downs, .ref aM_weights]))]
def wp_Mo_isPlace_b22 (M_n : Int32) (M_k : Int32) (post : Int32 → Prop)  (t0 : Int32) : Prop := narrow .boolean (.int t0) = .int t0 ∧ (post t0)
def wp_Mo_isPlace_b21 (M_n : Int32) (M_k : Int32) (post : Int32 → Prop)   : Prop := wp_Mo_isPlace_b22 M_n M_k post  (0 : Int32)
def wp_Mo_isPlace (M_n : Int32) (M_k : Int32) (p1 : Int32) (post : Int32 → Prop) : Prop := (p1 < 0 → (wp_Mo_isPlace_b21 M_n M_k post  )) ∧ (¬ p1 < 0 → (((M_n + M_k) ≤ p1 → (wp_Mo_isPlace_b21 M_n M_k post  )) ∧ (¬ (M_n + M_k) ≤ p1 → (wp_Mo_isPlace_b22 M_n M_k post  (1 : Int32)))))
abbrev rm_Mo_isPlace : Room := { frames := 0, cells := 0, slots := 0, locals := 0 }
set_option maxHeartbeats 4000000 in
set_option maxRecDepth 100000 in
theorem ct_Mo_isPlace (l : Launch) (dC : Nat → ClassId) (dI : Nat → Nat → Nat) (aM aM_word aM_lost aM_generators aM_changedPlaces aM_changedBy aM_work aM_workLost aM_sums aM_rest aM_spots aM_matrix aM_answer aM_block aM_sent aM_asLaid aM_sentLost aM_told aM_shares aM_used aM_downs aM_weights : Nat) (cI cZ : ClassId) (M_n : Int32) (M_k : Int32) (M_b : Int32) (M_changes : Int32) (M_workSize : Int32) (M_workRepairs : Int32) (M_workFirst : Int32) (M_spotCount : Int32) (M_blockSize : Int32) (M_laid : Int32) (M_stripes : Int32) (M_longest : Int32) (M_laidRepairs : Int32) (M_laidFirst : Int32) (M_degree : Int32) (M_wide : Int32) (M_toldCount : Int32) (p1 : Int32) (post : Int32 → Prop) (h : wp_Mo_isPlace M_n M_k p1 post) (sz : Nat) : Met l y_Mo_isPlace (Cond.code y_Mo_isPlace c_Mo_isPlace 2 (some .boolean) :: tb) rm_Mo_isPlace (mt_P (dC, dI) vwCl [(cI, .int), (cZ, .boolean)] [.ref aM, .int p1] (wd_Mo_isPlace aM aM_word aM_lost aM_generators aM_changedPlaces aM_changedBy aM_work aM_workLost aM_sums aM_rest aM_spots aM_matrix aM_answer aM_block aM_sent aM_asLaid aM_sentLost aM_told aM_shares aM_used aM_downs aM_weights cI cZ M_n M_k M_b M_changes M_workSize M_workRepairs M_workFirst M_spotCount M_blockSize M_laid M_stripes M_longest M_laidRepairs M_laidFirst M_degree M_wide M_toldCount) sz) (va_Qi (fun (r : Int32) (u : Unit) => post r) (mt_B (dC, dI) vwCl [(cI, .int), (cZ, .boolean)] (wd_Mo_isPlace aM aM_word aM_lost aM_generators aM_changedPlaces aM_changedBy aM_work aM_workLost aM_sums aM_rest aM_spots aM_matrix aM_answer aM_block aM_sent aM_asLaid aM_sentLost aM_told aM_shares aM_used aM_downs aM_weights cI cZ M_n M_k M_b M_changes M_workSize M_workRepairs M_workFirst M_spotCount M_blockSize M_laid M_stripes M_longest M_laidRepairs M_laidFirst M_degree M_wide M_toldCount) sz (fun u : Unit => wd_Mo_isPlace aM aM_word aM_lost aM_generators aM_changedPlaces aM_changedBy aM_work aM_workLost aM_sums aM_rest aM_spots aM_matrix aM_answer aM_block aM_sent aM_asLaid aM_sentLost aM_told aM_shares aM_used aM_downs aM_weights cI cZ M_n M_k M_b M_changes M_workSize M_workRepairs M_workFirst M_spotCount M_blockSize M_laid M_stripes M_longest M_laidRepairs M_laidFirst M_degree M_wide M_toldCount)) (va_A (wd_Mo_isPlace aM aM_word aM_lost aM_generators aM_changedPlaces aM_changedBy aM_work aM_workLost aM_sums aM_rest aM_spots aM_matrix aM_answer aM_block aM_sent aM_asLaid aM_sentLost aM_told aM_shares aM_used aM_downs aM_weights cI cZ M_n M_k M_b M_changes M_workSize M_workRepairs M_workFirst M_spotCount M_blockSize M_laid M_stripes M_longest M_laidRepairs M_laidFirst M_degree M_wide M_toldCount) sz)) 0 0 (va_A (wd_Mo_isPlace aM aM_word aM_lost aM_generators aM_changedPlaces aM_changedBy aM_work aM_workLost aM_sums aM_rest aM_spots aM_matrix aM_answer aM_block aM_sent aM_asLaid aM_sentLost aM_told aM_shares aM_used aM_downs aM_weights cI cZ M_n M_k M_b M_changes M_workSize M_workRepairs M_workFirst M_spotCount M_blockSize M_laid M_stripes M_longest M_laidRepairs M_laidFirst M_degree M_wide M_toldCount) sz) := by
  refine mt_bd (by decide +kernel) (Nat.le_of_ble_eq_true rfl) ?_
  intro p e s m args below meth c hx hb hml hown hts hr hlk hnm hsz hP hK hD hA hS ls hl
  subst hsz
  have hown : s.vm.findClass "ReedSetsModel" = some m.cls := hown
  have hl : lv_has ls 2 [(0, .ref aM), (1, .int p1)] := hl
  refine lz_Q (fun Q hQ => ?_)
  obtain ⟨A, hAe⟩ : ∃ A : Nat → Prop, A = va_A (wd_Mo_isPlace aM aM_word aM_lost aM_generators aM_changedPlaces aM_changedBy aM_work aM_workLost aM_sums aM_rest aM_spots aM_matrix aM_answer aM_block aM_sent aM_asLaid aM_sentLost aM_told aM_shares aM_used aM_downs aM_weights cI cZ M_n M_k M_b M_changes M_workSize M_workRepairs M_workFirst M_spotCount M_blockSize M_laid M_stripes M_longest M_laidRepairs M_laidFirst M_degree M_wide M_toldCount) s.heap.size := ⟨_, rfl⟩
  rw [← hAe] at hD hA hS
  have RET : ∀ (v : Int32)  (H : Heap) (locs : List Loc) (ls : Array Slot) (pc : Nat), decode c_Mo_isPlace pc = .ok (.ireturn, 1) → narrow .boolean (.int v) = .int v → post v  → va_P (dC, dI) vwCl (wd_Mo_isPlace aM aM_word aM_lost aM_generators aM_changedPlaces aM_changedBy aM_work aM_workLost aM_sums aM_rest aM_spots aM_matrix aM_answer aM_block aM_sent aM_asLaid aM_sentLost aM_told aM_shares aM_used aM_downs aM_weights cI cZ M_n M_k M_b M_changes M_workSize M_workRepairs M_workFirst M_spotCount M_blockSize M_laid M_stripes M_longest M_laidRepairs M_laidFirst M_degree M_wide M_toldCount) H → va_D A (wd_Mo_isPlace aM aM_word aM_lost aM_generators aM_changedPlaces aM_changedBy aM_work aM_workLost aM_sums aM_rest aM_spots aM_matrix aM_answer aM_block aM_sent aM_asLaid aM_sentLost aM_told aM_shares aM_used aM_downs aM_weights cI cZ M_n M_k M_b M_changes M_workSize M_workRepairs M_workFirst M_spotCount M_blockSize M_laid M_stripes M_longest M_laidRepairs M_laidFirst M_degree M_wide M_toldCount) → va_S A s.heap H locs → W p l e rm_Mo_isPlace s m args below meth c H locs 0 0 Q (F0 m pc ls [.int v]) := by
    intro v  H locs ls pc hd hz hp h1 h2 h3
    rw [hQ]
    rw [hAe] at h2 h3
    exact mt_retz () hx hb hr hlk hd hK h1 h2 h3 hz hp
  have B22 : ∀ (t0 : Int32) (H : Heap) (locs : List Loc) (ls : Array Slot), wp_Mo_isPlace_b22 M_n M_k post  t0 → va_P (dC, dI) vwCl (wd_Mo_isPlace aM aM_word aM_lost aM_generators aM_changedPlaces aM_changedBy aM_work aM_workLost aM_sums aM_rest aM_spots aM_matrix aM_answer aM_block aM_sent aM_asLaid aM_sentLost aM_told aM_shares aM_used aM_downs aM_weights cI cZ M_n M_k M_b M_changes M_workSize M_workRepairs M_workFirst M_spotCount M_blockSize M_laid M_stripes M_longest M_laidRepairs M_laidFirst M_degree M_wide M_toldCount) H → va_D A (wd_Mo_isPlace aM aM_word aM_lost aM_generators aM_changedPlaces aM_changedBy aM_work aM_workLost aM_sums aM_rest aM_spots aM_matrix aM_answer aM_block aM_sent aM_asLaid aM_sentLost aM_told aM_shares aM_used aM_downs aM_weights cI cZ M_n M_k M_b M_changes M_workSize M_workRepairs M_workFirst M_spotCount M_blockSize M_laid M_stripes M_longest M_laidRepairs M_laidFirst M_degree M_wide M_toldCount) → va_S A s.heap H locs → lv_has ls 2 [] → W p l e rm_Mo_isPlace s m args below meth c H locs 0 0 Q (F0 m 22 ls [.int t0]) := by
    intro  t0 H locs ls h hP hD hS hl
    obtain ⟨hz, h⟩ := h
    exact RET t0 H locs ls 22 d_Mo_isPlace_22 hz h hP hD hS
  have B21 : ∀  (H : Heap) (locs : List Loc) (ls : Array Slot), wp_Mo_isPlace_b21 M_n M_k post   → va_P (dC, dI) vwCl (wd_Mo_isPlace aM aM_word aM_lost aM_generators aM_changedPlaces aM_changedBy aM_work aM_workLost aM_sums aM_rest aM_spots aM_matrix aM_answer aM_block aM_sent aM_asLaid aM_sentLost aM_told aM_shares aM_used aM_downs aM_weights cI cZ M_n M_k M_b M_changes M_workSize M_workRepairs M_workFirst M_spotCount M_blockSize M_laid M_stripes M_longest M_laidRepairs M_laidFirst M_degree M_wide M_toldCount) H → va_D A (wd_Mo_isPlace aM aM_word aM_lost aM_generators aM_changedPlaces aM_changedBy aM_work aM_workLost aM_sums aM_rest aM_spots aM_matrix aM_answer aM_block aM_sent aM_asLaid aM_sentLost aM_told aM_shares aM_used aM_downs aM_weights cI cZ M_n M_k M_b M_changes M_workSize M_workRepairs M_workFirst M_spotCount M_blockSize M_laid M_stripes M_longest M_laidRepairs M_laidFirst M_degree M_wide M_toldCount) → va_S A s.heap H locs → lv_has ls 2 [] → W p l e rm_Mo_isPlace s m args below meth c H locs 0 0 Q (F0 m 21 ls []) := by
    intro   H locs ls h hP hD hS hl
    refine lv_iconst (v := (0 : Int32)) hx hb d_Mo_isPlace_21 (by decide) ?_
    exact B22  (0 : Int32) H locs ls h hP hD hS (lv_sub hl [] rfl)
  obtain ⟨H, hH⟩ : ∃ H : Heap, H = s.heap := ⟨_, rfl⟩
  obtain ⟨locs, hlo⟩ : ∃ x : List Loc, x = [] := ⟨_, rfl⟩
  have hS : va_S A s.heap H locs := by rw [hH, hlo]; exact hS
  rw [← hH] at hP
  rw [← hlo]
  show W p l e rm_Mo_isPlace s m args below meth c s.heap locs 0 0 Q (F0 m 0 ls [])
  rw [← hH]
  refine lv_iload_n hx hb d_Mo_isPlace_0 rfl (lv_at hl 1 rfl) ?_
  refine lv_if_lt (tgt := 21) hx hb d_Mo_isPlace_1 (by decide) (fun g1 => ?_) (fun g1 => ?_)
  · have h := h.1 g1
    exact B21   H locs ls h hP hD hS (lv_sub hl [] rfl)
  · have h := h.2 g1
    refine lv_iload_n hx hb d_Mo_isPlace_4 rfl (lv_at hl 1 rfl) ?_
    refine lv_aload_n hx hb d_Mo_isPlace_5 rfl (lv_at hl 0 rfl) ?_
    refine va_get (D := (dC, dI)) (ci := 7) (v := .int M_n) (C := "ReedSetsModel") (T := T_Mo) (N := 38) hx hb hts in_Mo hown hK hP 0 rfl rfl 0 (by decide) (hts _ tb_664) (fun _ h9 => h9) rfl d_Mo_isPlace_6 ?_
    refine lv_aload_n hx hb d_Mo_isPlace_9 rfl (lv_at hl 0 rfl) ?_
    refine va_get (D := (dC, dI)) (ci := 7) (v := .int M_k) (C := "ReedSetsModel") (T := T_Mo) (N := 38) hx hb hts in_Mo hown hK hP 0 rfl rfl 1 (by decide) (hts _ tb_665) (fun _ h9 => h9) rfl d_Mo_isPlace_10 ?_
    refine lv_iadd hx hb d_Mo_isPlace_13 ?_
    refine lv_icmp_ge (tgt := 21) hx hb d_Mo_isPlace_14 (by decide) (fun g14 => ?_) (fun g14 => ?_)
    · have h := h.1 g14
      exact B21   H locs ls h hP hD hS (lv_sub hl [] rfl)
    · have h := h.2 g14
      refine lv_iconst (v := (1 : Int32)) hx hb d_Mo_isPlace_17 (by decide) ?_
      refine lv_goto (tgt := 22) hx hb d_Mo_isPlace_18 (by decide) ?_
      exact B22  (1 : Int32) H locs ls h hP hD hS (lv_sub hl [] rfl)
abbrev wd_Mo_put (aM aM_word aM_lost aM_generators aM_changedPlaces aM_changedBy aM_work aM_workLost aM_sums aM_rest aM_spots aM_matrix aM_answer aM_block aM_sent aM_asLaid aM_sentLost aM_told aM_shares aM_used aM_downs aM_weights : Nat) (cI cZ : ClassId) (M_n : Int32) (M_k : Int32) (M_b : Int32) (M_changes : Int32) (M_workSize : Int32) (M_workRepairs : Int32) (M_workFirst : Int32) (M_spotCount : Int32) (M_blockSize : Int32) (M_laid : Int32) (M_stripes : Int32) (M_longest : Int32) (M_laidRepairs : Int32) (M_laidFirst : Int32) (M_degree : Int32) (M_wide : Int32) (M_toldCount : Int32) (M_word : Nat → Int32) : va_W := [(aM, .inr (7, [.int M_n, .int M_k, .int M_b, .ref aM_word, .ref aM_lost, .ref aM_generators, .int M_changes, .ref aM_changedPlaces, .ref aM_changedBy, .ref aM_work, .ref aM_workLost, .int M_workSize, .int M_workRepairs, .int M_workFirst, .ref aM_sums, .ref aM_rest, .ref aM_spots, .int M_spotCount, .ref aM_matrix, .ref aM_answer, .ref aM_block, .int M_blockSize, .int M_laid, .int M_stripes, .int M_longest, .int M_laidRepairs, .int M_laidFirst, .ref aM_sent, .ref aM_asLaid, .ref aM_sentLost, .int M_degree, .int M_wide, .ref aM_told, .ref aM_shares, .int M_toldCount, .ref aM_used, .ref aM_downs, .ref aM_weights])), (aM_word, .inl (cI, 255, .inl M_word))]
def wp_Mo_put_b15 (M_n : Int32) (M_k : Int32) (post : Int32 → (Nat → Int32) → Prop)  (M_word : Nat → Int32) : Prop := post (-1 : Int32) M_word
def wp_Mo_put (M_n : Int32) (M_k : Int32) (M_word : Nat → Int32) (p1 : Int32) (p2 : Int32) (post : Int32 → (Nat → Int32) → Prop) : Prop := wp_Mo_isPlace M_n M_k p1 (fun r_2 => ((r_2 = 0 → (wp_Mo_put_b15 M_n M_k post  M_word)) ∧ (¬ r_2 = 0 → (wp_Mo_isByte p2 (fun r_9 => ((¬ r_9 = 0 → (vp_in p1 255 ∧ (∀ x3_23 : Int32, x3_23 = (M_word p1.toNatClampNeg) → (vp_in p1 255 ∧ (post x3_23 (upd M_word p1.toNatClampNeg p2)))))) ∧ (r_9 = 0 → (wp_Mo_put_b15 M_n M_k post  M_word))))))))
abbrev rm_Mo_put : Room := { frames := 1, cells := 0, slots := 0, locals := 21 }
set_option maxHeartbeats 4000000 in
set_option maxRecDepth 100000 in
theorem ct_Mo_put (l : Launch) (dC : Nat → ClassId) (dI : Nat → Nat → Nat) (aM aM_word aM_lost aM_generators aM_changedPlaces aM_changedBy aM_work aM_workLost aM_sums aM_rest aM_spots aM_matrix aM_answer aM_block aM_sent aM_asLaid aM_sentLost aM_told aM_shares aM_used aM_downs aM_weights : Nat) (cI cZ : ClassId) (M_n : Int32) (M_k : Int32) (M_b : Int32) (M_changes : Int32) (M_workSize : Int32) (M_workRepairs : Int32) (M_workFirst : Int32) (M_spotCount : Int32) (M_blockSize : Int32) (M_laid : Int32) (M_stripes : Int32) (M_longest : Int32) (M_laidRepairs : Int32) (M_laidFirst : Int32) (M_degree : Int32) (M_wide : Int32) (M_toldCount : Int32) (M_word : Nat → Int32) (p1 : Int32) (p2 : Int32) (post : Int32 → (Nat → Int32) → Prop) (h : wp_Mo_put M_n M_k M_word p1 p2 post) (sz : Nat) : Met l y_Mo_put (Cond.code y_Mo_put c_Mo_put 4 (some .int) :: tb) rm_Mo_put (mt_P (dC, dI) vwCl [(cI, .int), (cZ, .boolean)] [.ref aM, .int p1, .int p2] (wd_Mo_put aM aM_word aM_lost aM_generators aM_changedPlaces aM_changedBy aM_work aM_workLost aM_sums aM_rest aM_spots aM_matrix aM_answer aM_block aM_sent aM_asLaid aM_sentLost aM_told aM_shares aM_used aM_downs aM_weights cI cZ M_n M_k M_b M_changes M_workSize M_workRepairs M_workFirst M_spotCount M_blockSize M_laid M_stripes M_longest M_laidRepairs M_laidFirst M_degree M_wide M_toldCount M_word) sz) (va_Qi (fun (r : Int32) (u : (Nat → Int32)) => post r u) (mt_B (dC, dI) vwCl [(cI, .int), (cZ, .boolean)] (wd_Mo_put aM aM_word aM_lost aM_generators aM_changedPlaces aM_changedBy aM_work aM_workLost aM_sums aM_rest aM_spots aM_matrix aM_answer aM_block aM_sent aM_asLaid aM_sentLost aM_told aM_shares aM_used aM_downs aM_weights cI cZ M_n M_k M_b M_changes M_workSize M_workRepairs M_workFirst M_spotCount M_blockSize M_laid M_stripes M_longest M_laidRepairs M_laidFirst M_degree M_wide M_toldCount M_word) sz (fun u : (Nat → Int32) => wd_Mo_put aM aM_word aM_lost aM_generators aM_changedPlaces aM_changedBy aM_work aM_workLost aM_sums aM_rest aM_spots aM_matrix aM_answer aM_block aM_sent aM_asLaid aM_sentLost aM_told aM_shares aM_used aM_downs aM_weights cI cZ M_n M_k M_b M_changes M_workSize M_workRepairs M_workFirst M_spotCount M_blockSize M_laid M_stripes M_longest M_laidRepairs M_laidFirst M_degree M_wide M_toldCount u)) (va_A (wd_Mo_put aM aM_word aM_lost aM_generators aM_changedPlaces aM_changedBy aM_work aM_workLost aM_sums aM_rest aM_spots aM_matrix aM_answer aM_block aM_sent aM_asLaid aM_sentLost aM_told aM_shares aM_used aM_downs aM_weights cI cZ M_n M_k M_b M_changes M_workSize M_workRepairs M_workFirst M_spotCount M_blockSize M_laid M_stripes M_longest M_laidRepairs M_laidFirst M_degree M_wide M_toldCount M_word) sz)) 0 0 (va_A (wd_Mo_put aM aM_word aM_lost aM_generators aM_changedPlaces aM_changedBy aM_work aM_workLost aM_sums aM_rest aM_spots aM_matrix aM_answer aM_block aM_sent aM_asLaid aM_sentLost aM_told aM_shares aM_used aM_downs aM_weights cI cZ M_n M_k M_b M_changes M_workSize M_workRepairs M_workFirst M_spotCount M_blockSize M_laid M_stripes M_longest M_laidRepairs M_laidFirst M_degree M_wide M_toldCount M_word) sz) := by
  refine mt_bd (by decide +kernel) (Nat.le_of_ble_eq_true rfl) ?_
  intro p e s m args below meth c hx hb hml hown hts hr hlk hnm hsz hP hK hD hA hS ls hl
  subst hsz
  have hown : s.vm.findClass "ReedSetsModel" = some m.cls := hown
  have hl : lv_has ls 4 [(0, .ref aM), (1, .int p1), (2, .int p2)] := hl
  refine lz_Q (fun Q hQ => ?_)
  obtain ⟨A, hAe⟩ : ∃ A : Nat → Prop, A = va_A (wd_Mo_put aM aM_word aM_lost aM_generators aM_changedPlaces aM_changedBy aM_work aM_workLost aM_sums aM_rest aM_spots aM_matrix aM_answer aM_block aM_sent aM_asLaid aM_sentLost aM_told aM_shares aM_used aM_downs aM_weights cI cZ M_n M_k M_b M_changes M_workSize M_workRepairs M_workFirst M_spotCount M_blockSize M_laid M_stripes M_longest M_laidRepairs M_laidFirst M_degree M_wide M_toldCount M_word) s.heap.size := ⟨_, rfl⟩
  rw [← hAe] at hD hA hS
  have RET : ∀ (v : Int32) (M_word : Nat → Int32) (H : Heap) (locs : List Loc) (ls : Array Slot) (pc : Nat), decode c_Mo_put pc = .ok (.ireturn, 1) → post v M_word → va_P (dC, dI) vwCl (wd_Mo_put aM aM_word aM_lost aM_generators aM_changedPlaces aM_changedBy aM_work aM_workLost aM_sums aM_rest aM_spots aM_matrix aM_answer aM_block aM_sent aM_asLaid aM_sentLost aM_told aM_shares aM_used aM_downs aM_weights cI cZ M_n M_k M_b M_changes M_workSize M_workRepairs M_workFirst M_spotCount M_blockSize M_laid M_stripes M_longest M_laidRepairs M_laidFirst M_degree M_wide M_toldCount M_word) H → va_D A (wd_Mo_put aM aM_word aM_lost aM_generators aM_changedPlaces aM_changedBy aM_work aM_workLost aM_sums aM_rest aM_spots aM_matrix aM_answer aM_block aM_sent aM_asLaid aM_sentLost aM_told aM_shares aM_used aM_downs aM_weights cI cZ M_n M_k M_b M_changes M_workSize M_workRepairs M_workFirst M_spotCount M_blockSize M_laid M_stripes M_longest M_laidRepairs M_laidFirst M_degree M_wide M_toldCount M_word) → va_S A s.heap H locs → W p l e rm_Mo_put s m args below meth c H locs 0 0 Q (F0 m pc ls [.int v]) := by
    intro v M_word H locs ls pc hd hp h1 h2 h3
    rw [hQ]
    rw [hAe] at h2 h3
    exact mt_reti (M_word) hx hb hr hlk hd hK h1 h2 h3 hp
  have B15 : ∀ (M_word : Nat → Int32) (H : Heap) (locs : List Loc) (ls : Array Slot), wp_Mo_put_b15 M_n M_k post  M_word → va_P (dC, dI) vwCl (wd_Mo_put aM aM_word aM_lost aM_generators aM_changedPlaces aM_changedBy aM_work aM_workLost aM_sums aM_rest aM_spots aM_matrix aM_answer aM_block aM_sent aM_asLaid aM_sentLost aM_told aM_shares aM_used aM_downs aM_weights cI cZ M_n M_k M_b M_changes M_workSize M_workRepairs M_workFirst M_spotCount M_blockSize M_laid M_stripes M_longest M_laidRepairs M_laidFirst M_degree M_wide M_toldCount M_word) H → va_D A (wd_Mo_put aM aM_word aM_lost aM_generators aM_changedPlaces aM_changedBy aM_work aM_workLost aM_sums aM_rest aM_spots aM_matrix aM_answer aM_block aM_sent aM_asLaid aM_sentLost aM_told aM_shares aM_used aM_downs aM_weights cI cZ M_n M_k M_b M_changes M_workSize M_workRepairs M_workFirst M_spotCount M_blockSize M_laid M_stripes M_longest M_laidRepairs M_laidFirst M_degree M_wide M_toldCount M_word) → va_S A s.heap H locs → lv_has ls 4 [] → W p l e rm_Mo_put s m args below meth c H locs 0 0 Q (F0 m 15 ls []) := by
    intro  M_word H locs ls h hP hD hS hl
    refine lv_iconst (v := (-1 : Int32)) hx hb d_Mo_put_15 (by decide) ?_
    exact RET (-1 : Int32) M_word H locs ls 16 d_Mo_put_16 h hP hD hS
  obtain ⟨H, hH⟩ : ∃ H : Heap, H = s.heap := ⟨_, rfl⟩
  obtain ⟨locs, hlo⟩ : ∃ x : List Loc, x = [] := ⟨_, rfl⟩
  have hS : va_S A s.heap H locs := by rw [hH, hlo]; exact hS
  rw [← hH] at hP
  rw [← hlo]
  show W p l e rm_Mo_put s m args below meth c s.heap locs 0 0 Q (F0 m 0 ls [])
  rw [← hH]
  refine lv_aload_n hx hb d_Mo_put_0 rfl (lv_at hl 0 rfl) ?_
  refine lv_iload_n hx hb d_Mo_put_1 rfl (lv_at hl 1 rfl) ?_
  refine mt_i (va_runV (As := [.int p1]) (rest := []) ⟨hx, hb, hml, hown, hts⟩ (ct_Mo_isPlace l dC dI aM aM_word aM_lost aM_generators aM_changedPlaces aM_changedBy aM_work aM_workLost aM_sums aM_rest aM_spots aM_matrix aM_answer aM_block aM_sent aM_asLaid aM_sentLost aM_told aM_shares aM_used aM_downs aM_weights cI cZ M_n M_k M_b M_changes M_workSize M_workRepairs M_workFirst M_spotCount M_blockSize M_laid M_stripes M_longest M_laidRepairs M_laidFirst M_degree M_wide M_toldCount p1 _ h _) (tb_cV hts ok_Mo_isPlace tb_826 rfl rfl ⟨Nat.le_of_ble_eq_true rfl, Nat.le_of_ble_eq_true rfl⟩) (mt_preV hK hP hD [.int p1] [0] rfl (by decide) (ci := 7) (q0 := 0) rfl rfl) rfl rfl hl.1 rfl (lv_room (Nat.le_of_ble_eq_true rfl)) d_Mo_put_2 ⟨Nat.zero_le _, Nat.zero_le _⟩) hP hD hS hA [0] rfl (fun _ => rfl) (fun r_2 u H locs h hP hD hS => ?_)
  have hP : va_P (dC, dI) vwCl (wd_Mo_put aM aM_word aM_lost aM_generators aM_changedPlaces aM_changedBy aM_work aM_workLost aM_sums aM_rest aM_spots aM_matrix aM_answer aM_block aM_sent aM_asLaid aM_sentLost aM_told aM_shares aM_used aM_downs aM_weights cI cZ M_n M_k M_b M_changes M_workSize M_workRepairs M_workFirst M_spotCount M_blockSize M_laid M_stripes M_longest M_laidRepairs M_laidFirst M_degree M_wide M_toldCount M_word) H := hP
  have hD : va_D A (wd_Mo_put aM aM_word aM_lost aM_generators aM_changedPlaces aM_changedBy aM_work aM_workLost aM_sums aM_rest aM_spots aM_matrix aM_answer aM_block aM_sent aM_asLaid aM_sentLost aM_told aM_shares aM_used aM_downs aM_weights cI cZ M_n M_k M_b M_changes M_workSize M_workRepairs M_workFirst M_spotCount M_blockSize M_laid M_stripes M_longest M_laidRepairs M_laidFirst M_degree M_wide M_toldCount M_word) := hD
  refine lv_if_eq (tgt := 15) hx hb d_Mo_put_5 (by decide) (fun g5 => ?_) (fun g5 => ?_)
  · have h := h.1 g5
    exact B15  M_word H locs ls h hP hD hS (lv_sub hl [] rfl)
  · have h := h.2 g5
    refine lv_iload_n hx hb d_Mo_put_8 rfl (lv_at hl 2 rfl) ?_
    refine mt_i (va_runS (As := [.int p2]) (rest := []) ⟨hx, hb, hml, hown, hts⟩ (ct_Mo_isByte l dC dI  cI cZ p2 _ h _) (tb_cS hts ok_Mo_isByte tb_783 rfl rfl ⟨Nat.le_of_ble_eq_true rfl, Nat.le_of_ble_eq_true rfl⟩) (mt_preS hK hP hD [.int p2] [] rfl (by decide)) rfl rfl hl.1 rfl (lv_room (Nat.le_of_ble_eq_true rfl)) d_Mo_put_9 ⟨Nat.zero_le _, Nat.zero_le _⟩) hP hD hS hA [] rfl (fun _ => rfl) (fun r_9 u H locs h hP hD hS => ?_)
    have hP : va_P (dC, dI) vwCl (wd_Mo_put aM aM_word aM_lost aM_generators aM_changedPlaces aM_changedBy aM_work aM_workLost aM_sums aM_rest aM_spots aM_matrix aM_answer aM_block aM_sent aM_asLaid aM_sentLost aM_told aM_shares aM_used aM_downs aM_weights cI cZ M_n M_k M_b M_changes M_workSize M_workRepairs M_workFirst M_spotCount M_blockSize M_laid M_stripes M_longest M_laidRepairs M_laidFirst M_degree M_wide M_toldCount M_word) H := hP
    have hD : va_D A (wd_Mo_put aM aM_word aM_lost aM_generators aM_changedPlaces aM_changedBy aM_work aM_workLost aM_sums aM_rest aM_spots aM_matrix aM_answer aM_block aM_sent aM_asLaid aM_sentLost aM_told aM_shares aM_used aM_downs aM_weights cI cZ M_n M_k M_b M_changes M_workSize M_workRepairs M_workFirst M_spotCount M_blockSize M_laid M_stripes M_longest M_laidRepairs M_laidFirst M_degree M_wide M_toldCount M_word) := hD
    refine lv_if_ne (tgt := 17) hx hb d_Mo_put_12 (by decide) (fun g12 => ?_) (fun g12 => ?_)
    · have h := h.1 g12
      refine lv_aload_n hx hb d_Mo_put_17 rfl (lv_at hl 0 rfl) ?_
      refine va_get (D := (dC, dI)) (ci := 7) (v := .ref aM_word) (C := "ReedSetsModel") (T := T_Mo) (N := 38) hx hb hts in_Mo hown hK hP 0 rfl rfl 3 (by decide) (hts _ tb_667) (fun _ h9 => h9) rfl d_Mo_put_18 ?_
      refine lv_iload_n hx hb d_Mo_put_21 rfl (lv_at hl 1 rfl) ?_
      obtain ⟨hi, h⟩ := h
      refine va_iald hx hb hK hP 1 0 rfl rfl hi d_Mo_put_22 ?_
      refine lv_topi (fun x3_23 ex3_23 => ?_)
      have h := h x3_23 ex3_23
      refine lv_istore_n (lv' := [(3, .int x3_23), (0, .ref aM), (1, .int p1), (2, .int p2)]) hx hb d_Mo_put_23 rfl hl (by decide) rfl (fun ls hl => ?_)
      refine lv_aload_n hx hb d_Mo_put_24 rfl (lv_at hl 1 rfl) ?_
      refine va_get (D := (dC, dI)) (ci := 7) (v := .ref aM_word) (C := "ReedSetsModel") (T := T_Mo) (N := 38) hx hb hts in_Mo hown hK hP 0 rfl rfl 3 (by decide) (hts _ tb_667) (fun _ h9 => h9) rfl d_Mo_put_25 ?_
      refine lv_iload_n hx hb d_Mo_put_28 rfl (lv_at hl 2 rfl) ?_
      refine lv_iload_n hx hb d_Mo_put_29 rfl (lv_at hl 3 rfl) ?_
      obtain ⟨hi, h⟩ := h
      refine va_iast hx hb hK hP hD hS 1 0 rfl rfl hi d_Mo_put_30 (fun H locs hP hD hS => ?_)
      have hP : va_P (dC, dI) vwCl (wd_Mo_put aM aM_word aM_lost aM_generators aM_changedPlaces aM_changedBy aM_work aM_workLost aM_sums aM_rest aM_spots aM_matrix aM_answer aM_block aM_sent aM_asLaid aM_sentLost aM_told aM_shares aM_used aM_downs aM_weights cI cZ M_n M_k M_b M_changes M_workSize M_workRepairs M_workFirst M_spotCount M_blockSize M_laid M_stripes M_longest M_laidRepairs M_laidFirst M_degree M_wide M_toldCount (upd M_word p1.toNatClampNeg p2)) H := hP
      have hD : va_D A (wd_Mo_put aM aM_word aM_lost aM_generators aM_changedPlaces aM_changedBy aM_work aM_workLost aM_sums aM_rest aM_spots aM_matrix aM_answer aM_block aM_sent aM_asLaid aM_sentLost aM_told aM_shares aM_used aM_downs aM_weights cI cZ M_n M_k M_b M_changes M_workSize M_workRepairs M_workFirst M_spotCount M_blockSize M_laid M_stripes M_longest M_laidRepairs M_laidFirst M_degree M_wide M_toldCount (upd M_word p1.toNatClampNeg p2)) := hD
      refine lv_iload_n hx hb d_Mo_put_31 rfl (lv_at hl 0 rfl) ?_
      exact RET x3_23 (upd M_word p1.toNatClampNeg p2) H locs ls 32 d_Mo_put_32 h hP hD hS
    · have h := h.2 g12
      exact B15  M_word H locs ls h hP hD hS (lv_sub hl [] rfl)
