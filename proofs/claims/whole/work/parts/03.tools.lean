/-! Tools over the kit: a contract's form (mt_), calls that keep every cell's place in the caller's list (mt_i, mt_v), one array kind, one name. -/
/-- a list with some of its places filled anew -/
def sc_p (ws : va_W) : List Nat → va_W → va_W
  | i :: is, x :: xs => sc_p (ws.set i x) is xs
  | _, _ => ws
theorem sc_get : ∀ (is : List Nat) (w1 ws : va_W), is.length = w1.length → ∀ (k : Nat) (q : Nat × va_E), (sc_p ws is w1)[k]? = some q → (∃ j : Nat, is[j]? = some k ∧ w1[j]? = some q) ∨ (k ∉ is ∧ ws[k]? = some q)
  | [], [], ws, _, k, q, h => Or.inr ⟨List.not_mem_nil, h⟩
  | [], _ :: _, ws, hl, _, _, _ => by cases hl
  | _ :: _, [], ws, hl, _, _, _ => by cases hl
  | i :: is, x :: xs, ws, hl, k, q, h => by
    rcases sc_get is xs (ws.set i x) (by simpa using hl) k q h with ⟨j, h1, h2⟩ | ⟨h1, h2⟩
    · exact Or.inl ⟨j + 1, h1, h2⟩
    · by_cases hk : i = k
      · subst hk
        rw [List.getElem?_set] at h2
        rw [if_pos rfl] at h2
        split at h2
        · exact Or.inl ⟨0, rfl, h2⟩
        · cases h2
      · rw [List.getElem?_set_ne hk] at h2
        exact Or.inr ⟨fun hm => by
          rcases List.mem_cons.mp hm with q1 | q1
          · exact hk q1.symm
          · exact h1 q1, h2⟩
theorem sc_at {ws : va_W} {is : List Nat} {w : va_W} (hs : is.map (fun i => ws[i]?) = w.map some) {j i : Nat} (hi : is[j]? = some i) : ∃ q, w[j]? = some q ∧ ws[i]? = some q := by
  have h1 : (is.map (fun i => ws[i]?))[j]? = some (ws[i]?) := by rw [List.getElem?_map, hi]; rfl
  rw [hs, List.getElem?_map] at h1
  cases hq : w[j]? with
  | none => rw [hq] at h1; cases h1
  | some q => rw [hq] at h1; exact ⟨q, rfl, (Option.some.inj h1).symm⟩
theorem sc_at' {ws : va_W} {is : List Nat} {w : va_W} (hs : is.map (fun i => ws[i]?) = w.map some) {j : Nat} {q : Nat × va_E} (hq : w[j]? = some q) : ∃ i, is[j]? = some i ∧ ws[i]? = some q := by
  have h1 : (is.map (fun i => ws[i]?))[j]? = some (some q) := by rw [hs, List.getElem?_map, hq]; rfl
  rw [List.getElem?_map] at h1
  cases hi : is[j]? with
  | none => rw [hi] at h1; cases h1
  | some i => rw [hi] at h1; exact ⟨i, rfl, Option.some.inj h1⟩
theorem sc_len {ws : va_W} {is : List Nat} {w : va_W} (hs : is.map (fun i => ws[i]?) = w.map some) : is.length = w.length := by
  have := congrArg List.length hs
  simpa using this
theorem sc_fst {w0 w1 : va_W} (h : w1.map Prod.fst = w0.map Prod.fst) {j : Nat} {q : Nat × va_E} (hq : w1[j]? = some q) : ∃ q0, w0[j]? = some q0 ∧ q0.1 = q.1 := by
  have h1 : (w1.map Prod.fst)[j]? = some q.1 := by rw [List.getElem?_map, hq]; rfl
  rw [h, List.getElem?_map] at h1
  cases hq0 : w0[j]? with
  | none => rw [hq0] at h1; cases h1
  | some q0 => rw [hq0] at h1; exact ⟨q0, rfl, Option.some.inj h1⟩
/-- behind a call that makes no cell: every cell keeps its place -/
theorem sc_join {A0 : Nat → Prop} {D : va_G} {cl : List vw_C} {ws w0 w1 : va_W} {H H1 : Heap} (hP : va_P D cl ws H) (hD : va_D A0 ws) (isC : List Nat) (hC : isC.map (fun i => ws[i]?) = w0.map some)
    (hk : ∀ q : Nat, q < H.size → ¬ va_A w0 H.size q → H1[q]? = H[q]?) (hP1 : va_P D cl w1 H1) (hD1 : va_D (va_A w0 H.size) w1) (ha : w1.map Prod.fst = w0.map Prod.fst) : va_P D cl (sc_p ws isC w1) H1 ∧ va_D A0 (sc_p ws isC w1) := by
  have hl : isC.length = w1.length := by
    have h1 := sc_len hC
    have h2 := congrArg List.length ha
    simp only [List.length_map] at h2
    omega
  have apart : ∀ (k : Nat) (q : Nat × va_E), k ∉ isC → ws[k]? = some q → ∀ (j i : Nat) (p : Nat × va_E), isC[j]? = some i → ws[i]? = some p → p.1 ≠ q.1 := by
    intro k q hk hq j i p hi hp e
    have := hD.1 i k p q hp hq e
    subst this
    exact hk (List.mem_of_getElem? hi)
  have other : ∀ (k : Nat) (q : Nat × va_E), k ∉ isC → ws[k]? = some q → q.1 < H.size ∧ ¬ va_A w0 H.size q.1 := by
    intro k q hk hq
    have hlt := (hP k q hq).lt
    refine ⟨hlt, fun h => ?_⟩
    rcases h with ⟨j, e, h⟩ | h
    · obtain ⟨i, h3, h4⟩ := sc_at' hC h
      exact apart k q hk hq j i _ h3 h4 rfl
    · omega
  have own : ∀ (j k : Nat) (q : Nat × va_E), isC[j]? = some k → w1[j]? = some q → ∃ p, ws[k]? = some p ∧ p.1 = q.1 := by
    intro j k q hj hq
    obtain ⟨q0, h1, h2⟩ := sc_fst ha hq
    obtain ⟨i, h3, h4⟩ := sc_at' hC h1
    have : i = k := Option.some.inj (h3.symm.trans hj)
    subst this
    exact ⟨q0, h4, h2⟩
  refine ⟨fun k q hq => ?_, fun i j x y hx hy hxy => ?_, fun k q hq => ?_⟩
  · rcases sc_get isC w1 ws hl k q hq with ⟨j, h1, h2⟩ | ⟨h1, h2⟩
    · exact hP1 j q h2
    · obtain ⟨g1, g2⟩ := other k q h1 h2
      exact (hP k q h2).kept (hk q.1 g1 g2)
  · rcases sc_get isC w1 ws hl i x hx with ⟨a, h1, h2⟩ | ⟨h1, h2⟩
    · rcases sc_get isC w1 ws hl j y hy with ⟨b, g1, g2⟩ | ⟨g1, g2⟩
      · have := hD1.1 a b x y h2 g2 hxy
        subst this
        exact Option.some.inj (h1.symm.trans g1)
      · obtain ⟨p, h3, h4⟩ := own a i x h1 h2
        exact absurd (h4.trans hxy) (apart j y g1 g2 a i p h1 h3)
    · rcases sc_get isC w1 ws hl j y hy with ⟨b, g1, g2⟩ | ⟨g1, g2⟩
      · obtain ⟨p, h3, h4⟩ := own b j y g1 g2
        exact absurd (h4.trans hxy.symm) (apart i x h1 h2 b j p g1 h3)
      · exact hD.1 i j x y h2 g2 hxy
  · rcases sc_get isC w1 ws hl k q hq with ⟨j, h1, h2⟩ | ⟨h1, h2⟩
    · obtain ⟨p, h3, h4⟩ := own j k q h1 h2
      rw [← h4]
      exact hD.2 k p h3
    · exact hD.2 k q h2
/-- behind a call that makes cells: they come behind the caller's -/
theorem sc_grow {A0 : Nat → Prop} {D : va_G} {cl : List vw_C} {ws w0 w1 w2 : va_W} {H0 H H1 : Heap} {locs : List Loc} (hP : va_P D cl ws H) (hD : va_D A0 ws) (hS : va_S A0 H0 H locs) (hA : ∀ q, H0.size ≤ q → A0 q) (isC : List Nat) (hC : isC.map (fun i => ws[i]?) = w0.map some)
    (hk : ∀ q : Nat, q < H.size → ¬ va_A w0 H.size q → H1[q]? = H[q]?) (hP1 : va_P D cl (w1 ++ w2) H1) (hD1 : va_D (va_A w0 H.size) (w1 ++ w2)) (ha : w1.map Prod.fst = w0.map Prod.fst) : va_P D cl (sc_p ws isC w1 ++ w2) H1 ∧ va_D A0 (sc_p ws isC w1 ++ w2) := by
  have hl : ∀ (i : Nat) (x : Nat × va_E), w1[i]? = some x → (w1 ++ w2)[i]? = some x := fun i x h => by
    rw [List.getElem?_append_left ((List.getElem?_eq_some_iff.mp h).1)]; exact h
  have hr : ∀ (i : Nat) (x : Nat × va_E), w2[i]? = some x → (w1 ++ w2)[w1.length + i]? = some x := fun i x h => by
    rw [List.getElem?_append_right (by omega), Nat.add_sub_cancel_left]; exact h
  have hP1a : va_P D cl w1 H1 := fun i x h => hP1 i x (hl i x h)
  have hD1a : va_D (va_A w0 H.size) w1 := ⟨fun i j x y hx hy e => hD1.1 i j x y (hl i x hx) (hl j y hy) e, fun i x h => hD1.2 i x (hl i x h)⟩
  obtain ⟨jP, jD⟩ := sc_join hP hD isC hC hk hP1a hD1a ha
  have hnew : ∀ (i : Nat) (x : Nat × va_E), w2[i]? = some x → H.size ≤ x.1 := by
    intro i x h
    rcases hD1.2 _ x (hr i x h) with ⟨k, e, hk⟩ | h1
    · exfalso
      have hx : (w0.map Prod.fst)[k]? = some x.1 := by rw [List.getElem?_map, hk]; rfl
      rw [← ha, List.getElem?_map] at hx
      cases hq : w1[k]? with
      | none => rw [hq] at hx; cases hx
      | some q =>
        rw [hq] at hx
        have h2 := hD1.1 k (w1.length + i) q x (hl k q hq) (hr i x h) (Option.some.inj hx)
        have h3 := (List.getElem?_eq_some_iff.mp hq).1
        omega
    · exact h1
  have hold : ∀ (i : Nat) (x : Nat × va_E), (sc_p ws isC w1)[i]? = some x → x.1 < H.size := by
    intro i x h
    have hll : isC.length = w1.length := by
      have h1 := sc_len hC
      have h2 := congrArg List.length ha
      simp only [List.length_map] at h2
      omega
    rcases sc_get isC w1 ws hll i x h with ⟨j, h1, h2⟩ | ⟨h1, h2⟩
    · obtain ⟨q0, g1, g2⟩ := sc_fst ha h2
      obtain ⟨k, g3, g4⟩ := sc_at' hC g1
      rw [← g2]
      exact (hP k q0 g4).lt
    · exact (hP i x h2).lt
  refine ⟨jP.app (fun i x h => hP1 _ x (hr i x h)), jD.app ⟨fun i j x y hx hy e => ?_, fun i x h => hA _ (Nat.le_trans hS.1 (hnew i x h))⟩ (fun i j x y hx hy e => ?_)⟩
  · have := hD1.1 _ _ x y (hr i x hx) (hr j y hy) e
    omega
  · have h1 := hold i x hx
    have h2 := hnew j y hy
    omega
/-- a contract's start and end -/
def mt_P (D : va_G) (cl : List vw_C) (tys : List (ClassId × FieldType)) (av : List Value) (w : va_W) (sz : Nat) : Array Value → State → Prop := va_Pc av (fun U => U.heap.size = sz ∧ va_P D cl w U.heap ∧ va_K D cl tys U ∧ va_D (fun _ => True) w)
def mt_B (D : va_G) (cl : List vw_C) (tys : List (ClassId × FieldType)) (w0 : va_W) (sz : Nat) {S : Type} (w1 : S → va_W) : S → State → Prop := fun u t => va_P D cl (w1 u) t.heap ∧ va_K D cl tys t ∧ va_D (va_A w0 sz) (w1 u)
theorem mt_blind {D : va_G} {cl : List vw_C} {tys : List (ClassId × FieldType)} {av : List Value} {w : va_W} {sz : Nat} : FrameBlind (mt_P D cl tys av w sz) := fun a U g mk q => by
  obtain ⟨q0, q1, qP, qK, qD⟩ := q
  exact ⟨q0, q1, qP, va_K.moved (u := U) (U := U.calling g mk a) (Vm.Alike.refl U.vm) qK, qD⟩
section MTS
variable {p : Program} {l : Launch} {e : Env} {R : Room} {s : State} {m : MethodId} {args : Array Value} {below : List Frame} {meth : Method} {c : Code} {H : Heap} {locs : List Loc} {cells slots : Nat} {Q : State → Prop}
variable {pc : Nat} {ls : Array Slot} {rest st0 : List Value} {a : Array Value} {A0 : Nat → Prop} {D : va_G} {cl : List vw_C} {tys : List (ClassId × FieldType)} {ws w0 : va_W}
theorem lz_Q {g : JFrame} (h : ∀ Q' : State → Prop, Q' = Q → W p l e R s m args below meth c H locs cells slots Q' g) : W p l e R s m args below meth c H locs cells slots Q g := h Q rfl
/-- a call that answers an int and makes no cell -/
theorem mt_i {S : Type} {post : Int32 → S → Prop} {w1 : S → va_W} (hr : va_Run p l e R s m args below meth c H locs cells slots 0 0 (F0 m pc ls st0) rest (va_Qi post (mt_B D cl tys w0 H.size w1) (va_A w0 H.size) a) (va_A w0 H.size)) (hP : va_P D cl ws H) (hD : va_D A0 ws) (hS : va_S A0 s.heap H locs) (hA : ∀ q, s.heap.size ≤ q → A0 q) (isC : List Nat) (hC : isC.map (fun i => ws[i]?) = w0.map some) (ha : ∀ u, (w1 u).map Prod.fst = w0.map Prod.fst)
    (kk : ∀ (r : Int32) (u : S) (H1 : Heap) (locs1 : List Loc), post r u → va_P D cl (sc_p ws isC (w1 u)) H1 → va_D A0 (sc_p ws isC (w1 u)) → va_S A0 s.heap H1 locs1 → W p l e R s m args below meth c H1 locs1 cells slots Q (F0 m (pc + 3) ls (.int r :: rest))) : W p l e R s m args below meth c H locs cells slots Q (F0 m pc ls st0) := by
  have hFc := va_free hD hS hA isC hC
  refine va_calli hr hS (fun q _ h => hFc q h) hFc (fun r u t H1 locs1 ht hvm hw hB hz1 hk1 hS1 => ?_)
  obtain ⟨hP1, hK1, hD1⟩ := hB
  rw [ht] at hP1
  obtain ⟨jP, jD⟩ := sc_join hP hD isC hC hk1 hP1 hD1 (ha u)
  exact kk r u H1 locs1 hw jP jD hS1
/-- a call that answers nothing and makes no cell -/
theorem mt_v {S : Type} {post : S → Prop} {w1 : S → va_W} (hr : va_Run p l e R s m args below meth c H locs cells slots 0 0 (F0 m pc ls st0) rest (va_Qv post (mt_B D cl tys w0 H.size w1) (va_A w0 H.size) a) (va_A w0 H.size)) (hP : va_P D cl ws H) (hD : va_D A0 ws) (hS : va_S A0 s.heap H locs) (hA : ∀ q, s.heap.size ≤ q → A0 q) (isC : List Nat) (hC : isC.map (fun i => ws[i]?) = w0.map some) (ha : ∀ u, (w1 u).map Prod.fst = w0.map Prod.fst)
    (kk : ∀ (u : S) (H1 : Heap) (locs1 : List Loc), post u → va_P D cl (sc_p ws isC (w1 u)) H1 → va_D A0 (sc_p ws isC (w1 u)) → va_S A0 s.heap H1 locs1 → W p l e R s m args below meth c H1 locs1 cells slots Q (F0 m (pc + 3) ls rest)) : W p l e R s m args below meth c H locs cells slots Q (F0 m pc ls st0) := by
  have hFc := va_free hD hS hA isC hC
  refine va_callv hr hS (fun q _ h => hFc q h) hFc (fun u t H1 locs1 ht hvm hw hB hz1 hk1 hS1 => ?_)
  obtain ⟨hP1, hK1, hD1⟩ := hB
  rw [ht] at hP1
  obtain ⟨jP, jD⟩ := sc_join hP hD isC hC hk1 hP1 hD1 (ha u)
  exact kk u H1 locs1 hw jP jD hS1
/-- a call that answers nothing and makes cells: they come behind -/
theorem mt_vg {S : Type} {mc ms : Nat} {post : S → Prop} {w1 w2 : S → va_W} (hr : va_Run p l e R s m args below meth c H locs cells slots mc ms (F0 m pc ls st0) rest (va_Qv post (mt_B D cl tys w0 H.size (fun u => w1 u ++ w2 u)) (va_A w0 H.size) a) (va_A w0 H.size)) (hP : va_P D cl ws H) (hD : va_D A0 ws) (hS : va_S A0 s.heap H locs) (hA : ∀ q, s.heap.size ≤ q → A0 q) (isC : List Nat) (hC : isC.map (fun i => ws[i]?) = w0.map some) (ha : ∀ u, (w1 u).map Prod.fst = w0.map Prod.fst)
    (kk : ∀ (u : S) (H1 : Heap) (locs1 : List Loc), post u → va_P D cl (sc_p ws isC (w1 u) ++ w2 u) H1 → va_D A0 (sc_p ws isC (w1 u) ++ w2 u) → va_S A0 s.heap H1 locs1 → W p l e R s m args below meth c H1 locs1 (cells + mc) (slots + ms) Q (F0 m (pc + 3) ls rest)) : W p l e R s m args below meth c H locs cells slots Q (F0 m pc ls st0) := by
  have hFc := va_free hD hS hA isC hC
  refine va_callv hr hS (fun q _ h => hFc q h) hFc (fun u t H1 locs1 ht hvm hw hB hz1 hk1 hS1 => ?_)
  obtain ⟨hP1, hK1, hD1⟩ := hB
  rw [ht] at hP1
  obtain ⟨jP, jD⟩ := sc_grow hP hD hS hA isC hC hk1 hP1 hD1 (ha u)
  exact kk u H1 locs1 hw jP jD hS1
/-- the callee's start out of the caller's cells -/
theorem mt_preS (hK : va_K D cl tys s) (hP : va_P D cl ws H) (hD : va_D A0 ws) (As : List Value) (isC : List Nat) (hC : isC.map (fun i => ws[i]?) = w0.map some) (hn : va_nd isC = true) : PreS s H (mt_P D cl tys As w0 H.size) As :=
  ⟨mt_blind, fun U hU hW => ⟨rfl, by rw [hU], by
    rw [hU]
    intro k q hq
    obtain ⟨i, -, h2⟩ := sc_at' hC hq
    exact hP i q h2, va_K.moved hW.alike hK, (hD.sub isC hn hC).weaken (fun _ _ _ _ => trivial)⟩⟩
theorem mt_preV (hK : va_K D cl tys s) (hP : va_P D cl ws H) (hD : va_D A0 ws) {b : Addr} (As : List Value) (isC : List Nat) (hC : isC.map (fun i => ws[i]?) = w0.map some) (hn : va_nd isC = true) {ci q0 : Nat} {q : vw_C} {fs : List Value} (hc : cl[ci]? = some q) (he : ws[q0]? = some (b, .inr (ci, fs))) : PreV s H q.1 b (mt_P D cl tys (.ref b :: As) w0 H.size) As :=
  ⟨mt_blind, va_recv hK hP hc he, (mt_preS hK hP hD (.ref b :: As) isC hC hn).2⟩
end MTS
/-- a contract out of the walk of its body -/
theorem mt_bd {l : Launch} {y : MethodName} {rm : Room} {Qc : Array Value → State → Outcome → State → Prop} {mc ms : Nat} {cc : ByteArray} {maxL : Nat} {ret : Option FieldType} {D : va_G} {cl : List vw_C} {tys : List (ClassId × FieldType)} {av : List Value} {w0 : va_W} {sz : Nat} (hy : plainFor y = true) (hn : (lg_sl av).length ≤ maxL)
    (body : ∀ (p : Program) (e : Env) (s : State) (m : MethodId) (args : Array Value) (below : List Frame) (meth : Method) (c : Code), p.tables.exec = Jvm.exec → c.code = cc → c.maxLocals = maxL → s.vm.findClass y.cls = some m.cls → (∀ w ∈ tb, w.before args s = true) → meth.sig.returnType = ret → meth.locks = false → meth.name = y.name → s.heap.size = sz → va_P D cl w0 s.heap → va_K D cl tys s → va_D (va_A w0 sz) w0 → (∀ q : Nat, s.heap.size ≤ q → va_A w0 sz q) → va_S (va_A w0 sz) s.heap s.heap [] → ∀ ls : Array Slot, lv_has ls maxL (lv_args 0 av) →
      W p l e rm s m args below meth c s.heap [] 0 0 (MQ below Qc args s mc ms (va_A w0 sz)) (F0 m 0 ls [])) : Met l y (Cond.code y cc maxL ret :: tb) rm (mt_P D cl tys av w0 sz) Qc mc ms (va_A w0 sz) := by
  refine MetFree.of_bodySF (code := cc) (maxLocals := maxL) (ret := ret) hy ?_ ?_
  · intro args s m h hn
    obtain ⟨meth, c, h1, h2, h3, h4, h5, h6, -, -⟩ := Cond.code_spec hn (atoms_spec (ws := Cond.code y cc maxL ret :: tb) h _ List.mem_cons_self)
    exact ⟨meth, c, h1, h2, h3, h4, h5, h6⟩
  · intro p e s m args below meth c s₁ B hml hv _
    have hh0 : s₁.heap = s.heap := by rw [B.state]; rfl
    obtain ⟨rfl, hsz, hP, hK, hD0⟩ := hv
    have hl := lv_entry av (n := maxL) hn
    have K : W p l e rm s m av.toArray below meth c s.heap [] 0 0 (MQ below Qc av.toArray s mc ms (va_A w0 sz)) (entryFrame m av.toArray maxL) := by
      rw [lg_entry_eq]
      generalize (lg_sl av ++ List.replicate (maxL - (lg_sl av).length) Slot.unset).toArray = ls at hl ⊢
      exact body p e s m av.toArray below meth c B.exec B.bytes hml (findClass_of_methodNamed B.named) (fun w h => atoms_spec (ws := Cond.code y cc maxL ret :: tb) B.pre w (List.mem_cons_of_mem _ h)) B.returns B.notSynchronized (name_of_methodNamed B.named B.method).1 hsz hP hK hD0.self (fun q h => Or.inr (by omega)) va_S.rf ls hl
    obtain ⟨t, a1, o, b1, b2, b3⟩ := K s₁ hh0 (Stand.of_body B)
    exact ⟨t, o, a1, b1, b2, ⟨b3.1, b3.2⟩⟩
/-- the same, where the start also knows a nest mate's link -/
theorem mt_bdN {l : Launch} {y : MethodName} {rm : Room} {Qc : Array Value → State → Outcome → State → Prop} {mc ms : Nat} {cc : ByteArray} {maxL : Nat} {ret : Option FieldType} {D : va_G} {cl : List vw_C} {tys : List (ClassId × FieldType)} {av : List Value} {w0 : va_W} {sz : Nat} {wn : Cond} (hy : plainFor y = true) (hn : (lg_sl av).length ≤ maxL)
    (body : ∀ (p : Program) (e : Env) (s : State) (m : MethodId) (args : Array Value) (below : List Frame) (meth : Method) (c : Code), p.tables.exec = Jvm.exec → c.code = cc → c.maxLocals = maxL → s.vm.findClass y.cls = some m.cls → (∀ w ∈ tb, w.before args s = true) → meth.sig.returnType = ret → meth.locks = false → meth.name = y.name → s.heap.size = sz → va_P D cl w0 s.heap → va_K D cl tys s → va_D (va_A w0 sz) w0 → (∀ q : Nat, s.heap.size ≤ q → va_A w0 sz q) → va_S (va_A w0 sz) s.heap s.heap [] → va_Nw wn s → ∀ ls : Array Slot, lv_has ls maxL (lv_args 0 av) →
      W p l e rm s m args below meth c s.heap [] 0 0 (MQ below Qc args s mc ms (va_A w0 sz)) (F0 m 0 ls [])) : Met l y (Cond.code y cc maxL ret :: tb) rm (fun v U => mt_P D cl tys av w0 sz v U ∧ va_Nw wn U) Qc mc ms (va_A w0 sz) := by
  refine MetFree.of_bodySF (code := cc) (maxLocals := maxL) (ret := ret) hy ?_ ?_
  · intro args s m h hn
    obtain ⟨meth, c, h1, h2, h3, h4, h5, h6, -, -⟩ := Cond.code_spec hn (atoms_spec (ws := Cond.code y cc maxL ret :: tb) h _ List.mem_cons_self)
    exact ⟨meth, c, h1, h2, h3, h4, h5, h6⟩
  · intro p e s m args below meth c s₁ B hml hv _
    have hh0 : s₁.heap = s.heap := by rw [B.state]; rfl
    obtain ⟨⟨rfl, hsz, hP, hK, hD0⟩, hN⟩ := hv
    have hl := lv_entry av (n := maxL) hn
    have K : W p l e rm s m av.toArray below meth c s.heap [] 0 0 (MQ below Qc av.toArray s mc ms (va_A w0 sz)) (entryFrame m av.toArray maxL) := by
      rw [lg_entry_eq]
      generalize (lg_sl av ++ List.replicate (maxL - (lg_sl av).length) Slot.unset).toArray = ls at hl ⊢
      exact body p e s m av.toArray below meth c B.exec B.bytes hml (findClass_of_methodNamed B.named) (fun w h => atoms_spec (ws := Cond.code y cc maxL ret :: tb) B.pre w (List.mem_cons_of_mem _ h)) B.returns B.notSynchronized (name_of_methodNamed B.named B.method).1 hsz hP hK hD0.self (fun q h => Or.inr (by omega)) va_S.rf hN ls hl
    obtain ⟨t, a1, o, b1, b2, b3⟩ := K s₁ hh0 (Stand.of_body B)
    exact ⟨t, o, a1, b1, b2, ⟨b3.1, b3.2⟩⟩
theorem tb_cN {R : Room} {s : State} {args : Array Value} {own host : String} {index : Nat} {y : MethodName} {bytes : ByteArray} {maxL n : Nat} {rm : Room} {mc ms : Nat} (hts : ∀ w ∈ tb, w.before args s = true) (ok : tb_mI y bytes maxL n) (hl : va_Nw (.methodLinkNest own index y host) s) (hrc : rm.cells = mc) (hrs : rm.slots = ms) (hR : rm.frames + 1 ≤ R.frames ∧ 8 + (maxL + 11) + rm.locals ≤ R.locals) : va_CN R s args own index y host bytes maxL none (Cond.code y bytes maxL none :: tb) rm mc ms n ∧ y.name = "<init>" ∧ (Cond.instanceMethod y).before args s = true :=
  ⟨va_cnB n hts (tb_goodIn ok.1) rfl hrc hrs hl (hts _ ok.2.1) ok.2.2.2.2 hR, ok.2.2.2.1, hts _ ok.2.2.1⟩
section MTR
variable {p : Program} {l : Launch} {e : Env} {R : Room} {s : State} {m : MethodId} {args : Array Value} {below : List Frame} {meth : Method} {c : Code} {H : Heap} {locs : List Loc} {cells slots : Nat} {cc : ByteArray}
variable {pc : Nat} {ls : Array Slot} {D : va_G} {cl : List vw_C} {tys : List (ClassId × FieldType)} {w0 : va_W}
theorem mt_reti {S : Type} {post : Int32 → S → Prop} {w1 : S → va_W} {v : Int32} (u : S) (hx : p.tables.exec = Jvm.exec) (hb : c.code = cc) (hr : meth.sig.returnType = some .int) (hlk : meth.locks = false) (hdg : decode cc pc = .ok (.ireturn, 1)) (hK : va_K D cl tys s) (hP : va_P D cl (w1 u) H) (hD : va_D (va_A w0 s.heap.size) (w1 u)) (hS : va_S (va_A w0 s.heap.size) s.heap H locs) (h : post v u) : W p l e R s m args below meth c H locs cells slots (MQ below (va_Qi post (mt_B D cl tys w0 s.heap.size w1) (va_A w0 s.heap.size)) args s cells slots (va_A w0 s.heap.size)) (F0 m pc ls [.int v]) :=
  W.iret hx hb hr (fun t ht hW => ⟨⟨v, u, rfl, h, by rw [ht]; exact hP, va_K.moved hW.alike hK, hD⟩, hS.F ht⟩) hS.2.2 hdg hlk
theorem mt_retz {S : Type} {post : Int32 → S → Prop} {w1 : S → va_W} {v : Int32} (u : S) (hx : p.tables.exec = Jvm.exec) (hb : c.code = cc) (hr : meth.sig.returnType = some .boolean) (hlk : meth.locks = false) (hdg : decode cc pc = .ok (.ireturn, 1)) (hK : va_K D cl tys s) (hP : va_P D cl (w1 u) H) (hD : va_D (va_A w0 s.heap.size) (w1 u)) (hS : va_S (va_A w0 s.heap.size) s.heap H locs) (hn : narrow .boolean (.int v) = .int v) (h : post v u) : W p l e R s m args below meth c H locs cells slots (MQ below (va_Qi post (mt_B D cl tys w0 s.heap.size w1) (va_A w0 s.heap.size)) args s cells slots (va_A w0 s.heap.size)) (F0 m pc ls [.int v]) :=
  W.zret hx hb hr hn (fun t ht hW => ⟨⟨v, u, rfl, h, by rw [ht]; exact hP, va_K.moved hW.alike hK, hD⟩, hS.F ht⟩) hS.2.2 hdg hlk
theorem mt_retv {S : Type} {post : S → Prop} {w1 : S → va_W} (u : S) (hx : p.tables.exec = Jvm.exec) (hb : c.code = cc) (hr : meth.sig.returnType = none) (hlk : meth.locks = false) (hdg : decode cc pc = .ok (.return_, 1)) (hK : va_K D cl tys s) (hP : va_P D cl (w1 u) H) (hD : va_D (va_A w0 s.heap.size) (w1 u)) (hS : va_S (va_A w0 s.heap.size) s.heap H locs) (h : post u) : W p l e R s m args below meth c H locs cells slots (MQ below (va_Qv post (mt_B D cl tys w0 s.heap.size w1) (va_A w0 s.heap.size)) args s cells slots (va_A w0 s.heap.size)) (F0 m pc ls []) :=
  W.vret hx hb hr (fun t ht hW => ⟨⟨u, rfl, h, by rw [ht]; exact hP, va_K.moved hW.alike hK, hD⟩, hS.F ht⟩) hS.2.2 hdg hlk
/-- a new array of a known kind -/
theorem mt_newa {Q : State → Prop} {ws : va_W} {A : Nat → Prop} {rest : List Value} (hx : p.tables.exec = Jvm.exec) (hb : c.code = cc) {atype : ArrayType} (harr : (Cond.arrayClass (newarray.typeOf atype)).before args s = true) {ty : FieldType} (hty : newarray.typeOf atype = ty) {t0 : Nat} {cA : ClassId} (ht : tys[t0]? = some (cA, ty)) (hno : ∀ C, ty ≠ .object C) (hK : va_K D cl tys s) (hP : va_P D cl ws H) (hD : va_D A ws) (hS : va_S A s.heap H locs) (hA : ∀ q, s.heap.size ≤ q → A q)
    {n : Int32} {N' : Nat} {a0 : vp_A} (ha : ∀ cA : ClassId, vp_cell cA a0 = arrV cA N' (fun _ => defaultValue ty)) (hn : ¬ n < 0) (hN : n.toNatClampNeg = N') (hbytes : N' * componentBytes ty ≤ 536870912) (hcells : cells + 1 ≤ R.cells) (hslots : slots + N' ≤ R.slots) (hdg : decode cc pc = .ok (.newarray atype, 2))
    (kk : ∀ (q : Nat) (H1 : Heap), va_P D cl (ws ++ [(q, .inl (cA, a0))]) H1 → va_D A (ws ++ [(q, .inl (cA, a0))]) → va_S A s.heap H1 locs → W p l e R s m args below meth c H1 locs (cells + 1) (slots + N') Q (F0 m (pc + 2) ls (.ref q :: rest))) : W p l e R s m args below meth c H locs cells slots Q (F0 m pc ls (.int n :: rest)) := by
  refine va_newa hx hb harr hty hK hP hD hS hA ha hn hN hbytes hcells hslots hdg (fun q cB H1 hK1 hP1 hD1 hS1 => ?_)
  have h1 := (hK.2 t0 _ ht).2
  have h2 := (hK1.2 tys.length (cB, ty) (by rw [List.getElem?_append_right (Nat.le_refl _), Nat.sub_self]; rfl)).2
  have h3 : cB = cA := by
    cases ty with
    | object C => exact absurd rfl (hno C)
    | _ => exact Option.some.inj (Eq.trans (Eq.symm h2) h1)
  subst h3
  exact kk q H1 hP1 hD1 hS1
end MTR
