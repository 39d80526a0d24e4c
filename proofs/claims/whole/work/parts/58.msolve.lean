/-! The reference's elimination, its bytecode's predicate. -/
section GB
theorem mt_set {K : Type} [F : Lean.Grind.Field K] {en : K → Nat} {R u : Nat} (hu : u ≤ 40) {f : Nat → Int32} {N : Nat → Nat → K} (h : mt_ok en R u f N) {a b : Nat} (hb : b ≤ u) (v : K) : mt_ok en R u (upd f (41 * a + b) (nI (en v))) (fun i j => if i = a ∧ j = b then v else N i j) := by
  intro i hi j hj
  show upd f (41 * a + b) (nI (en v)) (41 * i + j) = nI (en (if i = a ∧ j = b then v else N i j))
  by_cases e : i = a ∧ j = b
  · rw [if_pos e, e.1, e.2]; exact pk_us
  · rw [if_neg e, pk_un (by intro e2; apply e; omega)]; exact h i hi j hj
theorem mt_congr {K : Type} [F : Lean.Grind.Field K] {en : K → Nat} {R u : Nat} {f : Nat → Int32} {N M : Nat → Nat → K} (h : mt_ok en R u f N) (hNM : ∀ i, i < R → ∀ j, j ≤ u → N i j = M i j) : mt_ok en R u f M := fun i hi j hj => by rw [← hNM i hi j hj]; exact h i hi j hj
/-- the answers are copied -/
theorem ms_324 {K : Type} [F : Lean.Grind.Field K] {en : K → Nat} {R u : Nat} (hR : R ≤ 40) (hu : u ≤ R) {f : Nat → Int32} {N : Nat → Nat → K} (hf : mt_ok en R u f N) {post : Int32 → (Nat → Int32) → (Nat → Int32) → Prop} (h : ∀ A : Nat → Int32, (∀ j, j < u → A j = nI (en (N j u))) → post 1 f A) : ∀ (n c : Nat) (A : Nat → Int32), c ≤ u → u - c < n → (∀ j, j < c → A j = nI (en (N j u))) → wp_Mo_solve_L324 post n f A (nI u) (nI c) := by
  intro n
  induction n with
  | zero => intro c A g1 g2; omega
  | succ n ih =>
    intro c A g1 g2 g3
    refine pk_le u c (fun q => h A (fun j hj => g3 j (by omega))) (fun q => ?_)
    rw [ix41, nI_clamp (show 41 * c + u < 2 ^ 31 by omega), nI_clamp (show c < 2 ^ 31 by omega), hf c (by omega) u (Nat.le_refl _)]
    refine ⟨vp_in_nI (by omega) (by decide), vp_in_nI (by omega) (by decide), nm_r (nI_1 c) ?_⟩
    refine ih (c + 1) _ (by omega) (by omega) (fun j hj => ?_)
    by_cases e : j = c
    · subst e; exact pk_us
    · rw [pk_un e]; exact g3 j (by omega)
theorem ms_292 {K : Type} [F : Lean.Grind.Field K] {en : K → Nat} {al : K} (G : gf_ok K F en al) {R u : Nat} (hR : R ≤ 40) (hu : u ≤ R) {f A : Nat → Int32} {N : Nat → Nat → K} (hf : mt_ok en R u f N) {post : Int32 → (Nat → Int32) → (Nat → Int32) → Prop} (h1 : (∀ i, u ≤ i → i < R → N i u = 0) → ∀ A : Nat → Int32, (∀ j, j < u → A j = nI (en (N j u))) → post 1 f A) (h0 : (∃ i, u ≤ i ∧ i < R ∧ N i u ≠ 0) → post 0 f A) : ∀ (n i : Nat), u ≤ i → i ≤ R → R - i < n → (∀ x, u ≤ x → x < i → N x u = 0) → wp_Mo_solve_L292 post n f A (nI R) (nI u) (nI i) := by
  intro n
  induction n with
  | zero => intro i g1 g2 g3; omega
  | succ n ih =>
    intro i g1 g2 g3 g4
    refine pk_le R i (fun q => ?_) (fun q => ?_)
    · exact ⟨u + 1, ms_324 hR hu hf (h1 (fun x hx hx2 => g4 x hx (by omega))) (u + 1) 0 A (by omega) (by omega) (fun j hj => absurd hj (Nat.not_lt_zero j))⟩
    · rw [ix41, nI_clamp (show 41 * i + u < 2 ^ 31 by omega), hf i q u (Nat.le_refl _)]
      refine ⟨vp_in_nI (by omega) (by decide), ?_⟩
      refine pk_eq (en (N i u)) 0 (fun q2 => nm_r (nI_1 i) ?_) (fun q2 => ?_) (ha := by have := gf_lt G (N i u); omega) (hb := by decide)
      · refine ih (i + 1) (by omega) (by omega) (by omega) (fun x hx hx2 => ?_)
        by_cases e : x = i
        · subst e; exact (gf_en0 G).mp q2
        · exact g4 x hx (by omega)
      · exact h0 ⟨i, g1, q, fun e => q2 ((gf_en0 G).mpr e)⟩
/-- one row loses column c -/
theorem ms_207 {K : Type} [F : Lean.Grind.Field K] {en : K → Nat} {al : K} (G : gf_ok K F en al) {R u c i : Nat} (hR : R ≤ 40) (hu : u ≤ 40) (hc : c < R) (hi : i < R) {N : Nat → Nat → K} {A : Nat → Int32} {post : Int32 → (Nat → Int32) → (Nat → Int32) → Prop} {K5 : (Nat → Int32) → (Nat → Int32) → Int32 → Int32 → Int32 → Int32 → Prop} {K183 : (Nat → Int32) → (Nat → Int32) → Int32 → Int32 → Int32 → Int32 → Int32 → Prop} (a : K)
    (h : ∀ f : Nat → Int32, mt_ok en R u f (fun x j => if x = i ∧ ¬ i = c then N x j + a * N c j else N x j) → K183 f A (nI R) (nI u) (nI c) (nI c) (nI (i + 1))) : ∀ (n j : Nat) (f : Nat → Int32), j ≤ u + 1 → u + 1 - j < n → mt_ok en R u f (fun x y => if x = i ∧ ¬ i = c ∧ y < j then N x y + a * N c y else N x y) → wp_Mo_solve_L207 post K5 K183 n f A (nI R) (nI u) (nI c) (nI c) (nI i) (nI (en a)) (nI j) := by
  intro n
  induction n with
  | zero => intro j f g1 g2; omega
  | succ n ih =>
    intro j f g1 g2 g3
    refine pk_lt u j (fun q => nm_r (nI_1 i) (h f (mt_congr g3 (fun x hx y hy => ?_)))) (fun q => pk_eq i c (fun q2 => nm_r (nI_1 i) (h f (mt_congr g3 (fun x hx y hy => ?_)))) (fun q2 => pk_eq (en a) 0 (fun q3 => nm_r (nI_1 i) (h f (mt_congr g3 (fun x hx y hy => ?_)))) (fun q3 => ?_) (ha := by have := gf_lt G a; omega) (hb := by decide)))
    · by_cases e : x = i ∧ ¬ i = c
      · rw [if_pos e, if_pos ⟨e.1, e.2, by omega⟩]
      · rw [if_neg e, if_neg (fun e2 => e ⟨e2.1, e2.2.1⟩)]
    · rw [if_neg (fun e => e.2.1 q2), if_neg (fun e => e.2 q2)]
    · have ha : a = 0 := (gf_en0 G).mp q3
      by_cases e : x = i ∧ ¬ i = c
      · rw [if_pos e]
        by_cases e2 : y < j
        · rw [if_pos ⟨e.1, e.2, e2⟩]
        · rw [if_neg (fun e3 => e2 e3.2.2), ha]; grind
      · rw [if_neg e, if_neg (fun e2 => e ⟨e2.1, e2.2.1⟩)]
    · have r1 := g3 i hi j (by omega)
      dsimp only at r1
      rw [if_neg (by omega)] at r1
      have r2 := g3 c hc j (by omega)
      dsimp only at r2
      rw [if_neg (fun e => q2 e.1.symm)] at r2
      rw [ix41, ix41, nI_clamp (show 41 * c + j < 2 ^ 31 by omega), nI_clamp (show 41 * i + j < 2 ^ 31 by omega), r1, r2]
      refine ⟨vp_in_nI (by omega) (by decide), vp_in_nI (by omega) (by decide), sp_by G _ _ ⟨vp_in_nI (by omega) (by decide), nm_r (nI_1 j) ?_⟩⟩
      rw [nx_xor, ← gf_add G]
      refine ih (j + 1) _ (by omega) (by omega) (mt_congr (mt_set hu g3 (show j ≤ u by omega) _) (fun x hx y hy => ?_))
      by_cases e : x = i ∧ y = j
      · rw [if_pos e, if_pos ⟨e.1, q2, by omega⟩, e.1, e.2]
      · rw [if_neg e]
        by_cases e2 : x = i ∧ ¬ i = c ∧ y < j
        · rw [if_pos e2, if_pos ⟨e2.1, e2.2.1, by omega⟩]
        · rw [if_neg e2, if_neg (fun e3 => e2 ⟨e3.1, e3.2.1, by rcases Nat.lt_or_ge y j with q4 | q4; exact q4; exact absurd ⟨e3.1, by omega⟩ e⟩)]
/-- all rows lose column c -/
theorem ms_183 {K : Type} [F : Lean.Grind.Field K] {en : K → Nat} {al : K} (G : gf_ok K F en al) {R u c p : Nat} (hR : R ≤ 40) (hu : u ≤ 40) (hc : c < R) (hcu : c < u) {N : Nat → Nat → K} {A : Nat → Int32} {post : Int32 → (Nat → Int32) → (Nat → Int32) → Prop} {K5 : (Nat → Int32) → (Nat → Int32) → Int32 → Int32 → Int32 → Int32 → Prop}
    (h : ∀ f : Nat → Int32, mt_ok en R u f (st_e N c p) → K5 f A (nI R) (nI u) (nI (c + 1)) (nI (c + 1))) : ∀ (n i : Nat) (f : Nat → Int32), i ≤ R → R - i < n → mt_ok en R u f (fun x j => if x < i then st_e N c p x j else st_n N c p x j) → wp_Mo_solve_L183 post K5 n f A (nI R) (nI u) (nI c) (nI c) (nI i) := by
  intro n
  induction n with
  | zero => intro i f g1 g2; omega
  | succ n ih =>
    intro i f g1 g2 g3
    refine pk_le R i (fun q => nm_r (nI_1 c) (nm_r (nI_1 c) (h f (mt_congr g3 (fun x hx y hy => by rw [if_pos (by omega)]))))) (fun q => ?_)
    have r1 := g3 i q c (by omega)
    dsimp only at r1
    rw [if_neg (by omega)] at r1
    rw [ix41, nI_clamp (show 41 * i + c < 2 ^ 31 by omega), r1]
    refine ⟨vp_in_nI (by omega) (by decide), nm_e ⟨u + 2, ?_⟩⟩
    have hcrow : ∀ j, (if c < i then st_e N c p c j else st_n N c p c j) = st_n N c p c j := by
      intro j
      by_cases e : c < i
      · rw [if_pos e]; unfold st_e; rw [if_pos rfl]
      · rw [if_neg e]
    refine ms_207 G hR hu hc q (N := fun x j => if x < i then st_e N c p x j else st_n N c p x j) (st_n N c p i c) (fun f' hf' => ih (i + 1) f' (by omega) (by omega) (mt_congr hf' (fun x hx y hy => ?_))) (u + 2) 0 f (by omega) (by omega) (mt_congr g3 (fun x hx y hy => (if_neg (fun e => absurd e.2.2 (Nat.not_lt_zero _))).symm))
    show (if x = i ∧ ¬ i = c then (if x < i then st_e N c p x y else st_n N c p x y) + st_n N c p i c * (if c < i then st_e N c p c y else st_n N c p c y) else (if x < i then st_e N c p x y else st_n N c p x y)) = if x < i + 1 then st_e N c p x y else st_n N c p x y
    rw [hcrow]
    by_cases e : x = i
    · subst e
      rw [if_neg (Nat.lt_irrefl x), if_pos (Nat.lt_succ_self x)]
      unfold st_e
      by_cases e2 : x = c
      · rw [if_neg (fun e3 => e3.2 e2), if_pos e2, e2]
      · rw [if_pos ⟨rfl, e2⟩, if_neg e2]
    · rw [if_neg (fun e2 => e e2.1)]
      by_cases e2 : x < i
      · rw [if_pos e2, if_pos (by omega)]
      · rw [if_neg e2, if_neg (by omega)]
/-- row c begins with 1 -/
theorem ms_139 {K : Type} [F : Lean.Grind.Field K] {en : K → Nat} {al : K} (G : gf_ok K F en al) {R u c p : Nat} (hR : R ≤ 40) (hu : u ≤ 40) (hc : c < R) (hcu : c < u) {N : Nat → Nat → K} {A : Nat → Int32} {post : Int32 → (Nat → Int32) → (Nat → Int32) → Prop} {K5 : (Nat → Int32) → (Nat → Int32) → Int32 → Int32 → Int32 → Int32 → Prop}
    (h : ∀ f : Nat → Int32, mt_ok en R u f (st_e N c p) → K5 f A (nI R) (nI u) (nI (c + 1)) (nI (c + 1))) : ∀ (n j : Nat) (f : Nat → Int32), j ≤ u + 1 → u + 1 - j < n → mt_ok en R u f (fun x y => if x = c ∧ j ≤ y then N p y else st_n N c p x y) → wp_Mo_solve_L139 post K5 n f A (nI R) (nI u) (nI c) (nI c) (nI (en (N p c)⁻¹)) (nI j) := by
  intro n
  induction n with
  | zero => intro j f g1 g2; omega
  | succ n ih =>
    intro j f g1 g2 g3
    refine pk_lt u j (fun q => ⟨R + 1, ms_183 G hR hu hc hcu h (R + 1) 0 f (by omega) (by omega) (mt_congr g3 (fun x hx y hy => ?_))⟩) (fun q => ?_)
    · rw [if_neg (by omega), if_neg (Nat.not_lt_zero x)]
    · have r1 := g3 c hc j (by omega)
      dsimp only at r1
      rw [if_pos ⟨rfl, Nat.le_refl _⟩] at r1
      rw [ix41, nI_clamp (show 41 * c + j < 2 ^ 31 by omega), r1]
      refine ⟨vp_in_nI (by omega) (by decide), sp_by G _ _ ⟨vp_in_nI (by omega) (by decide), nm_r (nI_1 j) ?_⟩⟩
      refine ih (j + 1) _ (by omega) (by omega) (mt_congr (mt_set hu g3 (show j ≤ u by omega) _) (fun x hx y hy => ?_))
      by_cases e : x = c ∧ y = j
      · rw [if_pos e, if_neg (by omega), e.1, e.2]
        unfold st_n
        rw [if_pos rfl]
      · rw [if_neg e]
        by_cases e2 : x = c ∧ j ≤ y
        · rw [if_pos e2, if_pos ⟨e2.1, by omega⟩]
        · rw [if_neg e2, if_neg (by omega)]
/-- rows p and c change places -/
theorem ms_53 {K : Type} [F : Lean.Grind.Field K] {en : K → Nat} {al : K} (G : gf_ok K F en al) {R u c p : Nat} (hR : R ≤ 40) (hu : u ≤ 40) (hc : c < R) (hp : p < R) (hcu : c < u) {N : Nat → Nat → K} {A : Nat → Int32} {post : Int32 → (Nat → Int32) → (Nat → Int32) → Prop} {K5 : (Nat → Int32) → (Nat → Int32) → Int32 → Int32 → Int32 → Int32 → Prop}
    (h : ∀ f : Nat → Int32, mt_ok en R u f (st_e N c p) → K5 f A (nI R) (nI u) (nI (c + 1)) (nI (c + 1))) : ∀ (n j : Nat) (f : Nat → Int32), j ≤ u + 1 → u + 1 - j < n → mt_ok en R u f (fun x y => if y < j then st_g N c p x y else N x y) → wp_Mo_solve_L53 post K5 n f A (nI R) (nI u) (nI c) (nI c) (nI p) (nI j) := by
  intro n
  induction n with
  | zero => intro j f g1 g2; omega
  | succ n ih =>
    intro j f g1 g2 g3
    refine pk_lt u j (fun q => ?_) (fun q => ?_)
    · have r1 := g3 c hc c (by omega)
      dsimp only at r1
      rw [if_pos (by omega)] at r1
      have e1 : st_g N c p c c = N p c := by unfold st_g; rw [if_pos rfl]
      rw [e1] at r1
      rw [ix41, nI_clamp (show 41 * c + c < 2 ^ 31 by omega), r1]
      refine ⟨vp_in_nI (by omega) (by decide), sp_inverse G _ ⟨u + 2, ms_139 G hR hu hc hcu h (u + 2) 0 f (by omega) (by omega) (mt_congr g3 (fun x hx y hy => ?_))⟩⟩
      rw [if_pos (by omega)]
      by_cases e : x = c
      · rw [if_pos ⟨e, Nat.zero_le _⟩, e]; unfold st_g; rw [if_pos rfl]
      · rw [if_neg (fun e2 => e e2.1)]; unfold st_n; rw [if_neg e]
    · have r1 := g3 p hp j (by omega)
      dsimp only at r1
      rw [if_neg (Nat.lt_irrefl j)] at r1
      have r2 := g3 c hc j (by omega)
      dsimp only at r2
      rw [if_neg (Nat.lt_irrefl j)] at r2
      rw [ix41, ix41, nI_clamp (show 41 * p + j < 2 ^ 31 by omega), nI_clamp (show 41 * c + j < 2 ^ 31 by omega), r1, r2]
      refine ⟨vp_in_nI (by omega) (by decide), nm_e ⟨vp_in_nI (by omega) (by decide), vp_in_nI (by omega) (by decide), vp_in_nI (by omega) (by decide), nm_r (nI_1 j) ?_⟩⟩
      refine ih (j + 1) _ (by omega) (by omega) (mt_congr (mt_set hu (mt_set hu g3 (show j ≤ u by omega) (a := p) (N c j)) (show j ≤ u by omega) (a := c) (N p j)) (fun x hx y hy => ?_))
      by_cases e : y = j
      · rw [if_pos (show y < j + 1 by omega)]
        subst e
        unfold st_g
        by_cases e1 : x = c
        · rw [if_pos ⟨e1, rfl⟩, if_pos e1]
        · rw [if_neg (fun e2 => e1 e2.1), if_neg e1]
          by_cases e2 : x = p
          · rw [if_pos ⟨e2, rfl⟩, if_pos e2]
          · rw [if_neg (fun e3 => e2 e3.1), if_neg e2, if_neg (Nat.lt_irrefl y)]
      · rw [if_neg (fun e2 => e e2.2), if_neg (fun e2 => e e2.2)]
        by_cases e2 : y < j
        · rw [if_pos e2, if_pos (by omega)]
        · rw [if_neg e2, if_neg (by omega)]
theorem sp_msolve {K : Type} [F : Lean.Grind.Field K] {en : K → Nat} {al : K} (G : gf_ok K F en al) {R u : Nat} (hR : R ≤ 40) (hu : u ≤ 40) {f A : Nat → Int32} {M : Nat → Nat → K} (hf : mt_ok en R u f M) {post : Int32 → (Nat → Int32) → (Nat → Int32) → Prop} (h1 : ∀ (f' A' : Nat → Int32) (z : Nat → K), (∀ j, j < u → A' j = nI (en (z j))) → (∀ i, i < R → ra_sum u (fun j => M i j * z j) = M i u) → post 1 f' A') (h0 : ((¬ ∃ z : Nat → K, ∀ i, i < R → ra_sum u (fun j => M i j * z j) = M i u) ∨ ∃ z : Nat → K, (∃ j, j < u ∧ z j ≠ 0) ∧ ∀ i, i < R → ra_sum u (fun j => M i j * z j) = 0) → ∀ f' A' : Nat → Int32, post 0 f' A') : wp_Mo_solve f A (nI R) (nI u) post := by
  have key : ∀ (n c : Nat) (f : Nat → Int32) (N : Nat → Nat → K), c ≤ u → c ≤ R → u - c < n → mt_ok en R u f N → eq_n R u N M → un_c R c N → wp_Mo_solve_L5 post n f A (nI R) (nI u) (nI c) (nI c) := by
    intro n
    induction n with
    | zero => intro c f N g1 g2 g3; omega
    | succ n ih =>
      intro c f N g1 g2 g3 g4 g5 g6
      refine pk_le u c (fun q => ?_) (fun q => ?_)
      · have hcu : c = u := by omega
        subst hcu
        have he := st_end (gf_two G) g2 g5 g6
        exact ⟨R + 1, ms_292 G hR g2 g4 (fun hz A' hA' => h1 f A' (fun j => N j c) hA' (he.1 hz)) (fun hz => h0 (Or.inl (he.2 hz)) f A) (R + 1) c (Nat.le_refl _) g2 (by omega) (fun x h1 h2 => by omega)⟩
      · have found : ∀ p, c ≤ p → p < R → N p c ≠ 0 → wp_Mo_solve_b42 post (wp_Mo_solve_L5 post n) f A (nI R) (nI u) (nI c) (nI c) (nI p) := by
          intro p hcp hp hne
          refine pz_ne p R (fun _ => ⟨u + 2, ?_⟩) (fun e => by omega)
          exact ms_53 G hR hu (by omega) hp q (fun f' hf' => ih (c + 1) f' (st_e N c p) (by omega) (by omega) (by omega) hf' (fun w => (st_same (by omega) hp N hne w).trans (g5 w)) (st_unit (gf_two G) (by omega) hp hcp hne g6)) (u + 2) 0 f (by omega) (by omega) (mt_congr g4 (fun x hx y hy => by rw [if_neg (Nat.not_lt_zero y)]))
        have search : ∀ (m p : Nat), c ≤ p → p ≤ R → R - p < m → (∀ x, c ≤ x → x < p → N x c = 0) → wp_Mo_solve_L14 post (wp_Mo_solve_L5 post n) m f A (nI R) (nI u) (nI c) (nI c) (nI p) := by
          intro m
          induction m with
          | zero => intro p k1 k2 k3; omega
          | succ m ihm =>
            intro p k1 k2 k3 k4
            refine pk_le R p (fun q2 => ?_) (fun q2 => ?_)
            · have hpR : p = R := by omega
              subst hpR
              refine pz_ne p p (fun e => absurd rfl e) (fun _ => ?_)
              exact h0 (Or.inr (st_null (gf_two G) q g5 g6 k4)) f A
            · rw [ix41, nI_clamp (show 41 * p + c < 2 ^ 31 by omega), g4 p q2 c (by omega)]
              refine ⟨vp_in_nI (by omega) (by decide), ?_⟩
              refine pz_ne (en (N p c)) 0 (fun q3 => found p k1 q2 (fun e => q3 ((gf_en0 G).mpr e))) (fun q3 => nm_r (nI_1 p) ?_) (ha := by have := gf_lt G (N p c); omega) (hb := by decide)
              refine ihm (p + 1) (by omega) (by omega) (by omega) (fun x hx hx2 => ?_)
              by_cases e : x = p
              · subst e; exact (gf_en0 G).mp q3
              · exact k4 x hx (by omega)
        exact ⟨R - c + 1, search _ c (Nat.le_refl _) g2 (by omega) (fun x h1 h2 => by omega)⟩
  exact ⟨u + 1, key (u + 1) 0 f M (by omega) (by omega) (by omega) hf (fun w => Iff.rfl) (fun i hi j hj => absurd hj (Nat.not_lt_zero j))⟩
end GB
