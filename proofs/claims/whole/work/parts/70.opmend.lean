/-! mend: one stripe. -/
def md_X {α : Type} (z : α) (m s r : Nat) (f : Nat → α) (p : Nat) : α := if p < (m + s - 1) / s then (if p * s + r < m then f (p * s + r) else z) else f (m + (p - (m + s - 1) / s) * s + r)
theorem md_at {α : Type} {z : α} {m s r k i : Nat} (hs : 1 ≤ s) (hi : i < m + s * k) (hr : rw_ m s i = r) (f : Nat → α) : md_X z m s r f (ps_ m s ((m + s - 1) / s) i) = f i := by
  subst hr
  unfold md_X
  rcases Nat.lt_or_ge i m with q | q
  · have h := ps_data hs q
    rw [if_pos h.1, ← h.2, if_pos q]
  · have h := ps_rep (k := k) hs q hi
    rw [if_neg (by omega), ← h.2.2]
theorem md_none {α : Type} {z : α} {m s r p : Nat} (f : Nat → α) (h1 : p < (m + s - 1) / s) (h2 : m ≤ p * s + r) : md_X z m s r f p = z := by
  unfold md_X
  rw [if_pos h1, if_neg (by omega)]
theorem md_last {m s r p : Nat} (hs : 1 ≤ s) (hr : r < s) (h1 : p < (m + s - 1) / s) (h2 : m ≤ p * s + r) : p = (m + s - 1) / s - 1 := by
  have h3 := lg_le (m := m) hs
  have h4 : s * ((m + s - 1) / s) < s * (p + 2) := by
    rw [Nat.mul_add, Nat.mul_comm s p]; omega
  have h5 := Nat.lt_of_mul_lt_mul_left h4
  omega
def md_good {K : Type} [Lean.Grind.Field K] (en : K → Nat) (al : K) (m s k b r : Nat) (x : Nat → K) (lp : Nat → Bool) (t : Nat) (e : Nat → K) : Prop :=
  er_ok en al ((m + s - 1) / s + k) k b (fun p => if md_X false m s r lp p then 0 else md_X 0 m s r x p) (md_X false m s r lp) t e ∧ (m ≤ ((m + s - 1) / s - 1) * s + r → e ((m + s - 1) / s - 1) = 0)
def md_x {K : Type} [Lean.Grind.Field K] (m s r : Nat) (x : Nat → K) (lp : Nat → Bool) (e : Nat → K) (i : Nat) : K := if rw_ m s i = r then (if lp i then 0 else x i) + e (ps_ m s ((m + s - 1) / s) i) else x i
def md_l (m s r : Nat) (lp : Nat → Bool) (i : Nat) : Bool := if rw_ m s i = r then false else lp i
theorem sp_take {q p : Nat} (hp : p < 240) {Vb Vl : Nat → Int32} {v : Int32} {b : Bool} {post : Int32 → (Nat → Int32) → (Nat → Int32) → Prop} (h : post (nI (q + if b then 1 else 0)) (upd Vb p v) (upd Vl p (if b then 1 else 0))) : wp_Wo_take (nI q) Vb Vl (nI p) v (if b then 1 else 0) post := by
  refine ⟨vp_in_nI hp (by decide), vp_in_nI hp (by decide), ?_⟩
  rw [nI_clamp (by omega), vn_z]
  cases b with
  | true => exact bf (by decide) (nm_r (nI_1 q) h)
  | false => exact bt rfl h
theorem sp_loadStripe {K : Type} [F : Lean.Grind.Field K] {en : K → Nat} {al : K} (G : gf_ok K F en al) {m s k r : Nat} (hm : m ≤ 800) (hs : 1 ≤ s) (hs2 : s ≤ 16) (hlg : (m + s - 1) / s ≤ 200) (hr : r < s) (hk : k ≤ 40) {x : Nat → K} {lp : Nat → Bool} {Pl Pc : Nat → Int32} (hx : ∀ i, i < m + s * k → Pc i = nI (en (x i))) (hl : zB Pl lp (m + s * k)) {z : Int32} {Vb Vl : Nat → Int32} {post : Int32 → (Nat → Int32) → (Nat → Int32) → Prop} (h : ∀ f g : Nat → Int32, (∀ p, p < (m + s - 1) / s + k → f p = nI (en (md_X 0 m s r x p))) → zB g (md_X false m s r lp) ((m + s - 1) / s + k) → post (nI (cn (md_X false m s r lp) ((m + s - 1) / s + k))) f g) : wp_St_loadStripe z (nI ((m + s - 1) / s)) (nI k) Vb Vl (nI m) (nI s) Pl Pc (nI r) post := by
  have hsk := Nat.mul_le_mul hs2 hk
  refine sp_findAll (fun fl hfl => ?_)
  have key : ∀ (u p : Nat) (f g : Nat → Int32), p ≤ (m + s - 1) / s + k → (m + s - 1) / s + k - p < u → (∀ z, z < p → f z = nI (en (md_X 0 m s r x z))) → zB g (md_X false m s r lp) p → wp_St_loadStripe_L9 (nI ((m + s - 1) / s)) (nI k) (nI m) (nI s) Pl Pc post u (nI (cn (md_X false m s r lp) p)) f g (nI r) (nI p) := by
    intro u
    induction u with
    | zero => intro p f g g1 g2; omega
    | succ u ih =>
      intro p f g g1 g2 g3 g4
      show wp_St_loadStripe_b9 _ _ _ _ _ _ _ _ _ _ _ _ _
      unfold wp_St_loadStripe_b9
      refine sp_size ?_
      refine pk_le ((m + s - 1) / s + k) p (fun q => ?_) (fun q => ?_)
      · have hp : p = (m + s - 1) / s + k := by omega
        rw [hp] at g3 g4 ⊢
        exact h f g g3 g4
      · have tail : ∀ (v : Int32) (b : Bool), v = nI (en (md_X 0 m s r x p)) → b = md_X false m s r lp p → wp_Wo_take (nI (cn (md_X false m s r lp) p)) f g (nI p) v (if b then 1 else 0) (fun a1 a2 a3 => wp_St_loadStripe_b65 (nI ((m + s - 1) / s)) (nI k) (nI m) (nI s) Pl Pc post (wp_St_loadStripe_L9 (nI ((m + s - 1) / s)) (nI k) (nI m) (nI s) Pl Pc post u) a1 a2 a3 (nI r) (nI p)) := fun v b hv hb => by
          refine sp_take (by omega) (nm_r (nI_1 p) ?_)
          have := ih (p + 1) (upd f p v) (upd g p (if b then 1 else 0)) (by omega) (by omega) (fun z hz => ?_) (fun z hz => ?_)
          · rw [hb]; rw [hb] at this; exact this
          · by_cases e : z = p
            · subst e; rw [pk_us]; exact hv
            · rw [pk_un e]; exact g3 z (by omega)
          · by_cases e : z = p
            · subst e; rw [pk_us, hb]
            · rw [pk_un e]; exact g4 z (by omega)
        refine sp_slotOf hm hs hs2 hlg hr hk q (fun i hi e1 e2 _ => bf' (m1_ne (by omega)) ?_) (fun hnone h1 h2 => bt' rfl ?_)
        · rw [nI_clamp (show i < 2 ^ 31 by omega), hl i hi]
          refine ⟨vp_in_nI (by omega) (by decide), vp_in_nI (by omega) (by decide), tail _ _ ?_ ?_⟩
          · rw [hx i hi, ← e2, md_at hs hi e1]
          · rw [← e2, md_at hs hi e1]
        · exact tail 0 false (by rw [md_none x h1 h2, gf_zero G]; rfl) (by rw [md_none lp h1 h2])
  exact ⟨_, key ((m + s - 1) / s + k + 1) 0 Vb fl (Nat.zero_le _) (Nat.lt_succ_of_le (Nat.sub_le _ _)) (fun z hz => by omega) (fun z hz => by omega)⟩
theorem sp_alters {K : Type} [F : Lean.Grind.Field K] {en : K → Nat} {al : K} (G : gf_ok K F en al) {N L y : Nat} (hN : N ≤ 240) (hy : y < N) {rp : Nat → Bool} (hL : L = cn rp N) (hL40 : L ≤ 40) {e : Nat → K} {Sp Sf : Nat → Int32} (hr2 : ∀ i, i < N → rp i = false → e i = 0) (h6 : ∀ j, j < L → Sp j = nI (nth rp N j)) (h7 : ∀ j, j < L → Sf j = nI (en (e (nth rp N j)))) {post : Int32 → Prop} (h1 : e y ≠ 0 → post 1) (h0 : e y = 0 → post 0) : wp_So_alters (nI L) Sp Sf (nI y) post := by
  have key : ∀ (u j : Nat), j ≤ L → L - j < u → (e y = 0 ∨ j ≤ cn rp y) → wp_So_alters_L2 (nI L) Sp Sf post u (nI y) (nI j) := by
    intro u
    induction u with
    | zero => intro j g1 g2; omega
    | succ u ih =>
      intro j g1 g2 g3
      refine pk_le L j (fun q => ?_) (fun q => ?_)
      · refine h0 (Classical.byContradiction fun q2 => ?_)
        have hr : rp y = true := by
          cases hx : rp y with
          | true => rfl
          | false => exact absurd (hr2 y hy hx) q2
        have h3 := cn_le rp (show y + 1 ≤ N by omega)
        rw [cn_t hr] at h3
        rcases g3 with g | g
        · exact q2 g
        · omega
      · have hn := nth_ok (p := rp) (N := N) (j := j) (by omega)
        rw [nI_clamp (show j < 2 ^ 31 by omega), h6 j q, h7 j q]
        refine ⟨vp_in_nI (by omega) (by decide), ?_⟩
        refine pz_ne (nth rp N j) y (fun q2 => ?_) (fun q2 => ⟨vp_in_nI (by omega) (by decide), ?_⟩)
        · refine nm_r (nI_1 j) (ih (j + 1) (by omega) (by omega) ?_)
          rcases g3 with g | g
          · exact Or.inl g
          · by_cases q3 : j = cn rp y
            · left
              refine Classical.byContradiction fun q4 => q2 ?_
              have hr : rp y = true := by
                cases hx : rp y with
                | true => rfl
                | false => exact absurd (hr2 y hy hx) q4
              rw [q3]; exact nth_cn hy hr
            · exact Or.inr (by omega)
        · rw [q2]
          refine pk_eq (en (e y)) 0 (fun q3 => ?_) (fun q3 => ?_) (ha := by have := gf_lt G (e y); omega)
          · exact nm_r (nI_1 j) (ih (j + 1) (by omega) (by omega) (Or.inl ((gf_en0 G).mp q3)))
          · exact h1 (fun q4 => q3 ((gf_en0 G).mpr q4))
  exact ⟨_, key (L + 1) 0 (by omega) (by omega) (Or.inr (Nat.zero_le _))⟩
theorem sp_cMend {K : Type} [F : Lean.Grind.Field K] {en : K → Nat} {al : K} (G : gf_ok K F en al) {Fp Fl : Nat → Int32} (T : ft_ok Fp Fl) {m s k b r : Nat} (hm : m ≤ 800) (hs : 1 ≤ s) (hs2 : s ≤ 16) (hsm : s ≤ m) (hlg : (m + s - 1) / s ≤ 200) (hr : r < s) (hk : k ≤ 40) (hb : b < 255) {x : Nat → K} {lp : Nat → Bool} {Pl Pc : Nat → Int32} (hx : ∀ i, i < m + s * k → Pc i = nI (en (x i))) (hl : zB Pl lp (m + s * k)) {z0 : Int32} {a1 a2 a3 a4 a5 a6 a7 : Nat → Int32} {z1 : Int32} {Vb Vl : Nat → Int32} {post : Int32 → Int32 → (Nat → Int32) → (Nat → Int32) → (Nat → Int32) → (Nat → Int32) → (Nat → Int32) → (Nat → Int32) → (Nat → Int32) → Int32 → (Nat → Int32) → (Nat → Int32) → (Nat → Int32) → (Nat → Int32) → Prop}
    (hok : ∀ (t : Nat) (e : Nat → K), md_good en al m s k b r x lp t e → ∀ (y0 : Int32) (b1 b2 b3 b4 b5 b6 b7 : Nat → Int32) (y1 : Int32) (Vb' Vl' Pl' Pc' : Nat → Int32), (∀ i, i < m + s * k → Pc' i = nI (en (md_x m s r x lp e i))) → zB Pl' (md_l m s r lp) (m + s * k) → post (nI t) y0 b1 b2 b3 b4 b5 b6 b7 y1 Vb' Vl' Pl' Pc')
    (hno : (∀ t e, ¬ md_good en al m s k b r x lp t e) → ∀ (y0 : Int32) (b1 b2 b3 b4 b5 b6 b7 : Nat → Int32) (y1 : Int32) (Vb' Vl' : Nat → Int32), post (-1) y0 b1 b2 b3 b4 b5 b6 b7 y1 Vb' Vl' Pl Pc) : wp_St_mendStripe Fp Fl z0 a1 a2 a3 a4 a5 a6 a7 z1 (nI ((m + s - 1) / s)) (nI k) (nI b) Vb Vl (nI m) (nI s) Pl Pc (nI r) post := by
  have hlg1 : 1 ≤ (m + s - 1) / s := by
    rw [Nat.one_le_iff_ne_zero]
    intro q
    have := lg_ge (m := m) hs
    rw [q] at this; omega
  have hsk := Nat.mul_le_mul hs2 hk
  refine sp_loadStripe G hm hs hs2 hlg hr hk hx hl (fun f g hf hg => ?_)
  refine sp_solve G T (by omega) hk hb hf hg (fun t L e rp f1 f2 f3 f4 f5 f6 f7 he hL hL40 hr1 hr2 h6 h7 => ?_) (fun hnot z f1 f2 f3 f4 f5 f6 f7 => ?_)
  · have ht := he.2.1
    refine nm_r (e' := nI ((m + s - 1) / s - 1)) (pk_sub (b := 1) hlg1) ?_
    have fin : md_good en al m s k b r x lp t e → wp_St_mendStripe_b64 Fp Fl (nI ((m + s - 1) / s)) (nI k) (nI b) (nI m) (nI s) post (nI L) f1 f2 f3 f4 f5 f6 f7 (nI (cn (md_X false m s r lp) ((m + s - 1) / s + k))) f g Pl Pc (nI r) (nI t) := fun hgood => by
      refine sp_settle G (by omega) hL hL40 hf hg hr1 hr2 h6 h7 (fun w wl hw hwl => ?_)
      refine sp_store (en := en) hm hs hs2 hlg hr hk (X := fun p => (if md_X false m s r lp p then 0 else md_X 0 m s r x p) + e p) hw (fun Pl' Pc' c1 c2 => hok t e hgood _ _ _ _ _ _ _ _ _ _ _ _ _ (fun i hi => ?_) (fun i hi => ?_))
      · unfold md_x
        by_cases er : rw_ m s i = r
        · rw [if_pos er, (c1 i hi er).2]
          rw [md_at hs hi er, md_at hs hi er]
        · rw [if_neg er, (c2 i hi er).2]; exact hx i hi
      · unfold md_l
        by_cases er : rw_ m s i = r
        · rw [if_pos er, (c1 i hi er).1]; rfl
        · rw [if_neg er, (c2 i hi er).1]; exact hl i hi
    refine sp_slotOf hm hs hs2 hlg hr hk (by omega) (fun i hi e1 e2 e3 => bf' (m1_ne (by omega)) ?_) (fun hnone h1 h2 => bt' rfl ?_)
    · have e4 := e3 (by omega)
      exact bf (m1_ne (by omega)) (bt rfl (fin ⟨he, fun q => by omega⟩))
    · refine bf (m1_ne (by omega)) (bf (by decide) ?_)
      refine sp_alters G (by omega : (m + s - 1) / s + k ≤ 240) (by omega) hL hL40 hr2 h6 h7 (fun q => br1 (hno (fun t' e' hg' => q ?_) _ _ _ _ _ _ _ _ _ _ _)) (fun q => br0 (fin ⟨he, fun _ => q⟩))
      rw [(er_one G (by omega) he hg'.1).2 _ (by omega)]
      exact hg'.2 h2
  · refine nm_r (e' := nI ((m + s - 1) / s - 1)) (pk_sub (b := 1) hlg1) ?_
    refine sp_slotOf hm hs hs2 hlg hr hk (by omega) (fun i hi e1 e2 e3 => bf' (m1_ne (by omega)) ?_) (fun hnone h1 h2 => bt' rfl ?_)
    · exact bt rfl (hno (fun t e hg' => hnot t e hg'.1) _ _ _ _ _ _ _ _ _ _ _)
    · exact bt rfl (hno (fun t e hg' => hnot t e hg'.1) _ _ _ _ _ _ _ _ _ _ _)
theorem sp_rMend {K : Type} [F : Lean.Grind.Field K] {en : K → Nat} {al : K} (G : gf_ok K F en al) {m s k b r : Nat} (hm : m ≤ 800) (hs : 1 ≤ s) (hs2 : s ≤ 16) (hsm : s ≤ m) (hlg : (m + s - 1) / s ≤ 200) (hr : r < s) (hk : k ≤ 40) (hb : b < 255) {x : Nat → K} {lp : Nat → Bool} {Ml Ms : Nat → Int32} (hx : ∀ i, i < m + s * k → Ms i = nI (en (x i))) (hl : zB Ml lp (m + s * k)) {z1 z2 z3 z0 : Int32} {a1 a2 a3 a4 a5 a6 a7 : Nat → Int32} {post : Int32 → Int32 → Int32 → Int32 → Int32 → (Nat → Int32) → (Nat → Int32) → (Nat → Int32) → (Nat → Int32) → (Nat → Int32) → (Nat → Int32) → (Nat → Int32) → (Nat → Int32) → (Nat → Int32) → Prop}
    (hok : ∀ (t : Nat) (e : Nat → K), md_good en al m s k b r x lp t e → ∀ (y1 y2 y3 y0 : Int32) (b1 b2 b3 b4 b5 b6 b7 Ms' Ml' : Nat → Int32), (∀ i, i < m + s * k → Ms' i = nI (en (md_x m s r x lp e i))) → zB Ml' (md_l m s r lp) (m + s * k) → post (nI t) y1 y2 y3 y0 b1 b2 b3 b4 b5 b6 b7 Ms' Ml')
    (hno : (∀ t e, ¬ md_good en al m s k b r x lp t e) → ∀ (y1 y2 y3 y0 : Int32) (b1 b2 b3 b4 b5 b6 b7 : Nat → Int32), post (-1) y1 y2 y3 y0 b1 b2 b3 b4 b5 b6 b7 Ms Ml) : wp_Mo_mendStripe z1 z2 z3 z0 (nI m) (nI s) (nI ((m + s - 1) / s)) (nI k) (nI b) a1 a2 a3 a4 a5 a6 a7 Ms Ml (nI r) post := by
  have hlg1 : 1 ≤ (m + s - 1) / s := by
    rw [Nat.one_le_iff_ne_zero]
    intro q
    have := lg_ge (m := m) hs
    rw [q] at this; omega
  have hsk := Nat.mul_le_mul hs2 hk
  refine nm_r (nI_add _ _) ?_
  -- nothing found: through both loops
  have away : (∀ t e, ¬ md_good en al m s k b r x lp t e) → ∀ (y0 : Int32) (b1 b2 b3 b4 b5 b6 b7 : Nat → Int32) (u : Nat) (i : Nat), i < (m + s - 1) / s + k → wp_Mo_mendStripe_L103 (nI m) (nI s) (nI ((m + s - 1) / s)) (nI k) (nI b) post (u + 1) (nI ((m + s - 1) / s + k)) (nI k) (nI b) y0 b1 b2 b3 b4 b5 b6 b7 Ms Ml (nI r) (-1) (nI i) := fun hn y0 b1 b2 b3 b4 b5 b6 b7 u i hi => by
    refine pk_le ((m + s - 1) / s + k) i (fun q => by omega) (fun q => bt (by decide) ⟨1, ?_⟩)
    refine pk_le ((m + s - 1) / s + k) 0 (fun q => by omega) (fun q => bt (by decide) ?_)
    exact hno hn _ _ _ _ _ _ _ _ _ _ _
  have store : ∀ (t : Nat) (e : Nat → K), md_good en al m s k b r x lp t e → t < 2 ^ 31 → ∀ (y0 : Int32) (w b2 b3 b4 b5 b6 b7 : Nat → Int32), (∀ p, p < (m + s - 1) / s + k → w p = nI (en ((if md_X false m s r lp p then 0 else md_X 0 m s r x p) + e p))) → ∀ (u p : Nat) (a l : Nat → Int32), p ≤ (m + s - 1) / s + k → (m + s - 1) / s + k - p < u → (∀ i, i < m + s * k → rw_ m s i = r → ps_ m s ((m + s - 1) / s) i < p → l i = 0 ∧ a i = nI (en (md_x m s r x lp e i))) → (∀ i, i < m + s * k → rw_ m s i ≠ r → l i = Ml i ∧ a i = Ms i) → wp_Mo_mendStripe_L147 (nI m) (nI s) (nI ((m + s - 1) / s)) (nI k) (nI b) post u (nI ((m + s - 1) / s + k)) (nI k) (nI b) y0 w b2 b3 b4 b5 b6 b7 a l (nI r) (nI t) (nI p) := by
    intro t e hgood ht y0 w b2 b3 b4 b5 b6 b7 hw u
    induction u with
    | zero => intro p a l g1 g2; omega
    | succ u ih =>
      intro p a l g1 g2 g3 g4
      refine pk_le ((m + s - 1) / s + k) p (fun q => ?_) (fun q => ?_)
      · refine hok t e hgood _ _ _ _ _ _ _ _ _ _ _ _ _ (fun i hi => ?_) (fun i hi => ?_)
        · by_cases er : rw_ m s i = r
          · refine (g3 i hi er ?_).2
            rcases Nat.lt_or_ge i m with q3 | q3
            · have := (ps_data hs q3).1; omega
            · have := (ps_rep (k := k) hs q3 hi).1; omega
          · rw [(g4 i hi er).2, hx i hi]
            unfold md_x
            rw [if_neg er]
        · unfold md_l
          by_cases er : rw_ m s i = r
          · rw [if_pos er, (g3 i hi er (by
              rcases Nat.lt_or_ge i m with q3 | q3
              · have := (ps_data hs q3).1; omega
              · have := (ps_rep (k := k) hs q3 hi).1; omega)).1]; rfl
          · rw [if_neg er, (g4 i hi er).1]; exact hl i hi
      · refine bf (pz_lt0 ht) (sp_whereSent hm hs hs2 hlg hr hk q (fun i hi e1 e2 => bf (pz_lt0 (by omega)) ?_) (fun hnone _ _ => bt (by decide) ?_))
        · rw [nI_clamp (show i < 2 ^ 31 by omega), nI_clamp (show p < 2 ^ 31 by omega), hw p q]
          refine ⟨vp_in_nI (by omega) (by decide), vp_in_nI (by omega) (by decide), vp_in_nI (by omega) (by decide), nm_r (nI_1 p) (ih (p + 1) _ _ (by omega) (by omega) (fun z hz c1 c2 => ?_) (fun z hz c1 => ?_))⟩
          · by_cases ez : z = i
            · subst ez; rw [pk_us, pk_us]
              refine ⟨rfl, ?_⟩
              unfold md_x
              rw [if_pos e1, ← e2, md_at hs hz e1, md_at hs hz e1]
            · rw [pk_un ez, pk_un ez]
              refine g3 z hz c1 ?_
              have : ps_ m s ((m + s - 1) / s) z ≠ p := fun q3 => ez (sl_one hs hz hi (by rw [c1, e1]) (by rw [q3, e2]))
              omega
          · have ez : z ≠ i := fun q3 => c1 (by rw [q3, e1])
            rw [pk_un ez, pk_un ez]; exact g4 z hz c1
        · refine nm_r (nI_1 p) (ih (p + 1) _ _ (by omega) (by omega) (fun z hz c1 c2 => ?_) g4)
          have := hnone z hz c1
          exact g3 z hz c1 (by omega)
  have look : ∀ (t : Nat) (e : Nat → K), er_ok en al ((m + s - 1) / s + k) k b (fun p => if md_X false m s r lp p then 0 else md_X 0 m s r x p) (md_X false m s r lp) t e → t < 2 ^ 31 → ∀ (y0 : Int32) (w b2 b3 b4 b5 b6 b7 : Nat → Int32), (∀ p, p < (m + s - 1) / s + k → w p = nI (en ((if md_X false m s r lp p then 0 else md_X 0 m s r x p) + e p))) → ∀ (u p : Nat), p ≤ (m + s - 1) / s + k → (m + s - 1) / s + k - p < u → ((m ≤ ((m + s - 1) / s - 1) * s + r → e ((m + s - 1) / s - 1) = 0) ∨ p ≤ (m + s - 1) / s - 1) → wp_Mo_mendStripe_L103 (nI m) (nI s) (nI ((m + s - 1) / s)) (nI k) (nI b) post u (nI ((m + s - 1) / s + k)) (nI k) (nI b) y0 w b2 b3 b4 b5 b6 b7 Ms Ml (nI r) (nI t) (nI p) := by
    intro t e he ht y0 w b2 b3 b4 b5 b6 b7 hw u
    induction u with
    | zero => intro p g1 g2; omega
    | succ u ih =>
      intro p g1 g2 g3
      refine pk_le ((m + s - 1) / s + k) p (fun q => ?_) (fun q => ?_)
      · have hgood : md_good en al m s k b r x lp t e := ⟨he, g3.resolve_right (fun q2 => by omega)⟩
        exact ⟨_, store t e hgood ht y0 w b2 b3 b4 b5 b6 b7 hw ((m + s - 1) / s + k + 1) 0 Ms Ml (Nat.zero_le _) (Nat.lt_succ_of_le (Nat.sub_le _ _)) (fun i hi _ q => by omega) (fun i hi _ => ⟨rfl, rfl⟩)⟩
      · refine bf (pz_lt0 ht) (sp_whereSent hm hs hs2 hlg hr hk q (fun i hi e1 e2 => bt (nI_pos' (by omega)) ?_) (fun hnone h1 h2 => bf (by decide) ?_))
        · refine nm_r (nI_1 p) (ih (p + 1) (by omega) (by omega) ?_)
          rcases g3 with g | g
          · exact Or.inl g
          · by_cases q3 : p = (m + s - 1) / s - 1
            · left
              intro q4
              exfalso
              rcases Nat.lt_or_ge i m with q5 | q5
              · have := (ps_data hs q5).2
                rw [e1, e2, q3] at this; omega
              · have := (ps_rep (k := k) hs q5 hi).2.1; omega
            · exact Or.inr (by omega)
        · have hp := md_last hs hr h1 h2
          rw [nI_clamp (show p < 2 ^ 31 by omega), hw p q, md_none lp h1 h2, md_none x h1 h2]
          refine ⟨vp_in_nI (by omega) (by decide), ?_⟩
          have e0 : (if false = true then (0 : K) else 0) + e p = e p := by
            show (0 : K) + e p = e p
            grind
          rw [e0]
          refine pk_eq (en (e p)) 0 (fun q3 => ?_) (fun q3 => ?_) (ha := by have := gf_lt G (e p); omega)
          · refine nm_r (nI_1 p) (ih (p + 1) (by omega) (by omega) (Or.inl (fun _ => ?_)))
            rw [← hp]; exact (gf_en0 G).mp q3
          · refine nm_r (nI_1 p) ?_
            have hn : ∀ t e, ¬ md_good en al m s k b r x lp t e := fun t' e' hg' => q3 ((gf_en0 G).mpr (by
              rw [(er_one G (by omega) he hg'.1).2 p q, hp]
              exact hg'.2 (by rw [← hp]; exact h2)))
            rcases Nat.lt_or_ge (p + 1) ((m + s - 1) / s + k) with q4 | q4
            · obtain ⟨u', rfl⟩ : ∃ u', u = u' + 1 := ⟨u - 1, by omega⟩
              exact away hn _ _ _ _ _ _ _ _ u' (p + 1) q4
            · obtain ⟨u', rfl⟩ : ∃ u', u = u' + 1 := ⟨u - 1, by omega⟩
              refine bt (nI_le q4 (by omega)) ⟨1, ?_⟩
              refine pk_le ((m + s - 1) / s + k) 0 (fun q => by omega) (fun q => bt (by decide) ?_)
              exact hno hn _ _ _ _ _ _ _ _ _ _ _
  have key : ∀ (u p : Nat) (f g : Nat → Int32), p ≤ (m + s - 1) / s + k → (m + s - 1) / s + k - p < u → (∀ z, z < p → f z = nI (en (md_X 0 m s r x z))) → zB g (md_X false m s r lp) p → wp_Mo_mendStripe_L31 (nI m) (nI s) (nI ((m + s - 1) / s)) (nI k) (nI b) post u (nI ((m + s - 1) / s + k)) (nI k) (nI b) z0 f g a3 a4 a5 a6 a7 Ms Ml (nI r) (nI p) := by
    intro u
    induction u with
    | zero => intro p f g g1 g2; omega
    | succ u ih =>
      intro p f g g1 g2 g3 g4
      refine pk_le ((m + s - 1) / s + k) p (fun q => ?_) (fun q => ?_)
      · have hp : p = (m + s - 1) / s + k := by omega
        rw [hp] at g3 g4
        refine sp_repairWork G (by omega) (by omega) hk hb g3 g4 (fun t e z w f1 f2 f3 f4 f5 he hw => ?_) (fun hnot z w f1 f2 f3 f4 f5 => ?_)
        · have ht := he.2.1
          exact ⟨_, look t e he (by omega) z w _ _ _ _ _ _ hw ((m + s - 1) / s + k + 1) 0 (Nat.zero_le _) (Nat.lt_succ_of_le (Nat.sub_le _ _)) (Or.inr (Nat.zero_le _))⟩
        · exact ⟨1, away (fun t e hg' => hnot t e hg'.1) _ _ _ _ _ _ _ _ 0 0 (by omega)⟩
      · have tail : ∀ (v : Int32) (b' : Bool), v = nI (en (md_X 0 m s r x p)) → b' = md_X false m s r lp p → wp_Mo_mendStripe_L31 (nI m) (nI s) (nI ((m + s - 1) / s)) (nI k) (nI b) post u (nI ((m + s - 1) / s + k)) (nI k) (nI b) z0 (upd f p v) (upd g p (if b' then 1 else 0)) a3 a4 a5 a6 a7 Ms Ml (nI r) (nI (p + 1)) := fun v b' hv hb' => by
          refine ih (p + 1) _ _ (by omega) (by omega) (fun z hz => ?_) (fun z hz => ?_)
          · by_cases e : z = p
            · subst e; rw [pk_us]; exact hv
            · rw [pk_un e]; exact g3 z (by omega)
          · by_cases e : z = p
            · subst e; rw [pk_us, hb']
            · rw [pk_un e]; exact g4 z (by omega)
        refine sp_whereSent hm hs hs2 hlg hr hk q (fun i hi e1 e2 => bt (nI_pos' (by omega)) ⟨vp_in_nI (by omega) (by decide), vp_in_nI (by omega) (by decide), bf (pz_lt0 (by omega)) ⟨vp_in_nI (by omega) (by decide), ?_⟩⟩) (fun hnone h1 h2 => bf (by decide) ⟨vp_in_nI (by omega) (by decide), bt (by decide) ⟨vp_in_nI (by omega) (by decide), nm_r (nI_1 p) ?_⟩⟩)
        · rw [nI_clamp (show i < 2 ^ 31 by omega), nI_clamp (show p < 2 ^ 31 by omega)]
          have hv : Ms i = nI (en (md_X 0 m s r x p)) := by rw [hx i hi, ← e2, md_at hs hi e1]
          have hb' : lp i = md_X false m s r lp p := by rw [← e2, md_at hs hi e1]
          cases hp : lp i with
          | true =>
            refine bf (by rw [zB_t hl hi hp]; decide) ⟨vp_in_nI (by omega) (by decide), nm_r (nI_1 p) ?_⟩
            rw [nI_clamp (show p < 2 ^ 31 by omega)]
            exact tail _ true hv (by rw [← hb', hp])
          | false =>
            refine bt (zB_f hl hi hp) ⟨vp_in_nI (by omega) (by decide), nm_r (nI_1 p) ?_⟩
            rw [nI_clamp (show p < 2 ^ 31 by omega)]
            exact tail _ false hv (by rw [← hb', hp])
        · rw [nI_clamp (show p < 2 ^ 31 by omega)]
          exact tail 0 false (by rw [md_none x h1 h2, gf_zero G]; rfl) (by rw [md_none lp h1 h2])
  exact ⟨_, key ((m + s - 1) / s + k + 1) 0 a1 a2 (Nat.zero_le _) (Nat.lt_succ_of_le (Nat.sub_le _ _)) (fun z hz => by omega) (fun z hz => by omega)⟩
