/-! The shares: apart. -/
def sh_f {K : Type} [Lean.Grind.Field K] (en : K → Nat) (ks : Nat → K) (told : Nat → Bool) (d w : Nat) (v : Nat → Nat → K) (y x : Nat) : Bool := (List.range w).all fun i => Nat.beq (en (sh_v ks (nth (qw told y) 256) d v (ks x) i)) (en (v x i))
theorem sh_ft {K : Type} [Lean.Grind.Field K] {en : K → Nat} {ks : Nat → K} {told : Nat → Bool} {d w : Nat} {v : Nat → Nat → K} {y x : Nat} (h : ∀ i, i < w → en (sh_v ks (nth (qw told y) 256) d v (ks x) i) = en (v x i)) : sh_f en ks told d w v y x = true := by
  unfold sh_f
  rw [List.all_eq_true]
  intro i hi
  rw [h i (List.mem_range.mp hi), Nat.beq_refl]
theorem sh_ff {K : Type} [Lean.Grind.Field K] {en : K → Nat} {ks : Nat → K} {told : Nat → Bool} {d w : Nat} {v : Nat → Nat → K} {y x i : Nat} (hi : i < w) (h : en (sh_v ks (nth (qw told y) 256) d v (ks x) i) ≠ en (v x i)) : sh_f en ks told d w v y x = false := by
  cases hs : sh_f en ks told d w v y x with
  | false => rfl
  | true =>
    unfold sh_f at hs
    rw [List.all_eq_true] at hs
    exact absurd (Nat.eq_of_beq_eq_true (hs i (List.mem_range.mpr hi))) h
theorem sp_fits {K : Type} [F : Lean.Grind.Field K] {en : K → Nat} {al : K} (G : gf_ok K F en al) {Fp Fl : Nat → Int32} (T : ft_ok Fp Fl) {ks : Nat → K} (hks : ∀ x, x < 256 → en (ks x) = x) {d w : Nat} (hd : d ≤ 20) (hw : w ≤ 16) {told : Nat → Bool} {y : Nat} (hen : d ≤ cn (qw told y) 256) {v : Nat → Nat → K} {Hv Hb Hw Hp : Nat → Int32} (hv : ∀ x, x < 256 → told x = true → ∀ i, i < 16 → Hv (16 * x + i) = nI (en (v x i))) (hb : ∀ j, j < d → Hb j = nI (nth (qw told y) 256 j)) (hg : ∀ j, j < d → Hw j = nI (en (sh_d ks (nth (qw told y) 256) d j))) {x : Nat} (hx : x < 256) (ht : told x = true) {post : Int32 → (Nat → Int32) → Prop} (h1 : sh_f en ks told d w v y x = true → ∀ p : Nat → Int32, post 1 p) (h0 : sh_f en ks told d w v y x = false → ∀ p : Nat → Int32, post 0 p) : wp_Sh_fits Fp Fl (nI d) (nI w) Hv Hb Hw Hp (nI x) post := by
  have hb' : ∀ j, j < d → nth (qw told y) 256 j < 256 ∧ Hb j = nI (nth (qw told y) 256 j) := fun j hj => ⟨(qw_nth hen hj).1, hb j hj⟩
  refine sp_aimAt G T hks hd hb' (fun i j hi hj => nth_inj (by omega) (by omega)) hg hx (fun p hp => ?_)
  have key : ∀ (r i : Nat), i ≤ w → w - i < r → (∀ z, z < i → en (sh_v ks (nth (qw told y) 256) d v (ks x) z) = en (v x z)) → wp_Sh_fits_L7 Fp Fl (nI d) (nI w) Hv Hb Hw post r p (nI x) (nI i) := by
    intro r
    induction r with
    | zero => intro i g1 g2; omega
    | succ r ih =>
      intro i g1 g2 g3
      refine pk_le w i (fun q => ?_) (fun q => ?_)
      · rw [show i = w by omega] at g3; exact h1 (sh_ft g3) p
      · refine sp_shValue G T hd hb' hp (by omega) (v := v) (fun j hj => hv _ (qw_nth hen hj).1 (qw_nth hen hj).2.1 i (by omega)) ?_
        have e1 : nI x * (16 : Int32) + nI i = nI (16 * x + i) := by rw [show (16 : Int32) = nI 16 from rfl, pk_mul, nI_add, Nat.mul_comm]
        rw [e1, nI_clamp (show 16 * x + i < 2 ^ 31 by omega), hv x hx ht i (by omega)]
        refine ⟨vp_in_nI (by omega) (by decide), ?_⟩
        refine pk_eq (en (sh_v ks (nth (qw told y) 256) d v (ks x) i)) (en (v x i)) (fun q2 => ?_) (fun q2 => ?_) (ha := by have := gf_lt G (sh_v ks (nth (qw told y) 256) d v (ks x) i); omega) (hb := by have := gf_lt G (v x i); omega)
        · refine nm_r (nI_1 i) (ih (i + 1) (by omega) (by omega) (fun z hz => ?_))
          by_cases e : z = i
          · subst e; exact q2
          · exact g3 z (by omega)
        · exact h0 (sh_ff q q2) p
  exact ⟨_, key (w + 1) 0 (by omega) (by omega) (fun z hz => by omega)⟩
def sh_ap {K : Type} [Lean.Grind.Field K] (en : K → Nat) (ks : Nat → K) (told : Nat → Bool) (d w : Nat) (v : Nat → Nat → K) (y x : Nat) : Bool := qw told y x && !sh_f en ks told d w v y x
theorem ap_t {K : Type} [Lean.Grind.Field K] {en : K → Nat} {ks : Nat → K} {told : Nat → Bool} {d w : Nat} {v : Nat → Nat → K} {y x : Nat} (h1 : qw told y x = true) (h2 : sh_f en ks told d w v y x = false) : sh_ap en ks told d w v y x = true := by unfold sh_ap; rw [h1, h2]; rfl
theorem ap_f1 {K : Type} [Lean.Grind.Field K] {en : K → Nat} {ks : Nat → K} {told : Nat → Bool} {d w : Nat} {v : Nat → Nat → K} {y x : Nat} (h1 : qw told y x = false) : sh_ap en ks told d w v y x = false := by unfold sh_ap; rw [h1]; rfl
theorem ap_f2 {K : Type} [Lean.Grind.Field K] {en : K → Nat} {ks : Nat → K} {told : Nat → Bool} {d w : Nat} {v : Nat → Nat → K} {y x : Nat} (h2 : sh_f en ks told d w v y x = true) : sh_ap en ks told d w v y x = false := by unfold sh_ap; rw [h2]; cases qw told y x <;> rfl
theorem ap_inv {K : Type} [Lean.Grind.Field K] {en : K → Nat} {ks : Nat → K} {told : Nat → Bool} {d w : Nat} {v : Nat → Nat → K} {y x : Nat} (h : sh_ap en ks told d w v y x = true) : qw told y x = true ∧ sh_f en ks told d w v y x = false := by
  unfold sh_ap at h
  simp only [Bool.and_eq_true, Bool.not_eq_true'] at h
  exact h
theorem sp_countApart {K : Type} [F : Lean.Grind.Field K] {en : K → Nat} {al : K} (G : gf_ok K F en al) {Fp Fl : Nat → Int32} (T : ft_ok Fp Fl) {ks : Nat → K} (hks : ∀ x, x < 256 → en (ks x) = x) {d w : Nat} (hd : d ≤ 20) (hw : w ≤ 16) {told : Nat → Bool} (hen : d ≤ cn (qw told 256) 256) {v : Nat → Nat → K} {Hv Hb Hw Hp Ht : Nat → Int32} (ht : zB Ht told 256) (hv : ∀ x, x < 256 → told x = true → ∀ i, i < 16 → Hv (16 * x + i) = nI (en (v x i))) (hb : ∀ j, j < d → Hb j = nI (nth (qw told 256) 256 j)) (hg : ∀ j, j < d → Hw j = nI (en (sh_d ks (nth (qw told 256) 256) d j))) {z0 : Int32} {post : Int32 → Int32 → (Nat → Int32) → Prop} (h : ∀ (la : Int32) (p : Nat → Int32), (cn (sh_ap en ks told d w v 256) 256 ≠ 0 → ∃ l, l < 256 ∧ la = nI l ∧ sh_ap en ks told d w v 256 l = true ∧ ∀ z, z < 256 → sh_ap en ks told d w v 256 z = true → z ≤ l) → post (nI (cn (sh_ap en ks told d w v 256) 256)) la p) : wp_Sh_countApart Fp Fl z0 (nI d) (nI w) Hv Hb Hw Hp Ht post := by
  have key : ∀ (r x : Nat) (la : Int32) (p : Nat → Int32), x ≤ 256 → 256 - x < r → (cn (sh_ap en ks told d w v 256) x ≠ 0 → ∃ l, l < x ∧ la = nI l ∧ sh_ap en ks told d w v 256 l = true ∧ ∀ z, z < x → sh_ap en ks told d w v 256 z = true → z ≤ l) → wp_Sh_countApart_L4 Fp Fl (nI d) (nI w) Hv Hb Hw Ht post r la p (nI (cn (sh_ap en ks told d w v 256) x)) (nI x) := by
    intro r
    induction r with
    | zero => intro x la p g1 g2; omega
    | succ r ih =>
      intro x la p g1 g2 g3
      refine pk_le 256 x (fun q => ?_) (fun q => ?_)
      · rw [show x = 256 by omega] at g3 ⊢; exact h la p g3
      · rw [nI_clamp (show x < 2 ^ 31 by omega)]
        refine ⟨vp_in_nI q (by decide), ?_⟩
        have skip : sh_ap en ks told d w v 256 x = false → ∀ p : Nat → Int32, wp_Sh_countApart_b36 Fp Fl (nI d) (nI w) Hv Hb Hw Ht post (wp_Sh_countApart_L4 Fp Fl (nI d) (nI w) Hv Hb Hw Ht post r) la p (nI (cn (sh_ap en ks told d w v 256) x)) (nI x) := fun hq p => by
          have := ih (x + 1) la p (by omega) (by omega) (fun hne => by
            rw [cn_f hq] at hne
            obtain ⟨l, l1, l2, l3, l4⟩ := g3 hne
            refine ⟨l, by omega, l2, l3, fun z hz hz2 => ?_⟩
            by_cases e : z = x
            · rw [e, hq] at hz2; cases hz2
            · exact l4 z (by omega) hz2)
          rw [cn_f hq] at this
          exact nm_r (nI_1 x) this
        cases hx : told x with
        | false => exact bt (zB_f ht q hx) (skip (ap_f1 (qw_no (Or.inl hx))) p)
        | true =>
          refine bf (by rw [zB_t ht q hx]; decide) ?_
          refine sp_fits G T hks hd hw hen hv hb hg q hx (fun hf p => bs1 (skip (ap_f2 hf) p)) (fun hf p => bs0 ?_)
          have hq : sh_ap en ks told d w v 256 x = true := ap_t (qw_of hx (by omega)) hf
          have := ih (x + 1) (nI x) p (by omega) (by omega) (fun _ => ⟨x, by omega, rfl, hq, fun z hz _ => by omega⟩)
          rw [cn_t hq] at this
          exact nm_r (nI_1 _) (nm_r (nI_1 x) this)
  exact ⟨_, key 257 0 z0 Hp (by omega) (by omega) (fun q => absurd rfl q)⟩
theorem sp_unlike {K : Type} [F : Lean.Grind.Field K] {en : K → Nat} {al : K} (G : gf_ok K F en al) {ks : Nat → K} (hks : ∀ x, x < 256 → en (ks x) = x) {d w : Nat} (hd : d ≤ 20) (hw : w ≤ 16) {told : Nat → Bool} {y : Nat} {p1 : Int32} (hp : ∀ x, x < 256 → (nI x = p1 ↔ x = y)) (hen : d ≤ cn (qw told y) 256) {v : Nat → Nat → K} {Mt Ms Mu Mdn Mw : Nat → Int32} (ht : zB Mt told 256) (hv : ∀ x, x < 256 → told x = true → ∀ i, i < 16 → Ms (16 * x + i) = nI (en (v x i))) {most : Nat} (hm : most ≤ 256) {post : Int32 → (Nat → Int32) → (Nat → Int32) → (Nat → Int32) → Prop} (h : ∀ (c x : Nat) (f g p : Nat → Int32), x ≤ 256 → c = cn (sh_ap en ks told d w v y) x → (x = 256 ∨ most ≤ c) → post (nI c) f g p) : wp_Mo_unlike (nI d) (nI w) Mt Ms Mu Mdn Mw p1 (nI most) post := by
  refine sp_findUsed G hks hd hp ht hen (fun f g hf hg => ?_)
  have hb' : ∀ j, j < d → nth (qw told y) 256 j < 256 ∧ f j = nI (nth (qw told y) 256 j) := fun j hj => ⟨(qw_nth hen hj).1, hf j hj⟩
  have key : ∀ (r x : Nat) (p : Nat → Int32), x ≤ 256 → 256 - x < r → wp_Mo_unlike_L10 (nI d) (nI w) Mt Ms post r f g p p1 (nI most) (nI (cn (sh_ap en ks told d w v y) x)) (nI x) := by
    intro r
    induction r with
    | zero => intro x p g1 g2; omega
    | succ r ih =>
      intro x p g1 g2
      have hcn := cn_id (sh_ap en ks told d w v y) x
      refine pk_le 256 x (fun q => ?_) (fun q => ?_)
      · exact h _ x f g p g1 rfl (Or.inl (by omega))
      · refine pk_le most (cn (sh_ap en ks told d w v y) x) (fun q2 => h _ x f g p g1 rfl (Or.inr q2)) (fun q2 => ?_)
        rw [nI_clamp (show x < 2 ^ 31 by omega)]
        refine ⟨vp_in_nI q (by decide), ?_⟩
        have skip : sh_ap en ks told d w v y x = false → ∀ p : Nat → Int32, wp_Mo_unlike_b100 (nI d) (nI w) Mt Ms post (wp_Mo_unlike_L10 (nI d) (nI w) Mt Ms post r) f g p p1 (nI most) (nI (cn (sh_ap en ks told d w v y) x)) (nI x) 0 := fun hq p => by
          have := ih (x + 1) p (by omega) (by omega)
          rw [cn_f hq] at this
          exact br0 (nm_r (nI_add _ 0) (nm_r (nI_1 x) this))
        have noted : sh_ap en ks told d w v y x = true → ∀ p : Nat → Int32, wp_Mo_unlike_b100 (nI d) (nI w) Mt Ms post (wp_Mo_unlike_L10 (nI d) (nI w) Mt Ms post r) f g p p1 (nI most) (nI (cn (sh_ap en ks told d w v y) x)) (nI x) 1 := fun hq p => by
          have := ih (x + 1) p (by omega) (by omega)
          rw [cn_t hq] at this
          exact br1 (nm_r (nI_1 _) (nm_r (nI_1 x) this))
        cases hx : told x with
        | false => exact bt (zB_f ht q hx) (skip (ap_f1 (qw_no (Or.inl hx))) p)
        | true =>
          refine bf (by rw [zB_t ht q hx]; decide) ⟨fun e => skip (ap_f1 (qw_no (Or.inr ((hp x q).mp e)))) p, fun e => ?_⟩
          have hqx : qw told y x = true := qw_of hx (fun e2 => e ((hp x q).mpr e2))
          refine sp_weigh G hks hd hb' hg q (fun p hpp => ?_)
          have inner : ∀ (u i : Nat), i ≤ w → w - i < u → (∀ z, z < i → en (sh_v ks (nth (qw told y) 256) d v (ks x) z) = en (v x z)) → wp_Mo_unlike_L51 (nI d) (nI w) Mt Ms post (wp_Mo_unlike_L10 (nI d) (nI w) Mt Ms post r) u f g p p1 (nI most) (nI (cn (sh_ap en ks told d w v y) x)) (nI x) 0 (nI i) := by
            intro u
            induction u with
            | zero => intro i c1 c2; omega
            | succ u ihu =>
              intro i c1 c2 c3
              refine pk_le w i (fun q3 => ?_) (fun q3 => ?_)
              · rw [show i = w by omega] at c3
                exact skip (ap_f2 (sh_ft c3)) p
              · refine bs0 (sp_madeBy G hd hb' hpp (by omega) (v := v) (fun j hj => hv _ (qw_nth hen hj).1 (qw_nth hen hj).2.1 i (by omega)) ?_)
                have e1 : (16 : Int32) * nI x + nI i = nI (16 * x + i) := by rw [show (16 : Int32) = nI 16 from rfl, pk_mul, nI_add]
                rw [e1, nI_clamp (show 16 * x + i < 2 ^ 31 by omega), hv x q hx i (by omega)]
                refine ⟨vp_in_nI (by omega) (by decide), ?_⟩
                refine pk_eq (en (sh_v ks (nth (qw told y) 256) d v (ks x) i)) (en (v x i)) (fun q4 => ?_) (fun q4 => ?_) (ha := by have := gf_lt G (sh_v ks (nth (qw told y) 256) d v (ks x) i); omega) (hb := by have := gf_lt G (v x i); omega)
                · refine nm_r (nI_1 i) (ihu (i + 1) (by omega) (by omega) (fun z hz => ?_))
                  by_cases e : z = i
                  · subst e; exact q4
                  · exact c3 z (by omega)
                · have hap : sh_ap en ks told d w v y x = true := ap_t hqx (sh_ff q3 q4)
                  obtain ⟨u', rfl⟩ : ∃ u', u = u' + 1 := ⟨u - 1, by omega⟩
                  refine nm_r (nI_1 i) ?_
                  exact ⟨fun _ => noted hap p, fun _ => bs1 (noted hap p)⟩
          exact ⟨_, inner (w + 1) 0 (by omega) (by omega) (fun z hz => by omega)⟩
  exact ⟨_, key 257 0 Mw (by omega) (by omega)⟩
theorem op_apart {K : Type} [F : Lean.Grind.Field K] {en : K → Nat} {al : K} (G : gf_ok K F en al) {Fp Fl : Nat → Int32} (T : ft_ok Fp Fl) {Hn Hw Hc : Int32} {Hv Ht : Nat → Int32} {Md Mw Mc : Int32} {Mt Ms : Nat → Int32} (R : RHe F en Hn Hw Hc Hv Ht Md Mw Mc Mt Ms) {z0 : Int32} {a1 a2 a3 b1 b2 b3 : Nat → Int32} {post : Int32 → Int32 → (Nat → Int32) → (Nat → Int32) → (Nat → Int32) → Prop} (h : ∀ (r z1 : Int32) (c1 c2 c3 : Nat → Int32), (∀ post2 : Int32 → (Nat → Int32) → (Nat → Int32) → (Nat → Int32) → Prop, (∀ d1 d2 d3 : Nat → Int32, post2 r d1 d2 d3) → wp_Mo_apart Md Mw Mc Mt Ms b1 b2 b3 post2) → post r z1 c1 c2 c3) : wp_RS_apart Fp Fl z0 Hn Hw Hv a1 a2 a3 Ht post := by
  obtain ⟨d, w, told, v, ⟨d1, d2, w1, w2⟩, ⟨rfl, rfl, rfl, rfl, rfl, rfl⟩, ht1, ht2, hv⟩ := R
  obtain ⟨ks, hks⟩ := gf_ks G
  have hcn := cn_id told 256
  refine sp_chooseBase G T hks d2 m1_256 ht1 (fun hen f g hf hg => br1 ?_) (fun hen f g => br0 (h _ _ _ _ _ (fun post2 h2 => bf (fun q => ?_) (h2 _ _ _))))
  · refine sp_countApart G T hks d2 w2 hen ht1 (fun x hx ht i hi => (hv x hx ht i hi).1) hf hg (fun la p _ => h _ _ _ _ _ (fun post2 h2 => bt ?_ ?_))
    · rw [qw_256] at hen; exact nI_le hen (by omega)
    · refine sp_unlike G hks d2 w2 m1_256 hen ht2 (fun x hx ht i hi => (hv x hx ht i hi).2) (most := 256) (by omega) (fun c x f g p hx hc hor => ?_)
      have hx2 : x = 256 := by
        rcases hor with e | e
        · exact e
        · have := cn_id (sh_ap en ks told d w v 256) x
          omega
      rw [hc, hx2]
      exact h2 _ _ _
  · rw [qw_256] at hen
    have := pz_le (by omega) (by omega) q; omega
