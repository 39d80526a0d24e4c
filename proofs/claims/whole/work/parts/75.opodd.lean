/-! The shares: odd. -/
theorem nth_congr {p q : Nat → Bool} {N j : Nat} (h : ∀ i, i < N → p i = q i) : nth p N j = nth q N j := by
  unfold nth
  rw [List.filter_congr (fun i hi => h i (List.mem_range.mp hi))]
theorem sh_pc {K : Type} [Lean.Grind.Field K] {ks : Nat → K} {b b' : Nat → Nat} {z : K} {j : Nat} : ∀ {n : Nat}, (∀ m, m < n → b m = b' m) → sh_p ks b z j n = sh_p ks b' z j n
  | 0, _ => rfl
  | n + 1, h => by
    have ih := sh_pc (ks := ks) (z := z) (j := j) (n := n) (fun m hm => h m (by omega))
    show (if n = j then sh_p ks b z j n else sh_p ks b z j n * (z + ks (b n))) = (if n = j then sh_p ks b' z j n else sh_p ks b' z j n * (z + ks (b' n)))
    rw [ih, h n (by omega)]
theorem sh_vc {K : Type} [Lean.Grind.Field K] {ks : Nat → K} {b b' : Nat → Nat} {d : Nat} {v : Nat → Nat → K} {z : K} {i : Nat} (h : ∀ m, m < d → b m = b' m) : sh_v ks b d v z i = sh_v ks b' d v z i := by
  unfold sh_v
  refine ra_sum_congr (fun j hj => ?_)
  unfold sh_c sh_d
  rw [sh_pc h, h j hj, sh_pc h]
theorem sh_fc {K : Type} [Lean.Grind.Field K] {en : K → Nat} {ks : Nat → K} {told : Nat → Bool} {d w : Nat} {v : Nat → Nat → K} {y y' x : Nat} (h : ∀ m, m < d → nth (qw told y) 256 m = nth (qw told y') 256 m) : sh_f en ks told d w v y x = sh_f en ks told d w v y' x := by
  unfold sh_f
  congr 1
  funext i
  rw [sh_vc h]
/-- the base itself fits -/
theorem sh_base {K : Type} [F : Lean.Grind.Field K] {en : K → Nat} {al : K} (G : gf_ok K F en al) {ks : Nat → K} (hks : ∀ x, x < 256 → en (ks x) = x) {told : Nat → Bool} {d w : Nat} {v : Nat → Nat → K} {y j : Nat} (hen : d ≤ cn (qw told y) 256) (hj : j < d) : sh_f en ks told d w v y (nth (qw told y) 256 j) = true := by
  have k0 : ∀ y z : Nat, y < 256 → z < 256 → ks y + ks z = 0 → y = z := fun y z hy hz q => by
    have q2 := gf_two G (ks z)
    have q3 : ks y = ks z := by grind
    rw [← hks y hy, ← hks z hz, q3]
  refine sh_ft (fun i hi => ?_)
  congr 1
  unfold sh_v
  have one : ∀ m, m < d → m ≠ j → sh_c ks (nth (qw told y) 256) d (ks (nth (qw told y) 256 j)) m * v (nth (qw told y) 256 m) i = 0 := fun m hm hmj => by
    unfold sh_c
    rw [sh_pz (m := j) (fun q => hmj q.symm) (gf_two G _) hj]; grind
  rw [ra_sum_one (j := j) hj one]
  unfold sh_c sh_d
  have hne : sh_p ks (nth (qw told y) 256) (ks (nth (qw told y) 256 j)) j d ≠ 0 := sh_pne (fun m hm hmj q3 => hmj (nth_inj (by omega) (by omega) (k0 _ _ (qw_nth hen hj).1 (qw_nth hen hm).1 q3).symm))
  have hi := Lean.Grind.Field.mul_inv_cancel hne
  grind
theorem qw_in {told : Nat → Bool} {d x : Nat} (hx : x < 256) (ht : told x = true) (hc : cn told x < d) (hen : d ≤ cn (qw told 256) 256) : ∃ j, j < d ∧ nth (qw told 256) 256 j = x := by
  refine ⟨cn told x, hc, ?_⟩
  have h1 : cn (qw told 256) x = cn told x := cn_congr (fun j hj => by
    cases hq : told j with
    | true => exact qw_of hq (by omega)
    | false => exact qw_no (Or.inl hq))
  rw [← h1]
  exact nth_cn hx (qw_of ht (by omega))
theorem qw_far {told : Nat → Bool} {d x : Nat} (hx : x < 256) (hc : d ≤ cn told x) {j : Nat} (hj : j < d) (hen : d ≤ cn told 256) : nth (qw told x) 256 j = nth (qw told 256) 256 j := by
  have h0 : nth (qw told 256) 256 j = nth told 256 j := nth_congr (fun i hi => by
    cases hq : told i with
    | true => exact qw_of hq (by omega)
    | false => exact qw_no (Or.inl hq))
  rw [h0]
  have h := nth_ok (p := told) (N := 256) (j := j) (by omega)
  have hlt : nth told 256 j < x := by
    rcases Nat.lt_or_ge (nth told 256 j) x with q | q
    · exact q
    · have := cn_le told q
      omega
  have h1 : cn (qw told x) (nth told 256 j) = cn told (nth told 256 j) := cn_congr (fun z hz => by
    cases hq : told z with
    | true => exact qw_of hq (by omega)
    | false => exact qw_no (Or.inl hq))
  have h2 := nth_cn (p := qw told x) (N := 256) h.1 (qw_of h.2.1 (by omega))
  rw [h1, h.2.2] at h2
  exact h2
theorem qw_cn {told : Nat → Bool} {x : Nat} (hx : x < 256) (ht : told x = true) : cn told 256 = cn (qw told x) 256 + 1 := by
  have h := cn_clr ht 256
  rw [if_pos hx] at h
  have h2 : cn (fun i => if i = x then false else told i) 256 = cn (qw told x) 256 := cn_congr (fun z hz => by
    by_cases e : z = x
    · rw [if_pos e]; exact (qw_no (Or.inr e)).symm
    · rw [if_neg e]
      cases hq : told z with
      | true => exact (qw_of hq e).symm
      | false => exact (qw_no (Or.inl hq)).symm)
  rw [h, h2]
theorem cn_none {p : Nat → Bool} {N : Nat} : cn p N = 0 ↔ ∀ i, i < N → p i = false := by
  constructor
  · intro h i hi
    exact cn_no (i := 0) (j := N) (by rw [h]; rfl) (Nat.zero_le i) hi
  · intro h
    rw [← cn_z N]
    exact cn_congr h
theorem cn_one1 {p : Nat → Bool} {N a : Nat} (ha : a < N) (hp : p a = true) (h : ∀ i, i < N → p i = true → i = a) : cn p N = 1 := by
  rw [cn_clr hp N, if_pos ha]
  have : cn (fun i => if i = a then false else p i) N = 0 := cn_none.mpr (fun i hi => by
    by_cases e : i = a
    · rw [if_pos e]
    · rw [if_neg e]
      cases hq : p i with
      | false => rfl
      | true => exact absurd (h i hi hq) e)
  omega
theorem cn_one2 {p : Nat → Bool} {N a b : Nat} (ha : a < N) (hb : b < N) (hp : p a = true) (hq : p b = true) (h : cn p N = 1) : b = a := by
  refine Classical.byContradiction fun e => ?_
  have h1 := cn_clr hp N
  rw [if_pos ha] at h1
  have h2 := cn_none.mp (show cn (fun i => if i = a then false else p i) N = 0 by omega) b hb
  rw [if_neg e, hq] at h2
  cases h2
def sh_ag {K : Type} [Lean.Grind.Field K] (en : K → Nat) (ks : Nat → K) (told : Nat → Bool) (d w : Nat) (v : Nat → Nat → K) (y : Nat) : Prop := cn (sh_ap en ks told d w v y) 256 = 0
theorem ag_far {K : Type} [F : Lean.Grind.Field K] {en : K → Nat} {al : K} (G : gf_ok K F en al) {ks : Nat → K} (hks : ∀ x, x < 256 → en (ks x) = x) {told : Nat → Bool} {d w : Nat} {v : Nat → Nat → K} {x : Nat} (hx : x < 256) (ht : told x = true) (hc : d ≤ cn told x) (hen : d ≤ cn told 256) (hne : cn (sh_ap en ks told d w v 256) 256 ≠ 0) : sh_ag en ks told d w v x ↔ cn (sh_ap en ks told d w v 256) 256 = 1 ∧ sh_ap en ks told d w v 256 x = true := by
  have hf : ∀ z, sh_f en ks told d w v x z = sh_f en ks told d w v 256 z := fun z => sh_fc (fun m hm => qw_far hx hc hm hen)
  constructor
  · intro h
    have h' := cn_none.mp h
    have only : ∀ z, z < 256 → sh_ap en ks told d w v 256 z = true → z = x := fun z hz hz2 => by
      refine Classical.byContradiction fun e => ?_
      have h3 := ap_inv hz2
      have h4 : sh_ap en ks told d w v x z = true := ap_t (qw_of (qw_told h3.1).1 e) (by rw [hf]; exact h3.2)
      rw [h' z hz] at h4; cases h4
    have ex : sh_ap en ks told d w v 256 x = true := by
      cases hq : sh_ap en ks told d w v 256 x with
      | true => rfl
      | false =>
        exfalso
        apply hne
        refine cn_none.mpr (fun z hz => ?_)
        cases hq2 : sh_ap en ks told d w v 256 z with
        | false => rfl
        | true => rw [only z hz hq2, hq] at hq2; cases hq2
    exact ⟨cn_one1 hx ex only, ex⟩
  · rintro ⟨h1, h2⟩
    refine cn_none.mpr (fun z hz => ?_)
    cases hq : sh_ap en ks told d w v x z with
    | false => rfl
    | true =>
      exfalso
      have h3 := ap_inv hq
      have h4 := qw_told h3.1
      have h5 : sh_ap en ks told d w v 256 z = true := ap_t (qw_of h4.1 (by omega)) (by rw [← hf]; exact h3.2)
      exact h4.2 (cn_one2 hx hz h2 h5 h1)
theorem nI_at {x : Nat} (hx : x < 256) : ∀ z, z < 256 → (nI z = nI x ↔ z = x) := fun z hz => nI_eq (by omega) (by omega)
theorem sp_agree {K : Type} [F : Lean.Grind.Field K] {en : K → Nat} {al : K} (G : gf_ok K F en al) {Fp Fl : Nat → Int32} (T : ft_ok Fp Fl) {ks : Nat → K} (hks : ∀ x, x < 256 → en (ks x) = x) {d w : Nat} (hd : d ≤ 20) (hw : w ≤ 16) {told : Nat → Bool} {v : Nat → Nat → K} {Hv Hb Hw Hp Ht : Nat → Int32} (ht : zB Ht told 256) (hv : ∀ x, x < 256 → told x = true → ∀ i, i < 16 → Hv (16 * x + i) = nI (en (v x i))) {x l : Nat} (hx : x < 256) (hl : l < 256) (hlt : told l = true) (hlx : l ≠ x) (hen : d ≤ cn (qw told x) 256) {post : Int32 → (Nat → Int32) → (Nat → Int32) → (Nat → Int32) → Prop} (h1 : sh_ag en ks told d w v x → ∀ f g p : Nat → Int32, post 1 f g p) (h0 : ¬ sh_ag en ks told d w v x → ∀ f g p : Nat → Int32, post 0 f g p) : wp_Sh_agreeWithout Fp Fl (nI l) (nI d) (nI w) Hv Hb Hw Hp Ht (nI x) post := by
  refine sp_chooseBase G T hks hd (nI_at hx) ht (fun _ f g hf hg => br1 ?_) (fun q => by omega)
  have bad : ∀ z, z < 256 → qw told x z = true → sh_f en ks told d w v x z = false → ¬ sh_ag en ks told d w v x := fun z hz hq hs ha => by
    have := cn_none.mp ha z hz
    rw [ap_t hq hs] at this; cases this
  refine sp_fits G T hks hd hw hen hv hf hg hl hlt (fun _ p => bs1 ?_) (fun hs p => bs0 (h0 (bad l hl (qw_of hlt hlx) hs) f g p))
  have key : ∀ (r z : Nat) (p : Nat → Int32), z ≤ 256 → 256 - z < r → (∀ u, u < z → sh_ap en ks told d w v x u = false) → wp_Sh_agreeWithout_L23 Fp Fl (nI l) (nI d) (nI w) Hv Ht post r f g p (nI x) (nI z) := by
    intro r
    induction r with
    | zero => intro z p g1 g2; omega
    | succ r ih =>
      intro z p g1 g2 g3
      refine pk_le 256 z (fun q => ?_) (fun q => ?_)
      · rw [show z = 256 by omega] at g3; exact h1 (cn_none.mpr g3) f g p
      · rw [nI_clamp (show z < 2 ^ 31 by omega)]
        refine ⟨vp_in_nI q (by decide), ?_⟩
        have skip : sh_ap en ks told d w v x z = false → ∀ p : Nat → Int32, wp_Sh_agreeWithout_b54 Fp Fl (nI l) (nI d) (nI w) Hv Ht post (wp_Sh_agreeWithout_L23 Fp Fl (nI l) (nI d) (nI w) Hv Ht post r) f g p (nI x) (nI z) := fun hq p => nm_r (nI_1 z) (ih (z + 1) p (by omega) (by omega) (fun u hu => by
          by_cases e : u = z
          · rw [e]; exact hq
          · exact g3 u (by omega)))
        cases hz : told z with
        | false => exact bt (zB_f ht q hz) (skip (ap_f1 (qw_no (Or.inl hz))) p)
        | true =>
          refine bf (by rw [zB_t ht q hz]; decide) ?_
          refine pk_eq z x (fun e => skip (ap_f1 (qw_no (Or.inr e))) p) (fun e => ?_)
          refine sp_fits G T hks hd hw hen hv hf hg q hz (fun hs p => bs1 (skip (ap_f2 hs) p)) (fun hs p => bs0 (h0 (bad z q (qw_of hz e) hs) f g p))
  exact ⟨_, key 257 0 p (by omega) (by omega) (fun u hu => by omega)⟩
theorem op_odd {K : Type} [F : Lean.Grind.Field K] {en : K → Nat} {al : K} (G : gf_ok K F en al) {Fp Fl : Nat → Int32} (T : ft_ok Fp Fl) {Hn Hw Hc : Int32} {Hv Ht : Nat → Int32} {Md Mw Mc : Int32} {Mt Ms : Nat → Int32} (R : RHe F en Hn Hw Hc Hv Ht Md Mw Mc Mt Ms) {z0 : Int32} {a1 a2 a3 b1 b2 b3 : Nat → Int32} {post : Int32 → Int32 → (Nat → Int32) → (Nat → Int32) → (Nat → Int32) → Prop} (h : ∀ (r z1 : Int32) (c1 c2 c3 : Nat → Int32), (∀ post2 : Int32 → (Nat → Int32) → (Nat → Int32) → (Nat → Int32) → Prop, (∀ d1 d2 d3 : Nat → Int32, post2 r d1 d2 d3) → wp_Mo_odd Md Mw Mc Mt Ms b1 b2 b3 post2) → post r z1 c1 c2 c3) : wp_RS_odd Fp Fl z0 Hn Hw Hv a1 a2 a3 Ht post := by
  obtain ⟨d, w, told, v, ⟨d1, d2, w1, w2⟩, ⟨rfl, rfl, rfl, rfl, rfl, rfl⟩, ht1, ht2, hv⟩ := R
  obtain ⟨ks, hks⟩ := gf_ks G
  have hcn := cn_id told 256
  have hv1 : ∀ x, x < 256 → told x = true → ∀ i, i < 16 → Hv (16 * x + i) = nI (en (v x i)) := fun x hx ht i hi => (hv x hx ht i hi).1
  have hv2 : ∀ x, x < 256 → told x = true → ∀ i, i < 16 → Ms (16 * x + i) = nI (en (v x i)) := fun x hx ht i hi => (hv x hx ht i hi).2
  refine sp_chooseBase G T hks d2 m1_256 ht1 (fun hen f g hf hg => br1 ?_) (fun hen f g => br0 (h _ _ _ _ _ (fun post2 h2 => bf (fun q => ?_) (h2 _ _ _))))
  · have hen' : d ≤ cn told 256 := by rw [qw_256] at hen; exact hen
    refine sp_countApart G T hks d2 w2 hen ht1 hv1 hf hg (fun la p hla => ?_)
    have hcm := cn_id (sh_ap en ks told d w v 256) 256
    refine pz_ne (cn (sh_ap en ks told d w v 256) 256) 0 (fun q => ?_) (fun q => h _ _ _ _ _ (fun post2 h2 => bt (nI_le hen' (by omega)) ?_))
    · -- some are apart
      obtain ⟨l, hl, rfl, hlap, hlmax⟩ := hla q
      have hlt := (qw_told (ap_inv hlap).1).1
      have far : ∀ z, z < 256 → sh_ap en ks told d w v 256 z = true → d ≤ cn told z := fun z hz hz2 => by
        rcases Nat.lt_or_ge (cn told z) d with q2 | q2
        · exfalso
          have h3 := ap_inv hz2
          obtain ⟨j, hj, e⟩ := qw_in hz (qw_told h3.1).1 q2 hen
          have h4 := sh_base (w := w) (v := v) G hks hen hj
          rw [e, h3.2] at h4; cases h4
        · exact q2
      have hmore : d + 1 ≤ cn told 256 := by
        have h3 := far l hl hlap
        have h4 := cn_le told (show l + 1 ≤ 256 by omega)
        rw [cn_t hlt] at h4; omega
      have henx : ∀ x, x < 256 → told x = true → d ≤ cn (qw told x) 256 := fun x hx ht => by
        have := qw_cn hx ht; omega
      -- what both answer
      have ref : ∀ (Rr : Int32), ((∃ x0, x0 < 256 ∧ told x0 = true ∧ sh_ag en ks told d w v x0 ∧ (∀ z, z < x0 → told z = true → ¬ sh_ag en ks told d w v z) ∧ Rr = nI x0) ∨ ((∀ z, z < 256 → told z = true → ¬ sh_ag en ks told d w v z) ∧ Rr = (-1 : Int32))) → ∀ (z1 : Int32) (c1 c2 c3 : Nat → Int32), post Rr z1 c1 c2 c3 := fun Rr hR z1 c1 c2 c3 => by
        refine h _ _ _ _ _ (fun post2 h2 => bt (nI_le hen' (by omega)) ?_)
        have loop : ∀ (r x : Nat) (f g p : Nat → Int32), x ≤ 256 → 256 - x < r → ((∃ x0, x ≤ x0 ∧ x0 < 256 ∧ told x0 = true ∧ sh_ag en ks told d w v x0 ∧ (∀ z, z < x0 → told z = true → ¬ sh_ag en ks told d w v z) ∧ Rr = nI x0) ∨ ((∀ z, z < 256 → told z = true → ¬ sh_ag en ks told d w v z) ∧ Rr = (-1 : Int32))) → wp_Mo_odd_L28 (nI d) (nI w) (nI (cn told 256)) Mt Ms post2 r f g p (nI x) := by
          intro r
          induction r with
          | zero => intro x f g p g1 g2; omega
          | succ r ih =>
            intro x f g p g1 g2 g3
            have o1 : x < 256 → 256 - (x + 1) < r := fun _ => by clear g3 hR; omega
            refine pk_le 256 x (fun q2 => ?_) (fun q2 => ?_)
            · rcases g3 with ⟨x0, e1, e2, _⟩ | ⟨_, e⟩
              · omega
              · rw [e] at h2; exact h2 _ _ _
            · refine bf (fun q3 => by have := pz_le (by omega) (by omega) q3; omega) ?_
              rw [nI_clamp (show x < 2 ^ 31 by omega)]
              refine ⟨vp_in_nI q2 (by decide), ?_⟩
              cases hx : told x with
              | false =>
                refine bt (zB_f ht2 q2 hx) (nm_r (nI_1 x) (ih (x + 1) f g p q2 (o1 q2) ?_))
                rcases g3 with ⟨x0, e1, e2, e3, e4⟩ | e
                · refine Or.inl ⟨x0, ?_, e2, e3, e4⟩
                  have : x ≠ x0 := fun q4 => by rw [q4, e3] at hx; cases hx
                  omega
                · exact Or.inr e
              | true =>
                refine bf (by rw [zB_t ht2 q2 hx]; decide) ?_
                refine sp_unlike G hks d2 w2 (nI_at q2) (henx x q2 hx) ht2 hv2 (most := 1) (by decide) (fun c y f g p hy hc hor => ?_)
                have hcle := cn_le (sh_ap en ks told d w v x) hy
                have hcid := cn_id (sh_ap en ks told d w v x) y
                refine pz_ne c 0 (fun q4 => ?_) (fun q4 => ?_)
                · refine nm_r (nI_1 x) (ih (x + 1) f g p q2 (o1 q2) ?_)
                  rcases g3 with ⟨x0, e1, e2, e3, e4, e5⟩ | e
                  · refine Or.inl ⟨x0, ?_, e2, e3, e4, e5⟩
                    have : x ≠ x0 := fun q5 => by
                      rw [← q5] at e4
                      have : cn (sh_ap en ks told d w v x) 256 = 0 := e4
                      omega
                    omega
                  · exact Or.inr e
                · have hag : sh_ag en ks told d w v x := by
                    rcases hor with e | e
                    · rw [e] at hc
                      show cn (sh_ap en ks told d w v x) 256 = 0
                      omega
                    · omega
                  rcases g3 with ⟨x0, e1, e2, e3, e4, e5, e6⟩ | ⟨e, _⟩
                  · have : x = x0 := by
                      rcases Nat.lt_or_ge x x0 with q5 | q5
                      · exact absurd hag (e5 x q5 hx)
                      · omega
                    rw [e6, ← this] at h2
                    exact h2 _ _ _
                  · exact absurd hag (e x q2 hx)
        refine sp_unlike G hks d2 w2 m1_256 hen ht2 hv2 (most := 1) (by decide) (fun c y f g p hy hc hor => ?_)
        have hcle := cn_le (sh_ap en ks told d w v 256) hy
        have hcid := cn_id (sh_ap en ks told d w v 256) y
        have hc2 : c < 2 ^ 31 := by clear hR; omega
        refine bf' (nI_ne0 ?_ hc2) ⟨_, loop 257 0 f g p (by omega) (by omega) ?_⟩
        · clear hR
          rcases hor with e | e
          · rw [e] at hc; omega
          · omega
        · rcases hR with ⟨x0, e⟩ | e
          · exact Or.inl ⟨x0, Nat.zero_le _, e⟩
          · exact Or.inr e
      -- the end of the class's loop
      have fin : (∀ z, z < 256 → told z = true → cn told z < d → ¬ sh_ag en ks told d w v z) → ∀ (f g p : Nat → Int32), wp_Sh_findOdd_b60 Fp Fl (nI d) (nI w) Hv Ht (fun r_15 H_lastApart_15 H_base_15 H_weights_15 H_parts_15 => (wp_RS_odd_b22 Fp Fl (nI d) (nI w) Hv Ht post H_lastApart_15 H_base_15 H_weights_15 H_parts_15 r_15)) (nI l) f g p (nI (cn (sh_ap en ks told d w v 256) 256)) := fun hnone f g p => by
        refine pz_ne (cn (sh_ap en ks told d w v 256) 256) 1 (fun q2 => ?_) (fun q2 => ?_)
        · refine ref _ (Or.inr ⟨fun z hz hz2 ha => ?_, rfl⟩) _ _ _ _
          rcases Nat.lt_or_ge (cn told z) d with q3 | q3
          · exact hnone z hz hz2 q3 ha
          · exact q2 ((ag_far G hks hz hz2 q3 hen' q).mp ha).1
        · refine ref _ (Or.inl ⟨l, hl, hlt, (ag_far G hks hl hlt (far l hl hlap) hen' q).mpr ⟨q2, hlap⟩, fun z hz hz2 ha => ?_, rfl⟩) _ _ _ _
          rcases Nat.lt_or_ge (cn told z) d with q3 | q3
          · exact hnone z (by omega) hz2 q3 ha
          · have h3 := ((ag_far G hks (by omega) hz2 q3 hen' q).mp ha).2
            have := cn_one2 (p := sh_ap en ks told d w v 256) hl (by omega) hlap h3 q2
            omega
      have loop : ∀ (r x : Nat) (f g p : Nat → Int32), x ≤ 256 → 256 - x < r → cn told x ≤ d → (∀ z, z < x → told z = true → ¬ sh_ag en ks told d w v z) → wp_Sh_findOdd_L17 Fp Fl (nI d) (nI w) Hv Ht (fun r_15 H_lastApart_15 H_base_15 H_weights_15 H_parts_15 => (wp_RS_odd_b22 Fp Fl (nI d) (nI w) Hv Ht post H_lastApart_15 H_base_15 H_weights_15 H_parts_15 r_15)) r (nI l) f g p (nI (cn (sh_ap en ks told d w v 256) 256)) (nI (cn told x)) (nI x) := by
        intro r
        induction r with
        | zero => intro x f g p g1 g2; omega
        | succ r ih =>
          intro x f g p g1 g2 g3 g4
          refine pk_le 256 x (fun q2 => fin (fun z hz hz2 _ => g4 z (by omega) hz2) f g p) (fun q2 => ?_)
          refine pk_le d (cn told x) (fun q3 => fin (fun z hz hz2 hz3 => g4 z ?_ hz2) f g p) (fun q3 => ?_)
          · rcases Nat.lt_or_ge z x with q4 | q4
            · exact q4
            · have := cn_le told q4; omega
          · rw [nI_clamp (show x < 2 ^ 31 by omega)]
            refine ⟨vp_in_nI q2 (by decide), ?_⟩
            cases hx : told x with
            | false =>
              have := ih (x + 1) f g p (by omega) (by omega) (by rw [cn_f hx]; exact g3) (fun z hz hz2 => by
                by_cases e : z = x
                · rw [e, hx] at hz2; cases hz2
                · exact g4 z (by omega) hz2)
              rw [cn_f hx] at this
              exact bt (zB_f ht1 q2 hx) (nm_r (nI_1 x) this)
            | true =>
              refine bf (by rw [zB_t ht1 q2 hx]; decide) (nm_r (nI_1 _) ?_)
              have hlx : l ≠ x := fun e => by
                have := far l hl hlap
                rw [e] at this; omega
              refine sp_agree G T hks d2 w2 ht1 hv1 q2 hl hlt hlx (henx x q2 hx) (fun ha f g p => br1 (ref _ (Or.inl ⟨x, q2, hx, ha, g4, rfl⟩) _ _ _ _)) (fun ha f g p => br0 ?_)
              have := ih (x + 1) f g p (by omega) (by omega) (by rw [cn_t hx]; omega) (fun z hz hz2 => by
                by_cases e : z = x
                · rw [e]; exact ha
                · exact g4 z (by omega) hz2)
              rw [cn_t hx] at this
              exact nm_r (nI_1 x) this
      exact ⟨_, loop 257 0 f g p (by omega) (by omega) (Nat.zero_le _) (fun z hz => by omega)⟩
    · refine sp_unlike G hks d2 w2 m1_256 hen ht2 hv2 (most := 1) (by decide) (fun c y f g p hy hc hor => ?_)
      have hcle := cn_le (sh_ap en ks told d w v 256) hy
      have hc0 : c = 0 := by omega
      rw [hc0]
      exact bt' rfl (h2 _ _ _)
  · rw [qw_256] at hen
    have := pz_le (by omega) (by omega) q; omega
