/-! The solver of the class: the values, the test, the whole. -/
section SO3
/-- what the class computes for a place -/
def fx_v {K : Type} [Lean.Grind.Field K] (al : K) (N b L : Nat) (p s : Nat → K) (i : Nat) : K :=
  (ra_sum L (fun j => ra_cv p s j * (al ^ (255 - (N - 1 - i))) ^ j) * (ra_sum 20 (fun m => p (2 * m + 1) * (al ^ (255 - (N - 1 - i)) * al ^ (255 - (N - 1 - i))) ^ m))⁻¹) * al ^ ((N - 1 - i) * (1 + 254 * b))
theorem pow_first (a b : Nat) (ha : a < 240) (hb : b < 255) : (nI a * ((1 : Int32) - nI b)).toInt % 255 = ((a * (1 + 254 * b) : Nat) : Int) % 255 := by
  have h1 : ((1 : Int32) - nI b).toInt = 1 - (b : Int) := pk_sub_toInt (a := 1) (by decide) (by omega)
  have hab : (a : Int) * (b : Int) ≤ 240 * 255 := Int.mul_le_mul (by omega) (by omega) (by omega) (by omega)
  have hab0 : 0 ≤ (a : Int) * (b : Int) := Int.mul_nonneg (by omega) (by omega)
  have h2 : (a : Int) * (1 - (b : Int)) = a - a * b := by rw [Int.mul_sub, Int.mul_one]
  rw [Int32.toInt_mul, h1, nI_toInt (by omega), h2, Int.bmod_eq_of_le (by omega) (by omega)]
  have h3 : ((a * (1 + 254 * b) : Nat) : Int) = a + 254 * ((a : Int) * b) := by
    rw [Int.natCast_mul, Int.natCast_add, Int.natCast_mul]
    show (a : Int) * (1 + 254 * (b : Int)) = _
    rw [Int.mul_add, Int.mul_one, ← Int.mul_assoc, Int.mul_comm (a : Int) 254, Int.mul_assoc]
  rw [h3]
  omega
theorem pow_right (a b i : Nat) (ha : a < 240) (hb : b < 255) (hi : i < 40) : nI a * (nI b + nI i) = nI (a * (b + i)) := by
  rw [nI_add, pk_mul]
theorem sp_findFixes {K : Type} [F : Lean.Grind.Field K] {en : K → Nat} {al : K} (G : gf_ok K F en al) {Fp Fl : Nat → Int32} (T : ft_ok Fp Fl) {n k b L : Nat} (hN : n + k ≤ 240) (hk : k ≤ 40) (hb : b < 255) (hL : L ≤ k) {Ss Sl Se Sp Sf : Nat → Int32} {p s : Nat → K} (hp : ∀ i, i < 41 → Sl i = nI (en (p i))) (hd : ∀ i, L < i → p i = 0) (hs : ∀ j, j < k → Ss j = nI (en (s j))) {pl : Nat → Nat} (hpl : ∀ j, j < L → pl j < n + k ∧ Sp j = nI (pl j)) {post : (Nat → Int32) → (Nat → Int32) → Prop} (h : ∀ f1 f2 : Nat → Int32, (∀ j, j < L → f2 j = nI (en (fx_v al (n + k) b L p s (pl j)))) → post f1 f2) : wp_So_findFixes Fp Fl (nI n) (nI k) (nI b) (nI L) Ss Sl Se Sp Sf post := by
  have second : ∀ (u j : Nat) (f1 f2 : Nat → Int32), j ≤ L → L - j < u → (∀ x, x < L → f1 x = nI (en (ra_cv p s x))) → (∀ x, x < j → f2 x = nI (en (fx_v al (n + k) b L p s (pl x)))) → wp_So_findFixes_L35 Fp Fl (nI n) (nI k) (nI b) (nI L) Ss Sl Sp post u f1 f2 (nI j) := by
    intro u
    induction u with
    | zero => intro j f1 f2 g1 g2; omega
    | succ u ih =>
      intro j f1 f2 g1 g2 g3 g4
      refine pk_le L j (fun q => h f1 f2 (fun x hx => g4 x (by omega))) (fun q => ⟨vp_in_nI (by omega) (by decide), ?_⟩)
      obtain ⟨hp1, hp2⟩ := hpl j q
      rw [nI_clamp (show j < 2 ^ 31 by omega), hp2]
      refine sp_powerAt hp1 (sp_two G T (n := 255 - (n + k - 1 - pl j)) (neg_255 _ (by omega)) ?_)
      refine sp_valueOf G T (by omega) g3 _ ?_
      refine sp_slopeAt G T hp _ (sp_quotient G T _ _ ?_)
      refine sp_two G T (n := (n + k - 1 - pl j) * (1 + 254 * b)) (pow_first _ _ (by omega) hb) ?_
      refine sp_product G T _ _ ⟨vp_in_nI (by omega) (by decide), nm_r (nI_1 j) ?_⟩
      refine ih (j + 1) f1 _ (by omega) (by omega) g3 (fun x hx => ?_)
      by_cases e : x = j
      · subst e; rw [pk_us]; rfl
      · rw [pk_un e]; exact g4 x (by omega)
  have first : ∀ (u j : Nat) (f1 : Nat → Int32), j ≤ L → L - j < u → (∀ x, x < j → f1 x = nI (en (ra_cv p s x))) → wp_So_findFixes_L2 Fp Fl (nI n) (nI k) (nI b) (nI L) Ss Sl Sp post u f1 Sf (nI j) := by
    intro u
    induction u with
    | zero => intro j f1 g1 g2; omega
    | succ u ih =>
      intro j f1 g1 g2 g3
      refine pk_le L j (fun q => ⟨L + 1, second (L + 1) 0 f1 Sf (by omega) (by omega) (fun x hx => g3 x (by omega)) (fun x hx => absurd hx (Nat.not_lt_zero x))⟩) (fun q => ?_)
      rw [nI_1 j]
      refine sp_discrepancy G T (by omega) (by omega) hp (fun x hx => hs x (by omega)) hd ⟨vp_in_nI (by omega) (by decide), nm_e ?_⟩
      rw [nI_clamp (by omega)]
      refine ih (j + 1) _ (by omega) (by omega) (fun x hx => ?_)
      by_cases e : x = j
      · subst e; exact pk_us
      · rw [pk_un e]; exact g3 x (by omega)
  exact ⟨L + 1, first (L + 1) 0 Se (by omega) (by omega) (fun x hx => absurd hx (Nat.not_lt_zero x))⟩
theorem sp_isRightAfter {K : Type} [F : Lean.Grind.Field K] {en : K → Nat} {al : K} (G : gf_ok K F en al) {Fp Fl : Nat → Int32} (T : ft_ok Fp Fl) {n k b L : Nat} (hN : n + k ≤ 240) (hk : k ≤ 40) (hb : b < 255) (hL : L ≤ k) {Ss Sp Sf : Nat → Int32} {s fx : Nat → K} (hs : ∀ j, j < k → Ss j = nI (en (s j))) {pl : Nat → Nat} (hpl : ∀ j, j < L → pl j < n + k ∧ Sp j = nI (pl j)) (hf : ∀ j, j < L → Sf j = nI (en (fx j))) {post : Int32 → Prop} (h1 : (∀ i, i < k → s i + ra_sum L (fun j => fx j * lo_X al (n + k) (pl j) ^ (b + i)) = 0) → post 1) (h0 : (∃ i, i < k ∧ s i + ra_sum L (fun j => fx j * lo_X al (n + k) (pl j) ^ (b + i)) ≠ 0) → post 0) : wp_So_isRightAfter Fp Fl (nI n) (nI k) (nI b) (nI L) Ss Sp Sf post := by
  have outer : ∀ (u i : Nat), i ≤ k → k - i < u → (∀ x, x < i → s x + ra_sum L (fun j => fx j * lo_X al (n + k) (pl j) ^ (b + x)) = 0) → wp_So_isRightAfter_L2 Fp Fl (nI n) (nI k) (nI b) (nI L) Ss Sp Sf post u (nI i) := by
    intro u
    induction u with
    | zero => intro i g1 g2; omega
    | succ u ih =>
      intro i g1 g2 g3
      refine pk_le k i (fun q => h1 (fun x hx => g3 x (by omega))) (fun q => ⟨vp_in_nI (by omega) (by decide), ?_⟩)
      rw [nI_clamp (by omega), hs i q]
      refine nm_e ?_
      have inner : ∀ (v j : Nat), j ≤ L → L - j < v → wp_So_isRightAfter_L20 Fp Fl (nI n) (nI k) (nI b) (nI L) Ss Sp Sf post (wp_So_isRightAfter_L2 Fp Fl (nI n) (nI k) (nI b) (nI L) Ss Sp Sf post u) v (nI i) (nI (en (s i + ra_sum j (fun j => fx j * lo_X al (n + k) (pl j) ^ (b + i))))) (nI j) := by
        intro v
        induction v with
        | zero => intro j g4 g5; omega
        | succ v ihv =>
          intro j g4 g5
          refine pk_le L j (fun q2 => ?_) (fun q2 => ⟨vp_in_nI (by omega) (by decide), ?_⟩)
          · have hj : j = L := by omega
            subst hj
            refine pk_eq _ 0 (fun q3 => nm_r (nI_1 i) ?_) (fun q3 => ?_) (ha := by have := gf_lt G (s i + ra_sum j (fun j => fx j * lo_X al (n + k) (pl j) ^ (b + i))); omega) (hb := by decide)
            · refine ih (i + 1) (by omega) (by omega) (fun x hx => ?_)
              by_cases e : x = i
              · subst e; exact (gf_en0 G).mp q3
              · exact g3 x (by omega)
            · exact h0 ⟨i, q, fun e => q3 ((gf_en0 G).mpr e)⟩
          · obtain ⟨hp1, hp2⟩ := hpl j q2
            rw [nI_clamp (show j < 2 ^ 31 by omega), hp2, hf j q2]
            refine sp_powerAt hp1 (nm_r (pow_right _ _ _ (by omega) hb (by omega)) ⟨vp_in_nI (by omega) (by decide), ?_⟩)
            have hbig : (n + k - 1 - pl j) * (b + i) ≤ 240 * 300 := Nat.mul_le_mul (by omega) (by omega)
            refine sp_two G T (n := (n + k - 1 - pl j) * (b + i)) (nI_255 _ (by omega)) ?_
            refine sp_product G T _ _ (nm_r (e' := nI (en (s i + ra_sum (j + 1) (fun j => fx j * lo_X al (n + k) (pl j) ^ (b + i))))) ?_ (nm_r (nI_1 j) (ihv (j + 1) (by omega) (by omega))))
            rw [nx_xor, ← gf_add G, rp_mul]
            show nI (en (s i + ra_sum j (fun j => fx j * lo_X al (n + k) (pl j) ^ (b + i)) + fx j * lo_X al (n + k) (pl j) ^ (b + i))) = nI (en (s i + (ra_sum j (fun j => fx j * lo_X al (n + k) (pl j) ^ (b + i)) + fx j * lo_X al (n + k) (pl j) ^ (b + i))))
            congr 2
            grind
      refine ⟨L + 1, ?_⟩
      have := inner (L + 1) 0 (by omega) (by omega)
      have e0 : s i + ra_sum 0 (fun j => fx j * lo_X al (n + k) (pl j) ^ (b + i)) = s i := by
        show s i + 0 = s i
        grind
      rw [e0] at this
      exact this
  exact ⟨k + 1, outer (k + 1) 0 (by omega) (by omega) (fun x hx => absurd hx (Nat.not_lt_zero x))⟩
theorem sp_countErrors {K : Type} [F : Lean.Grind.Field K] {en : K → Nat} {al : K} (G : gf_ok K F en al) {N L : Nat} (hN : N ≤ 240) (hL : L ≤ 40) {Wl Sp Sf : Nat → Int32} {lp : Nat → Bool} (hl : zB Wl lp N) {fx : Nat → K} {pl : Nat → Nat} (hpl : ∀ j, j < L → pl j < N ∧ Sp j = nI (pl j)) (hf : ∀ j, j < L → Sf j = nI (en (fx j))) {post : Int32 → Prop} (h : post (nI (cn (fun j => !lp (pl j) && !Nat.beq (en (fx j)) 0) L))) : wp_So_countErrors Wl (nI L) Sp Sf post := by
  have key : ∀ (u j : Nat), j ≤ L → L - j < u → wp_So_countErrors_L4 Wl (nI L) Sp Sf post u (nI (cn (fun j => !lp (pl j) && !Nat.beq (en (fx j)) 0) j)) (nI j) := by
    intro u
    induction u with
    | zero => intro j g1 g2; omega
    | succ u ih =>
      intro j g1 g2
      refine pk_le L j (fun q => by rw [show j = L by omega]; exact h) (fun q => ?_)
      obtain ⟨hp1, hp2⟩ := hpl j q
      rw [nI_clamp (show j < 2 ^ 31 by omega), hp2, nI_clamp (show pl j < 2 ^ 31 by omega), hl _ hp1, hf j q]
      have hc := cn_id (fun j => !lp (pl j) && !Nat.beq (en (fx j)) 0) j
      refine ⟨vp_in_nI (by omega) (by decide), vp_in_nI (by omega) (by decide), ?_⟩
      have skip : (!lp (pl j) && !Nat.beq (en (fx j)) 0) = false → wp_So_countErrors_b38 Wl (nI L) Sp Sf post (wp_So_countErrors_L4 Wl (nI L) Sp Sf post u) (nI (cn (fun j => !lp (pl j) && !Nat.beq (en (fx j)) 0) j)) (nI j) := by
        intro hf0
        have := ih (j + 1) (by omega) (by omega)
        rw [cn_f (p := fun j => !lp (pl j) && !Nat.beq (en (fx j)) 0) hf0] at this
        exact nm_r (nI_1 j) this
      cases hp : lp (pl j) with
      | true => exact ⟨fun _ => skip (by rw [hp]; rfl), fun e => absurd e (by decide)⟩
      | false =>
        refine ⟨fun e => absurd rfl e, fun _ => ⟨vp_in_nI (by omega) (by decide), ?_⟩⟩
        refine pk_eq (en (fx j)) 0 (fun q2 => skip (by rw [hp, q2]; rfl)) (fun q2 => nm_r (nI_1 _) ?_) (ha := by have := gf_lt G (fx j); omega) (hb := by decide)
        have ht : (!lp (pl j) && !Nat.beq (en (fx j)) 0) = true := by
          rw [hp]
          cases hb : Nat.beq (en (fx j)) 0 with
          | true => exact absurd (Nat.eq_of_beq_eq_true hb) q2
          | false => rfl
        have := ih (j + 1) (by omega) (by omega)
        rw [cn_t (p := fun j => !lp (pl j) && !Nat.beq (en (fx j)) 0) ht] at this
        exact nm_r (nI_1 j) this
  exact ⟨L + 1, key (L + 1) 0 (by omega) (by omega)⟩
end SO3
/-- e puts the word right: t places that aren't lost, near enough -/
def er_ok {K : Type} [Lean.Grind.Field K] (en : K → Nat) (al : K) (N k b : Nat) (d : Nat → K) (lp : Nat → Bool) (t : Nat) (e : Nat → K) : Prop :=
  (∀ j, j < k → ra_sum N (fun i => (d i + e i) * lo_X al N i ^ (b + j)) = 0) ∧ 2 * t + cn lp N ≤ k ∧ t = cn (fun i => !lp i && !Nat.beq (en (e i)) 0) N
theorem ra_hv_sum {K : Type} [Lean.Grind.Field K] (p : Nat → K) (X : K) : ∀ N : Nat, ra_hv p X N = ra_sum N (fun i => p i * X ^ (N - 1 - i))
  | 0 => rfl
  | N + 1 => by rw [ra_hv_hq, ra_hq_sum]; rfl
section SO4
theorem sy_sum {K : Type} [Lean.Grind.Field K] (al : K) (d : Nat → K) (N m : Nat) : ra_hv d (al ^ m) N = ra_sum N (fun i => d i * lo_X al N i ^ m) := by
  rw [ra_hv_sum]
  exact ra_sum_congr (fun i _ => by unfold lo_X; rw [rp_comm])
/-- the errata's setting -/
theorem er_set {K : Type} [F : Lean.Grind.Field K] {en : K → Nat} {al : K} (G : gf_ok K F en al) {N k b t : Nat} (hN : N ≤ 240) {d e : Nat → K} {lp : Nat → Bool} (h : er_ok en al N k b d lp t e) : ra_set N k (lo_X al N) (fun i => e i * lo_X al N i ^ b) (fun j => ra_hv d (al ^ (b + j)) N) lp (fun i => !lp i && !Nat.beq (en (e i)) 0) := by
  refine ⟨lo_inj G (by omega), fun m hm => ?_, fun i hi he => ?_, fun i hi he => ?_⟩
  · have h1 := h.1 m hm
    show ra_hv d (al ^ (b + m)) N = ra_sum N (fun i => e i * lo_X al N i ^ b * lo_X al N i ^ m)
    rw [sy_sum]
    have h2 : ra_sum N (fun i => (d i + e i) * lo_X al N i ^ (b + m)) = ra_sum N (fun i => d i * lo_X al N i ^ (b + m)) + ra_sum N (fun i => e i * lo_X al N i ^ b * lo_X al N i ^ m) := by
      rw [← ra_sum_add]
      exact ra_sum_congr (fun i _ => by rw [Lean.Grind.Semiring.pow_add]; grind)
    rw [h2] at h1
    have h3 := gf_two G (ra_sum N (fun i => e i * lo_X al N i ^ b * lo_X al N i ^ m))
    grind
  · simp only [Bool.and_eq_true, Bool.not_eq_true'] at he
    refine ⟨he.1, fun h0 => ?_⟩
    rcases Lean.Grind.Field.of_mul_eq_zero h0 with h1 | h1
    · rw [h1, gf_zero G] at he
      exact absurd he.2 (by decide)
    · exact rp_ne (lo_ne G N i) b h1
  · cases hp : lp i with
    | true => exact Or.inl rfl
    | false =>
      replace he : (!lp i && !Nat.beq (en (e i)) 0) = false := he
      rw [hp] at he
      have : Nat.beq (en (e i)) 0 = true := by
        cases hb : Nat.beq (en (e i)) 0 with
        | true => rfl
        | false => rw [hb] at he; cases he
      right
      show e i * lo_X al N i ^ b = 0
      rw [(gf_en0 G).mp (Nat.eq_of_beq_eq_true this)]; grind
/-- the class's value is the errata's, where there is one -/
theorem fx_right {K : Type} [F : Lean.Grind.Field K] {en : K → Nat} {al : K} (G : gf_ok K F en al) {N k b t L : Nat} (hN : N ≤ 240) (hk : k ≤ 40) {d e p : Nat → K} {lp : Nat → Bool} (h : er_ok en al N k b d lp t e) (hL : L = cn lp N + t) (h0 : p 0 = 1) (hd : ∀ i, L < i → p i = 0) (hroot : ∀ i, i < N → (ra_hq p (lo_X al N i) L = 0 ↔ (lp i || (!lp i && !Nat.beq (en (e i)) 0)) = true)) {i : Nat} (hi : i < N) (hir : (lp i || (!lp i && !Nat.beq (en (e i)) 0)) = true) : fx_v al N b L p (fun j => ra_hv d (al ^ (b + j)) N) i = e i := by
  have S := er_set G hN h
  have hlen : cn (fun i => lp i || (!lp i && !Nat.beq (en (e i)) 0)) N = L := by
    rw [← cn_len, ra_filter_or _ (fun x _ hx => by rw [hx]; rfl), cn_len, cn_len, hL, h.2.2]
  obtain ⟨w, hw⟩ : ∃ w, L = w + 1 := by
    refine ⟨L - 1, ?_⟩
    have h1 := cn_le (fun i => lp i || (!lp i && !Nat.beq (en (e i)) 0)) (show i + 1 ≤ N from hi)
    rw [cn_t (p := fun i => lp i || (!lp i && !Nat.beq (en (e i)) 0)) hir] at h1
    omega
  subst hw
  have hy : ∀ x, x < N → (lp x || (!lp x && !Nat.beq (en (e x)) 0)) = false → e x * lo_X al N x ^ b = 0 := by
    intro x hx hf
    rcases S.2.2.2 x hx (by cases hl : lp x <;> simp_all) with h1 | h1
    · rw [h1] at hf; cases hf
    · exact h1
  have hF := ra_forney (gf_two G) S (p := p) (w := w) (by have := h.2.1; omega) (fun x hx hr => (hroot x hx).mpr hr) hy hi hir
  have hD := ra_slope_ne (gf_two G) rp_10 S.1 (rp := fun i => lp i || (!lp i && !Nat.beq (en (e i)) 0)) h0 (by rw [cn_len]; exact hlen) (fun x hx hr => (hroot x hx).mpr hr) hi hir
  have hXx : lo_X al N i * al ^ (255 - (N - 1 - i)) = 1 := lo_inv G (by omega)
  have hX0 := lo_ne G N i
  rw [ra_hq_ev _ hXx] at hF
  -- the slope
  have hsl : ra_al p (lo_X al N i) w * lo_X al N i = lo_X al N i ^ w * ra_sum 20 (fun m => p (2 * m + 1) * (al ^ (255 - (N - 1 - i)) * al ^ (255 - (N - 1 - i))) ^ m) := by
    have hsq : lo_X al N i * lo_X al N i * (al ^ (255 - (N - 1 - i)) * al ^ (255 - (N - 1 - i))) = 1 := by grind
    have hodd : ∀ q : Nat, q < 20 → (∀ m, q < m → p (2 * m + 1) = 0) → ra_al p (lo_X al N i) (2 * q + 1) = lo_X al N i ^ (2 * q) * ra_sum 20 (fun m => p (2 * m + 1) * (al ^ (255 - (N - 1 - i)) * al ^ (255 - (N - 1 - i))) ^ m) := by
      intro q hq hz
      rw [ra_al_odd, ra_hq_ev _ hsq, rp_sq, ra_sum_cut (j := q + 1) (n := 20) (by omega) (fun m h1 h2 => by rw [hz m (by omega)]; grind)]
    have hbound := h.2.1
    rcases Nat.mod_two_eq_zero_or_one w with hm | hm
    · have h1 := (hroot i hi).mpr hir
      rw [ra_al_split] at h1
      have h2 := hodd (w / 2) (by omega) (fun m hm2 => hd _ (by omega))
      rw [show 2 * (w / 2) + 1 = w + 1 by omega, show 2 * (w / 2) = w by omega] at h2
      have h3 := gf_two G (lo_X al N i * ra_al p (lo_X al N i) w)
      grind
    · have h2 := hodd (w / 2) (by omega) (fun m hm2 => hd _ (by omega))
      rw [show 2 * (w / 2) + 1 = w by omega] at h2
      rw [h2]
      conv => rhs; rw [show w = 2 * (w / 2) + 1 by omega, Lean.Grind.Semiring.pow_succ]
      grind
  have hXw : lo_X al N i ^ w ≠ 0 := rp_ne hX0 w
  have hXb : lo_X al N i ^ b ≠ 0 := rp_ne hX0 b
  have hsn : ra_sum 20 (fun m => p (2 * m + 1) * (al ^ (255 - (N - 1 - i)) * al ^ (255 - (N - 1 - i))) ^ m) ≠ 0 := by
    intro e0
    rw [e0] at hsl
    rcases Lean.Grind.Field.of_mul_eq_zero (show ra_al p (lo_X al N i) w * lo_X al N i = 0 by rw [hsl]; grind) with h1 | h1
    · exact hD h1
    · exact hX0 h1
  have hpw : al ^ ((N - 1 - i) * (1 + 254 * b)) * lo_X al N i ^ b = lo_X al N i := by
    rw [rp_mul]
    show lo_X al N i ^ (1 + 254 * b) * lo_X al N i ^ b = lo_X al N i
    rw [← Lean.Grind.Semiring.pow_add, show 1 + 254 * b + b = 1 + 255 * b by omega, Lean.Grind.Semiring.pow_add, rp_mul]
    have : lo_X al N i ^ 255 = 1 := by unfold lo_X; rw [rp_comm, gf_255 G, rp_one]
    rw [this, rp_one, Lean.Grind.Semiring.pow_one]; grind
  unfold fx_v
  have hF' : lo_X al N i ^ w * ra_sum (w + 1) (fun j => ra_cv p (fun j => ra_hv d (al ^ (b + j)) N) j * (al ^ (255 - (N - 1 - i))) ^ j) = e i * lo_X al N i ^ b * ra_al p (lo_X al N i) w := hF
  generalize ra_sum (w + 1) (fun j => ra_cv p (fun j => ra_hv d (al ^ (b + j)) N) j * (al ^ (255 - (N - 1 - i))) ^ j) = O at hF' ⊢
  generalize ra_sum 20 (fun m => p (2 * m + 1) * (al ^ (255 - (N - 1 - i)) * al ^ (255 - (N - 1 - i))) ^ m) = Sl at hsl hsn ⊢
  generalize ra_al p (lo_X al N i) w = D at hF' hsl hD
  generalize lo_X al N i ^ w = Xw at hF' hsl hXw
  generalize al ^ ((N - 1 - i) * (1 + 254 * b)) = Y at hpw ⊢
  generalize lo_X al N i ^ b = Xb at hF' hpw hXb
  generalize lo_X al N i = X at hsl hpw hX0
  generalize e i = ei at hF' ⊢
  -- Xw O = ei Xb D, D X = Xw Sl, Y Xb = X
  have h1 : Sl * Sl⁻¹ = 1 := Lean.Grind.Field.mul_inv_cancel hsn
  have h2 : (O * Sl⁻¹ * Y) * (Sl * Xb * Xw) = ei * (Sl * Xb * Xw) := by
    have : (O * Sl⁻¹ * Y) * (Sl * Xb * Xw) = (Sl * Sl⁻¹) * ((Xw * O) * (Y * Xb)) := by grind
    rw [this, h1, hF', hpw]
    have : ei * (Sl * Xb * Xw) = ei * Xb * (Xw * Sl) := by grind
    rw [this, ← hsl]
    grind
  have hne : Sl * Xb * Xw ≠ 0 := by
    intro h3
    rcases Lean.Grind.Field.of_mul_eq_zero h3 with h4 | h4
    · rcases Lean.Grind.Field.of_mul_eq_zero h4 with h5 | h5
      · exact hsn h5
      · exact hXb h5
    · exact hXw h4
  have h3 : (O * Sl⁻¹ * Y - ei) * (Sl * Xb * Xw) = 0 := by grind
  rcases Lean.Grind.Field.of_mul_eq_zero h3 with h4 | h4
  · grind
  · exact absurd h4 hne
end SO4
