/-! The solver of the class: places, values, the whole. -/
theorem rp_mulpow {K : Type} [Lean.Grind.Field K] (a b : K) : ∀ n : Nat, (a * b) ^ n = a ^ n * b ^ n
  | 0 => by rw [Lean.Grind.Semiring.pow_zero, Lean.Grind.Semiring.pow_zero, Lean.Grind.Semiring.pow_zero]; grind
  | n + 1 => by rw [Lean.Grind.Semiring.pow_succ, rp_mulpow a b n, Lean.Grind.Semiring.pow_succ, Lean.Grind.Semiring.pow_succ]; grind
theorem ra_hq_ev {K : Type} [Lean.Grind.Field K] (p : Nat → K) {X x : K} (hX : X * x = 1) (d : Nat) : ra_hq p X d = X ^ d * ra_sum (d + 1) (fun j => p j * x ^ j) := by
  rw [ra_hq_sum, ← ra_sum_mul]
  refine ra_sum_congr (fun j hj => ?_)
  have h1 : X ^ j * x ^ j = 1 := by rw [← rp_mulpow, hX, rp_one]
  have h2 : X ^ d = X ^ (d - j) * X ^ j := by rw [← Lean.Grind.Semiring.pow_add]; congr 1; omega
  rw [h2]
  grind
theorem ra_al_odd {K : Type} [Lean.Grind.Field K] (p : Nat → K) (X : K) : ∀ q : Nat, ra_al p X (2 * q + 1) = ra_hq (fun m => p (2 * m + 1)) (X * X) q
  | 0 => rfl
  | q + 1 => by
    show p (2 * q + 1 + 2) + X * X * ra_al p X (2 * q + 1) = p (2 * (q + 1) + 1) + X * X * ra_hq (fun m => p (2 * m + 1)) (X * X) q
    rw [ra_al_odd p X q]
    rfl
/-- the place of the j-th one -/
def nth (p : Nat → Bool) (N j : Nat) : Nat := ((List.range N).filter p).getD j 0
theorem nth_succ {p : Nat → Bool} {N j : Nat} (h : j < cn p N) : nth p (N + 1) j = nth p N j := by
  unfold nth
  rw [List.range_succ, List.filter_append, List.getD_eq_getElem?_getD, List.getD_eq_getElem?_getD, List.getElem?_append_left (by rw [cn_len]; exact h)]
theorem nth_last {p : Nat → Bool} {N : Nat} (h : p N = true) : nth p (N + 1) (cn p N) = N := by
  unfold nth
  rw [List.range_succ, List.filter_append, List.getD_eq_getElem?_getD, List.getElem?_append_right (by rw [cn_len]; exact Nat.le_refl _), cn_len, Nat.sub_self]
  simp [h]
theorem nth_ok {p : Nat → Bool} : ∀ {N j : Nat}, j < cn p N → nth p N j < N ∧ p (nth p N j) = true ∧ cn p (nth p N j) = j
  | 0, j, h => absurd h (Nat.not_lt_zero j)
  | N + 1, j, h => by
    rcases Nat.lt_or_ge j (cn p N) with q | q
    · rw [nth_succ q]
      have := nth_ok q
      exact ⟨by omega, this.2⟩
    · cases hp : p N with
      | false => rw [cn_f hp] at h; omega
      | true =>
        rw [cn_t hp] at h
        rw [show j = cn p N by omega, nth_last hp]
        exact ⟨by omega, hp, rfl⟩
theorem nth_cn {p : Nat → Bool} : ∀ {N i : Nat}, i < N → p i = true → nth p N (cn p i) = i
  | 0, i, h, _ => absurd h (Nat.not_lt_zero i)
  | N + 1, i, h, hp => by
    rcases Nat.lt_or_ge i N with q | q
    · rw [nth_succ, nth_cn q hp]
      have := cn_le p (show i + 1 ≤ N from q)
      rw [cn_t hp] at this
      omega
    · rw [show i = N by omega] at hp ⊢
      exact nth_last hp
theorem nth_sum {K : Type} [Lean.Grind.Field K] {p : Nat → Bool} (g : Nat → K) : ∀ N : Nat, ra_sum (cn p N) (fun j => g (nth p N j)) = ra_sum N (fun i => if p i then g i else 0)
  | 0 => rfl
  | N + 1 => by
    show _ = ra_sum N (fun i => if p i then g i else 0) + (if p N then g N else 0)
    rw [← nth_sum g N]
    cases hp : p N with
    | false =>
      rw [cn_f hp, ra_sum_congr (fun j hj => by rw [nth_succ hj])]
      show _ = _ + (0 : K)
      grind
    | true =>
      rw [cn_t hp]
      show ra_sum (cn p N) (fun j => g (nth p (N + 1) j)) + g (nth p (N + 1) (cn p N)) = _ + g N
      rw [nth_last hp, ra_sum_congr (fun j hj => by rw [nth_succ hj])]
theorem nth_count {p q : Nat → Bool} : ∀ N : Nat, cn (fun j => q (nth p N j)) (cn p N) = cn (fun i => p i && q i) N
  | 0 => rfl
  | N + 1 => by
    have hc : ∀ {a b : Nat → Bool} (n : Nat), (∀ j, j < n → a j = b j) → cn a n = cn b n := by
      intro a b n
      induction n with
      | zero => intro _; rfl
      | succ n ih =>
        intro hh
        show cn a n + (if a n then 1 else 0) = cn b n + (if b n then 1 else 0)
        rw [ih (fun j hj => hh j (by omega)), hh n (by omega)]
    show _ = cn (fun i => p i && q i) N + (if (p N && q N) then 1 else 0)
    rw [← nth_count N]
    cases hp : p N with
    | false =>
      rw [cn_f hp, hc (cn p N) (fun j hj => by rw [nth_succ hj])]
      rfl
    | true =>
      rw [cn_t hp]
      show cn (fun j => q (nth p (N + 1) j)) (cn p N) + (if q (nth p (N + 1) (cn p N)) then 1 else 0) = _
      rw [nth_last hp, hc (cn p N) (fun j hj => by rw [nth_succ hj])]
      rfl
theorem cn_congr {a b : Nat → Bool} : ∀ {n : Nat}, (∀ j, j < n → a j = b j) → cn a n = cn b n
  | 0, _ => rfl
  | n + 1, h => by
    show cn a n + (if a n then 1 else 0) = cn b n + (if b n then 1 else 0)
    rw [cn_congr (fun j hj => h j (by omega)), h n (by omega)]
theorem cn_two {a b c : Nat → Bool} : ∀ {n : Nat}, (∀ j, j < n → a j = true → c j = true ∧ b j = false) → (∀ j, j < n → b j = true → c j = true) → cn a n + cn b n ≤ cn c n
  | 0, _, _ => Nat.le_refl 0
  | n + 1, h1, h2 => by
    have ih := cn_two (fun j hj => h1 j (Nat.lt_succ_of_lt hj)) (fun j hj => h2 j (Nat.lt_succ_of_lt hj))
    show cn a n + (if a n then 1 else 0) + (cn b n + (if b n then 1 else 0)) ≤ cn c n + (if c n then 1 else 0)
    cases ha : a n with
    | true =>
      have := h1 n (Nat.lt_succ_self n) ha
      rw [this.1, this.2]
      simp only [if_true, if_false, Bool.false_eq_true]
      omega
    | false =>
      cases hb : b n with
      | true =>
        rw [h2 n (Nat.lt_succ_self n) hb]
        simp only [if_true, if_false, Bool.false_eq_true]
        omega
      | false =>
        simp only [if_false, Bool.false_eq_true]
        split <;> omega
section SO2
theorem nI_neg (n : Nat) (h : n < 2 ^ 31) : (-(nI n)).toInt = -(n : Int) := by
  rw [Int32.toInt_neg, nI_toInt h]
  exact Int.bmod_eq_of_le (by omega) (by omega)
theorem sp_valueOf {K : Type} [F : Lean.Grind.Field K] {en : K → Nat} {al : K} (G : gf_ok K F en al) {Fp Fl : Nat → Int32} (T : ft_ok Fp Fl) {Sl : Nat → Int32} {p : Nat → K} {w : Nat} (hw : w ≤ 41) (hp : ∀ i, i < w → Sl i = nI (en (p i))) (x : K) {post : Int32 → Prop} (h : post (nI (en (ra_sum w (fun j => p j * x ^ j))))) : wp_Fi_valueOf Fp Fl Sl (nI w) (nI (en x)) post := by
  have key : ∀ (i : Nat) (V : K), i ≤ w → V * x ^ i + ra_sum i (fun j => p j * x ^ j) = ra_sum w (fun j => p j * x ^ j) → wp_Fi_valueOf_L13 Fp Fl Sl post (i + 1) (nI (en x)) (nI (en V)) (nI i - 1) := by
    intro i
    induction i with
    | zero =>
      intro V h1 h2
      refine ⟨fun _ => ?_, fun q => absurd (show (nI 0 - 1 : Int32) < 0 by decide) q⟩
      rw [← h2] at h
      have e : V * x ^ 0 + ra_sum 0 (fun j => p j * x ^ j) = V := by
        show V * x ^ 0 + 0 = V
        rw [Lean.Grind.Semiring.pow_zero]; grind
      rw [e] at h; exact h
    | succ i ih =>
      intro V h1 h2
      rw [show nI (i + 1) - (1 : Int32) = nI i from nI_pred i]
      refine ⟨fun q => absurd q (pz_lt0 (by omega)), fun _ => ?_⟩
      refine sp_product G T _ _ ⟨vp_in_nI (by omega) (by decide), ?_⟩
      rw [nI_clamp (by omega), hp i (by omega)]
      refine nm_r (e' := nI (en (V * x + p i))) (by rw [nx_xor, ← gf_add G]) (nm_r (e' := nI i - 1) ?_ (ih (V * x + p i) (by omega) ?_))
      · exact (Int32.sub_eq_add_neg _ _).symm
      · rw [← h2]
        show _ = V * x ^ (i + 1) + (ra_sum i (fun j => p j * x ^ j) + p i * x ^ i)
        rw [Lean.Grind.Semiring.pow_succ]; grind
  have e : wp_Math_min (nI w) (41 : Int32) (fun r => ∀ x5 : Int32, x5 = r - (1 : Int32) → ∃ n : Nat, wp_Fi_valueOf_L13 Fp Fl Sl post n (nI (en x)) (0 : Int32) x5) := by
    refine ⟨fun q => ?_, fun _ => ?_⟩
    · exact absurd (pz_lt (a := 41) (by decide) (by omega) q) (by omega)
    · intro x5 e5
      rw [e5]
      refine ⟨w + 1, ?_⟩
      have := key w 0 (Nat.le_refl w) (by grind)
      rw [gf_zero G] at this
      exact this
  exact e
theorem sp_slopeAt {K : Type} [F : Lean.Grind.Field K] {en : K → Nat} {al : K} (G : gf_ok K F en al) {Fp Fl : Nat → Int32} (T : ft_ok Fp Fl) {Sl : Nat → Int32} {p : Nat → K} (hp : ∀ i, i < 41 → Sl i = nI (en (p i))) (x : K) {post : Int32 → Prop} (h : post (nI (en (ra_sum 20 (fun m => p (2 * m + 1) * (x * x) ^ m))))) : wp_So_slopeAt Fp Fl Sl (nI (en x)) post := by
  refine sp_product G T _ _ ?_
  have key : ∀ (i : Nat) (V : K), i ≤ 20 → V * (x * x) ^ i + ra_sum i (fun m => p (2 * m + 1) * (x * x) ^ m) = ra_sum 20 (fun m => p (2 * m + 1) * (x * x) ^ m) → ∀ z : Int32, z = nI (2 * i) - 1 → wp_So_slopeAt_L16 Fp Fl Sl post (i + 1) (nI (en (x * x))) (nI (en V)) z := by
    intro i
    induction i with
    | zero =>
      intro V h1 h2 z hz
      rw [hz]
      refine ⟨fun _ => ?_, fun q => absurd (show (nI (2 * 0) - 1 : Int32) < 1 by decide) q⟩
      rw [← h2] at h
      have e : V * (x * x) ^ 0 + ra_sum 0 (fun m => p (2 * m + 1) * (x * x) ^ m) = V := by
        show V * (x * x) ^ 0 + 0 = V
        rw [Lean.Grind.Semiring.pow_zero]; grind
      rw [e] at h; exact h
    | succ i ih =>
      intro V h1 h2 z hz
      have hz' : z = nI (2 * i + 1) := by
        rw [hz, show 2 * (i + 1) = (2 * i + 1) + 1 by omega]; exact nI_pred _
      rw [hz']
      refine ⟨fun q => absurd (pz_lt (b := 1) (by omega) (by decide) q) (by omega), fun _ => ?_⟩
      refine sp_product G T _ _ ⟨vp_in_nI (by omega) (by decide), ?_⟩
      rw [nI_clamp (by omega), hp (2 * i + 1) (by omega)]
      refine nm_r (e' := nI (en (V * (x * x) + p (2 * i + 1)))) (by rw [nx_xor, ← gf_add G]) (nm_e (ih (V * (x * x) + p (2 * i + 1)) (by omega) ?_ _ ?_))
      · rw [← h2]
        show _ = V * (x * x) ^ (i + 1) + (ra_sum i (fun m => p (2 * m + 1) * (x * x) ^ m) + p (2 * i + 1) * (x * x) ^ i)
        rw [Lean.Grind.Semiring.pow_succ]; grind
      · rw [← nI_1 (2 * i), Int32.add_assoc, show (1 : Int32) + (-2) = -1 by decide, ← Int32.sub_eq_add_neg]
  refine ⟨21, ?_⟩
  have := key 20 0 (Nat.le_refl _) (by grind) (39 : Int32) (by decide)
  rw [gf_zero G] at this
  exact this
/-- the locator of a place -/
def lo_X {K : Type} [Lean.Grind.Field K] (al : K) (N i : Nat) : K := al ^ (N - 1 - i)
theorem lo_inv {K : Type} [F : Lean.Grind.Field K] {en : K → Nat} {al : K} (G : gf_ok K F en al) {e : Nat} (h : e < 255) : al ^ e * al ^ (255 - e) = 1 := by
  rw [← Lean.Grind.Semiring.pow_add, show e + (255 - e) = 255 by omega]; exact gf_255 G
theorem lo_ne {K : Type} [F : Lean.Grind.Field K] {en : K → Nat} {al : K} (G : gf_ok K F en al) (N i : Nat) : lo_X al N i ≠ 0 := rp_ne (gf_al_ne G) _
theorem lo_inj {K : Type} [F : Lean.Grind.Field K] {en : K → Nat} {al : K} (G : gf_ok K F en al) {N : Nat} (hN : N ≤ 255) (i j : Nat) (hi : i < N) (hj : j < N) (h : lo_X al N i = lo_X al N j) : i = j := by
  have := gf_pow_inj G (show N - 1 - i < 255 by omega) (show N - 1 - j < 255 by omega) h
  omega
/-- whether a place is a root, as a number's test -/
def rt_p {K : Type} [Lean.Grind.Field K] (en : K → Nat) (al : K) (N L : Nat) (p : Nat → K) (i : Nat) : Bool := Nat.beq (en (ra_sum (L + 1) (fun j => p j * (al ^ (255 - (N - 1 - i))) ^ j))) 0
theorem rt_iff {K : Type} [F : Lean.Grind.Field K] {en : K → Nat} {al : K} (G : gf_ok K F en al) {N L i : Nat} (hN : N ≤ 240) (p : Nat → K) : rt_p en al N L p i = true ↔ ra_hq p (lo_X al N i) L = 0 := by
  unfold rt_p lo_X
  rw [ra_hq_ev p (lo_inv G (show N - 1 - i < 255 by omega))]
  constructor
  · intro h
    rw [(gf_en0 G).mp (Nat.eq_of_beq_eq_true h)]; grind
  · intro h
    rcases Lean.Grind.Field.of_mul_eq_zero h with h1 | h1
    · exact absurd h1 (rp_ne (rp_ne (gf_al_ne G) _) _)
    · rw [h1, gf_zero G]; rfl
theorem neg_255 (e : Nat) (h : e ≤ 240) : (-(nI e)).toInt % 255 = ((255 - e : Nat) : Int) % 255 := by
  rw [nI_neg e (by omega)]; omega
theorem sp_findPlaces {K : Type} [F : Lean.Grind.Field K] {en : K → Nat} {al : K} (G : gf_ok K F en al) {Fp Fl : Nat → Int32} (T : ft_ok Fp Fl) {n k L : Nat} (hN : n + k ≤ 240) (hL : L ≤ 40) {Sl Sp : Nat → Int32} {p : Nat → K} (hp : ∀ i, i < 41 → Sl i = nI (en (p i))) {post : Int32 → Int32 → (Nat → Int32) → Prop} (h1 : cn (rt_p en al (n + k) L p) (n + k) = L → ∀ f : Nat → Int32, (∀ j, j < L → f j = nI (nth (rt_p en al (n + k) L p) (n + k) j)) → post 1 (nI L) f) (h0 : cn (rt_p en al (n + k) L p) (n + k) ≠ L → ∀ (z : Int32) (f : Nat → Int32), post 0 z f) : wp_So_findPlaces Fp Fl (nI n) (nI k) (0 : Int32) Sl Sp (nI L) post := by
  have key : ∀ (u i : Nat) (f : Nat → Int32), i ≤ n + k → n + k - i < u → cn (rt_p en al (n + k) L p) i ≤ L → (∀ x, x < i → rt_p en al (n + k) L p x = true → f (cn (rt_p en al (n + k) L p) x) = nI x) → wp_So_findPlaces_L2 Fp Fl (nI n) (nI k) Sl post u (nI (cn (rt_p en al (n + k) L p) i)) f (nI L) (nI i) := by
    intro u
    induction u with
    | zero => intro i f g1 g2; omega
    | succ u ih =>
      intro i f g1 g2 g3 g4
      show wp_So_findPlaces_b2 Fp Fl (nI n) (nI k) Sl post _ _ _ _ _
      unfold wp_So_findPlaces_b2
      refine sp_size (pk_le (n + k) i (fun q => ?_) (fun q => ?_))
      · have hi : i = n + k := by omega
        subst hi
        refine pz_ne (cn (rt_p en al (n + k) L p) (n + k)) L (fun q2 => ⟨rfl, h0 q2 _ _⟩) (fun q2 => ⟨rfl, ?_⟩)
        rw [q2]
        refine h1 q2 f (fun j hj => ?_)
        have hn := nth_ok (p := rt_p en al (n + k) L p) (N := n + k) (j := j) (by omega)
        have := g4 _ hn.1 hn.2.1
        rw [hn.2.2] at this
        exact this
      · refine sp_powerAt q (sp_two G T (n := 255 - (n + k - 1 - i)) (neg_255 _ (by omega)) ?_)
        rw [nI_1 L]
        refine sp_valueOf G T (by omega) (fun j hj => hp j (by omega)) _ ?_
        have step : ∀ f' : Nat → Int32, (∀ x, x < i + 1 → rt_p en al (n + k) L p x = true → f' (cn (rt_p en al (n + k) L p) x) = nI x) → cn (rt_p en al (n + k) L p) (i + 1) ≤ L → wp_So_findPlaces_b83 Fp Fl (nI n) (nI k) Sl post (wp_So_findPlaces_L2 Fp Fl (nI n) (nI k) Sl post u) (nI (cn (rt_p en al (n + k) L p) (i + 1))) f' (nI L) (nI i) := fun f' hf' hle => nm_r (nI_1 i) (ih (i + 1) f' (by omega) (by omega) hle hf')
        refine pz_ne _ 0 (fun q2 => ?_) (fun q2 => ?_) (ha := by have := gf_lt G (ra_sum (L + 1) (fun j => p j * (al ^ (255 - (n + k - 1 - i))) ^ j)); omega) (hb := by decide)
        · have hf : rt_p en al (n + k) L p i = false := by
            cases hh : rt_p en al (n + k) L p i with
            | false => rfl
            | true => exact absurd (Nat.eq_of_beq_eq_true hh) q2
          have := step f (fun x hx hpx => by
            rcases Nat.lt_or_ge x i with q3 | q3
            · exact g4 x q3 hpx
            · rw [show x = i by omega, hf] at hpx; cases hpx) (by rw [cn_f hf]; exact g3)
          rw [cn_f hf] at this
          exact this
        · have ht : rt_p en al (n + k) L p i = true := by unfold rt_p; rw [q2]; rfl
          have hmore : cn (rt_p en al (n + k) L p) i + 1 ≤ cn (rt_p en al (n + k) L p) (n + k) := by
            rw [← cn_t ht]; exact cn_le _ q
          refine pk_le L (cn (rt_p en al (n + k) L p) i) (fun q3 => h0 (by omega) _ _) (fun q3 => ?_)
          refine pk_lt (cn (rt_p en al (n + k) L p) i) 40 (fun _ => ⟨vp_in_nI (by omega) (by decide), nm_r (nI_1 _) ?_⟩) (fun q4 => by omega)
          rw [nI_clamp (by omega)]
          have := step (upd f (cn (rt_p en al (n + k) L p) i) (nI i)) (fun x hx hpx => by
            rcases Nat.lt_or_ge x i with q5 | q5
            · have hlt : cn (rt_p en al (n + k) L p) x + 1 ≤ cn (rt_p en al (n + k) L p) i := by rw [← cn_t hpx]; exact cn_le _ q5
              rw [pk_un (by omega)]; exact g4 x q5 hpx
            · rw [show x = i by omega]; exact pk_us) (by rw [cn_t ht]; omega)
          rw [cn_t ht] at this
          exact this
  exact ⟨n + k + 1, key (n + k + 1) 0 Sp (by omega) (by omega) (Nat.zero_le _) (fun x hx => absurd hx (Nat.not_lt_zero x))⟩
end SO2
