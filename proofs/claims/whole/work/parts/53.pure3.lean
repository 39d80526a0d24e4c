/-! The solver of the class, its parts up to the locator. -/
def cn (p : Nat → Bool) : Nat → Nat
  | 0 => 0
  | i + 1 => cn p i + (if p i then 1 else 0)
theorem cn_len (p : Nat → Bool) : ∀ n : Nat, ((List.range n).filter p).length = cn p n
  | 0 => rfl
  | n + 1 => by
    rw [List.range_succ, List.filter_append, List.length_append, cn_len p n]
    show _ = cn p n + (if p n then 1 else 0)
    cases h : p n <;> simp [h]
theorem cn_t {p : Nat → Bool} {i : Nat} (h : p i = true) : cn p (i + 1) = cn p i + 1 := by
  show cn p i + (if p i then 1 else 0) = cn p i + 1
  rw [h]; rfl
theorem cn_f {p : Nat → Bool} {i : Nat} (h : p i = false) : cn p (i + 1) = cn p i := by
  show cn p i + (if p i then 1 else 0) = cn p i
  rw [h]; rfl
theorem cn_le (p : Nat → Bool) {i : Nat} : ∀ {j : Nat}, i ≤ j → cn p i ≤ cn p j
  | 0, h => by rw [show i = 0 by omega]; exact Nat.le_refl _
  | j + 1, h => by
    rcases Nat.lt_or_ge j i with q | q
    · rw [show i = j + 1 by omega]; exact Nat.le_refl _
    · exact Nat.le_trans (cn_le p q) (Nat.le_add_right _ _)
theorem cn_no {p : Nat → Bool} {i j : Nat} (h : cn p i = cn p j) {x : Nat} (h1 : i ≤ x) (h2 : x < j) : p x = false := by
  cases hp : p x with
  | false => rfl
  | true =>
    exfalso
    have a1 := cn_le p h1
    have a2 := cn_le p (show x + 1 ≤ j from h2)
    rw [cn_t hp] at a2
    omega
theorem cn_id (p : Nat → Bool) : ∀ n : Nat, cn p n ≤ n
  | 0 => Nat.le_refl 0
  | n + 1 => by
    have := cn_id p n
    show cn p n + (if p n then 1 else 0) ≤ n + 1
    split <;> omega
theorem ra_sum_cut {K : Type} [Lean.Grind.Field K] {f : Nat → K} {j : Nat} : ∀ {n : Nat}, j ≤ n → (∀ i, j ≤ i → i < n → f i = 0) → ra_sum n f = ra_sum j f
  | 0, h, _ => by rw [show j = 0 by omega]
  | n + 1, h, hz => by
    rcases Nat.lt_or_ge n j with q | q
    · rw [show j = n + 1 by omega]
    · show ra_sum n f + f n = ra_sum j f
      rw [ra_sum_cut q (fun i h1 h2 => hz i h1 (by omega)), hz n q (by omega)]; grind
section SO
theorem sp_readSyndromes {K : Type} [F : Lean.Grind.Field K] {en : K → Nat} {al : K} (G : gf_ok K F en al) {Fp Fl : Nat → Int32} (T : ft_ok Fp Fl) {n k b : Nat} (hN : n + k ≤ 240) (hk : k ≤ 40) (hb : b < 255) {Wb Wl : Nat → Int32} {c : Nat → K} {lp : Nat → Bool} (hc : ∀ i, i < n + k → Wb i = nI (en (c i))) (hl : zB Wl lp (n + k)) {Ss : Nat → Int32} {post : (Nat → Int32) → Prop} (h : ∀ f : Nat → Int32, (∀ j, j < k → f j = nI (en (ra_hv (fun i => if lp i then 0 else c i) (al ^ (b + j)) (n + k)))) → post f) : wp_So_readSyndromes Fp Fl (nI n) (nI k) (nI b) Wb Wl Ss post := by
  have key : ∀ (r j : Nat) (f : Nat → Int32), j ≤ k → k - j < r → (∀ x, x < j → f x = nI (en (ra_hv (fun i => if lp i then 0 else c i) (al ^ (b + x)) (n + k)))) → wp_So_readSyndromes_L2 Fp Fl (nI n) (nI k) (nI b) Wb Wl post r f (nI j) := by
    intro r
    induction r with
    | zero => intro j f h1 h2; omega
    | succ r ih =>
      intro j f h1 h2 h3
      refine pk_le k j (fun q => h f (fun x hx => h3 x (by omega))) (fun q => ?_)
      rw [nI_add]
      refine sp_valueFor G T hN hc hl (m := b + j) (nI_255 _ (by omega)) ⟨vp_in_nI (by omega) (by decide), nm_r (nI_1 j) ?_⟩
      rw [nI_clamp (by omega)]
      refine ih (j + 1) _ (by omega) (by omega) (fun x hx => ?_)
      by_cases e : x = j
      · subst e; exact pk_us
      · rw [pk_un e]; exact h3 x (by omega)
  exact ⟨k + 1, key (k + 1) 0 Ss (by omega) (by omega) (fun x hx => absurd hx (Nat.not_lt_zero x))⟩
theorem sp_locateLost {K : Type} [F : Lean.Grind.Field K] {en : K → Nat} {al : K} (G : gf_ok K F en al) {Fp Fl : Nat → Int32} (T : ft_ok Fp Fl) {n k : Nat} (hN : n + k ≤ 240) {Wl : Nat → Int32} {lp : Nat → Bool} (hl : zB Wl lp (n + k)) (hv : cn lp (n + k) ≤ 40) {Sl : Nat → Int32} {post : (Nat → Int32) → Prop} (h : ∀ (f : Nat → Int32) (p : Nat → K), (∀ i, i < 41 → f i = nI (en (p i))) → p 0 = 1 → (∀ i, cn lp (n + k) < i → p i = 0) → (∀ i, i < n + k → lp i = true → ra_hq p (al ^ (n + k - 1 - i)) (cn lp (n + k)) = 0) → post f) : wp_So_locateLost Fp Fl (nI n) (nI k) Wl Sl post := by
  refine sp_fill2 (by decide) (fun f0 hf0 => ?_)
  have key : ∀ (r i : Nat) (f : Nat → Int32) (p : Nat → K), i ≤ n + k → n + k - i < r → (∀ x, x < 41 → f x = nI (en (p x))) → p 0 = 1 → (∀ x, cn lp i < x → p x = 0) → (∀ x, x < i → lp x = true → ra_hq p (al ^ (n + k - 1 - x)) (cn lp i) = 0) → wp_So_locateLost_L19 Fp Fl (nI n) (nI k) Wl post r f (nI (cn lp i)) (nI i) := by
    intro r
    induction r with
    | zero => intro i f p h1 h2; omega
    | succ r ih =>
      intro i f p h1 h2 h3 h4 h5 h6
      show wp_So_locateLost_b19 Fp Fl (nI n) (nI k) Wl post _ _ _ _
      unfold wp_So_locateLost_b19
      have hle := cn_le lp h1
      refine sp_size (pk_le (n + k) i (fun q => ?_) (fun q => pk_le 40 (cn lp i) (fun q2 => ?_) (fun q2 => ⟨vp_in_nI (by omega) (by decide), ?_⟩)))
      · have hi : i = n + k := by omega
        subst hi
        exact h f p h3 h4 h5 h6
      · have e : cn lp i = cn lp (n + k) := by omega
        refine h f p h3 h4 (fun x hx => h5 x (by omega)) (fun x hx hp => ?_)
        rw [← e]
        rcases Nat.lt_or_ge x i with q3 | q3
        · exact h6 x q3 hp
        · rw [cn_no e q3 hx] at hp; cases hp
      · rw [nI_clamp (by omega), hl i q]
        cases hp : lp i with
        | false =>
          refine ⟨fun _ => nm_r (nI_1 i) ?_, fun e => absurd rfl e⟩
          have := ih (i + 1) f p (by omega) (by omega) h3 h4 (fun x hx => h5 x (by rw [cn_f hp] at hx; exact hx)) (fun x hx hpx => by
            rw [cn_f hp]
            rcases Nat.lt_or_ge x i with q3 | q3
            · exact h6 x q3 hpx
            · rw [show x = i by omega, hp] at hpx; cases hpx)
          rw [cn_f hp] at this
          exact this
        | true =>
          refine ⟨fun e => absurd e (by decide), fun _ => nm_r (nI_1 (cn lp i)) ?_⟩
          refine sp_powerAt q (sp_two G T (n := n + k - 1 - i) (nI_255 _ (by omega)) ?_)
          have inner : ∀ (u j : Nat) (f : Nat → Int32), j < u → j ≤ cn lp i + 1 → (∀ x, x < 41 → j < x → f x = nI (en (p x + al ^ (n + k - 1 - i) * ra_up p x))) → (∀ x, x ≤ j → f x = nI (en (p x))) → wp_So_locateLost_L62 Fp Fl (nI n) (nI k) Wl post (wp_So_locateLost_L19 Fp Fl (nI n) (nI k) Wl post r) u f (nI (cn lp i + 1)) (nI i) (nI (en (al ^ (n + k - 1 - i)))) (nI j) := by
            intro u
            induction u with
            | zero => intro j f g1; omega
            | succ u ihu =>
              intro j f g1 g2 g3 g4
              refine pk_lt j 1 (fun q3 => ?_) (fun q3 => ?_)
              · have hj : j = 0 := by omega
                subst hj
                refine nm_r (nI_1 i) ?_
                have := ih (i + 1) f (fun x => p x + al ^ (n + k - 1 - i) * ra_up p x) (by omega) (by omega) (fun x hx => ?_) ?_ (fun x hx => ?_) (fun x hx hpx => ?_)
                · rw [cn_t hp] at this; exact this
                · by_cases e : x = 0
                  · subst e
                    rw [g4 0 (Nat.le_refl 0)]
                    show nI (en (p 0)) = nI (en (p 0 + al ^ (n + k - 1 - i) * 0))
                    congr 2
                    grind
                  · exact g3 x hx (by omega)
                · show p 0 + al ^ (n + k - 1 - i) * 0 = 1
                  rw [h4]; grind
                · rw [cn_t hp] at hx
                  obtain ⟨y, rfl⟩ : ∃ y, x = y + 1 := ⟨x - 1, by omega⟩
                  show p (y + 1) + al ^ (n + k - 1 - i) * p y = 0
                  rw [h5 (y + 1) (by omega), h5 y (by omega)]; grind
                · rw [cn_t hp, ra_hq_add, ra_hq_up, ra_hq_past h5 1]
                  rcases Nat.lt_or_ge x i with q4 | q4
                  · rw [h6 x q4 hpx]; grind
                  · rw [show x = i by omega, Lean.Grind.Semiring.pow_one]
                    have := gf_two G (al ^ (n + k - 1 - i) * ra_hq p (al ^ (n + k - 1 - i)) (cn lp i))
                    exact this
              · obtain ⟨j, rfl⟩ : ∃ z, j = z + 1 := ⟨j - 1, by omega⟩
                rw [show nI (j + 1) - (1 : Int32) = nI j from nI_pred j, nI_clamp (show j + 1 < 2 ^ 31 by omega), nI_clamp (show j < 2 ^ 31 by omega), g4 (j + 1) (Nat.le_refl _), g4 j (by omega)]
                refine ⟨vp_in_nI (by omega) (by decide), vp_in_nI (by omega) (by decide), ?_⟩
                refine sp_product G T _ _ ⟨vp_in_nI (by omega) (by decide), nm_r (pk_m1 j) ?_⟩
                rw [nx_xor, ← gf_add G]
                refine ihu j _ (by omega) (by omega) (fun x hx hx2 => ?_) (fun x hx => ?_)
                · by_cases e : x = j + 1
                  · subst e
                    rw [pk_us]
                    show nI (en (p (j + 1) + p j * al ^ (n + k - 1 - i))) = nI (en (p (j + 1) + al ^ (n + k - 1 - i) * p j))
                    congr 2
                    grind
                  · rw [pk_un e]; exact g3 x hx (by omega)
                · rw [pk_un (by omega)]; exact g4 x (by omega)
          refine ⟨cn lp i + 2, inner _ (cn lp i + 1) f (by omega) (Nat.le_refl _) (fun x hx hx2 => ?_) (fun x hx => h3 x (by omega))⟩
          obtain ⟨y, rfl⟩ : ∃ y, x = y + 1 := ⟨x - 1, by omega⟩
          rw [h3 (y + 1) hx]
          show nI (en (p (y + 1))) = nI (en (p (y + 1) + al ^ (n + k - 1 - i) * p y))
          rw [h5 y (by omega)]
          congr 2
          grind
  refine ⟨vp_in_nI (n := 0) (by decide) (by decide), n + k + 1, ?_⟩
  refine key (n + k + 1) 0 _ (fun i => if i = 0 then 1 else 0) (by omega) (by omega) (fun i hi => ?_) rfl (fun x hx => ?_) (fun x hx => absurd hx (Nat.not_lt_zero x))
  · rw [cl0]
    by_cases e : i = 0
    · subst e
      rw [pk_us, if_pos rfl, gf_one G]; rfl
    · rw [pk_un e, hf0 i hi, if_neg e, gf_zero G]; rfl
  · show (if x = 0 then (1 : K) else 0) = 0
    rw [if_neg (by intro e; subst e; exact absurd hx (Nat.not_lt_zero _))]
theorem sp_discrepancy {K : Type} [F : Lean.Grind.Field K] {en : K → Nat} {al : K} (G : gf_ok K F en al) {Fp Fl : Nat → Int32} (T : ft_ok Fp Fl) {Ss Sl : Nat → Int32} {p s : Nat → K} {m L : Nat} (hm : m < 40) (hL : L ≤ 40) (hp : ∀ i, i < 41 → Sl i = nI (en (p i))) (hs : ∀ j, j ≤ m → Ss j = nI (en (s j))) (hd : ∀ i, L < i → p i = 0) {post : Int32 → Prop} (h : post (nI (en (ra_cv p s m)))) : wp_So_discrepancy Fp Fl Ss Sl (nI (m + 1)) (nI L) post := by
  have key : ∀ (r j : Nat), j ≤ m + 1 → m + 1 - j < r → wp_So_discrepancy_L5 Fp Fl Ss Sl post r (nI (m + 1)) (nI L) (nI (en (ra_sum j (fun x => p x * s (m - x))))) (nI j) := by
    intro r
    induction r with
    | zero => intro j h1 h2; omega
    | succ r ih =>
      intro j h1 h2
      refine pk_lt L j (fun q => ?_) (fun q => pk_le (m + 1) j (fun q2 => ?_) (fun q2 => ?_))
      · show post _
        rw [← ra_sum_cut h1 (fun i h3 h4 => by rw [hd i (by omega)]; grind)]; exact h
      · show post _
        rw [show j = m + 1 by omega]; exact h
      · have e1 : nI (m + 1) - (1 : Int32) - nI j = nI (m - j) := by
          rw [show nI (m + 1) - (1 : Int32) = nI m from nI_pred m, pk_sub (by omega)]
        rw [e1, nI_clamp (show j < 2 ^ 31 by omega), nI_clamp (show m - j < 2 ^ 31 by omega), hp j (by omega), hs (m - j) (by omega)]
        refine ⟨vp_in_nI (by omega) (by decide), vp_in_nI (by omega) (by decide), ?_⟩
        refine sp_product G T _ _ (nm_r (e' := nI (en (ra_sum (j + 1) (fun x => p x * s (m - x))))) ?_ (nm_r (nI_1 j) (ih (j + 1) (by omega) (by omega))))
        rw [nx_xor, ← gf_add G]; rfl
  refine ⟨m + 2, ?_⟩
  have := key (m + 2) 0 (by omega) (by omega)
  rw [show ra_sum 0 (fun x => p x * s (m - x)) = 0 from rfl, gf_zero G] at this
  exact this
theorem sp_shiftHelper {K : Type} [F : Lean.Grind.Field K] {en : K → Nat} {al : K} (G : gf_ok K F en al) {Sh : Nat → Int32} {q : Nat → K} (hq : ∀ i, i < 41 → Sh i = nI (en (q i))) {post : (Nat → Int32) → Prop} (h : ∀ f : Nat → Int32, (∀ i, i < 41 → f i = nI (en (ra_up q i))) → post f) : wp_So_shiftHelper Sh post := by
  have key : ∀ (u j : Nat) (f : Nat → Int32), j < u → j ≤ 40 → (∀ x, x < 41 → j < x → f x = nI (en (ra_up q x))) → (∀ x, x ≤ j → f x = nI (en (q x))) → wp_So_shiftHelper_L3 post u f (nI j) := by
    intro u
    induction u with
    | zero => intro j f g1; omega
    | succ u ihu =>
      intro j f g1 g2 g3 g4
      refine pk_lt j 1 (fun q3 => ?_) (fun q3 => ?_)
      · have hj : j = 0 := by omega
        subst hj
        refine ⟨vp_in_nI (n := 0) (by decide) (by decide), h _ (fun x hx => ?_)⟩
        rw [cl0]
        by_cases e : x = 0
        · subst e
          rw [pk_us]
          show (0 : Int32) = nI (en (0 : K))
          rw [gf_zero G]; rfl
        · rw [pk_un e]; exact g3 x hx (by omega)
      · obtain ⟨j, rfl⟩ : ∃ z, j = z + 1 := ⟨j - 1, by omega⟩
        rw [show nI (j + 1) - (1 : Int32) = nI j from nI_pred j, nI_clamp (show j + 1 < 2 ^ 31 by omega), nI_clamp (show j < 2 ^ 31 by omega), g4 j (by omega)]
        refine ⟨vp_in_nI (by omega) (by decide), vp_in_nI (by omega) (by decide), nm_r (pk_m1 j) ?_⟩
        refine ihu j _ (by omega) (by omega) (fun x hx hx2 => ?_) (fun x hx => ?_)
        · by_cases e : x = j + 1
          · subst e; rw [pk_us]; rfl
          · rw [pk_un e]; exact g3 x hx (by omega)
        · rw [pk_un (by omega)]; exact g4 x (by omega)
  exact ⟨41, key 41 40 Sh (by omega) (Nat.le_refl _) (fun x hx hx2 => by omega) (fun x hx => hq x (by omega))⟩
theorem sp_addHelper {K : Type} [F : Lean.Grind.Field K] {en : K → Nat} {al : K} (G : gf_ok K F en al) {Fp Fl : Nat → Int32} (T : ft_ok Fp Fl) {Sl Sh : Nat → Int32} {p q : Nat → K} (hp : ∀ i, i < 41 → Sl i = nI (en (p i))) (hq : ∀ i, i < 41 → Sh i = nI (en (q i))) (a : K) {post : (Nat → Int32) → Prop} (h : ∀ f : Nat → Int32, (∀ i, i < 41 → f i = nI (en (p i + a * q i))) → post f) : wp_So_addHelper Fp Fl Sl Sh (nI (en a)) post := by
  have key : ∀ (u j : Nat) (f : Nat → Int32), j ≤ 41 → 41 - j < u → (∀ x, x < j → f x = nI (en (p x + a * q x))) → (∀ x, j ≤ x → x < 41 → f x = nI (en (p x))) → wp_So_addHelper_L2 Fp Fl Sh post u f (nI (en a)) (nI j) := by
    intro u
    induction u with
    | zero => intro j f g1 g2; omega
    | succ u ihu =>
      intro j f g1 g2 g3 g4
      refine pk_lt 40 j (fun q3 => h f (fun x hx => g3 x (by omega))) (fun q3 => ?_)
      rw [nI_clamp (show j < 2 ^ 31 by omega), hq j (by omega), g4 j (Nat.le_refl _) (by omega)]
      refine ⟨vp_in_nI (by omega) (by decide), vp_in_nI (by omega) (by decide), ?_⟩
      refine sp_product G T _ _ ⟨vp_in_nI (by omega) (by decide), nm_r (nI_1 j) ?_⟩
      rw [nx_xor, ← gf_add G]
      refine ihu (j + 1) _ (by omega) (by omega) (fun x hx => ?_) (fun x hx hx2 => ?_)
      · by_cases e : x = j
        · subst e; exact pk_us
        · rw [pk_un e]; exact g3 x (by omega)
      · rw [pk_un (by omega)]; exact g4 x (by omega) hx2
  exact ⟨42, key 42 0 Sl (by omega) (by omega) (fun x hx => absurd hx (Nat.not_lt_zero x)) (fun x _ hx => hp x hx)⟩
theorem sp_keepForLater {K : Type} [F : Lean.Grind.Field K] {en : K → Nat} {al : K} (G : gf_ok K F en al) {Fp Fl : Nat → Int32} (T : ft_ok Fp Fl) {Sh Sk : Nat → Int32} {p : Nat → K} (hp : ∀ i, i < 41 → Sk i = nI (en (p i))) (a : K) {post : (Nat → Int32) → Prop} (h : ∀ f : Nat → Int32, (∀ i, i < 41 → f i = nI (en (a⁻¹ * p i))) → post f) : wp_So_keepForLater Fp Fl Sh Sk (nI (en a)) post := by
  have key : ∀ (u j : Nat) (f : Nat → Int32), j ≤ 41 → 41 - j < u → (∀ x, x < j → f x = nI (en (a⁻¹ * p x))) → wp_So_keepForLater_L2 Fp Fl Sk post u f (nI (en a)) (nI j) := by
    intro u
    induction u with
    | zero => intro j f g1 g2; omega
    | succ u ihu =>
      intro j f g1 g2 g3
      refine pk_lt 40 j (fun q3 => h f (fun x hx => g3 x (by omega))) (fun q3 => ?_)
      rw [nI_clamp (show j < 2 ^ 31 by omega), hp j (by omega)]
      refine ⟨vp_in_nI (by omega) (by decide), ?_⟩
      refine sp_quotient G T _ _ ⟨vp_in_nI (by omega) (by decide), nm_r (nI_1 j) ?_⟩
      refine ihu (j + 1) _ (by omega) (by omega) (fun x hx => ?_)
      by_cases e : x = j
      · subst e
        rw [pk_us]
        congr 2
        grind
      · rw [pk_un e]; exact g3 x (by omega)
  exact ⟨42, key 42 0 Sh (by omega) (by omega) (fun x hx => absurd hx (Nat.not_lt_zero x))⟩
theorem cpy41 {f g : Nat → Int32} {i : Nat} (h : i < 41) : va_cpy f g (0 : Int32).toNatClampNeg (0 : Int32).toNatClampNeg (41 : Int32).toNatClampNeg i = f i := by
  have e : (41 : Int32).toNatClampNeg = 41 := nI_clamp (n := 41) (by decide)
  rw [cl0, e, pk_cpy_in (Nat.zero_le _) (by omega)]
  congr 1
  omega
/-- the search: the state of Berlekamp and Massey; whatever holds of the degree at the start and is kept where it grows holds at the end -/
theorem sp_locateErrors {K : Type} [F : Lean.Grind.Field K] {en : K → Nat} {al : K} (G : gf_ok K F en al) {Fp Fl : Nat → Int32} (T : ft_ok Fp Fl) {Ss Sl Sh Sk : Nat → Int32} {p s : Nat → K} {k v : Nat} (hk : k ≤ 40) (hv : v ≤ k) (hp : ∀ i, i < 41 → Sl i = nI (en (p i))) (hs : ∀ j, j < k → Ss j = nI (en (s j))) {lost : K → Prop} (h0 : p 0 = 1) (hd : ∀ i, v < i → p i = 0) (hr : ∀ X, lost X → ra_hq p X v = 0) (Ok : Nat → Prop) (ok0 : Ok v) (okS : ∀ (r L : Nat) (p b : Nat → K), ra_bm s lost v r L p b → r < k → ra_cv p s r ≠ 0 → Ok L → Ok (r + 1 + v - L)) {post : Int32 → (Nat → Int32) → (Nat → Int32) → (Nat → Int32) → Prop} (h : ∀ (L : Nat) (f f1 f2 : Nat → Int32) (p b : Nat → K), (∀ i, i < 41 → f i = nI (en (p i))) → ra_bm s lost v k L p b → Ok L → post (nI L) f f1 f2) : wp_So_locateErrors Fp Fl Ss Sl Sh Sk (nI k) (nI v) post := by
  have key : ∀ (u r L : Nat) (f f1 f2 : Nat → Int32) (p b : Nat → K), r ≤ k → k - r < u → (∀ i, i < 41 → f i = nI (en (p i))) → (∀ i, i < 41 → f1 i = nI (en (b i))) → ra_bm s lost v r L p b → v ≤ r → Ok L → wp_So_locateErrors_L25 Fp Fl Ss post u f f1 f2 (nI k) (nI v) (nI L) (nI (r + 1)) := by
    intro u
    induction u with
    | zero => intro r L f f1 f2 p b g1 g2; omega
    | succ u ih =>
      intro r L f f1 f2 p b g1 g2 g3 g4 B g5 g6
      have hLr := B.2.2.2.1
      have hvL := B.2.2.1
      refine pk_lt k (r + 1) (fun q => ?_) (fun q => ?_)
      · have hrk : r = k := by omega
        subst hrk
        exact h L f f1 f2 p b g3 B g6
      · refine sp_discrepancy G T (m := r) (L := L) (by omega) (by omega) g3 (fun j hj => hs j (by omega)) B.2.1 ?_
        refine sp_shiftHelper G g4 (fun f3 hf3 => ?_)
        refine pz_ne (en (ra_cv p s r)) 0 (fun q2 => ?_) (fun q2 => ?_) (hb := by decide) (ha := by have := gf_lt G (ra_cv p s r); omega)
        · have hne : ra_cv p s r ≠ 0 := fun e => q2 ((gf_en0 G).mpr e)
          have e1 : nI (r + 1) + nI v - (1 : Int32) = nI (r + v) := by
            rw [nI_add, show r + 1 + v = (r + v) + 1 by omega]; exact nI_pred _
          have e2 : (2 : Int32) * nI L = nI (2 * L) := pk_mul 2 L
          rw [e1, e2]
          refine pk_lt (r + v) (2 * L) (fun q3 => ?_) (fun q3 => ?_)
          · refine ⟨fun _ => ?_, fun e => absurd rfl e⟩
            refine sp_addHelper G T g3 hf3 _ (fun f4 hf4 => ?_)
            refine ⟨fun _ => nm_r (nI_1 (r + 1)) ?_, fun e => absurd rfl e⟩
            exact ih (r + 1) L f4 f3 f2 _ _ (by omega) (by omega) hf4 hf3 (ra_bm_keep (gf_two G) B g5 q3) (by omega) g6
          · refine ⟨fun e => absurd e (by decide), fun _ => ?_⟩
            refine sp_addHelper G T g3 hf3 _ (fun f4 hf4 => ?_)
            refine ⟨fun e => absurd e (by decide), fun _ => ?_⟩
            have e3 : nI (r + 1) - nI L + nI v = nI (r + 1 + v - L) := by
              rw [pk_sub (by omega), nI_add]; congr 1; omega
            refine nm_r e3 ?_
            refine sp_keepForLater G T (p := p) (fun i hi => by rw [cpy41 hi]; exact g3 i hi) _ (fun f5 hf5 => ?_)
            refine nm_r (nI_1 (r + 1)) ?_
            exact ih (r + 1) (r + 1 + v - L) f4 f5 _ _ _ (by omega) (by omega) hf4 hf5 (ra_bm_grow (gf_two G) B hne q3 (fun _ => rfl)) (by omega) (okS r L p b B (by omega) hne g6)
        · refine nm_r (nI_1 (r + 1)) ?_
          exact ih (r + 1) L f f3 f2 _ _ (by omega) (by omega) g3 hf3 (ra_bm_same B ((gf_en0 G).mp q2)) (by omega) g6
  refine nm_r (nI_1 v) ⟨k - v + 1, key _ v v Sl _ Sk p p hv (by omega) hp (fun i hi => by rw [cpy41 hi]; exact hp i hi) ?_ (Nat.le_refl _) ok0⟩
  exact ⟨h0, hd, Nat.le_refl _, Nat.le_refl _, fun m h1 h2 => by omega, fun i hi => hd i (by omega), fun m h1 h2 => by omega, fun h1 => by omega, fun X hX => ⟨hr X hX, by rw [Nat.add_sub_cancel]; exact hr X hX⟩⟩
end SO
