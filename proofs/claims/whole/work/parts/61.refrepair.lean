/-! The reference's repair of its working word: the values, the whole. -/
section RR
theorem sp_mfill {K : Type} [F : Lean.Grind.Field K] {en : K → Nat} {al : K} (G : gf_ok K F en al) {N k b m : Nat} (hN : N ≤ 240) (hk : k ≤ 40) (hb : b < 255) (hm : m ≤ 40) {Wk Wl Mu Mp Mm Ma : Nat → Int32} {c : Nat → K} {lp : Nat → Bool} (hc : ∀ i, i < N → Wk i = nI (en (c i))) (hl : zB Wl lp N) {s : Nat → K} (hs : ∀ i, i < k → Mu i = nI (en (s i))) {pl : Nat → Nat} (hpl : ∀ j, j < m → pl j < N ∧ Mp j = nI (pl j)) (hinj : ∀ i j, i < m → j < m → pl i = pl j → i = j) {post : Int32 → (Nat → Int32) → (Nat → Int32) → (Nat → Int32) → Prop}
    (h1 : ∀ (a : Nat → K) (w M' A' : Nat → Int32), (∀ i, i < k → ra_sum m (fun j => lo_X al N (pl j) ^ (b + i) * a j) = s i) → (∀ j, j < m → lp (pl j) = false → a j ≠ 0) → (∀ j, j < m → w (pl j) = nI (en ((if lp (pl j) then 0 else c (pl j)) + a j))) → (∀ p, p < N → (∀ j, j < m → pl j ≠ p) → w p = nI (en (c p))) → post 1 w M' A')
    (h0 : ((¬ ∃ a : Nat → K, ∀ i, i < k → ra_sum m (fun j => lo_X al N (pl j) ^ (b + i) * a j) = s i) ∨ (∃ a : Nat → K, (∃ j, j < m ∧ a j ≠ 0) ∧ ∀ i, i < k → ra_sum m (fun j => lo_X al N (pl j) ^ (b + i) * a j) = 0) ∨ ∃ a : Nat → K, (∀ i, i < k → ra_sum m (fun j => lo_X al N (pl j) ^ (b + i) * a j) = s i) ∧ ∃ j, j < m ∧ lp (pl j) = false ∧ a j = 0) → ∀ M' A' : Nat → Int32, post 0 Wk M' A') : wp_Mo_fill (nI N) (nI k) (nI b) Wk Wl Mu Mp Mm Ma (nI m) post := by
  have last : ∀ (a : Nat → K) (M' A' : Nat → Int32), (∀ i, i < k → ra_sum m (fun j => lo_X al N (pl j) ^ (b + i) * a j) = s i) → (∀ j, j < m → lp (pl j) = false → a j ≠ 0) → (∀ j, j < m → A' j = nI (en (a j))) → ∀ (n j : Nat) (w : Nat → Int32), j ≤ m → m - j < n → (∀ x, x < j → w (pl x) = nI (en ((if lp (pl x) then 0 else c (pl x)) + a x))) → (∀ p, p < N → (∀ x, x < j → pl x ≠ p) → w p = nI (en (c p))) → wp_Mo_fill_L130 (nI N) (nI k) (nI b) Wl Mu Mp post n w M' A' (nI m) (nI j) := by
    intro a M' A' ha hz hA n
    induction n with
    | zero => intro j w g1 g2; omega
    | succ n ih =>
      intro j w g1 g2 g3 g4
      refine pk_le m j (fun q => ?_) (fun q => ⟨vp_in_nI (by omega) (by decide), ?_⟩)
      · have hj : j = m := by omega
        subst hj
        exact h1 a w M' A' ha hz g3 g4
      · obtain ⟨hp1, hp2⟩ := hpl j q
        rw [nI_clamp (show j < 2 ^ 31 by omega), hp2]
        refine nm_e ⟨vp_in_nI (by omega) (by decide), ?_⟩
        have old : w (pl j) = nI (en (c (pl j))) := g4 _ hp1 (fun x hx e => by have := hinj x j (by omega) q e; omega)
        have tail : ∀ t0 : Int32, t0 = nI (en ((if lp (pl j) then 0 else c (pl j)) + a j)) → wp_Mo_fill_b178 (nI N) (nI k) (nI b) Wl Mu Mp post (wp_Mo_fill_L130 (nI N) (nI k) (nI b) Wl Mu Mp post n) w M' A' (nI m) (nI j) t0 (nI (pl j)) := by
          intro t0 ht0
          refine ⟨vp_in_nI (by omega) (by decide), nm_r (nI_1 j) ?_⟩
          rw [nI_clamp (by omega), ht0]
          refine ih (j + 1) _ (by omega) (by omega) (fun x hx => ?_) (fun p hp hno => ?_)
          · by_cases e : x = j
            · subst e; exact pk_us
            · rw [pk_un (fun e2 => e (hinj x j (by omega) q e2))]; exact g3 x (by omega)
          · rw [pk_un (fun e => hno j (by omega) e.symm)]
            exact g4 p hp (fun x hx => hno x (by omega))
        rw [nI_clamp (show pl j < 2 ^ 31 by omega), hl _ hp1]
        cases hp : lp (pl j) with
        | true =>
          refine ⟨fun e => absurd e (by decide), fun _ => ⟨vp_in_nI (by omega) (by decide), tail _ ?_⟩⟩
          rw [hA j q, hp]
          congr 2
          show a j = 0 + a j
          grind
        | false =>
          refine ⟨fun _ => ⟨vp_in_nI (by omega) (by decide), vp_in_nI (by omega) (by decide), tail _ ?_⟩, fun e => absurd rfl e⟩
          rw [old, hA j q, nx_xor, ← gf_add G, hp]
          rfl
  have check : ∀ (a : Nat → K) (M' A' : Nat → Int32), (∀ i, i < k → ra_sum m (fun j => lo_X al N (pl j) ^ (b + i) * a j) = s i) → (∀ j, j < m → A' j = nI (en (a j))) → ∀ (n j : Nat), j ≤ m → m - j < n → (∀ x, x < j → lp (pl x) = false → a x ≠ 0) → wp_Mo_fill_L92 (nI N) (nI k) (nI b) Wl Mu Mp post n Wk M' A' (nI m) (nI j) := by
    intro a M' A' ha hA n
    induction n with
    | zero => intro j g1 g2; omega
    | succ n ih =>
      intro j g1 g2 g3
      refine pk_le m j (fun q => ⟨m + 1, last a M' A' ha (fun x hx => g3 x (by omega)) hA (m + 1) 0 Wk (by omega) (by omega) (fun x hx => absurd hx (Nat.not_lt_zero x)) (fun p hp _ => hc p hp)⟩) (fun q => ?_)
      obtain ⟨hp1, hp2⟩ := hpl j q
      rw [nI_clamp (show j < 2 ^ 31 by omega), hp2, nI_clamp (show pl j < 2 ^ 31 by omega), hl _ hp1, hA j q]
      refine ⟨vp_in_nI (by omega) (by decide), vp_in_nI (by omega) (by decide), ?_⟩
      have next : (lp (pl j) = false → a j ≠ 0) → wp_Mo_fill_b122 (nI N) (nI k) (nI b) Wl Mu Mp post (wp_Mo_fill_L92 (nI N) (nI k) (nI b) Wl Mu Mp post n) Wk M' A' (nI m) (nI j) := fun hj => nm_r (nI_1 j) (ih (j + 1) (by omega) (by omega) (fun x hx => by
        by_cases e : x = j
        · subst e; exact hj
        · exact g3 x (by omega)))
      cases hp : lp (pl j) with
      | true => exact ⟨fun _ => next (fun e => by rw [hp] at e; cases e), fun e => absurd e (by decide)⟩
      | false =>
        refine ⟨fun e => absurd rfl e, fun _ => ⟨vp_in_nI (by omega) (by decide), pz_ne (en (a j)) 0 (fun q2 => next (fun _ e => q2 ((gf_en0 G).mpr e))) (fun q2 => ?_) (ha := by have := gf_lt G (a j); omega) (hb := by decide)⟩⟩
        exact h0 (Or.inr (Or.inr ⟨a, ha, j, q, hp, (gf_en0 G).mp q2⟩)) _ _
  have build : ∀ (n i : Nat) (f : Nat → Int32), i ≤ k → k - i < n → (∀ x, x < i → ∀ j, j ≤ m → f (41 * x + j) = nI (en (if j < m then lo_X al N (pl j) ^ (b + x) else s x))) → wp_Mo_fill_L2 (nI N) (nI k) (nI b) Wl Mu Mp post n Wk f Ma (nI m) (nI i) := by
    intro n
    induction n with
    | zero => intro i f g1 g2; omega
    | succ n ih =>
      intro i f g1 g2 g3
      refine pk_le k i (fun q => ?_) (fun q => ⟨m + 1, ?_⟩)
      · have conv : ∀ (z : Nat → K) (i : Nat), ra_sum m (fun j => (if j < m then lo_X al N (pl j) ^ (b + i) else s i) * z j) = ra_sum m (fun j => lo_X al N (pl j) ^ (b + i) * z j) := fun z i => ra_sum_congr (fun j hj => by rw [if_pos hj])
        have rhs : ∀ i : Nat, (if m < m then lo_X al N (pl m) ^ (b + i) else s i) = s i := fun i => if_neg (Nat.lt_irrefl m)
        refine sp_msolve G (R := k) (u := m) hk hm (M := fun x j => if j < m then lo_X al N (pl j) ^ (b + x) else s x) (fun x hx j hj => g3 x (by omega) j hj) (fun f' A' z hA hz => ?_) (fun hbad f' A' => ?_)
        · refine ⟨fun _ => ⟨m + 1, ?_⟩, fun e => absurd e (by decide)⟩
          exact check z f' A' (fun i hi => by have := hz i hi; rw [conv, rhs] at this; exact this) hA (m + 1) 0 (by omega) (by omega) (fun x hx => absurd hx (Nat.not_lt_zero x))
        · refine ⟨fun e => absurd rfl e, fun _ => h0 ?_ _ _⟩
          rcases hbad with hbad | ⟨z, hz1, hz2⟩
          · exact Or.inl (fun ⟨z, hz⟩ => hbad ⟨z, fun i hi => by rw [conv, rhs]; exact hz i hi⟩)
          · exact Or.inr (Or.inl ⟨z, hz1, fun i hi => by have := hz2 i hi; rw [conv] at this; exact this⟩)
      · have inner : ∀ (v j : Nat) (f : Nat → Int32), j ≤ m → m - j < v → (∀ x, x < i → ∀ j, j ≤ m → f (41 * x + j) = nI (en (if j < m then lo_X al N (pl j) ^ (b + x) else s x))) → (∀ y, y < j → f (41 * i + y) = nI (en (lo_X al N (pl y) ^ (b + i)))) → wp_Mo_fill_L12 (nI N) (nI k) (nI b) Wl Mu Mp post (wp_Mo_fill_L2 (nI N) (nI k) (nI b) Wl Mu Mp post n) v Wk f Ma (nI m) (nI i) (nI j) := by
          intro v
          induction v with
          | zero => intro j f g4 g5; omega
          | succ v ihv =>
            intro j f g4 g5 g6 g7
            refine pk_le m j (fun q3 => ?_) (fun q3 => ?_)
            · rw [ix41, nI_clamp (show 41 * i + m < 2 ^ 31 by omega), nI_clamp (show i < 2 ^ 31 by omega), hs i q]
              refine ⟨vp_in_nI (by omega) (by decide), vp_in_nI (by omega) (by decide), nm_r (nI_1 i) ?_⟩
              refine ih (i + 1) _ (by omega) (by omega) (fun x hx y hy => ?_)
              by_cases e : 41 * x + y = 41 * i + m
              · rw [e, pk_us, if_neg (by omega), show x = i by omega]
              · rw [pk_un e]
                rcases Nat.lt_or_ge x i with q4 | q4
                · exact g6 x q4 y hy
                · have hxi : x = i := by omega
                  subst hxi
                  rw [if_pos (by omega)]
                  exact g7 y (by omega)
            · obtain ⟨hp1, hp2⟩ := hpl j q3
              rw [nI_clamp (show j < 2 ^ 31 by omega), hp2]
              refine ⟨vp_in_nI (by omega) (by decide), sp_locator G (by omega) hp1 ?_⟩
              rw [nI_add]
              refine sp_raised G _ (by omega) ?_
              rw [ix41, nI_clamp (show 41 * i + j < 2 ^ 31 by omega)]
              refine ⟨vp_in_nI (by omega) (by decide), nm_r (nI_1 j) ?_⟩
              refine ihv (j + 1) _ (by omega) (by omega) (fun x hx y hy => ?_) (fun y hy => ?_)
              · rw [pk_un (by omega)]; exact g6 x hx y hy
              · by_cases e : y = j
                · subst e; exact pk_us
                · rw [pk_un (by omega)]; exact g7 y (by omega)
        exact inner (m + 1) 0 f (by omega) (by omega) g3 (fun y hy => absurd hy (Nat.not_lt_zero y))
  exact ⟨k + 1, build (k + 1) 0 Mm (by omega) (by omega) (fun x hx => absurd hx (Nat.not_lt_zero x))⟩
/-- where there are errata, the second system has just them as its answer -/
theorem rm_second {K : Type} [F : Lean.Grind.Field K] {en : K → Nat} {al : K} (G : gf_ok K F en al) {N k b t : Nat} (hN : N ≤ 240) {d e : Nat → K} {lp rp : Nat → Bool} (h : er_ok en al N k b d lp t e) (hrp : ∀ i, i < N → rp i = (lp i || (!lp i && !Nat.beq (en (e i)) 0))) (hcnt : cn rp N ≤ k) : (∀ i, i < k → ra_sum (cn rp N) (fun j => lo_X al N (nth rp N j) ^ (b + i) * e (nth rp N j)) = ra_hv d (al ^ (b + i)) N) ∧ ∀ a : Nat → K, (∀ i, i < k → ra_sum (cn rp N) (fun j => lo_X al N (nth rp N j) ^ (b + i) * a j) = 0) → ∀ j, j < cn rp N → a j = 0 := by
  have S := er_set G hN h
  constructor
  · intro i hi
    rw [nth_sum (fun x => lo_X al N x ^ (b + i) * e x)]
    have h1 : ra_hv d (al ^ (b + i)) N = ra_sum N (fun x => e x * lo_X al N x ^ b * lo_X al N x ^ i) := S.2.1 i hi
    rw [h1]
    refine ra_sum_congr (fun x hx => ?_)
    rw [hrp x hx]
    cases hc : (lp x || (!lp x && !Nat.beq (en (e x)) 0)) with
    | true =>
      show lo_X al N x ^ (b + i) * e x = e x * lo_X al N x ^ b * lo_X al N x ^ i
      rw [Lean.Grind.Semiring.pow_add]; grind
    | false =>
      have h2 : e x = 0 := by
        cases hb : Nat.beq (en (e x)) 0 with
        | true => exact (gf_en0 G).mp (Nat.eq_of_beq_eq_true hb)
        | false => rw [hb] at hc; cases hl : lp x <;> rw [hl] at hc <;> cases hc
      show (0 : K) = e x * lo_X al N x ^ b * lo_X al N x ^ i
      rw [h2]; grind
  · intro a ha j hj
    have hz : ∀ x, x < N → (if rp x then a (cn rp x) * lo_X al N x ^ b else 0) = 0 := by
      refine ra_unique (k := k) S.1 (dp := rp) (fun x hx hf => by rw [hf]; rfl) (by rw [cn_len]; exact hcnt) (fun m hm => ?_)
      have h1 := ha m hm
      have h2 := nth_sum (p := rp) (fun x => lo_X al N x ^ (b + m) * a (cn rp x)) N
      rw [ra_sum_congr (g := fun j => lo_X al N (nth rp N j) ^ (b + m) * a j) (fun j hj => by rw [(nth_ok hj).2.2]), h1] at h2
      refine Eq.trans (ra_sum_congr (fun x _ => ?_)) h2.symm
      cases rp x with
      | true =>
        show a (cn rp x) * lo_X al N x ^ b * lo_X al N x ^ m = lo_X al N x ^ (b + m) * a (cn rp x)
        rw [Lean.Grind.Semiring.pow_add]; grind
      | false =>
        show (0 : K) * lo_X al N x ^ m = 0
        grind
    have hn := nth_ok hj
    have h3 := hz _ hn.1
    rw [hn.2.1, hn.2.2] at h3
    rcases Lean.Grind.Field.of_mul_eq_zero (show a j * lo_X al N (nth rp N j) ^ b = 0 from h3) with h4 | h4
    · exact h4
    · exact absurd h4 (rp_ne (lo_ne G N _) b)
end RR
