/-! The errata: y at places below N with locators X; lost places, wrong places; the search finds them all. -/
theorem ra_filter_or {p q : Nat → Bool} : ∀ (l : List Nat), (∀ i ∈ l, p i = true → q i = false) → (l.filter (fun i => p i || q i)).length = (l.filter p).length + (l.filter q).length
  | [], _ => rfl
  | a :: l, h => by
    have ih := ra_filter_or l (fun i hi => h i (List.mem_cons_of_mem _ hi))
    have ha := h a List.mem_cons_self
    cases hp : p a with
    | true =>
      have hq := ha hp
      simp [List.filter_cons, hp, hq, ih]; omega
    | false =>
      cases hq : q a with
      | true => simp [List.filter_cons, hp, hq, ih]; omega
      | false => simp [List.filter_cons, hp, hq, ih]
theorem ra_nodup_map {K : Type} {N : Nat} {X : Nat → K} (hX : ∀ i j, i < N → j < N → X i = X j → i = j) (p : Nat → Bool) : (((List.range N).filter p).map X).Nodup := by
  have h1 : ((List.range N).filter p).Nodup := List.Pairwise.filter p List.nodup_range
  have h2 : ∀ i ∈ (List.range N).filter p, i < N := fun i hi => List.mem_range.mp (List.mem_filter.mp hi).1
  generalize (List.range N).filter p = l at h1 h2
  induction l with
  | nil => exact List.nodup_nil
  | cons a l ih =>
    have hn := List.nodup_cons.mp h1
    rw [List.map_cons]
    refine List.nodup_cons.mpr ⟨fun hm => ?_, ih hn.2 (fun i hi => h2 i (List.mem_cons_of_mem _ hi))⟩
    obtain ⟨j, hj, he⟩ := List.mem_map.mp hm
    have := hX j a (h2 j (List.mem_cons_of_mem _ hj)) (h2 a List.mem_cons_self) he
    exact hn.1 (this ▸ hj)
/-- the setting: N places, locators X apart, lp: lost, ep: wrong and not lost; s the sums of the errata y, M of them -/
def ra_set {K : Type} [Lean.Grind.Field K] (N M : Nat) (X y s : Nat → K) (lp ep : Nat → Bool) : Prop :=
  (∀ i j, i < N → j < N → X i = X j → i = j) ∧ (∀ m, m < M → s m = ra_sum N (fun i => y i * X i ^ m)) ∧ (∀ i, i < N → ep i = true → lp i = false ∧ y i ≠ 0) ∧ (∀ i, i < N → ep i = false → lp i = true ∨ y i = 0)
theorem ra_all_zero {K : Type} [Lean.Grind.Field K] {N M : Nat} {X y s : Nat → K} {lp ep : Nat → Bool} (S : ra_set N M X y s lp ep) {p : Nat → K} {L t : Nat} (ht : t = ((List.range N).filter ep).length) (hdeg : ∀ i, L < i → p i = 0) (hlost : ∀ i, i < N → lp i = true → ra_hq p (X i) L = 0) (hcv : ∀ m, L ≤ m → m < L + t → ra_cv p s m = 0) (hM : L + t ≤ M) : ∀ i, i < N → ep i = true → ra_hq p (X i) L = 0 := by
  obtain ⟨hX, hs, he, hn⟩ := S
  intro i hi hei
  have hmap : ∀ l : List Nat, (l.map (fun i => (X i, y i * ra_hq p (X i) L))).map Prod.fst = l.map X := fun l => by rw [List.map_map]; rfl
  have := ra_vdm (((List.range N).filter ep).map (fun i => (X i, y i * ra_hq p (X i) L))) (by rw [hmap]; exact ra_nodup_map hX ep) (fun m hm => by
    rw [List.length_map, ← ht] at hm
    have h0 := hcv (L + m) (by omega) (by omega)
    rw [ra_cv_errata hs p (by omega), ra_sum_filter N _ ep (fun j hj hf => by
      rcases hn j hj hf with h1 | h1
      · rw [ra_hq_past hdeg, hlost j hj h1]; grind
      · rw [h1]; grind)] at h0
    rw [List.map_map]
    rw [← h0]
    congr 1
    refine List.map_congr_left (fun j _ => ?_)
    show y j * ra_hq p (X j) L * X j ^ m = y j * ra_hq p (X j) (L + m)
    rw [ra_hq_past hdeg]; grind) (X i, y i * ra_hq p (X i) L) (List.mem_map.mpr ⟨i, List.mem_filter.mpr ⟨List.mem_range.mpr hi, hei⟩, rfl⟩)
  rcases Lean.Grind.Field.of_mul_eq_zero (show y i * ra_hq p (X i) L = 0 from this) with h1 | h1
  · exact absurd h1 (he i hi hei).2
  · exact h1
/-- where the gap isn't 0, the degree hasn't come too far -/
theorem ra_massey {K : Type} [Lean.Grind.Field K] {N M : Nat} {X y s : Nat → K} {lp ep : Nat → Bool} (S : ra_set N M X y s lp ep) {p b : Nat → K} {v r L t : Nat} {lost : K → Prop} (hl : ∀ i, i < N → lp i = true → lost (X i)) (B : ra_bm s lost v r L p b) (hr : r < M) (ht : t = ((List.range N).filter ep).length) (hd : ra_cv p s r ≠ 0) : r < L + t := by
  rcases Nat.lt_or_ge r (L + t) with q | q
  · exact q
  · exfalso
    have hz := ra_all_zero S ht B.2.1 (fun i hi h => (B.2.2.2.2.2.2.2.2 (X i) (hl i hi h)).1) (fun m h1 h2 => B.2.2.2.2.1 m h1 (by omega)) (by omega)
    apply hd
    rw [ra_cv_errata S.2.1 p hr]
    refine ra_sum_zero (fun i hi => ?_)
    have hLr := B.2.2.2.1
    rw [show r = L + (r - L) by omega, ra_hq_past B.2.1]
    cases he : ep i with
    | true => rw [hz i hi he]; grind
    | false =>
      rcases S.2.2.2 i hi he with h1 | h1
      · rw [(B.2.2.2.2.2.2.2.2 (X i) (hl i hi h1)).1]; grind
      · rw [h1]; grind
/-- the end of the search: the degree, and the roots -/
theorem ra_bm_end {K : Type} [Lean.Grind.Field K] (h01 : (1 : K) ≠ 0) {N M : Nat} {X y s : Nat → K} {lp ep : Nat → Bool} (S : ra_set N M X y s lp ep) {p b : Nat → K} {v L t : Nat} {lost : K → Prop} (hl : ∀ i, i < N → lp i = true → lost (X i)) (B : ra_bm s lost v M L p b) (ht : t = ((List.range N).filter ep).length) (hv : v = ((List.range N).filter lp).length) (hnear : 2 * t + v ≤ M) (hle : L ≤ v + t) : L = v + t ∧ ∀ i, i < N → (ra_hq p (X i) L = 0 ↔ (lp i || ep i) = true) := by
  have hz := ra_all_zero S ht B.2.1 (fun i hi h => (B.2.2.2.2.2.2.2.2 (X i) (hl i hi h)).1) (fun m h1 h2 => B.2.2.2.2.1 m h1 (by omega)) (by omega)
  have hroot : ∀ i, i < N → (lp i || ep i) = true → ra_hq p (X i) L = 0 := by
    intro i hi h
    cases hp : lp i with
    | true => exact (B.2.2.2.2.2.2.2.2 (X i) (hl i hi hp)).1
    | false => rw [hp] at h; exact hz i hi (by simpa using h)
  have hlen : ((List.range N).filter (fun i => lp i || ep i)).length = v + t := by
    rw [ra_filter_or _ (fun i hi h => by
      cases he : ep i with
      | false => rfl
      | true => exact absurd ((S.2.2.1 i (List.mem_range.mp hi) he).1) (by rw [h]; decide)), ← hv, ← ht]
  have hp0 : p 0 ≠ 0 := by rw [B.1]; exact h01
  have hL : L = v + t := by
    rcases Nat.lt_or_ge L (v + t) with q | q
    · exact absurd (ra_roots L p (((List.range N).filter (fun i => lp i || ep i)).map X) (ra_nodup_map S.1 _) (fun Z hZ => by
        obtain ⟨i, hi, rfl⟩ := List.mem_map.mp hZ
        have hm := List.mem_filter.mp hi
        exact hroot i (List.mem_range.mp hm.1) hm.2) (by rw [List.length_map, hlen]; exact q)) hp0
    · omega
  refine ⟨hL, fun i hi => ⟨fun h => ?_, hroot i hi⟩⟩
  cases hc : (lp i || ep i) with
  | true => rfl
  | false =>
    exfalso
    refine hp0 (ra_roots L p (X i :: ((List.range N).filter (fun i => lp i || ep i)).map X) (List.nodup_cons.mpr ⟨fun hm => ?_, ra_nodup_map S.1 _⟩) (fun Z hZ => ?_) (by rw [List.length_cons, List.length_map, hlen]; omega))
    · obtain ⟨j, hj, he⟩ := List.mem_map.mp hm
      have hm := List.mem_filter.mp hj
      have := S.1 j i (List.mem_range.mp hm.1) hi he
      rw [this, hc] at hm
      exact absurd hm.2 (by decide)
    · rcases List.mem_cons.mp hZ with rfl | hZ
      · exact h
      · obtain ⟨j, hj, rfl⟩ := List.mem_map.mp hZ
        have hm := List.mem_filter.mp hj
        exact hroot j (List.mem_range.mp hm.1) hm.2
/-- Horner values of a sum -/
theorem ra_hq_lin {K : Type} [Lean.Grind.Field K] (N : Nat) (y : Nat → K) (f : Nat → Nat → K) (X : K) : ∀ m : Nat, ra_hq (fun k => ra_sum N (fun i => y i * f i k)) X m = ra_sum N (fun i => y i * ra_hq (f i) X m)
  | 0 => rfl
  | m + 1 => by
    show ra_sum N (fun i => y i * f i (m + 1)) + X * ra_hq (fun k => ra_sum N (fun i => y i * f i k)) X m = ra_sum N (fun i => y i * (f i (m + 1) + X * ra_hq (f i) X m))
    rw [ra_hq_lin N y f X m, ← ra_sum_mul, ← ra_sum_add]
    exact ra_sum_congr (fun i _ => by grind)
theorem ra_sum_one {K : Type} [Lean.Grind.Field K] {f : Nat → K} {j : Nat} : ∀ {N : Nat}, j < N → (∀ i, i < N → i ≠ j → f i = 0) → ra_sum N f = f j
  | 0, h, _ => absurd h (Nat.not_lt_zero _)
  | N + 1, h, hz => by
    show ra_sum N f + f N = f j
    rcases Nat.lt_or_ge j N with q | q
    · rw [ra_sum_one q (fun i hi hne => hz i (by omega) hne), hz N (by omega) (by omega)]; grind
    · rw [show j = N by omega, ra_sum_zero (fun i hi => hz i (by omega) (by omega))]; grind
/-- the quotient's value at its own locator, in a field of a + a = 0: every second one of p -/
def ra_al {K : Type} [Lean.Grind.Field K] (p : Nat → K) (X : K) : Nat → K
  | 0 => p 0
  | 1 => p 1
  | m + 2 => p (m + 2) + X * X * ra_al p X m
theorem ra_hq_own {K : Type} [Lean.Grind.Field K] (h2K : ∀ a : K, a + a = 0) (p : Nat → K) (X : K) : ∀ m : Nat, ra_hq (ra_hq p X) X m = ra_al p X m
  | 0 => rfl
  | 1 => by
    show (p 1 + X * p 0) + X * p 0 = p 1
    have := h2K (X * p 0)
    grind
  | m + 2 => by
    show (p (m + 2) + X * (ra_hq p X (m + 1))) + X * (ra_hq p X (m + 1) + X * ra_hq (ra_hq p X) X m) = p (m + 2) + X * X * ra_al p X m
    rw [ra_hq_own h2K p X m]
    have := h2K (X * ra_hq p X (m + 1))
    grind
theorem ra_al_split {K : Type} [Lean.Grind.Field K] (p : Nat → K) (X : K) : ∀ m : Nat, ra_hq p X (m + 1) = ra_al p X (m + 1) + X * ra_al p X m
  | 0 => rfl
  | m + 1 => by
    show p (m + 2) + X * ra_hq p X (m + 1) = p (m + 2) + X * X * ra_al p X m + X * ra_al p X (m + 1)
    rw [ra_al_split p X m]; grind
/-- Forney: the sum of the quotients, at the locator of place j -/
theorem ra_forney {K : Type} [Lean.Grind.Field K] (h2K : ∀ a : K, a + a = 0) {N M : Nat} {X y s : Nat → K} {lp ep : Nat → Bool} (S : ra_set N M X y s lp ep) {p : Nat → K} {w : Nat} (hw : w + 1 ≤ M) (hroot : ∀ i, i < N → (lp i || ep i) = true → ra_hq p (X i) (w + 1) = 0) (hy : ∀ i, i < N → (lp i || ep i) = false → y i = 0) {j : Nat} (hj : j < N) (hjr : (lp j || ep j) = true) : ra_hq (ra_cv p s) (X j) w = y j * ra_al p (X j) w := by
  have h1 : ra_hq (ra_cv p s) (X j) w = ra_hq (fun k => ra_sum N (fun i => y i * ra_hq p (X i) k)) (X j) w := ra_hq_congr (fun k hk => ra_cv_errata S.2.1 p (by omega))
  rw [h1, ra_hq_lin, ra_sum_one hj (fun i hi hne => ?_), ra_hq_own h2K]
  cases hc : (lp i || ep i) with
  | true =>
    rw [ra_hq_quot p (fun e => hne (S.1 i j hi hj e)) (hroot i hi hc) (hroot j hj hjr)]; grind
  | false => rw [hy i hi hc]; grind
theorem ra_slope_ne {K : Type} [Lean.Grind.Field K] (h2K : ∀ a : K, a + a = 0) (h01 : (1 : K) ≠ 0) {N : Nat} {X : Nat → K} (hX : ∀ i j, i < N → j < N → X i = X j → i = j) {rp : Nat → Bool} {p : Nat → K} {w : Nat} (hp0 : p 0 = 1) (hlen : ((List.range N).filter rp).length = w + 1) (hroot : ∀ i, i < N → rp i = true → ra_hq p (X i) (w + 1) = 0) {j : Nat} (hj : j < N) (hjr : rp j = true) : ra_al p (X j) w ≠ 0 := by
  intro h0
  rw [← ra_hq_own h2K] at h0
  have := ra_roots w (ra_hq p (X j)) (((List.range N).filter rp).map X) (ra_nodup_map hX rp) (fun Z hZ => by
    obtain ⟨i, hi, rfl⟩ := List.mem_map.mp hZ
    have hm := List.mem_filter.mp hi
    rcases Nat.lt_or_ge i j with q | q
    · exact ra_hq_quot p (fun e => by have := hX j i hj (List.mem_range.mp hm.1) e; omega) (hroot j hj hjr) (hroot i (List.mem_range.mp hm.1) hm.2)
    · rcases Nat.lt_or_ge j i with q2 | q2
      · exact ra_hq_quot p (fun e => by have := hX j i hj (List.mem_range.mp hm.1) e; omega) (hroot j hj hjr) (hroot i (List.mem_range.mp hm.1) hm.2)
      · rw [show i = j by omega]; exact h0) (by rw [List.length_map, hlen]; omega)
  exact h01 (by rw [← hp0]; exact this)
/-- one right word at most is near enough -/
theorem ra_unique {K : Type} [Lean.Grind.Field K] {N k : Nat} {X : Nat → K} (hX : ∀ i j, i < N → j < N → X i = X j → i = j) {d : Nat → K} {dp : Nat → Bool} (hd : ∀ i, i < N → dp i = false → d i = 0) (hk : ((List.range N).filter dp).length ≤ k) (h : ∀ m, m < k → ra_sum N (fun i => d i * X i ^ m) = 0) : ∀ i, i < N → d i = 0 := by
  intro i hi
  cases hp : dp i with
  | false => exact hd i hi hp
  | true =>
    have := ra_vdm (((List.range N).filter dp).map (fun i => (X i, d i))) (by rw [List.map_map]; exact ra_nodup_map hX dp) (fun m hm => by
      rw [List.length_map] at hm
      have h0 := h m (by omega)
      rw [ra_sum_filter N _ dp (fun j hj hf => by rw [hd j hj hf]; grind)] at h0
      rw [List.map_map]
      exact h0) (X i, d i) (List.mem_map.mpr ⟨i, List.mem_filter.mpr ⟨List.mem_range.mpr hi, hp⟩, rfl⟩)
    exact this
