/-! The reference's way: sums without the lost places, a monic polynomial with given roots, what its two systems have. -/
section RM
/-- a monic polynomial with given roots -/
theorem rm_poly {K : Type} [Lean.Grind.Field K] (h2K : ∀ a : K, a + a = 0) : ∀ xs : List K, ∃ z : Nat → K, ∀ X ∈ xs, ra_sum xs.length (fun j => z j * X ^ j) = X ^ xs.length
  | [] => ⟨fun _ => 0, fun X h => absurd h List.not_mem_nil⟩
  | a :: xs => by
    obtain ⟨z, hz⟩ := rm_poly h2K xs
    refine ⟨fun j => (if j = 0 then 0 else z (j - 1)) + a * (if j = xs.length then 1 else z j), fun X hX => ?_⟩
    have h1 : ra_sum (xs.length + 1) (fun j => ((if j = 0 then 0 else z (j - 1)) + a * (if j = xs.length then 1 else z j)) * X ^ j) = X * ra_sum xs.length (fun j => z j * X ^ j) + a * (ra_sum xs.length (fun j => z j * X ^ j) + X ^ xs.length) := by
      have e1 : ra_sum (xs.length + 1) (fun j => (if j = 0 then 0 else z (j - 1)) * X ^ j) = X * ra_sum xs.length (fun j => z j * X ^ j) := by
        rw [ra_sum_head, ← ra_sum_mul]
        show (0 : K) * X ^ 0 + ra_sum xs.length (fun i => (if i + 1 = 0 then 0 else z (i + 1 - 1)) * X ^ (i + 1)) = _
        rw [ra_sum_congr (g := fun i => X * (z i * X ^ i)) (fun i _ => by rw [if_neg (by omega), Nat.add_sub_cancel, Lean.Grind.Semiring.pow_succ]; grind)]
        grind
      have e2 : ra_sum (xs.length + 1) (fun j => (if j = xs.length then 1 else z j) * X ^ j) = ra_sum xs.length (fun j => z j * X ^ j) + X ^ xs.length := by
        show ra_sum xs.length (fun j => (if j = xs.length then 1 else z j) * X ^ j) + (if xs.length = xs.length then 1 else z xs.length) * X ^ xs.length = _
        rw [if_pos rfl, ra_sum_congr (g := fun j => z j * X ^ j) (fun j hj => by rw [if_neg (by omega)])]
        grind
      rw [← e1, ← e2, ← ra_sum_mul, ← ra_sum_add]
      exact ra_sum_congr (fun j _ => by grind)
    show ra_sum (xs.length + 1) _ = X ^ (xs.length + 1)
    rw [h1, Lean.Grind.Semiring.pow_succ]
    rcases List.mem_cons.mp hX with rfl | hX
    · have := h2K (X * ra_sum xs.length (fun j => z j * X ^ j))
      grind
    · rw [hz X hX]
      have := h2K (a * X ^ xs.length)
      grind
/-- too many roots: all are 0 (powers upwards) -/
theorem rm_zero {K : Type} [Lean.Grind.Field K] {t : Nat} {z : Nat → K} {xs : List K} (hd : xs.Nodup) (hl : t ≤ xs.length) (h : ∀ X ∈ xs, ra_sum t (fun j => z j * X ^ j) = 0) : ∀ j, j < t → z j = 0 := by
  rcases Nat.eq_zero_or_pos t with ht | ht
  · intro j hj; omega
  · have := ra_roots_all (t - 1) (fun j => z (t - 1 - j)) xs hd (fun X hX => by
      rw [ra_hq_sum, show t - 1 + 1 = t by omega]
      have h1 := h X hX
      rw [← h1]
      clear h1
      have key : ∀ n : Nat, n ≤ t → ra_sum n (fun j => z (t - 1 - j) * X ^ (t - 1 - j)) + ra_sum (t - n) (fun j => z j * X ^ j) = ra_sum t (fun j => z j * X ^ j) := by
        intro n
        induction n with
        | zero => intro _; show 0 + ra_sum (t - 0) _ = _; rw [Nat.sub_zero]; grind
        | succ n ih =>
          intro hn
          rw [← ih (by omega), show t - n = (t - (n + 1)) + 1 by omega]
          show ra_sum n _ + z (t - 1 - n) * X ^ (t - 1 - n) + ra_sum (t - (n + 1)) _ = ra_sum n _ + (ra_sum (t - (n + 1)) _ + z (t - (n + 1)) * X ^ (t - (n + 1)))
          rw [show t - (n + 1) = t - 1 - n by omega]
          grind
      have h2 := key t (Nat.le_refl _)
      rw [Nat.sub_self] at h2
      rw [← h2]
      show _ = _ + (0 : K)
      grind) (by omega)
    intro j hj
    have h3 := this (t - 1 - j) (by omega)
    rw [show t - 1 - (t - 1 - j) = j by omega] at h3
    exact h3
/-- no more roots than the degree, of a monic one -/
theorem rm_monic {K : Type} [Lean.Grind.Field K] {t : Nat} {z : Nat → K} {xs : List K} (hd : xs.Nodup) (hl : t < xs.length) : ¬ ∀ X ∈ xs, X ^ t + ra_sum t (fun j => z j * X ^ j) = 0 := by
  intro h
  have := rm_zero (t := t + 1) (z := fun j => if j = t then 1 else z j) hd hl (fun X hX => by
    show ra_sum t (fun j => (if j = t then 1 else z j) * X ^ j) + (if t = t then 1 else z t) * X ^ t = 0
    rw [if_pos rfl, ra_sum_congr (g := fun j => z j * X ^ j) (fun j hj => by rw [if_neg (by omega)])]
    have := h X hX
    grind) t (Nat.lt_succ_self t)
  rw [if_pos rfl] at this
  exact Lean.Grind.Field.zero_ne_one this.symm
/-- the sums without the lost places below p -/
def md_s {K : Type} [Lean.Grind.Field K] (X s : Nat → K) (lp : Nat → Bool) : Nat → Nat → K
  | 0, i => s i
  | p + 1, i => if lp p then md_s X s lp p (i + 1) + X p * md_s X s lp p i else md_s X s lp p i
def ef_f {K : Type} [Lean.Grind.Field K] (X : Nat → K) (lp : Nat → Bool) : Nat → Nat → K
  | 0, _ => 1
  | p + 1, x => if lp p then ef_f X lp p x * (X x + X p) else ef_f X lp p x
theorem md_sum {K : Type} [Lean.Grind.Field K] {N k : Nat} {X y s : Nat → K} {lp : Nat → Bool} (hs : ∀ m, m < k → s m = ra_sum N (fun i => y i * X i ^ m)) : ∀ (p i : Nat), i + cn lp p < k → md_s X s lp p i = ra_sum N (fun x => y x * ef_f X lp p x * X x ^ i)
  | 0, i, h => by
    show s i = _
    rw [hs i (by have : cn lp 0 = 0 := rfl; omega)]
    exact ra_sum_congr (fun x _ => by show _ = y x * 1 * X x ^ i; grind)
  | p + 1, i, h => by
    cases hp : lp p with
    | false =>
      rw [cn_f hp] at h
      show (if lp p then _ else md_s X s lp p i) = _
      rw [hp]
      refine Eq.trans (md_sum hs p i h) (ra_sum_congr (fun x _ => ?_))
      show _ = y x * (if lp p then _ else ef_f X lp p x) * X x ^ i
      rw [hp]; rfl
    | true =>
      rw [cn_t hp] at h
      show (if lp p then md_s X s lp p (i + 1) + X p * md_s X s lp p i else _) = _
      rw [hp]
      show md_s X s lp p (i + 1) + X p * md_s X s lp p i = _
      rw [md_sum hs p (i + 1) (by omega), md_sum hs p i (by omega), ← ra_sum_mul, ← ra_sum_add]
      refine ra_sum_congr (fun x _ => ?_)
      show _ = y x * (if lp p then ef_f X lp p x * (X x + X p) else _) * X x ^ i
      rw [hp, Lean.Grind.Semiring.pow_succ]
      show _ = y x * (ef_f X lp p x * (X x + X p)) * X x ^ i
      grind
theorem ef_lost {K : Type} [Lean.Grind.Field K] (h2K : ∀ a : K, a + a = 0) {X : Nat → K} {lp : Nat → Bool} {x : Nat} (hx : lp x = true) : ∀ {p : Nat}, x < p → ef_f X lp p x = 0
  | 0, h => absurd h (Nat.not_lt_zero x)
  | p + 1, h => by
    show (if lp p then ef_f X lp p x * (X x + X p) else ef_f X lp p x) = 0
    rcases Nat.lt_or_ge x p with q | q
    · rw [ef_lost h2K hx q]
      split <;> grind
    · rw [show p = x by omega, hx, h2K (X x)]
      show _ * (0 : K) = 0
      grind
theorem ef_ne {K : Type} [Lean.Grind.Field K] (h2K : ∀ a : K, a + a = 0) {N : Nat} {X : Nat → K} (hX : ∀ i j, i < N → j < N → X i = X j → i = j) {lp : Nat → Bool} {x : Nat} (hxN : x < N) (hx : lp x = false) : ∀ {p : Nat}, p ≤ N → ef_f X lp p x ≠ 0
  | 0, _ => fun h => Lean.Grind.Field.zero_ne_one h.symm
  | p + 1, h => by
    have ih := ef_ne h2K hX hxN hx (show p ≤ N by omega)
    show (if lp p then ef_f X lp p x * (X x + X p) else ef_f X lp p x) ≠ 0
    cases hp : lp p with
    | false => exact ih
    | true =>
      intro h0
      rcases Lean.Grind.Field.of_mul_eq_zero (show ef_f X lp p x * (X x + X p) = 0 from h0) with h1 | h1
      · exact ih h1
      · have h2 := h2K (X p)
        have h3 : X x = X p := by grind
        have := hX x p hxN (by omega) h3
        rw [this, hp] at hx
        cases hx
/-- where there are errata of t places, the first system has just one answer: the monic polynomial of their locators -/
theorem rm_first {K : Type} [Lean.Grind.Field K] (h2K : ∀ a : K, a + a = 0) {N k : Nat} {X y s : Nat → K} {lp ep : Nat → Bool} (S : ra_set N k X y s lp ep) {t : Nat} (ht : t = cn ep N) (hnear : 2 * t + cn lp N ≤ k) :
    (∃ z : Nat → K, ∀ i, i < k - cn lp N - t → ra_sum t (fun j => md_s X s lp N (i + j) * z j) = md_s X s lp N (i + t)) ∧ (¬ ∃ z : Nat → K, (∃ j, j < t ∧ z j ≠ 0) ∧ ∀ i, i < k - cn lp N - t → ra_sum t (fun j => md_s X s lp N (i + j) * z j) = 0) ∧ (∀ z : Nat → K, (∀ i, i < k - cn lp N - t → ra_sum t (fun j => md_s X s lp N (i + j) * z j) = md_s X s lp N (i + t)) → ∀ p, p < N → lp p = false → (X p ^ t + ra_sum t (fun j => z j * X p ^ j) = 0 ↔ ep p = true)) := by
  obtain ⟨hX, hs, he, hn⟩ := S
  have hlen : ((List.range N).filter ep).length = t := by rw [cn_len, ht]
  have hnd := ra_nodup_map hX ep
  have hmemX : ∀ {p : Nat}, p < N → ep p = true → X p ∈ ((List.range N).filter ep).map X := fun h1 h2 => List.mem_map.mpr ⟨_, List.mem_filter.mpr ⟨List.mem_range.mpr h1, h2⟩, rfl⟩
  -- a row of the system, by the values of a polynomial at the locators
  have hrow : ∀ (z : Nat → K) (i : Nat), i < k - cn lp N - t → ra_sum t (fun j => md_s X s lp N (i + j) * z j) = ra_sum N (fun x => y x * ef_f X lp N x * ra_sum t (fun j => z j * X x ^ j) * X x ^ i) := by
    intro z i hi
    rw [ra_sum_congr (g := fun j => ra_sum N (fun x => z j * (y x * ef_f X lp N x * X x ^ (i + j)))) (fun j hj => by rw [md_sum hs N (i + j) (by omega), ra_sum_mul]; grind), ra_sum_swap]
    refine ra_sum_congr (fun x _ => ?_)
    have e : y x * ef_f X lp N x * ra_sum t (fun j => z j * X x ^ j) * X x ^ i = (y x * ef_f X lp N x * X x ^ i) * ra_sum t (fun j => z j * X x ^ j) := by grind
    rw [e, ← ra_sum_mul]
    exact ra_sum_congr (fun j _ => by rw [Lean.Grind.Semiring.pow_add]; grind)
  have hzero : ∀ x, x < N → ep x = false → y x * ef_f X lp N x = 0 := by
    intro x hx hf
    rcases hn x hx hf with h1 | h1
    · rw [ef_lost h2K h1 hx]; grind
    · rw [h1]; grind
  have hnz : ∀ x, x < N → ep x = true → y x * ef_f X lp N x ≠ 0 := by
    intro x hx ht h0
    have h1 := he x hx ht
    rcases Lean.Grind.Field.of_mul_eq_zero h0 with h2 | h2
    · exact h1.2 h2
    · exact ef_ne h2K hX hx h1.1 (Nat.le_refl N) h2
  obtain ⟨z0, hz0⟩ := rm_poly h2K (((List.range N).filter ep).map X)
  rw [List.length_map, hlen] at hz0
  have hroot0 : ∀ x, x < N → ep x = true → ra_sum t (fun j => z0 j * X x ^ j) = X x ^ t := fun x hx ht => hz0 (X x) (hmemX hx ht)
  have hsol0 : ∀ i, i < k - cn lp N - t → ra_sum t (fun j => md_s X s lp N (i + j) * z0 j) = md_s X s lp N (i + t) := by
    intro i hi
    rw [hrow z0 i hi, md_sum hs N (i + t) (by omega)]
    refine ra_sum_congr (fun x hx => ?_)
    cases hp : ep x with
    | false => rw [hzero x hx hp]; grind
    | true => rw [hroot0 x hx hp, Lean.Grind.Semiring.pow_add]; grind
  have hker : ∀ z : Nat → K, (∀ i, i < k - cn lp N - t → ra_sum t (fun j => md_s X s lp N (i + j) * z j) = 0) → ∀ j, j < t → z j = 0 := by
    intro z hz
    refine rm_zero hnd (by rw [List.length_map, hlen]; exact Nat.le_refl _) (fun Z hZ => ?_)
    obtain ⟨x, hx, rfl⟩ := List.mem_map.mp hZ
    have hm := List.mem_filter.mp hx
    have hv := ra_vdm (((List.range N).filter ep).map (fun x => (X x, y x * ef_f X lp N x * ra_sum t (fun j => z j * X x ^ j)))) (by rw [List.map_map]; exact hnd) (fun m hm2 => by
      rw [List.length_map, hlen] at hm2
      have h0 := hz m (by omega)
      rw [hrow z m (by omega), ra_sum_filter N _ ep (fun x hx hf => by rw [hzero x hx hf]; grind)] at h0
      rw [List.map_map]
      exact h0) (X x, y x * ef_f X lp N x * ra_sum t (fun j => z j * X x ^ j)) (List.mem_map.mpr ⟨x, hx, rfl⟩)
    rcases Lean.Grind.Field.of_mul_eq_zero (show y x * ef_f X lp N x * ra_sum t (fun j => z j * X x ^ j) = 0 from hv) with h1 | h1
    · exact absurd h1 (hnz x (List.mem_range.mp hm.1) hm.2)
    · exact h1
  refine ⟨⟨z0, hsol0⟩, fun ⟨z, ⟨j, hj, hne⟩, hz⟩ => hne (hker z hz j hj), fun z hz p hp hlp => ?_⟩
  have huniq : ∀ j, j < t → z j = z0 j := by
    intro j hj
    have := hker (fun j => z j - z0 j) (fun i hi => by
      have h1 := hz i hi
      rw [← hsol0 i hi] at h1
      rw [ra_sum_congr (g := fun j => md_s X s lp N (i + j) * z j - md_s X s lp N (i + j) * z0 j) (fun j _ => by grind), ra_sum_sub, h1]
      grind) j hj
    grind
  rw [ra_sum_congr (g := fun j => z0 j * X p ^ j) (fun j hj => by rw [huniq j hj])]
  constructor
  · intro h0
    cases hep : ep p with
    | true => rfl
    | false =>
      exfalso
      refine rm_monic (t := t) (z := z0) (xs := X p :: ((List.range N).filter ep).map X) (List.nodup_cons.mpr ⟨fun hm => ?_, hnd⟩) (by rw [List.length_cons, List.length_map, hlen]; omega) (fun Z hZ => ?_)
      · obtain ⟨x, hx, e⟩ := List.mem_map.mp hm
        have hm := List.mem_filter.mp hx
        have := hX x p (List.mem_range.mp hm.1) hp e
        rw [this, hep] at hm
        exact absurd hm.2 (by decide)
      · rcases List.mem_cons.mp hZ with rfl | hZ
        · exact h0
        · rw [hz0 Z hZ]; exact h2K _
  · intro hep
    rw [hroot0 p hp hep]; exact h2K _
end RM
