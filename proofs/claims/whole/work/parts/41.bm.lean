/-! The search for the locator (Berlekamp, Massey, with lost places), and Forney's value, over any field in which a + a = 0. -/
/-- what stands before x^m in the product of p and s -/
def ra_cv {K : Type} [Lean.Grind.Field K] (p s : Nat → K) (m : Nat) : K := ra_sum (m + 1) (fun j => p j * s (m - j))
theorem ra_cv_add {K : Type} [Lean.Grind.Field K] (p q s : Nat → K) (a : K) (m : Nat) : ra_cv (fun i => p i + a * q i) s m = ra_cv p s m + a * ra_cv q s m := by
  unfold ra_cv
  rw [← ra_sum_mul, ← ra_sum_add]
  exact ra_sum_congr (fun i _ => by grind)
theorem ra_cv_scale {K : Type} [Lean.Grind.Field K] (p s : Nat → K) (a : K) (m : Nat) : ra_cv (fun i => a * p i) s m = a * ra_cv p s m := by
  unfold ra_cv
  rw [← ra_sum_mul]
  exact ra_sum_congr (fun i _ => by grind)
theorem ra_sum_head {K : Type} [Lean.Grind.Field K] (f : Nat → K) : ∀ n : Nat, ra_sum (n + 1) f = f 0 + ra_sum n (fun i => f (i + 1))
  | 0 => by
    show 0 + f 0 = f 0 + 0
    grind
  | n + 1 => by
    show ra_sum (n + 1) f + f (n + 1) = f 0 + (ra_sum n (fun i => f (i + 1)) + f (n + 1))
    rw [ra_sum_head f n]; grind
theorem ra_cv_up {K : Type} [Lean.Grind.Field K] (p s : Nat → K) (m : Nat) : ra_cv (ra_up p) s (m + 1) = ra_cv p s m := by
  unfold ra_cv
  rw [ra_sum_head]
  have e : (ra_up p 0 * s (m + 1 - 0) : K) = 0 := by
    show (0 : K) * s (m + 1 - 0) = 0
    grind
  rw [e, ra_sum_congr (g := fun j => p j * s (m - j)) (fun i hi => by
    show p i * s (m + 1 - (i + 1)) = p i * s (m - i)
    rw [Nat.add_sub_add_right])]
  grind
theorem ra_hq_sum {K : Type} [Lean.Grind.Field K] (p : Nat → K) (X : K) : ∀ m : Nat, ra_hq p X m = ra_sum (m + 1) (fun j => p j * X ^ (m - j))
  | 0 => by
    show p 0 = 0 + p 0 * X ^ 0
    rw [Lean.Grind.Semiring.pow_zero]; grind
  | m + 1 => by
    show p (m + 1) + X * ra_hq p X m = ra_sum (m + 1) (fun j => p j * X ^ (m + 1 - j)) + p (m + 1) * X ^ (m + 1 - (m + 1))
    rw [ra_hq_sum p X m, ← ra_sum_mul, Nat.sub_self, Lean.Grind.Semiring.pow_zero, ra_sum_congr (g := fun j => p j * X ^ (m + 1 - j)) (fun i hi => by
      rw [show m + 1 - i = (m - i) + 1 by omega, Lean.Grind.Semiring.pow_succ]; grind)]
    grind
/-- the errata: e at N places of locators X; their sums s; the discrepancy by the Horner values at the locators -/
theorem ra_cv_errata {K : Type} [Lean.Grind.Field K] {N : Nat} {y X : Nat → K} {s : Nat → K} {M : Nat} (hs : ∀ m, m < M → s m = ra_sum N (fun i => y i * X i ^ m)) (p : Nat → K) {m : Nat} (hm : m < M) : ra_cv p s m = ra_sum N (fun i => y i * ra_hq p (X i) m) := by
  unfold ra_cv
  rw [ra_sum_congr (g := fun j => ra_sum N (fun i => p j * (y i * X i ^ (m - j)))) (fun j hj => by rw [hs (m - j) (by omega), ra_sum_mul]), ra_sum_swap]
  refine ra_sum_congr (fun i _ => ?_)
  rw [ra_hq_sum, ← ra_sum_mul]
  exact ra_sum_congr (fun j _ => by grind)
/-- the state of the search behind step r: v places are lost, the locator's degree should be L -/
def ra_bm {K : Type} [Lean.Grind.Field K] (s : Nat → K) (lost : K → Prop) (v r L : Nat) (p b : Nat → K) : Prop :=
  p 0 = 1 ∧ (∀ i, L < i → p i = 0) ∧ v ≤ L ∧ L ≤ r ∧ (∀ m, L ≤ m → m < r → ra_cv p s m = 0) ∧ (∀ i, r + v - L < i → b i = 0) ∧
  (∀ m, r + v - L < m → m < r → ra_cv (ra_up b) s m = 0) ∧ (v < L → ra_cv (ra_up b) s r = 1) ∧ (∀ X, lost X → ra_hq p X L = 0 ∧ ra_hq b X (r + v - L) = 0)
/-- the gap is 0 -/
theorem ra_bm_same {K : Type} [Lean.Grind.Field K] {s : Nat → K} {lost : K → Prop} {v r L : Nat} {p b : Nat → K} (h : ra_bm s lost v r L p b) (hd : ra_cv p s r = 0) : ra_bm s lost v (r + 1) L p (ra_up b) := by
  obtain ⟨h1, h2, h3, h4, h5, h6, h7, h8, h9⟩ := h
  refine ⟨h1, h2, h3, by omega, fun m h1 h2 => ?_, fun i hi => ?_, fun m g1 g2 => ?_, fun g => ?_, fun X hX => ⟨(h9 X hX).1, ?_⟩⟩
  · rcases Nat.lt_or_ge m r with q | q
    · exact h5 m h1 q
    · rw [show m = r by omega]; exact hd
  · obtain ⟨j, rfl⟩ : ∃ j, i = j + 1 := ⟨i - 1, by omega⟩
    exact h6 j (by omega)
  · obtain ⟨j, rfl⟩ : ∃ j, m = j + 1 := ⟨m - 1, by omega⟩
    rw [ra_cv_up]
    exact h7 j (by omega) (by omega)
  · rw [ra_cv_up]; exact h8 g
  · rw [show r + 1 + v - L = (r + v - L) + 1 by omega, ra_hq_up]
    exact (h9 X hX).2
/-- the gap isn't 0, the degree is large enough -/
theorem ra_bm_keep {K : Type} [Lean.Grind.Field K] (h2K : ∀ a : K, a + a = 0) {s : Nat → K} {lost : K → Prop} {v r L : Nat} {p b : Nat → K} (h : ra_bm s lost v r L p b) (hv : v ≤ r) (hL : r + v < 2 * L) : ra_bm s lost v (r + 1) L (fun i => p i + ra_cv p s r * ra_up b i) (ra_up b) := by
  obtain ⟨h1, h2, h3, h4, h5, h6, h7, h8, h9⟩ := h
  refine ⟨?_, fun i hi => ?_, h3, by omega, fun m g1 g2 => ?_, fun i hi => ?_, fun m g1 g2 => ?_, fun g => ?_, fun X hX => ⟨?_, ?_⟩⟩
  · show p 0 + ra_cv p s r * 0 = 1
    rw [h1]; grind
  · obtain ⟨j, rfl⟩ : ∃ j, i = j + 1 := ⟨i - 1, by omega⟩
    show p (j + 1) + ra_cv p s r * b j = 0
    rw [h2 _ hi, h6 j (by omega)]; grind
  · rw [ra_cv_add]
    rcases Nat.lt_or_ge m r with q | q
    · rw [h5 m g1 q, h7 m (by omega) q]; grind
    · rw [show m = r by omega, h8 (by omega)]
      have := h2K (ra_cv p s r)
      grind
  · obtain ⟨j, rfl⟩ : ∃ j, i = j + 1 := ⟨i - 1, by omega⟩
    exact h6 j (by omega)
  · obtain ⟨j, rfl⟩ : ∃ j, m = j + 1 := ⟨m - 1, by omega⟩
    rw [ra_cv_up]
    exact h7 j (by omega) (by omega)
  · rw [ra_cv_up]; exact h8 g
  · have hd : ∀ i, r + v - L + 1 < i → ra_up b i = 0 := by
      intro i hi
      obtain ⟨j, rfl⟩ : ∃ j, i = j + 1 := ⟨i - 1, by omega⟩
      exact h6 j (by omega)
    rw [ra_hq_add, (h9 X hX).1, show L = (r + v - L + 1) + (L - (r + v - L + 1)) by omega, ra_hq_past hd, ra_hq_up, (h9 X hX).2]
    grind
  · rw [show r + 1 + v - L = (r + v - L) + 1 by omega, ra_hq_up]
    exact (h9 X hX).2
/-- the gap isn't 0, the degree grows -/
theorem ra_bm_grow {K : Type} [Lean.Grind.Field K] (h2K : ∀ a : K, a + a = 0) {s : Nat → K} {lost : K → Prop} {v r L : Nat} {p b : Nat → K} (h : ra_bm s lost v r L p b) (hd : ra_cv p s r ≠ 0) (hL : 2 * L ≤ r + v) {q : Nat → K} (hq : ∀ i, q i = (ra_cv p s r)⁻¹ * p i) : ra_bm s lost v (r + 1) (r + 1 + v - L) (fun i => p i + ra_cv p s r * ra_up b i) q := by
  obtain ⟨h1, h2, h3, h4, h5, h6, h7, h8, h9⟩ := h
  have hqe : q = fun i => (ra_cv p s r)⁻¹ * p i := funext hq
  have hup : ∀ m, ra_cv (ra_up q) s (m + 1) = (ra_cv p s r)⁻¹ * ra_cv p s m := by
    intro m
    rw [ra_cv_up, hqe, ra_cv_scale]
  have hbd : ∀ i, r + v - L + 1 < i → ra_up b i = 0 := by
    intro i hi
    obtain ⟨j, rfl⟩ : ∃ j, i = j + 1 := ⟨i - 1, by omega⟩
    exact h6 j (by omega)
  refine ⟨?_, fun i hi => ?_, by omega, by omega, fun m g1 g2 => ?_, fun i hi => ?_, fun m g1 g2 => ?_, fun g => ?_, fun X hX => ⟨?_, ?_⟩⟩
  · show p 0 + ra_cv p s r * 0 = 1
    rw [h1]; grind
  · show p i + ra_cv p s r * ra_up b i = 0
    rw [h2 i (by omega), hbd i (by omega)]; grind
  · rw [ra_cv_add]
    rcases Nat.lt_or_ge m r with q | q
    · rw [h5 m (by omega) q, h7 m (by omega) q]; grind
    · rw [show m = r by omega, h8 (by omega)]
      have := h2K (ra_cv p s r)
      grind
  · rw [hq, h2 i (by omega)]; grind
  · obtain ⟨j, rfl⟩ : ∃ j, m = j + 1 := ⟨m - 1, by omega⟩
    rw [hup, h5 j (by omega) (by omega)]; grind
  · rw [hup]
    exact Lean.Grind.Field.inv_mul_cancel hd
  · rw [ra_hq_add, show r + 1 + v - L = L + (r + 1 + v - L - L) by omega, ra_hq_past h2, (h9 X hX).1, show L + (r + 1 + v - L - L) = (r + v - L) + 1 by omega, ra_hq_up, (h9 X hX).2]
    grind
  · rw [show r + 1 + v - (r + 1 + v - L) = L by omega, hqe, ra_hq_scale, (h9 X hX).1]; grind
