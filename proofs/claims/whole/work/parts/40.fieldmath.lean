/-! Pure algebra over a field (no Mathlib here): Horner values, the two Vandermonde facts, the root count, the locator's discrepancy as a sum over the errata, Forney's value. -/
/-- the value of p from its top: p m + X p (m-1) + .. + X^m p 0 -/
def ra_hq {K : Type} [Lean.Grind.Field K] (p : Nat → K) (X : K) : Nat → K
  | 0 => p 0
  | m + 1 => p (m + 1) + X * ra_hq p X m
/-- sums -/
def ra_sum {K : Type} [Lean.Grind.Field K] : Nat → (Nat → K) → K
  | 0, _ => 0
  | n + 1, f => ra_sum n f + f n
def ra_ls {K : Type} [Lean.Grind.Field K] : List K → K
  | [] => 0
  | a :: l => a + ra_ls l
theorem ra_sum_congr {K : Type} [Lean.Grind.Field K] {n : Nat} {f g : Nat → K} (h : ∀ i, i < n → f i = g i) : ra_sum n f = ra_sum n g := by
  induction n with
  | zero => rfl
  | succ n ih =>
    show ra_sum n f + f n = ra_sum n g + g n
    rw [ih (fun i hi => h i (by omega)), h n (by omega)]
theorem ra_sum_zero {K : Type} [Lean.Grind.Field K] {n : Nat} {f : Nat → K} (h : ∀ i, i < n → f i = 0) : ra_sum n f = 0 := by
  induction n with
  | zero => rfl
  | succ n ih =>
    show ra_sum n f + f n = 0
    rw [ih (fun i hi => h i (by omega)), h n (by omega)]
    grind
theorem ra_sum_add {K : Type} [Lean.Grind.Field K] (n : Nat) (f g : Nat → K) : ra_sum n (fun i => f i + g i) = ra_sum n f + ra_sum n g := by
  induction n with
  | zero => show (0 : K) = 0 + 0; grind
  | succ n ih =>
    show ra_sum n (fun i => f i + g i) + (f n + g n) = (ra_sum n f + f n) + (ra_sum n g + g n)
    rw [ih]; grind
theorem ra_sum_sub {K : Type} [Lean.Grind.Field K] (n : Nat) (f g : Nat → K) : ra_sum n (fun i => f i - g i) = ra_sum n f - ra_sum n g := by
  induction n with
  | zero => show (0 : K) = 0 - 0; grind
  | succ n ih =>
    show ra_sum n (fun i => f i - g i) + (f n - g n) = (ra_sum n f + f n) - (ra_sum n g + g n)
    rw [ih]; grind
theorem ra_sum_mul {K : Type} [Lean.Grind.Field K] (n : Nat) (a : K) (f : Nat → K) : ra_sum n (fun i => a * f i) = a * ra_sum n f := by
  induction n with
  | zero => show (0 : K) = a * 0; grind
  | succ n ih =>
    show ra_sum n (fun i => a * f i) + a * f n = a * (ra_sum n f + f n)
    rw [ih]; grind
theorem ra_sum_swap {K : Type} [Lean.Grind.Field K] (n m : Nat) (f : Nat → Nat → K) : ra_sum n (fun i => ra_sum m (fun j => f i j)) = ra_sum m (fun j => ra_sum n (fun i => f i j)) := by
  induction n with
  | zero => show (0 : K) = ra_sum m (fun _ => 0); rw [ra_sum_zero (fun _ _ => rfl)]
  | succ n ih =>
    show ra_sum n (fun i => ra_sum m (fun j => f i j)) + ra_sum m (fun j => f n j) = ra_sum m (fun j => ra_sum n (fun i => f i j) + f n j)
    rw [ih, ra_sum_add]
/-- the sum over a row as a sum over those places that count -/
theorem ra_ls_append {K : Type} [Lean.Grind.Field K] (a b : List K) : ra_ls (a ++ b) = ra_ls a + ra_ls b := by
  induction a with
  | nil => show ra_ls b = 0 + ra_ls b; grind
  | cons x a ih => show x + ra_ls (a ++ b) = x + ra_ls a + ra_ls b; rw [ih]; grind
theorem ra_sum_filter {K : Type} [Lean.Grind.Field K] (n : Nat) (f : Nat → K) (p : Nat → Bool) (h : ∀ i, i < n → p i = false → f i = 0) : ra_sum n f = ra_ls (((List.range n).filter p).map f) := by
  induction n with
  | zero => rfl
  | succ n ih =>
    show ra_sum n f + f n = _
    rw [List.range_succ, List.filter_append, List.map_append, ra_ls_append, ih (fun i hi => h i (by omega))]
    congr 1
    cases hp : p n with
    | true => simp [hp, ra_ls]; grind
    | false => simp [hp, ra_ls]; exact h n (by omega) hp
/-- Horner values: linear -/
theorem ra_hq_congr {K : Type} [Lean.Grind.Field K] {p q : Nat → K} {X : K} : ∀ {m : Nat}, (∀ i, i ≤ m → p i = q i) → ra_hq p X m = ra_hq q X m
  | 0, h => h 0 (Nat.le_refl 0)
  | m + 1, h => by
    show p (m + 1) + X * ra_hq p X m = q (m + 1) + X * ra_hq q X m
    rw [h (m + 1) (Nat.le_refl _), ra_hq_congr (fun i hi => h i (by omega))]
theorem ra_hq_add {K : Type} [Lean.Grind.Field K] (p q : Nat → K) (a X : K) : ∀ m : Nat, ra_hq (fun i => p i + a * q i) X m = ra_hq p X m + a * ra_hq q X m
  | 0 => rfl
  | m + 1 => by
    show p (m + 1) + a * q (m + 1) + X * ra_hq (fun i => p i + a * q i) X m = p (m + 1) + X * ra_hq p X m + a * (q (m + 1) + X * ra_hq q X m)
    rw [ra_hq_add p q a X m]; grind
theorem ra_hq_scale {K : Type} [Lean.Grind.Field K] (p : Nat → K) (a X : K) : ∀ m : Nat, ra_hq (fun i => a * p i) X m = a * ra_hq p X m
  | 0 => rfl
  | m + 1 => by
    show a * p (m + 1) + X * ra_hq (fun i => a * p i) X m = a * (p (m + 1) + X * ra_hq p X m)
    rw [ra_hq_scale p a X m]; grind
/-- one place up -/
def ra_up {K : Type} [Lean.Grind.Field K] (p : Nat → K) : Nat → K
  | 0 => 0
  | m + 1 => p m
theorem ra_hq_up {K : Type} [Lean.Grind.Field K] (p : Nat → K) (X : K) : ∀ m : Nat, ra_hq (ra_up p) X (m + 1) = ra_hq p X m
  | 0 => by
    show p 0 + X * 0 = p 0
    grind
  | m + 1 => by
    show p (m + 1) + X * ra_hq (ra_up p) X (m + 1) = p (m + 1) + X * ra_hq p X m
    rw [ra_hq_up p X m]
/-- beyond the degree -/
theorem ra_hq_past {K : Type} [Lean.Grind.Field K] {p : Nat → K} {X : K} {d : Nat} (h : ∀ i, d < i → p i = 0) : ∀ k : Nat, ra_hq p X (d + k) = X ^ k * ra_hq p X d
  | 0 => by
    show ra_hq p X d = X ^ 0 * ra_hq p X d
    rw [Lean.Grind.Semiring.pow_zero]; grind
  | k + 1 => by
    show p (d + k + 1) + X * ra_hq p X (d + k) = X ^ (k + 1) * ra_hq p X d
    rw [h (d + k + 1) (by omega), ra_hq_past h k, Lean.Grind.Semiring.pow_succ]; grind
/-- the quotient's Horner value -/
theorem ra_hq_hq {K : Type} [Lean.Grind.Field K] (p : Nat → K) (X Y : K) : ∀ m : Nat, (X - Y) * ra_hq (ra_hq p X) Y m = X * ra_hq p X m - Y * ra_hq p Y m
  | 0 => by
    show (X - Y) * p 0 = X * p 0 - Y * p 0
    grind
  | m + 1 => by
    have h := ra_hq_hq p X Y m
    show (X - Y) * ((p (m + 1) + X * ra_hq p X m) + Y * ra_hq (ra_hq p X) Y m) = X * (p (m + 1) + X * ra_hq p X m) - Y * (p (m + 1) + Y * ra_hq p Y m)
    grind
theorem ra_hq_quot {K : Type} [Lean.Grind.Field K] (p : Nat → K) {X Y : K} (hne : X ≠ Y) {m : Nat} (hX : ra_hq p X (m + 1) = 0) (hY : ra_hq p Y (m + 1) = 0) : ra_hq (ra_hq p X) Y m = 0 := by
  have h := ra_hq_hq p X Y m
  have h1 : p (m + 1) + X * ra_hq p X m = 0 := hX
  have h2 : p (m + 1) + Y * ra_hq p Y m = 0 := hY
  have h3 : (X - Y) * ra_hq (ra_hq p X) Y m = 0 := by grind
  rcases Lean.Grind.Field.of_mul_eq_zero h3 with h4 | h4
  · exact absurd (by grind : X = Y) hne
  · exact h4
/-- no more roots than the degree -/
theorem ra_roots_all {K : Type} [Lean.Grind.Field K] : ∀ (n : Nat) (p : Nat → K) (xs : List K), xs.Nodup → (∀ X ∈ xs, ra_hq p X n = 0) → n < xs.length → ∀ j, j ≤ n → p j = 0
  | n, p, [], _, _, hl => absurd hl (Nat.not_lt_zero n)
  | 0, p, X :: xs, _, h, _ => fun j hj => by
    rw [show j = 0 by omega]; exact h X List.mem_cons_self
  | n + 1, p, X :: xs, hd, h, hl => by
    have hX := h X List.mem_cons_self
    have hnd := List.nodup_cons.mp hd
    have ih := ra_roots_all n (ra_hq p X) xs hnd.2 (fun Y hY => ra_hq_quot p (fun (e : X = Y) => hnd.1 (by rw [e]; exact hY)) hX (h Y (List.mem_cons_of_mem _ hY))) (by simpa using hl)
    intro j hj
    match j, hj with
    | 0, _ => exact ih 0 (Nat.zero_le n)
    | j + 1, hj =>
      have h1 : ra_hq p X (j + 1) = 0 := by
        rcases Nat.lt_or_ge j n with q | q
        · exact ih (j + 1) q
        · rw [show j = n by omega]; exact hX
      have h2 : p (j + 1) + X * ra_hq p X j = 0 := h1
      rw [ih j (by omega)] at h2
      grind
theorem ra_roots {K : Type} [Lean.Grind.Field K] (n : Nat) (p : Nat → K) (xs : List K) (hd : xs.Nodup) (h : ∀ X ∈ xs, ra_hq p X n = 0) (hl : n < xs.length) : p 0 = 0 := ra_roots_all n p xs hd h hl 0 (Nat.zero_le n)
/-- as many equations as unknowns: all are 0 -/
theorem ra_vdm {K : Type} [Lean.Grind.Field K] : ∀ (l : List (K × K)), (l.map Prod.fst).Nodup → (∀ m, m < l.length → ra_ls (l.map (fun q => q.2 * q.1 ^ m)) = 0) → ∀ q ∈ l, q.2 = 0
  | [], _, _ => fun q h => absurd h List.not_mem_nil
  | (X, y) :: l, hd, h => by
    have hnd := List.nodup_cons.mp hd
    have hrow : ∀ m : Nat, ra_ls ((l.map (fun q => (q.1, q.2 * (q.1 - X)))).map (fun q => q.2 * q.1 ^ m)) = ra_ls (l.map (fun q => q.2 * q.1 ^ (m + 1))) - X * ra_ls (l.map (fun q => q.2 * q.1 ^ m)) := by
      intro m
      clear hd h hnd
      induction l with
      | nil => show (0 : K) = 0 - X * 0; grind
      | cons q l ih =>
        show q.2 * (q.1 - X) * q.1 ^ m + ra_ls ((l.map (fun q => (q.1, q.2 * (q.1 - X)))).map (fun q => q.2 * q.1 ^ m)) = q.2 * q.1 ^ (m + 1) + ra_ls (l.map (fun q => q.2 * q.1 ^ (m + 1))) - X * (q.2 * q.1 ^ m + ra_ls (l.map (fun q => q.2 * q.1 ^ m)))
        rw [ih, Lean.Grind.Semiring.pow_succ]; grind
    have hsub : ∀ q ∈ l, q.2 * (q.1 - X) = 0 := by
      intro q hq
      have := ra_vdm (l.map (fun q => (q.1, q.2 * (q.1 - X)))) (by rw [List.map_map]; exact hnd.2) (fun m hm => by
        rw [List.length_map] at hm
        rw [hrow m]
        have e1 : y * X ^ (m + 1) + ra_ls (l.map (fun q => q.2 * q.1 ^ (m + 1))) = 0 := h (m + 1) (by simpa using hm)
        have e2 : y * X ^ m + ra_ls (l.map (fun q => q.2 * q.1 ^ m)) = 0 := h m (by simp; omega)
        rw [Lean.Grind.Semiring.pow_succ] at e1
        grind) (q.1, q.2 * (q.1 - X)) (List.mem_map.mpr ⟨q, hq, rfl⟩)
      exact this
    have hrest : ∀ q ∈ l, q.2 = 0 := by
      intro q hq
      rcases Lean.Grind.Field.of_mul_eq_zero (hsub q hq) with h1 | h1
      · exact h1
      · exact absurd (List.mem_map.mpr ⟨q, hq, (by grind : q.1 = X)⟩) hnd.1
    have hz : ra_ls (l.map (fun q => q.2 * q.1 ^ 0)) = 0 := by
      clear hd h hnd hrow hsub
      induction l with
      | nil => rfl
      | cons q l ih =>
        show q.2 * q.1 ^ 0 + ra_ls (l.map (fun q => q.2 * q.1 ^ 0)) = 0
        rw [ih (fun q hq => hrest q (List.mem_cons_of_mem _ hq)), hrest q List.mem_cons_self]; grind
    have hy : y * X ^ 0 + ra_ls (l.map (fun q => q.2 * q.1 ^ 0)) = 0 := h 0 (by simp)
    rw [hz, Lean.Grind.Semiring.pow_zero] at hy
    intro q hq
    rcases List.mem_cons.mp hq with rfl | h1
    · show y = 0
      grind
    · exact hrest q h1
  termination_by l => l.length
