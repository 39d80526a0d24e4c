/-! The reference's elimination: a solution, or none, or more than one. -/
section GA
theorem ix41 (i j : Nat) : (41 : Int32) * nI i + nI j = nI (41 * i + j) := by
  rw [show (41 : Int32) = nI 41 from rfl, pk_mul, nI_add]
def mt_ok {K : Type} (en : K → Nat) (R u : Nat) (f : Nat → Int32) (N : Nat → Nat → K) : Prop := ∀ i, i < R → ∀ j, j ≤ u → f (41 * i + j) = nI (en (N i j))
def rw_s {K : Type} [Lean.Grind.Field K] (u : Nat) (r w : Nat → K) : K := ra_sum (u + 1) (fun j => r j * w j)
/-- the same null vectors -/
def eq_n {K : Type} [Lean.Grind.Field K] (R u : Nat) (N M : Nat → Nat → K) : Prop := ∀ w : Nat → K, (∀ i, i < R → rw_s u (N i) w = 0) ↔ (∀ i, i < R → rw_s u (M i) w = 0)
theorem rw_lin {K : Type} [Lean.Grind.Field K] (u : Nat) (r q : Nat → K) (a : K) (w : Nat → K) : rw_s u (fun j => r j + a * q j) w = rw_s u r w + a * rw_s u q w := by
  unfold rw_s
  rw [← ra_sum_mul, ← ra_sum_add]
  exact ra_sum_congr (fun j _ => by grind)
theorem rw_scale {K : Type} [Lean.Grind.Field K] (u : Nat) (r : Nat → K) (a : K) (w : Nat → K) : rw_s u (fun j => r j * a) w = a * rw_s u r w := by
  unfold rw_s
  rw [← ra_sum_mul]
  exact ra_sum_congr (fun j _ => by grind)
/-- a stage of the elimination: rows p and c change, row c is made to begin with 1, the others lose column c -/
def st_g {K : Type} [Lean.Grind.Field K] (N : Nat → Nat → K) (c p : Nat) (i : Nat) : Nat → K := if i = c then N p else if i = p then N c else N i
def st_n {K : Type} [Lean.Grind.Field K] (N : Nat → Nat → K) (c p : Nat) (i : Nat) : Nat → K := if i = c then fun j => N p j * (N p c)⁻¹ else st_g N c p i
def st_e {K : Type} [Lean.Grind.Field K] (N : Nat → Nat → K) (c p : Nat) (i : Nat) : Nat → K := if i = c then st_n N c p c else fun j => st_n N c p i j + st_n N c p i c * st_n N c p c j
theorem st_same {K : Type} [Lean.Grind.Field K] {R u c p : Nat} (hc : c < R) (hp : p < R) (N : Nat → Nat → K) (hne : N p c ≠ 0) : eq_n R u (st_e N c p) N := by
  intro w
  have hinv : (N p c)⁻¹ ≠ 0 := fun h => hne (Lean.Grind.Field.inv_eq_zero_iff.mp h)
  have e1 : (∀ i, i < R → rw_s u (st_e N c p i) w = 0) ↔ (∀ i, i < R → rw_s u (st_n N c p i) w = 0) := by
    constructor
    · intro h i hi
      have h0 := h c hc
      unfold st_e at h0
      rw [if_pos rfl] at h0
      by_cases e : i = c
      · rw [e]; exact h0
      · have h1 := h i hi
        unfold st_e at h1
        rw [if_neg e, rw_lin, h0] at h1
        grind
    · intro h i hi
      unfold st_e
      by_cases e : i = c
      · rw [if_pos e]; exact h c hc
      · rw [if_neg e, rw_lin, h i hi, h c hc]; grind
  have e2 : (∀ i, i < R → rw_s u (st_n N c p i) w = 0) ↔ (∀ i, i < R → rw_s u (st_g N c p i) w = 0) := by
    constructor
    · intro h i hi
      have h1 := h i hi
      unfold st_n at h1
      by_cases e : i = c
      · rw [if_pos e, rw_scale] at h1
        unfold st_g
        rw [if_pos e]
        rcases Lean.Grind.Field.of_mul_eq_zero h1 with h2 | h2
        · exact absurd h2 hinv
        · exact h2
      · rw [if_neg e] at h1; exact h1
    · intro h i hi
      have h1 := h i hi
      unfold st_n
      by_cases e : i = c
      · rw [if_pos e, rw_scale]
        unfold st_g at h1
        rw [if_pos e] at h1
        rw [h1]; grind
      · rw [if_neg e]; exact h1
  have e3 : (∀ i, i < R → rw_s u (st_g N c p i) w = 0) ↔ (∀ i, i < R → rw_s u (N i) w = 0) := by
    constructor
    · intro h i hi
      by_cases e : i = p
      · have h1 := h c hc
        unfold st_g at h1
        rw [if_pos rfl] at h1
        rw [e]; exact h1
      · by_cases e2 : i = c
        · have h1 := h p hp
          unfold st_g at h1
          by_cases e3 : p = c
          · rw [if_pos e3] at h1
            rw [e2, ← e3]; exact h1
          · rw [if_neg e3, if_pos rfl] at h1
            rw [e2]; exact h1
        · have h1 := h i hi
          unfold st_g at h1
          rw [if_neg e2, if_neg e] at h1; exact h1
    · intro h i hi
      unfold st_g
      by_cases e : i = c
      · rw [if_pos e]; exact h p hp
      · rw [if_neg e]
        by_cases e2 : i = p
        · rw [if_pos e2]; exact h c hc
        · rw [if_neg e2]; exact h i hi
  exact (e1.trans e2).trans e3
/-- the first c columns are those of the unit matrix -/
def un_c {K : Type} [Lean.Grind.Field K] (R c : Nat) (N : Nat → Nat → K) : Prop := ∀ i, i < R → ∀ j, j < c → N i j = if i = j then 1 else 0
theorem st_unit {K : Type} [Lean.Grind.Field K] (h2K : ∀ a : K, a + a = 0) {R c p : Nat} (hc : c < R) (hp : p < R) (hcp : c ≤ p) {N : Nat → Nat → K} (hne : N p c ≠ 0) (hu : un_c R c N) : un_c R (c + 1) (st_e N c p) := by
  have hcc : st_n N c p c c = 1 := by
    unfold st_n
    rw [if_pos rfl]
    exact Lean.Grind.Field.mul_inv_cancel hne
  have hcj : ∀ j, j < c → st_n N c p c j = 0 := by
    intro j hj
    unfold st_n
    rw [if_pos rfl]
    show N p j * (N p c)⁻¹ = 0
    rw [hu p hp j hj, if_neg (by omega)]; grind
  intro i hi j hj
  unfold st_e
  by_cases e : i = c
  · rw [if_pos e, e]
    rcases Nat.lt_or_ge j c with q | q
    · rw [hcj j q, if_neg (by omega)]
    · rw [show j = c by omega, hcc, if_pos rfl]
  · rw [if_neg e]
    show st_n N c p i j + st_n N c p i c * st_n N c p c j = if i = j then 1 else 0
    rcases Nat.lt_or_ge j c with q | q
    · rw [hcj j q]
      have : st_n N c p i j = if i = j then 1 else 0 := by
        unfold st_n st_g
        rw [if_neg e, if_neg e]
        by_cases e2 : i = p
        · rw [if_pos e2, hu c hc j q, if_neg (by omega), if_neg (by omega)]
        · rw [if_neg e2]; exact hu i hi j q
      rw [this]; grind
    · rw [show j = c by omega, hcc, if_neg e]
      have := h2K (st_n N c p i c)
      grind
/-- no pivot: a null vector -/
theorem st_null {K : Type} [Lean.Grind.Field K] (h2K : ∀ a : K, a + a = 0) {R u c : Nat} (hcu : c < u) {N M : Nat → Nat → K} (hE : eq_n R u N M) (hu : un_c R c N) (hz : ∀ i, c ≤ i → i < R → N i c = 0) : ∃ z : Nat → K, (∃ j, j < u ∧ z j ≠ 0) ∧ ∀ i, i < R → ra_sum u (fun j => M i j * z j) = 0 := by
  have hw := (hE (fun j => if j < c then N j c else if j = c then 1 else 0)).mp (fun i hi => by
    unfold rw_s
    rcases Nat.lt_or_ge i c with q | q
    · rw [ra_sum_cut (j := c + 1) (by omega) (fun j h1 h2 => by
        show N i j * (if j < c then N j c else if j = c then 1 else 0) = 0
        rw [if_neg (by omega), if_neg (by omega)]; grind)]
      show ra_sum c (fun j => N i j * if j < c then N j c else if j = c then 1 else 0) + N i c * (if c < c then N c c else if c = c then 1 else 0) = 0
      rw [if_neg (by omega), if_pos rfl, ra_sum_one q (fun j hj hne => by rw [hu i hi j hj, if_neg (by omega)]; grind)]
      show N i i * (if i < c then N i c else if i = c then 1 else 0) + N i c * 1 = 0
      rw [hu i hi i q, if_pos rfl, if_pos q]
      have := h2K (N i c)
      grind
    · refine ra_sum_zero (fun j hj => ?_)
      rcases Nat.lt_or_ge j c with q2 | q2
      · rw [hu i hi j q2, if_neg (by omega)]; grind
      · by_cases e : j = c
        · rw [e, hz i q hi]; grind
        · show N i j * (if j < c then N j c else if j = c then 1 else 0) = 0
          rw [if_neg (by omega), if_neg e]; grind)
  refine ⟨fun j => if j < c then N j c else if j = c then 1 else 0, ⟨c, hcu, ?_⟩, fun i hi => ?_⟩
  · show (if c < c then N c c else if c = c then (1 : K) else 0) ≠ 0
    rw [if_neg (by omega), if_pos rfl]
    exact fun h => Lean.Grind.Field.zero_ne_one h.symm
  · have h1 := hw i hi
    unfold rw_s at h1
    have h2 : ra_sum u (fun j => M i j * if j < c then N j c else if j = c then 1 else 0) + M i u * (if u < c then N u c else if u = c then 1 else 0) = 0 := h1
    rw [if_neg (by omega), if_neg (by omega)] at h2
    have h3 : ∀ a : K, a + M i u * 0 = a := fun a => by grind
    rw [h3] at h2
    exact h2
/-- the end -/
theorem st_end {K : Type} [Lean.Grind.Field K] (h2K : ∀ a : K, a + a = 0) {R u : Nat} (huR : u ≤ R) {N M : Nat → Nat → K} (hE : eq_n R u N M) (hu : un_c R u N) : ((∀ i, u ≤ i → i < R → N i u = 0) → ∀ i, i < R → ra_sum u (fun j => M i j * N j u) = M i u) ∧ ((∃ i, u ≤ i ∧ i < R ∧ N i u ≠ 0) → ¬ ∃ z : Nat → K, ∀ i, i < R → ra_sum u (fun j => M i j * z j) = M i u) := by
  constructor
  · intro hz i hi
    have hw := (hE (fun j => if j = u then 1 else N j u)).mp (fun i hi => by
      unfold rw_s
      show ra_sum u (fun j => N i j * if j = u then 1 else N j u) + N i u * (if u = u then 1 else N u u) = 0
      rw [if_pos rfl]
      rcases Nat.lt_or_ge i u with q | q
      · rw [ra_sum_one q (fun j hj hne => by rw [hu i hi j hj, if_neg (by omega)]; grind)]
        show N i i * (if i = u then 1 else N i u) + N i u * 1 = 0
        rw [if_neg (by omega), hu i hi i q, if_pos rfl]
        have := h2K (N i u)
        grind
      · rw [ra_sum_zero (fun j hj => by rw [hu i hi j hj, if_neg (by omega)]; grind), hz i q hi]; grind) i hi
    unfold rw_s at hw
    have h2 : ra_sum u (fun j => M i j * if j = u then 1 else N j u) + M i u * (if u = u then 1 else N u u) = 0 := hw
    rw [if_pos rfl, ra_sum_congr (g := fun j => M i j * N j u) (fun j hj => by rw [if_neg (by omega)])] at h2
    have := h2K (M i u)
    grind
  · rintro ⟨i, h1, h2, h3⟩ ⟨z, hz⟩
    have hw := (hE (fun j => if j = u then 1 else z j)).mpr (fun i hi => by
      unfold rw_s
      show ra_sum u (fun j => M i j * if j = u then 1 else z j) + M i u * (if u = u then 1 else z u) = 0
      rw [if_pos rfl, ra_sum_congr (g := fun j => M i j * z j) (fun j hj => by rw [if_neg (by omega)]), hz i hi]
      have := h2K (M i u)
      grind) i h2
    unfold rw_s at hw
    have h4 : ra_sum u (fun j => N i j * if j = u then 1 else z j) + N i u * (if u = u then 1 else z u) = 0 := hw
    rw [if_pos rfl, ra_sum_zero (fun j hj => by rw [hu i h2 j hj, if_neg (by omega)]; grind)] at h4
    exact h3 (by grind)
end GA
