/-! The field's methods, of both sides, over any field of 256 with its numbers en. -/
theorem rp_one_mul {K : Type} [Lean.Grind.Field K] (a : K) : 1 * a = a := Lean.Grind.Semiring.one_mul a
theorem rp_mul {K : Type} [Lean.Grind.Field K] (a : K) (m : Nat) : ∀ n : Nat, a ^ (m * n) = (a ^ m) ^ n
  | 0 => by rw [Nat.mul_zero, Lean.Grind.Semiring.pow_zero, Lean.Grind.Semiring.pow_zero]
  | n + 1 => by rw [Nat.mul_succ, Lean.Grind.Semiring.pow_add, rp_mul a m n, Lean.Grind.Semiring.pow_succ]
theorem rp_comm {K : Type} [Lean.Grind.Field K] (a : K) (m n : Nat) : (a ^ m) ^ n = (a ^ n) ^ m := by rw [← rp_mul, Nat.mul_comm, rp_mul]
theorem rp_sq {K : Type} [Lean.Grind.Field K] (a : K) : ∀ n : Nat, (a * a) ^ n = a ^ (2 * n)
  | 0 => by rw [Nat.mul_zero, Lean.Grind.Semiring.pow_zero, Lean.Grind.Semiring.pow_zero]
  | n + 1 => by
    rw [Lean.Grind.Semiring.pow_succ, rp_sq a n, show 2 * (n + 1) = 2 * n + 1 + 1 by omega, Lean.Grind.Semiring.pow_succ, Lean.Grind.Semiring.pow_succ]; grind
theorem rp_one {K : Type} [Lean.Grind.Field K] (n : Nat) : (1 : K) ^ n = 1 := Lean.Grind.Semiring.one_pow n
theorem rp_ne {K : Type} [Lean.Grind.Field K] {a : K} (h : a ≠ 0) (n : Nat) : a ^ n ≠ 0 := fun e => h (Lean.Grind.Field.of_pow_eq_zero a n e)
theorem rp_zero {K : Type} [Lean.Grind.Field K] (n : Nat) : (0 : K) ^ (n + 1) = 0 := by rw [Lean.Grind.Semiring.pow_succ]; grind
theorem rp_10 {K : Type} [Lean.Grind.Field K] : (1 : K) ≠ 0 := fun h => Lean.Grind.Field.zero_ne_one h.symm
section GF
theorem gf_lt {K : Type} [F : Lean.Grind.Field K] {en : K → Nat} {al : K} (G : gf_ok K F en al) (a : K) : en a < 256 := G.1 a
theorem gf_inj {K : Type} [F : Lean.Grind.Field K] {en : K → Nat} {al : K} (G : gf_ok K F en al) {a b : K} (h : en a = en b) : a = b := G.2.1 a b h
theorem gf_of {K : Type} [F : Lean.Grind.Field K] {en : K → Nat} {al : K} (G : gf_ok K F en al) {n : Nat} (h : n < 256) : ∃ a, en a = n := G.2.2.1 n h
theorem gf_add {K : Type} [F : Lean.Grind.Field K] {en : K → Nat} {al : K} (G : gf_ok K F en al) (a b : K) : en (a + b) = en a ^^^ en b := G.2.2.2.1 a b
theorem gf_zero {K : Type} [F : Lean.Grind.Field K] {en : K → Nat} {al : K} (G : gf_ok K F en al) : en 0 = 0 := G.2.2.2.2.1
theorem gf_one {K : Type} [F : Lean.Grind.Field K] {en : K → Nat} {al : K} (G : gf_ok K F en al) : en 1 = 1 := G.2.2.2.2.2.1
theorem gf_two {K : Type} [F : Lean.Grind.Field K] {en : K → Nat} {al : K} (G : gf_ok K F en al) (a : K) : a + a = 0 := G.2.2.2.2.2.2.1 a
theorem gf_al {K : Type} [F : Lean.Grind.Field K] {en : K → Nat} {al : K} (G : gf_ok K F en al) : en al = 2 := G.2.2.2.2.2.2.2.1
theorem gf_exp {K : Type} [F : Lean.Grind.Field K] {en : K → Nat} {al : K} (G : gf_ok K F en al) {e : Nat} (h : e < 255) : en (al ^ e) = g_exp e := G.2.2.2.2.2.2.2.2.1 e h
theorem gf_255 {K : Type} [F : Lean.Grind.Field K] {en : K → Nat} {al : K} (G : gf_ok K F en al) : al ^ 255 = 1 := G.2.2.2.2.2.2.2.2.2.1
theorem gf_mul {K : Type} [F : Lean.Grind.Field K] {en : K → Nat} {al : K} (G : gf_ok K F en al) (a b : K) : en (a * b) = g_mul (en a) (en b) := G.2.2.2.2.2.2.2.2.2.2.1 a b
theorem gf_inv {K : Type} [F : Lean.Grind.Field K] {en : K → Nat} {al : K} (G : gf_ok K F en al) (a : K) : en a⁻¹ = g_inv (en a) := G.2.2.2.2.2.2.2.2.2.2.2 a
theorem gf_en0 {K : Type} [F : Lean.Grind.Field K] {en : K → Nat} {al : K} (G : gf_ok K F en al) {a : K} : en a = 0 ↔ a = 0 := ⟨fun h => gf_inj G (h.trans (gf_zero G).symm), fun h => by rw [h]; exact gf_zero G⟩
theorem gf_mod {K : Type} [F : Lean.Grind.Field K] {en : K → Nat} {al : K} (G : gf_ok K F en al) (e : Nat) : al ^ e = al ^ (e % 255) := by
  conv => lhs; rw [← Nat.div_add_mod e 255, Lean.Grind.Semiring.pow_add, rp_mul, gf_255 G, rp_one]
  grind
theorem gf_pow {K : Type} [F : Lean.Grind.Field K] {en : K → Nat} {al : K} (G : gf_ok K F en al) (e : Nat) : en (al ^ e) = g_exp (e % 255) := by
  rw [gf_mod G e]; exact gf_exp G (Nat.mod_lt _ (by decide))
theorem gf_al_ne {K : Type} [F : Lean.Grind.Field K] {en : K → Nat} {al : K} (G : gf_ok K F en al) : al ≠ 0 := fun h => by
  have h1 := gf_al G
  rw [h, gf_zero G] at h1
  omega
theorem gf_pow_inj {K : Type} [F : Lean.Grind.Field K] {en : K → Nat} {al : K} (G : gf_ok K F en al) {i j : Nat} (hi : i < 255) (hj : j < 255) (h : al ^ i = al ^ j) : i = j := by
  have h1 : g_exp i = g_exp j := by rw [← gf_exp G hi, ← gf_exp G hj, h]
  rw [← (g_f1 hi).2.2, ← (g_f1 hj).2.2, h1]
theorem gf_log {K : Type} [F : Lean.Grind.Field K] {en : K → Nat} {al : K} (G : gf_ok K F en al) {a : K} (h : a ≠ 0) : g_log (en a) < 255 ∧ al ^ g_log (en a) = a := by
  have h2 := g_f2 (gf_lt G a) (fun e => h ((gf_en0 G).mp e))
  exact ⟨h2.1, gf_inj G (by rw [gf_exp G h2.1, h2.2])⟩
theorem gf_254 {K : Type} [F : Lean.Grind.Field K] {en : K → Nat} {al : K} (G : gf_ok K F en al) (a : K) : a ^ 254 = a⁻¹ := by
  by_cases h : a = 0
  · rw [h, Lean.Grind.Field.inv_zero]; exact rp_zero 253
  · have h1 : a ^ 254 * a = 1 := by
      rw [← Lean.Grind.Semiring.pow_succ, ← (gf_log G h).2, rp_comm, gf_255 G, rp_one]
    exact Lean.Grind.Field.eq_inv_of_mul_eq_one h1
/-! the reference -/
theorem sp_by {K : Type} [F : Lean.Grind.Field K] {en : K → Nat} {al : K} (G : gf_ok K F en al) (x y : K) {post : Int32 → Prop} (h : post (nI (en (x * y)))) : wp_Mo_by (nI (en x)) (nI (en y)) post :=
  by_nat (gf_lt G x) (gf_lt G y) (by rw [← gf_mul G]; exact h)
theorem sp_raised {K : Type} [F : Lean.Grind.Field K] {en : K → Nat} {al : K} (G : gf_ok K F en al) (x : K) {e : Nat} (he : e < 2 ^ 31) {post : Int32 → Prop} (h : post (nI (en (x ^ e)))) : wp_Mo_raised (nI (en x)) (nI e) post := by
  have key : ∀ (n r : Nat) (p z : K), r < n → r < 2 ^ 31 → p * z ^ r = x ^ e → wp_Mo_raised_L7 post n (nI (en p)) (nI (en z)) (nI r) := by
    intro n
    induction n with
    | zero => intro r p z h1; omega
    | succ n ih =>
      intro r p z h1 h2 h3
      have tail : ∀ (q : K), q * (z * z) ^ (r / 2) = x ^ e → 0 < r → wp_Mo_raised_b29 post (wp_Mo_raised_L7 post n) (nI (en z)) (nI r) (nI (en q)) := by
        intro q hq hr
        refine sp_by G z z ?_
        intro x4 e4
        have : x4 = nI (r / 2) := by
          rw [e4, pk_shrN h2 _ 1 (by decide)]
        rw [this]
        exact ih (r / 2) q (z * z) (by omega) (by omega) hq
      refine pk_le r 0 (fun q => ?_) (fun q => ?_)
      · have : r = 0 := by omega
        subst this
        rw [Lean.Grind.Semiring.pow_zero] at h3
        have h4 : p = x ^ e := by rw [← h3]; grind
        rw [h4]; exact h
      · have hb : nI r &&& (1 : Int32) = nI (r % 2) := pk_andN (by omega) 1 (by decide)
        rw [hb]
        refine pz_ne (r % 2) 1 (fun q2 => ?_) (fun q2 => ?_)
        · refine tail p ?_ q
          rw [rp_sq, show 2 * (r / 2) = r by omega]; exact h3
        · refine sp_by G p z ?_
          refine tail (p * z) ?_ q
          rw [rp_sq, ← h3]
          conv => rhs; rw [show r = 2 * (r / 2) + 1 by omega, Lean.Grind.Semiring.pow_succ]
          grind
  refine ⟨e + 1, ?_⟩
  have := key (e + 1) e 1 x (by omega) he (rp_one_mul _)
  rw [gf_one G] at this
  exact this
theorem sp_inverse {K : Type} [F : Lean.Grind.Field K] {en : K → Nat} {al : K} (G : gf_ok K F en al) (x : K) {post : Int32 → Prop} (h : post (nI (en x⁻¹))) : wp_Mo_inverse (nI (en x)) post :=
  sp_raised G x (e := 254) (by decide) (by rw [gf_254 G]; exact h)
theorem sp_root {K : Type} [F : Lean.Grind.Field K] {en : K → Nat} {al : K} (G : gf_ok K F en al) {e : Nat} (he : e < 2 ^ 31) {post : Int32 → Prop} (h : post (nI (en (al ^ e)))) : wp_Mo_root (nI e) post := by
  have h1 : nI e - nI e / (255 : Int32) * (255 : Int32) = nI (e % 255) := pk_rem he (d := 255) (by decide) (by decide)
  have h2 : wp_Mo_raised (nI (en al)) (nI (e % 255)) (fun r => post r) := sp_raised G al (by omega) (by rw [← gf_mod G]; exact h)
  rw [gf_al G] at h2
  show wp_Mo_raised (2 : Int32) (nI e - nI e / (255 : Int32) * (255 : Int32)) (fun r => post r)
  rw [h1]; exact h2
/-! the class -/
def ft_ok (Fp Fl : Nat → Int32) : Prop := (∀ e, e < 510 → Fp e = nI (g_exp (e % 255))) ∧ ∀ a, a < 256 → a ≠ 0 → Fl a = nI (g_log a)
theorem and255 {n : Nat} (h : n < 256) : nI n &&& (255 : Int32) = nI n := by
  rw [pk_andN (by omega) 8 (by decide), Nat.mod_eq_of_lt h]
theorem and511 {n : Nat} (h : n < 512) : nI n &&& (511 : Int32) = nI n := by
  rw [pk_andN (by omega) 9 (by decide), Nat.mod_eq_of_lt h]
theorem sp_product {K : Type} [F : Lean.Grind.Field K] {en : K → Nat} {al : K} (G : gf_ok K F en al) {Fp Fl : Nat → Int32} (T : ft_ok Fp Fl) (x y : K) {post : Int32 → Prop} (h : post (nI (en (x * y)))) : wp_Fi_product Fp Fl (nI (en x)) (nI (en y)) post := by
  have hx := gf_lt G x
  have hy := gf_lt G y
  rw [gf_mul G] at h
  refine pk_eq (en x) 0 (fun q => ?_) (fun q => pz_ne (en y) 0 (fun q2 => ?_) (fun q2 => ?_))
  · rw [q, g_0_mul] at h; exact h
  · rw [g_mul_ne q q2] at h
    have l1 := (g_f2 hx q).1
    have l2 := (g_f2 hy q2).1
    rw [and255 hx, and255 hy, nI_clamp (by omega), nI_clamp (by omega), T.2 _ hx q, T.2 _ hy q2, nI_add, and511 (by omega), nI_clamp (by omega), T.1 _ (by omega)]
    exact ⟨vp_in_nI hx (by decide), vp_in_nI hy (by decide), vp_in_nI (by omega) (by decide), h⟩
  · rw [q2, g_mul_0] at h; exact h
theorem sp_quotient {K : Type} [F : Lean.Grind.Field K] {en : K → Nat} {al : K} (G : gf_ok K F en al) {Fp Fl : Nat → Int32} (T : ft_ok Fp Fl) (x y : K) {post : Int32 → Prop} (h : post (nI (en (x * y⁻¹)))) : wp_Fi_quotient Fp Fl (nI (en x)) (nI (en y)) post := by
  have hx := gf_lt G x
  have hy := gf_lt G y
  rw [gf_mul G, gf_inv G] at h
  refine pk_eq (en x) 0 (fun q => ?_) (fun q => pz_ne (en y) 0 (fun q2 => ?_) (fun q2 => ?_))
  · rw [q, g_0_mul] at h; exact h
  · have l1 := (g_f2 hx q).1
    have l2 := (g_f2 hy q2).1
    have m1 : (255 - g_log (en y)) % 255 < 255 := Nat.mod_lt _ (by decide)
    unfold g_inv at h
    rw [if_neg q2, g_mul_ne q (g_f1 m1).2.1, (g_f1 m1).2.2, show (g_log (en x) + (255 - g_log (en y)) % 255) % 255 = (g_log (en x) + 255 - g_log (en y)) % 255 by omega] at h
    rw [and255 hx, and255 hy, nI_clamp (by omega), nI_clamp (by omega), T.2 _ hx q, T.2 _ hy q2, show (255 : Int32) = nI 255 from rfl, nI_add, pk_sub (by omega), and511 (by omega), nI_clamp (by omega), T.1 _ (by omega)]
    exact ⟨vp_in_nI hx (by decide), vp_in_nI hy (by decide), vp_in_nI (by omega) (by decide), h⟩
  · unfold g_inv at h
    rw [if_pos q2, g_mul_0] at h; exact h
theorem rem255 (e : Int32) : ∃ q : Int, e.toInt = 255 * q + (e - e / (255 : Int32) * (255 : Int32)).toInt ∧ -255 < (e - e / (255 : Int32) * (255 : Int32)).toInt ∧ (e - e / (255 : Int32) * (255 : Int32)).toInt < 255 := by
  have h1 := rem_toInt e 255
  have h255 : (255 : Int32).toInt = 255 := by decide
  rw [h255] at h1
  have h2 := tmod_bounds (a := e.toInt) (M := 255) (by decide)
  refine ⟨e.toInt.tdiv 255, ?_, by rw [h1]; exact h2.1, by rw [h1]; exact h2.2⟩
  rw [h1]
  exact (Int.mul_tdiv_add_tmod e.toInt 255).symm
/-- 2 to any power that an int holds -/
theorem sp_two {K : Type} [F : Lean.Grind.Field K] {en : K → Nat} {al : K} (G : gf_ok K F en al) {Fp Fl : Nat → Int32} (T : ft_ok Fp Fl) {e : Int32} {n : Nat} (hn : e.toInt % 255 = (n : Int) % 255) {post : Int32 → Prop} (h : post (nI (en (al ^ n)))) : wp_Fi_powerOfTwo Fp e post := by
  rw [gf_pow G] at h
  intro r er
  obtain ⟨q, h1, h2, h3⟩ := rem255 e
  rw [← er] at h1 h2 h3
  have fin : ∀ t : Int32, t = nI (n % 255) → wp_Fi_powerOfTwo_b23 Fp post t := by
    intro t ht
    rw [ht]
    have hlt : n % 255 < 255 := Nat.mod_lt _ (by decide)
    refine ⟨vp_in_nI (by omega) (by decide), ?_⟩
    rw [nI_clamp (by omega), T.1 _ (by omega), Nat.mod_mod]; exact h
  refine ⟨fun hp => fin r ?_, fun hp => fin _ ?_⟩
  · apply Int32.toInt_inj.mp
    rw [nI_toInt (by omega)]
    have : 0 ≤ r.toInt := Int32.le_iff_toInt_le.mp hp
    omega
  · have hneg : r.toInt < 0 := by
      have := mt Int32.le_iff_toInt_le.mpr hp
      have h0 : (0 : Int32).toInt = 0 := by decide
      rw [h0] at this
      omega
    apply Int32.toInt_inj.mp
    rw [nI_toInt (by omega), Int32.toInt_add, show (255 : Int32).toInt = 255 by decide, Int.bmod_eq_of_le (by omega) (by omega)]
    omega
end GF
