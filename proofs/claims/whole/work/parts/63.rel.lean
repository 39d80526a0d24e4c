/-! Errata are one alone; what holds between the class's contents and the reference's. -/
theorem cn_or (p q : Nat → Bool) : ∀ n : Nat, cn (fun i => p i || q i) n ≤ cn p n + cn q n
  | 0 => Nat.le_refl 0
  | n + 1 => by
    have := cn_or p q n
    show cn (fun i => p i || q i) n + (if (p n || q n) then 1 else 0) ≤ cn p n + (if p n then 1 else 0) + (cn q n + (if q n then 1 else 0))
    cases p n <;> cases q n <;> simp <;> omega
theorem er_one {K : Type} [F : Lean.Grind.Field K] {en : K → Nat} {al : K} (G : gf_ok K F en al) {N k b t t' : Nat} (hN : N ≤ 240) {d e e' : Nat → K} {lp : Nat → Bool} (h : er_ok en al N k b d lp t e) (h' : er_ok en al N k b d lp t' e') : t = t' ∧ ∀ i, i < N → e i = e' i := by
  have h0 : ∀ a c : K, a + c = 0 → a = c := fun a c q => by
    have := gf_two G c
    grind
  have key : ∀ i, i < N → (e i + e' i) * lo_X al N i ^ b = 0 := by
    refine ra_unique (N := N) (k := k) (X := lo_X al N) (lo_inj G (by omega)) (dp := fun i => (lp i || (!lp i && !Nat.beq (en (e i)) 0)) || (!lp i && !Nat.beq (en (e' i)) 0)) (fun i hi hd => ?_) ?_ (fun m hm => ?_)
    · have z1 : e i = 0 ∧ e' i = 0 := by
        simp only [Bool.or_eq_false_iff] at hd
        obtain ⟨⟨a1, a2⟩, a3⟩ := hd
        rw [a1] at a2 a3
        constructor
        · apply (gf_en0 G).mp
          apply Nat.eq_of_beq_eq_true
          cases hb : Nat.beq (en (e i)) 0 with
          | true => rfl
          | false => rw [hb] at a2; cases a2
        · apply (gf_en0 G).mp
          apply Nat.eq_of_beq_eq_true
          cases hb : Nat.beq (en (e' i)) 0 with
          | true => rfl
          | false => rw [hb] at a3; cases a3
      rw [z1.1, z1.2]; grind
    · rw [cn_len]
      have c1 := cn_or (fun i => lp i || (!lp i && !Nat.beq (en (e i)) 0)) (fun i => !lp i && !Nat.beq (en (e' i)) 0) N
      have c2 := cn_or lp (fun i => !lp i && !Nat.beq (en (e i)) 0) N
      have c3 := h.2.1
      have c4 := h'.2.1
      have c5 := h.2.2
      have c6 := h'.2.2
      omega
    · have s1 := h.1 m hm
      have s2 := h'.1 m hm
      have s3 : ra_sum N (fun i => (e i + e' i) * lo_X al N i ^ b * lo_X al N i ^ m) = ra_sum N (fun i => (d i + e i) * lo_X al N i ^ (b + m)) + ra_sum N (fun i => (d i + e' i) * lo_X al N i ^ (b + m)) := by
        rw [← ra_sum_add]
        refine ra_sum_congr (fun i _ => ?_)
        rw [Lean.Grind.Semiring.pow_add]
        have := gf_two G (d i)
        grind
      rw [s3, s1, s2]; grind
  have he : ∀ i, i < N → e i = e' i := fun i hi => by
    rcases Lean.Grind.Field.of_mul_eq_zero (key i hi) with q | q
    · exact h0 _ _ q
    · exact absurd q (rp_ne (lo_ne G N i) b)
  refine ⟨?_, he⟩
  rw [h.2.2, h'.2.2]
  exact cn_congr (fun i hi => by rw [he i hi])
theorem br1 {A B : Prop} (h : B) : ((1 : Int32) = 0 → A) ∧ (¬ (1 : Int32) = 0 → B) := ⟨fun e => absurd e (by decide), fun _ => h⟩
theorem br0 {A B : Prop} (h : A) : ((0 : Int32) = 0 → A) ∧ (¬ (0 : Int32) = 0 → B) := ⟨fun _ => h, fun e => absurd rfl e⟩
theorem bs1 {A B : Prop} (h : B) : (¬ (1 : Int32) = 0 → B) ∧ ((1 : Int32) = 0 → A) := ⟨fun _ => h, fun e => absurd e (by decide)⟩
theorem bs0 {A B : Prop} (h : A) : (¬ (0 : Int32) = 0 → B) ∧ ((0 : Int32) = 0 → A) := ⟨fun e => absurd rfl e, fun _ => h⟩
theorem bt {P A B : Prop} (p : P) (h : A) : (P → A) ∧ (¬ P → B) := ⟨fun _ => h, fun q => absurd p q⟩
theorem bf {P A B : Prop} (p : ¬ P) (h : B) : (P → A) ∧ (¬ P → B) := ⟨fun q => absurd q p, fun _ => h⟩
theorem bt' {P A B : Prop} (p : P) (h : A) : (¬ P → B) ∧ (P → A) := ⟨fun q => absurd p q, fun _ => h⟩
theorem bf' {P A B : Prop} (p : ¬ P) (h : B) : (¬ P → B) ∧ (P → A) := ⟨fun _ => h, fun q => absurd q p⟩
theorem upd_z {f : Nat → Int32} {p : Nat → Bool} {N j : Nat} (h : zB f p N) (v : Bool) : zB (upd f j (if v then 1 else 0)) (fun i => if i = j then v else p i) N := fun i hi => by
  by_cases e : i = j
  · subst e; rw [pk_us]; simp
  · rw [pk_un e, h i hi]; simp [e]
theorem zB_t {f : Nat → Int32} {p : Nat → Bool} {N j : Nat} (h : zB f p N) (hj : j < N) (hp : p j = true) : f j = 1 := by
  rw [h j hj]; simp [hp]
theorem zB_f {f : Nat → Int32} {p : Nat → Bool} {N j : Nat} (h : zB f p N) (hj : j < N) (hp : p j = false) : f j = 0 := by
  rw [h j hj]; simp [hp]
/-- the words -/
def RW {K : Type} (F : Lean.Grind.Field K) (en : K → Nat) (al : K) (n k b : Nat) (c : Nat → K) (lp : Nat → Bool) (Wlc Wd Wr Wf : Int32) (Wb Wl Wfa : Nat → Int32) (Mn Mk Mb : Int32) (Mw Ml : Nat → Int32) : Prop :=
  (1 ≤ n ∧ n ≤ 200 ∧ k ≤ 40 ∧ b < 255) ∧ (Wlc = nI (cn lp (n + k)) ∧ Wd = nI n ∧ Wr = nI k ∧ Wf = nI b) ∧ (∀ i, i < n + k → Wb i = nI (en (c i))) ∧ zB Wl lp (n + k) ∧ (∀ i, i < 41 → Wfa i = nI (en (gp_c al b k i))) ∧ (Mn = nI n ∧ Mk = nI k ∧ Mb = nI b) ∧ (∀ i, i < n + k → Mw i = nI (en (c i))) ∧ zB Ml lp (n + k)
def RWe {K : Type} (F : Lean.Grind.Field K) (en : K → Nat) (al : K) (Wlc Wd Wr Wf : Int32) (Wb Wl Wfa : Nat → Int32) (Mn Mk Mb : Int32) (Mw Ml : Nat → Int32) : Prop :=
  ∃ n k b c lp, RW F en al n k b c lp Wlc Wd Wr Wf Wb Wl Wfa Mn Mk Mb Mw Ml
/-- what the latest repair changed -/
def RC (Cc : Int32) (Cp Cd : Nat → Int32) (Mc : Int32) (Mp Mb : Nat → Int32) : Prop :=
  ∃ q : Nat, q ≤ 40 ∧ Cc = nI q ∧ Mc = nI q ∧ ∀ j, j < q → Cp j = Mp j ∧ Cd j = Mb j
/-- the blocks -/
def RBs {K : Type} (en : K → Nat) (m : Nat) (u : Nat → K) (Pz : Int32) (Pb : Nat → Int32) (Mz : Int32) (Mb : Nat → Int32) : Prop :=
  m ≤ 800 ∧ Pz = nI m ∧ Mz = nI m ∧ (∀ i, i < m → Pb i = nI (en (u i))) ∧ (∀ i, i < m → Mb i = nI (en (u i)))
/-- what was sent of them -/
def RBl {K : Type} (F : Lean.Grind.Field K) (en : K → Nat) (al : K) (m s k b : Nat) (x y : Nat → K) (lp : Nat → Bool) (Vd Vr Vf : Int32) (Vfa : Nat → Int32) (Ps Pc : Int32) (Po Pl Pcu : Nat → Int32) (Ml Ms Mlg Mlr Mlf : Int32) (Msn Mas Msl : Nat → Int32) : Prop :=
  (1 ≤ s ∧ s ≤ 16 ∧ s ≤ m ∧ (m + s - 1) / s ≤ 200 ∧ k ≤ 40 ∧ b < 255) ∧ (Vd = nI ((m + s - 1) / s) ∧ Vr = nI k ∧ Vf = nI b ∧ ∀ i, i < 41 → Vfa i = nI (en (gp_c al b k i))) ∧ (Ps = nI s ∧ Pc = nI (m + s * k)) ∧ (Ml = 1 ∧ Ms = nI s ∧ Mlg = nI ((m + s - 1) / s) ∧ Mlr = nI k ∧ Mlf = nI b) ∧ (∀ i, i < m + s * k → Pcu i = nI (en (x i)) ∧ Msn i = nI (en (x i)) ∧ Po i = nI (en (y i)) ∧ Mas i = nI (en (y i))) ∧ zB Pl lp (m + s * k) ∧ zB Msl lp (m + s * k)
def RBe {K : Type} (F : Lean.Grind.Field K) (en : K → Nat) (al : K) (Vd Vr Vf : Int32) (Vfa : Nat → Int32) (Pz Ps Pc : Int32) (Pb Po Pl Pcu : Nat → Int32) (Mz Ml Ms Mlg Mlr Mlf : Int32) (Mb Msn Mas Msl : Nat → Int32) : Prop :=
  ∃ m u, RBs en m u Pz Pb Mz Mb ∧ ((Ps = 0 ∧ Pc = 0 ∧ Ml = 0) ∨ ∃ s k b x y lp, RBl F en al m s k b x y lp Vd Vr Vf Vfa Ps Pc Po Pl Pcu Ml Ms Mlg Mlr Mlf Msn Mas Msl)
/-- the shares -/
def RH {K : Type} (F : Lean.Grind.Field K) (en : K → Nat) (d w : Nat) (told : Nat → Bool) (v : Nat → Nat → K) (Hn Hw Hc : Int32) (Hv Ht : Nat → Int32) (Md Mw Mc : Int32) (Mt Ms : Nat → Int32) : Prop :=
  (1 ≤ d ∧ d ≤ 20 ∧ 1 ≤ w ∧ w ≤ 16) ∧ (Hn = nI d ∧ Hw = nI w ∧ Hc = nI (cn told 256) ∧ Md = nI d ∧ Mw = nI w ∧ Mc = nI (cn told 256)) ∧ zB Ht told 256 ∧ zB Mt told 256 ∧ ∀ x, x < 256 → told x = true → ∀ i, i < 16 → Hv (16 * x + i) = nI (en (v x i)) ∧ Ms (16 * x + i) = nI (en (v x i))
def RHe {K : Type} (F : Lean.Grind.Field K) (en : K → Nat) (Hn Hw Hc : Int32) (Hv Ht : Nat → Int32) (Md Mw Mc : Int32) (Mt Ms : Nat → Int32) : Prop :=
  ∃ d w told v, RH F en d w told v Hn Hw Hc Hv Ht Md Mw Mc Mt Ms
