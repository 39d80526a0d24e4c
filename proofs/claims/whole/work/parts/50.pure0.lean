/-! Pure rows: numbers, branches. (nx_xor, nx_and, s_l: given for pasting, BITS.to-paste.) -/
theorem s_l : ∀ n, n < 32 → ((nI n &&& 31).toBitVec.smod 32).toNat = n := by decide +kernel
theorem nx_and (a b : Nat) : nI a &&& nI b = nI (a &&& b) := by
  apply Int32.toBitVec_inj.1
  show BitVec.ofNat 32 a &&& BitVec.ofNat 32 b = BitVec.ofNat 32 (a &&& b)
  apply BitVec.eq_of_getLsbD_eq
  intro i hi
  simp [hi]
theorem nx_xor (a b : Nat) : nI a ^^^ nI b = nI (a ^^^ b) := by
  apply Int32.toBitVec_inj.1
  show BitVec.ofNat 32 a ^^^ BitVec.ofNat 32 b = BitVec.ofNat 32 (a ^^^ b)
  apply BitVec.eq_of_getLsbD_eq
  intro i hi
  simp [hi]
theorem pz_ne {x y : Int32} {A B : Prop} (a b : Nat) (f : a ≠ b → A) (g : a = b → B) (hx : x = nI a := by rfl) (hy : y = nI b := by rfl) (ha : a < 2 ^ 31 := by omega) (hb : b < 2 ^ 31 := by omega) : (¬ x = y → A) ∧ (x = y → B) := by
  subst hx; subst hy
  exact ⟨fun h => f (fun e => h (by rw [e])), fun h => g ((nI_eq ha hb).mp h)⟩
theorem pz_lt0 {n : Nat} (h : n < 2 ^ 31) : ¬ nI n < 0 := nI_pos h
theorem pz_le {a b : Nat} (ha : a < 2 ^ 31) (hb : b < 2 ^ 31) (h : nI a ≤ nI b) : a ≤ b := (nI_leI ha hb).mp h
theorem pz_lt {a b : Nat} (ha : a < 2 ^ 31) (hb : b < 2 ^ 31) (h : nI a < nI b) : a < b := (nI_ltI ha hb).mp h
/-- an int that is a byte -/
def isB (p : Int32) : Prop := ∃ j : Nat, j < 256 ∧ p = nI j
/-- an int below n, or not -/
theorem pz_cases (p : Int32) (n : Nat) (hn : n < 2 ^ 31) : (p < 0 ∧ ¬ ∃ j : Nat, j < n ∧ p = nI j) ∨ (¬ p < 0 ∧ nI n ≤ p ∧ ¬ ∃ j : Nat, j < n ∧ p = nI j) ∨ ∃ j : Nat, j < n ∧ p = nI j := by
  by_cases h0 : p < 0
  · exact Or.inl ⟨h0, fun ⟨j, hj, e⟩ => pz_lt0 (show j < 2 ^ 31 by omega) (e ▸ h0)⟩
  · obtain ⟨j, hj, rfl⟩ := nI_of h0
    rcases Nat.lt_or_ge j n with q | q
    · exact Or.inr (Or.inr ⟨j, q, rfl⟩)
    · refine Or.inr (Or.inl ⟨h0, nI_le q hj, fun ⟨i, hi, e⟩ => ?_⟩)
      have := (nI_eq hj (show i < 2 ^ 31 by omega)).mp e
      omega
theorem sp_Fi_isByte {p : Int32} {post : Int32 → Prop} (h1 : ∀ j : Nat, j < 256 → p = nI j → post 1) (h0 : ¬ isB p → post 0) : wp_Fi_isByte p post := by
  rcases pz_cases p 256 (by decide) with ⟨c, n⟩ | ⟨c, d, n⟩ | ⟨j, hj, e⟩
  · exact ⟨fun _ => ⟨rfl, h0 n⟩, fun h => absurd c h⟩
  · exact ⟨fun h => absurd h c, fun _ => ⟨fun _ => ⟨rfl, h0 n⟩, fun h => absurd d h⟩⟩
  · refine ⟨fun h => absurd (e ▸ h) (pz_lt0 (by omega)), fun _ => ⟨fun h => ?_, fun _ => ⟨rfl, h1 j hj e⟩⟩⟩
    rw [e] at h
    exact absurd (pz_le (a := 256) (by decide) (by omega) h) (by omega)
theorem sp_Mo_isByte {p : Int32} {post : Int32 → Prop} (h1 : ∀ j : Nat, j < 256 → p = nI j → post 1) (h0 : ¬ isB p → post 0) : wp_Mo_isByte p post := by
  rcases pz_cases p 256 (by decide) with ⟨c, n⟩ | ⟨c, d, n⟩ | ⟨j, hj, e⟩
  · exact ⟨fun _ => ⟨rfl, h0 n⟩, fun h => absurd c h⟩
  · exact ⟨fun h => absurd h c, fun _ => ⟨fun _ => ⟨rfl, h0 n⟩, fun h => absurd d h⟩⟩
  · refine ⟨fun h => absurd (e ▸ h) (pz_lt0 (by omega)), fun _ => ⟨fun h => ?_, fun _ => ⟨rfl, h1 j hj e⟩⟩⟩
    rw [e] at h
    exact absurd (pz_le (a := 256) (by decide) (by omega) h) (by omega)
/-- the product of the reference -/
theorem g_xbit : ((List.range 8).all fun i => (List.range (2 ^ i)).all fun u => Nat.beq (u ^^^ 2 ^ i) (u + 2 ^ i)) = true := by decide +kernel
theorem g_xbit' {i u : Nat} (hi : i < 8) (hu : u < 2 ^ i) : u ^^^ 2 ^ i = u + 2 ^ i := Nat.eq_of_beq_eq_true (List.all_eq_true.mp (List.all_eq_true.mp g_xbit i (List.mem_range.mpr hi)) u (List.mem_range.mpr hu))
theorem g_pow2 : ((List.range 8).all fun i => Nat.beq (g_exp i) (2 ^ i)) = true := by decide +kernel
theorem g_mul_pow2 {x i : Nat} (hx : x < 256) (hi : i < 8) : g_mul x (2 ^ i) = g_it x i := by
  rw [← Nat.eq_of_beq_eq_true (List.all_eq_true.mp g_pow2 i (List.mem_range.mpr hi)), g_mul_comm]
  exact g_mul_exp hx (by omega)
theorem g_mul_bit {x y i : Nat} (hx : x < 256) (hi : i < 8) : g_mul x (y % 2 ^ (i + 1)) = if y / 2 ^ i % 2 = 1 then g_mul x (y % 2 ^ i) ^^^ g_it x i else g_mul x (y % 2 ^ i) := by
  have h1 : y % 2 ^ (i + 1) = y % 2 ^ i + 2 ^ i * (y / 2 ^ i % 2) := by
    rw [Nat.pow_succ, Nat.mod_mul]
  have hlt : y % 2 ^ i < 2 ^ i := Nat.mod_lt _ (Nat.two_pow_pos i)
  have hp : 2 ^ i ≤ 2 ^ 7 := Nat.pow_le_pow_right (by decide) (by omega)
  have hp7 : (2 : Nat) ^ 7 = 128 := by decide
  split
  · rename_i h
    rw [h1, h, Nat.mul_one, ← g_xbit' hi hlt, g_mul_xor hx (by omega) (by omega), g_mul_pow2 hx hi]
  · rename_i h
    rw [h1, show y / 2 ^ i % 2 = 0 by omega, Nat.mul_zero, Nat.add_zero]
theorem by_tail {post : Int32 → Prop} {K : Int32 → Int32 → Int32 → Int32 → Prop} {y a i : Nat} {t : Int32} (ha : a < 256) (hi : i < 8) (h : K (nI y) t (nI (g_xt a)) (nI (i + 1))) : wp_Mo_by_b31 post K (nI y) (nI a) (nI i) t := by
  intro x3 e3
  have e3' : x3 = nI (a * 2) := by
    rw [e3]; exact pk_shlN _ 1 (by decide) (by omega)
  rw [e3']
  refine pk_le (a * 2) 255 (fun q => ?_) (fun q => ?_)
  · intro x4 e4
    rw [e4, show (1 : Int32) = nI 1 from rfl, nI_add]
    have : g_xt a = a * 2 := by unfold g_xt; rw [if_pos (by omega)]; omega
    rw [← this]; exact h
  · intro x4 e4
    rw [e4, show (1 : Int32) = nI 1 from rfl, nI_add, show (285 : Int32) = nI 285 from rfl, nx_xor]
    have : g_xt a = (a * 2) ^^^ 285 := by unfold g_xt; rw [if_neg (by omega), Nat.mul_comm]
    rw [← this]; exact h
theorem by_nat {x y : Nat} (hx : x < 256) (hy : y < 256) {post : Int32 → Prop} (h : post (nI (g_mul x y))) : wp_Mo_by (nI x) (nI y) post := by
  have key : ∀ (r i : Nat), i + r = 8 → wp_Mo_by_L7 post (r + 1) (nI y) (nI (g_mul x (y % 2 ^ i))) (nI (g_it x i)) (nI i) := by
    intro r
    induction r with
    | zero =>
      intro i hi
      rw [show i = 8 by omega, show y % 2 ^ 8 = y from Nat.mod_eq_of_lt hy]
      exact ⟨fun _ => h, fun q => absurd (nI_le (a := 8) (b := 8) (Nat.le_refl 8) (by decide)) q⟩
    | succ r ih =>
      intro i hi
      have hi8 : i < 8 := by omega
      have hb : (nI y >>> (nI i &&& 31)) &&& (1 : Int32) = nI (y / 2 ^ i % 2) := by
        rw [pk_shrN (show y < 2 ^ 31 by omega) _ i (s_l i (by omega))]
        exact pk_andN (Nat.lt_of_le_of_lt (Nat.div_le_self _ _) (by omega)) 1 (by decide)
      have hg := g_mul_bit (y := y) hx hi8
      refine ⟨fun q => absurd (pz_le (a := 8) (by decide) (by omega) q) (by omega), fun _ => ?_⟩
      rw [hb]
      refine pz_ne (y / 2 ^ i % 2) 1 (fun q => ?_) (fun q => ?_)
      · rw [if_neg q] at hg
        have := ih (i + 1) (by omega)
        rw [hg] at this
        exact by_tail (g_it_lt hx i) hi8 this
      · rw [if_pos q] at hg
        have := ih (i + 1) (by omega)
        rw [hg, ← nx_xor] at this
        exact by_tail (g_it_lt hx i) hi8 this
  refine ⟨9, ?_⟩
  have := key 8 0 rfl
  rw [show y % 2 ^ 0 = 0 by omega, g_mul_0] at this
  exact this
