/-! The field of 256: a concrete one, by tables; at the end it is hidden: any field with its numbers. -/
def g_xt (a : Nat) : Nat := if a < 128 then 2 * a else (2 * a) ^^^ 285
def g_tE : List Nat := [1, 2, 4, 8, 16, 32, 64, 128, 29, 58, 116, 232, 205, 135, 19, 38, 76, 152, 45, 90, 180, 117, 234, 201, 143, 3, 6, 12, 24, 48, 96, 192, 157, 39, 78, 156, 37, 74, 148, 53, 106, 212, 181, 119, 238, 193, 159, 35, 70, 140, 5, 10, 20, 40, 80, 160, 93, 186, 105, 210, 185, 111, 222, 161, 95, 190, 97, 194, 153, 47, 94, 188, 101, 202, 137, 15, 30, 60, 120, 240, 253, 231, 211, 187, 107, 214, 177, 127, 254, 225, 223, 163, 91, 182, 113, 226, 217, 175, 67, 134, 17, 34, 68, 136, 13, 26, 52, 104, 208, 189, 103, 206, 129, 31, 62, 124, 248, 237, 199, 147, 59, 118, 236, 197, 151, 51, 102, 204, 133, 23, 46, 92, 184, 109, 218, 169, 79, 158, 33, 66, 132, 21, 42, 84, 168, 77, 154, 41, 82, 164, 85, 170, 73, 146, 57, 114, 228, 213, 183, 115, 230, 209, 191, 99, 198, 145, 63, 126, 252, 229, 215, 179, 123, 246, 241, 255, 227, 219, 171, 75, 150, 49, 98, 196, 149, 55, 110, 220, 165, 87, 174, 65, 130, 25, 50, 100, 200, 141, 7, 14, 28, 56, 112, 224, 221, 167, 83, 166, 81, 162, 89, 178, 121, 242, 249, 239, 195, 155, 43, 86, 172, 69, 138, 9, 18, 36, 72, 144, 61, 122, 244, 245, 247, 243, 251, 235, 203, 139, 11, 22, 44, 88, 176, 125, 250, 233, 207, 131, 27, 54, 108, 216, 173, 71, 142]
def g_tL : List Nat := [0, 0, 1, 25, 2, 50, 26, 198, 3, 223, 51, 238, 27, 104, 199, 75, 4, 100, 224, 14, 52, 141, 239, 129, 28, 193, 105, 248, 200, 8, 76, 113, 5, 138, 101, 47, 225, 36, 15, 33, 53, 147, 142, 218, 240, 18, 130, 69, 29, 181, 194, 125, 106, 39, 249, 185, 201, 154, 9, 120, 77, 228, 114, 166, 6, 191, 139, 98, 102, 221, 48, 253, 226, 152, 37, 179, 16, 145, 34, 136, 54, 208, 148, 206, 143, 150, 219, 189, 241, 210, 19, 92, 131, 56, 70, 64, 30, 66, 182, 163, 195, 72, 126, 110, 107, 58, 40, 84, 250, 133, 186, 61, 202, 94, 155, 159, 10, 21, 121, 43, 78, 212, 229, 172, 115, 243, 167, 87, 7, 112, 192, 247, 140, 128, 99, 13, 103, 74, 222, 237, 49, 197, 254, 24, 227, 165, 153, 119, 38, 184, 180, 124, 17, 68, 146, 217, 35, 32, 137, 46, 55, 63, 209, 91, 149, 188, 207, 205, 144, 135, 151, 178, 220, 252, 190, 97, 242, 86, 211, 171, 20, 42, 93, 158, 132, 60, 57, 83, 71, 109, 65, 162, 31, 45, 67, 216, 183, 123, 164, 118, 196, 23, 73, 236, 127, 12, 111, 246, 108, 161, 59, 82, 41, 157, 85, 170, 251, 96, 134, 177, 187, 204, 62, 90, 203, 89, 95, 176, 156, 169, 160, 81, 11, 245, 22, 235, 122, 117, 44, 215, 79, 174, 213, 233, 230, 231, 173, 232, 116, 214, 244, 234, 168, 80, 88, 175]
def g_exp (e : Nat) : Nat := g_tE.getD e 0
def g_log (a : Nat) : Nat := g_tL.getD a 0
def g_mul (a b : Nat) : Nat := if a = 0 ∨ b = 0 then 0 else g_exp ((g_log a + g_log b) % 255)
def g_inv (a : Nat) : Nat := if a = 0 then 0 else g_exp ((255 - g_log a) % 255)
def g_it (b : Nat) : Nat → Nat
  | 0 => b
  | k + 1 => g_xt (g_it b k)
theorem g_f1b : ((List.range 255).all fun e => Nat.blt (g_exp e) 256 && (Nat.blt 0 (g_exp e) && Nat.beq (g_log (g_exp e)) e)) = true := by decide +kernel
theorem g_f2b : ((List.range 256).all fun a => Nat.beq a 0 || (Nat.blt (g_log a) 255 && Nat.beq (g_exp (g_log a)) a)) = true := by decide +kernel
theorem g_f3b : ((List.range 255).all fun e => Nat.beq (g_exp ((e + 1) % 255)) (g_xt (g_exp e))) = true := by decide +kernel
theorem g_f4b : ((List.range 256).all fun a => (List.range 256).all fun b => Nat.beq (g_xt (a ^^^ b)) (g_xt a ^^^ g_xt b)) = true := by decide +kernel
theorem g_f5b : ((List.range 256).all fun a => Nat.blt (g_xt a) 256) = true := by decide +kernel
theorem g_f1 {e : Nat} (h : e < 255) : g_exp e < 256 ∧ g_exp e ≠ 0 ∧ g_log (g_exp e) = e := by
  have := List.all_eq_true.mp g_f1b e (List.mem_range.mpr h)
  simp only [Bool.and_eq_true, Nat.blt_eq] at this
  exact ⟨this.1, by omega, Nat.eq_of_beq_eq_true this.2.2⟩
theorem g_f2 {a : Nat} (h : a < 256) (h0 : a ≠ 0) : g_log a < 255 ∧ g_exp (g_log a) = a := by
  have := List.all_eq_true.mp g_f2b a (List.mem_range.mpr h)
  simp only [Bool.and_eq_true, Bool.or_eq_true, Nat.blt_eq] at this
  rcases this with h1 | h1
  · exact absurd (Nat.eq_of_beq_eq_true h1) h0
  · exact ⟨h1.1, Nat.eq_of_beq_eq_true h1.2⟩
theorem g_f3 {e : Nat} (h : e < 255) : g_exp ((e + 1) % 255) = g_xt (g_exp e) := by
  have := List.all_eq_true.mp g_f3b e (List.mem_range.mpr h)
  exact Nat.eq_of_beq_eq_true this
theorem g_f4 {a b : Nat} (ha : a < 256) (hb : b < 256) : g_xt (a ^^^ b) = g_xt a ^^^ g_xt b := by
  have := List.all_eq_true.mp (List.all_eq_true.mp g_f4b a (List.mem_range.mpr ha)) b (List.mem_range.mpr hb)
  exact Nat.eq_of_beq_eq_true this
theorem g_f5 {a : Nat} (h : a < 256) : g_xt a < 256 := by
  have := List.all_eq_true.mp g_f5b a (List.mem_range.mpr h)
  simpa only [Nat.blt_eq] using this
theorem g_xor_lt {a b : Nat} (ha : a < 256) (hb : b < 256) : a ^^^ b < 256 := Nat.xor_lt_two_pow (n := 8) ha hb
theorem g_it_lt {b : Nat} (h : b < 256) : ∀ k : Nat, g_it b k < 256
  | 0 => h
  | k + 1 => g_f5 (g_it_lt h k)
theorem g_it_xor {b c : Nat} (hb : b < 256) (hc : c < 256) : ∀ k : Nat, g_it (b ^^^ c) k = g_it b k ^^^ g_it c k
  | 0 => rfl
  | k + 1 => by
    show g_xt (g_it (b ^^^ c) k) = g_xt (g_it b k) ^^^ g_xt (g_it c k)
    rw [g_it_xor hb hc k, g_f4 (g_it_lt hb k) (g_it_lt hc k)]
theorem g_it_0 : ∀ k : Nat, g_it 0 k = 0
  | 0 => rfl
  | k + 1 => by
    show g_xt (g_it 0 k) = 0
    rw [g_it_0 k]; rfl
theorem g_mul_exp {b : Nat} (hb : b < 256) : ∀ {k : Nat}, k < 255 → g_mul (g_exp k) b = g_it b k := by
  intro k hk
  by_cases h0 : b = 0
  · subst h0
    rw [g_it_0]; simp [g_mul]
  · obtain ⟨h1, h2⟩ := g_f2 hb h0
    unfold g_mul
    rw [if_neg (fun hq => hq.elim (g_f1 hk).2.1 h0), (g_f1 hk).2.2]
    clear hk
    induction k with
    | zero => show g_exp ((0 + g_log b) % 255) = b; rw [Nat.zero_add, Nat.mod_eq_of_lt h1, h2]
    | succ k ih =>
      show g_exp ((k + 1 + g_log b) % 255) = g_xt (g_it b k)
      rw [← ih, ← g_f3 (Nat.mod_lt _ (by decide))]
      congr 1
      omega
theorem g_mul_lt {a b : Nat} : g_mul a b < 256 := by
  unfold g_mul
  split
  · decide
  · exact (g_f1 (Nat.mod_lt _ (by decide))).1
theorem g_inv_lt {a : Nat} : g_inv a < 256 := by
  unfold g_inv
  split
  · decide
  · exact (g_f1 (Nat.mod_lt _ (by decide))).1
theorem g_mul_comm (a b : Nat) : g_mul a b = g_mul b a := by
  unfold g_mul
  rw [Nat.add_comm (g_log a)]
  by_cases h1 : a = 0 <;> by_cases h2 : b = 0 <;> simp [h1, h2]
theorem g_mul_ne {a b : Nat} (ha : a ≠ 0) (hb : b ≠ 0) : g_mul a b = g_exp ((g_log a + g_log b) % 255) := by
  unfold g_mul
  rw [if_neg (fun hq => hq.elim ha hb)]
theorem g_mul_0 (a : Nat) : g_mul a 0 = 0 := by simp [g_mul]
theorem g_0_mul (a : Nat) : g_mul 0 a = 0 := by simp [g_mul]
theorem g_mul_assoc {a b c : Nat} : g_mul (g_mul a b) c = g_mul a (g_mul b c) := by
  by_cases ha : a = 0
  · subst ha; rw [g_0_mul, g_0_mul, g_0_mul]
  · by_cases hb : b = 0
    · subst hb; rw [g_mul_0, g_0_mul, g_mul_0]
    · by_cases hc : c = 0
      · subst hc; rw [g_mul_0, g_mul_0, g_mul_0]
      · have m1 : (g_log a + g_log b) % 255 < 255 := Nat.mod_lt _ (by decide)
        have m2 : (g_log b + g_log c) % 255 < 255 := Nat.mod_lt _ (by decide)
        rw [g_mul_ne ha hb, g_mul_ne hb hc, g_mul_ne (g_f1 m1).2.1 hc, g_mul_ne ha (g_f1 m2).2.1, (g_f1 m1).2.2, (g_f1 m2).2.2]
        congr 1
        omega
theorem g_mul_xor {a b c : Nat} (ha : a < 256) (hb : b < 256) (hc : c < 256) : g_mul a (b ^^^ c) = g_mul a b ^^^ g_mul a c := by
  by_cases h0 : a = 0
  · subst h0; rw [g_0_mul, g_0_mul, g_0_mul]; rfl
  · obtain ⟨h1, h2⟩ := g_f2 ha h0
    rw [← h2, g_mul_exp (g_xor_lt hb hc) h1, g_mul_exp hb h1, g_mul_exp hc h1, g_it_xor hb hc]
theorem g_mul_one {a : Nat} (ha : a < 256) : g_mul a 1 = a := by
  rw [g_mul_comm]
  exact g_mul_exp (k := 0) ha (by decide)
theorem g_mul_inv {a : Nat} (ha : a < 256) (h0 : a ≠ 0) : g_mul a (g_inv a) = 1 := by
  obtain ⟨h1, h2⟩ := g_f2 ha h0
  have m1 : (255 - g_log a) % 255 < 255 := Nat.mod_lt _ (by decide)
  unfold g_inv
  rw [if_neg h0, g_mul_ne h0 (g_f1 m1).2.1, (g_f1 m1).2.2, show (g_log a + (255 - g_log a) % 255) % 255 = 0 by omega]
  rfl
/-- the field itself -/
def kF : Type := { n : Nat // n < 256 }
theorem k_ext {a b : kF} (h : a.1 = b.1) : a = b := Subtype.ext h
def k_0 : kF := ⟨0, by decide⟩
def k_1 : kF := ⟨1, by decide⟩
def k_2 : kF := ⟨2, by decide⟩
def k_add (a b : kF) : kF := ⟨a.1 ^^^ b.1, g_xor_lt a.2 b.2⟩
def k_mul (a b : kF) : kF := ⟨g_mul a.1 b.1, g_mul_lt⟩
def k_inv (a : kF) : kF := ⟨g_inv a.1, g_inv_lt⟩
def k_pow (a : kF) : Nat → kF
  | 0 => k_1
  | n + 1 => k_mul (k_pow a n) a
def k_par (n : Nat) : kF := if n % 2 = 0 then k_0 else k_1
def k_zp (a : kF) (i : Int) : kF := if 0 ≤ i then k_pow a i.toNat else k_inv (k_pow a (-i).toNat)
theorem k_add_0 (a : kF) : k_add a k_0 = a := k_ext (Nat.xor_zero a.1)
theorem k_add_comm (a b : kF) : k_add a b = k_add b a := k_ext (Nat.xor_comm a.1 b.1)
theorem k_add_assoc (a b c : kF) : k_add (k_add a b) c = k_add a (k_add b c) := k_ext (Nat.xor_assoc a.1 b.1 c.1)
theorem k_add_self (a : kF) : k_add a a = k_0 := k_ext (Nat.xor_self a.1)
theorem k_mul_comm (a b : kF) : k_mul a b = k_mul b a := k_ext (g_mul_comm a.1 b.1)
theorem k_mul_assoc (a b c : kF) : k_mul (k_mul a b) c = k_mul a (k_mul b c) := k_ext g_mul_assoc
theorem k_mul_1 (a : kF) : k_mul a k_1 = a := k_ext (g_mul_one a.2)
theorem k_mul_0 (a : kF) : k_mul a k_0 = k_0 := k_ext (g_mul_0 a.1)
theorem k_distl (a b c : kF) : k_mul a (k_add b c) = k_add (k_mul a b) (k_mul a c) := k_ext (g_mul_xor a.2 b.2 c.2)
theorem k_distr (a b c : kF) : k_mul (k_add a b) c = k_add (k_mul a c) (k_mul b c) := by
  rw [k_mul_comm, k_distl, k_mul_comm c a, k_mul_comm c b]
theorem k_mul_inv {a : kF} (h : a ≠ k_0) : k_mul a (k_inv a) = k_1 := k_ext (g_mul_inv a.2 (fun q => h (k_ext q)))
theorem k_inv_0 : k_inv k_0 = k_0 := k_ext rfl
theorem k_01 : k_0 ≠ k_1 := fun h => absurd (congrArg Subtype.val h) (by decide)
theorem k_inv_of {a b : kF} (h : k_mul a b = k_1) : k_inv a = b := by
  have ha : a ≠ k_0 := by
    intro q
    rw [q, k_mul_comm, k_mul_0] at h
    exact k_01 h
  have h1 : k_mul (k_inv a) (k_mul a b) = k_mul (k_inv a) k_1 := by rw [h]
  rw [← k_mul_assoc, k_mul_comm (k_inv a) a, k_mul_inv ha, k_mul_1, k_mul_comm, k_mul_1] at h1
  exact h1.symm
theorem k_inv_inv (a : kF) : k_inv (k_inv a) = a := by
  by_cases h : a = k_0
  · rw [h, k_inv_0, k_inv_0]
  · exact k_inv_of (by rw [k_mul_comm]; exact k_mul_inv h)
theorem k_inv_1 : k_inv k_1 = k_1 := k_inv_of (k_mul_1 k_1)
theorem k_par_succ (n : Nat) : k_par (n + 1) = k_add (k_par n) k_1 := by
  unfold k_par
  rcases Nat.mod_two_eq_zero_or_one n with h | h
  · rw [if_neg (by omega), if_pos h]; exact k_ext rfl
  · rw [if_pos (by omega), if_neg (by omega)]; exact k_ext rfl
theorem k_zp_succ (a : kF) (n : Nat) : k_zp a ((n : Int) + 1) = k_mul (k_zp a (n : Int)) a := by
  unfold k_zp
  rw [if_pos (by omega), if_pos (by omega), show ((n : Int) + 1).toNat = n + 1 by omega, show ((n : Int)).toNat = n by omega]
  rfl
theorem k_zp_neg (a : kF) (i : Int) : k_zp a (-i) = k_inv (k_zp a i) := by
  unfold k_zp
  rcases Int.lt_trichotomy i 0 with h | h | h
  · rw [if_pos (by omega), if_neg (by omega), k_inv_inv]
  · subst h
    show k_pow a 0 = k_inv (k_pow a 0)
    exact k_inv_1.symm
  · rw [if_neg (by omega), if_pos (by omega), Int.neg_neg]
abbrev k_field : Lean.Grind.Field kF where
  add := k_add
  mul := k_mul
  natCast := ⟨k_par⟩
  ofNat := fun n => ⟨k_par n⟩
  nsmul := ⟨fun n a => k_mul (k_par n) a⟩
  npow := ⟨k_pow⟩
  neg := fun a => a
  sub := k_add
  intCast := ⟨fun i => k_par i.natAbs⟩
  zsmul := ⟨fun i a => k_mul (k_par i.natAbs) a⟩
  inv := k_inv
  div := fun a b => k_mul a (k_inv b)
  zpow := ⟨k_zp⟩
  add_zero := k_add_0
  add_comm := k_add_comm
  add_assoc := k_add_assoc
  mul_assoc := k_mul_assoc
  mul_one := k_mul_1
  one_mul := fun a => (k_mul_comm k_1 a).trans (k_mul_1 a)
  left_distrib := k_distl
  right_distrib := k_distr
  zero_mul := fun a => (k_mul_comm k_0 a).trans (k_mul_0 a)
  mul_zero := k_mul_0
  pow_zero := fun _ => rfl
  pow_succ := fun _ _ => rfl
  ofNat_succ := k_par_succ
  ofNat_eq_natCast := fun _ => rfl
  nsmul_eq_natCast_mul := fun _ _ => rfl
  neg_add_cancel := k_add_self
  sub_eq_add_neg := fun _ _ => rfl
  neg_zsmul := fun i a => by show k_mul (k_par (-i).natAbs) a = k_mul (k_par i.natAbs) a; rw [Int.natAbs_neg]
  zsmul_natCast_eq_nsmul := fun _ _ => rfl
  intCast_ofNat := fun _ => rfl
  intCast_neg := fun i => by show k_par (-i).natAbs = k_par i.natAbs; rw [Int.natAbs_neg]
  mul_comm := k_mul_comm
  div_eq_mul_inv := fun _ _ => rfl
  zero_ne_one := k_01
  inv_zero := k_inv_0
  mul_inv_cancel := k_mul_inv
  zpow_zero := fun _ => rfl
  zpow_succ := k_zp_succ
  zpow_neg := k_zp_neg
/-- what is known of a field of 256 with numbers en -/
def gf_ok (K : Type) (F : Lean.Grind.Field K) (en : K → Nat) (al : K) : Prop :=
  (∀ a, en a < 256) ∧ (∀ a b, en a = en b → a = b) ∧ (∀ n, n < 256 → ∃ a, en a = n) ∧ (∀ a b : K, en (a + b) = en a ^^^ en b) ∧ en 0 = 0 ∧ en 1 = 1 ∧ (∀ a : K, a + a = 0) ∧ en al = 2 ∧ (∀ e, e < 255 → en (al ^ e) = g_exp e) ∧ al ^ 255 = 1 ∧ (∀ a b : K, en (a * b) = g_mul (en a) (en b)) ∧ (∀ a : K, en a⁻¹ = g_inv (en a))
theorem k_al_pow : ∀ e : Nat, e < 255 → (k_pow k_2 e).1 = g_exp e
  | 0, _ => rfl
  | e + 1, h => by
    show g_mul (k_pow k_2 e).1 2 = g_exp (e + 1)
    rw [k_al_pow e (by omega), g_mul_comm]
    have h1 := g_mul_exp (b := g_exp e) (g_f1 (show e < 255 by omega)).1 (k := 1) (by decide)
    have h2 : g_exp 1 = 2 := by decide +kernel
    rw [h2] at h1
    rw [h1]
    have h3 := g_f3 (show e < 255 by omega)
    rw [Nat.mod_eq_of_lt h] at h3
    exact h3.symm
theorem k_pow_succ (a : kF) (n : Nat) : k_pow a (n + 1) = k_mul (k_pow a n) a := rfl
theorem k_mul_val (a b : kF) : (k_mul a b).1 = g_mul a.1 b.1 := rfl
theorem k_1_val : k_1.1 = 1 := rfl
theorem k_al_255 : k_pow k_2 255 = k_1 := by
  refine k_ext ?_
  have h : k_pow k_2 255 = k_mul (k_pow k_2 254) k_2 := k_pow_succ k_2 254
  rw [h, k_1_val, k_mul_val, k_al_pow 254 (by decide)]
  decide +kernel
theorem gf_some : ∃ (K : Type) (F : Lean.Grind.Field K) (en : K → Nat) (al : K), gf_ok K F en al :=
  ⟨kF, k_field, Subtype.val, k_2, fun a => a.2, fun _ _ h => k_ext h, fun n h => ⟨⟨n, h⟩, rfl⟩, fun _ _ => rfl, rfl, rfl, k_add_self, rfl, k_al_pow, k_al_255, fun _ _ => rfl, fun _ => rfl⟩
