/-! The field's calls. -/
theorem is1 {j : Nat} (hj : j < 256) {post : Int32 → Prop} (h : post 1) : wp_Mo_isByte (nI j) post := sp_Mo_isByte (fun _ _ _ => h) (fun n => absurd ⟨j, hj, rfl⟩ n)
theorem is0 {p : Int32} (hn : ¬ isB p) {post : Int32 → Prop} (h : post 0) : wp_Mo_isByte p post := sp_Mo_isByte (fun j hj e => absurd ⟨j, hj, e⟩ hn) (fun _ => h)
theorem op_times {K : Type} [F : Lean.Grind.Field K] {en : K → Nat} {al : K} (G : gf_ok K F en al) {Fp Fl : Nat → Int32} (T : ft_ok Fp Fl) (p1 p2 : Int32) {post : Int32 → Prop} (h : ∀ r, (∀ post2 : Int32 → Prop, post2 r → wp_Mo_times p1 p2 post2) → post r) : wp_RS_times Fp Fl p1 p2 post := by
  refine sp_Fi_isByte (fun j hj e => br1 ?_) (fun hn => br0 (h (-1) (fun post2 h2 => is0 hn (br0 h2))))
  refine sp_Fi_isByte (fun i hi e' => bs1 ?_) (fun hn => bs0 (h (-1) (fun post2 h2 => ?_)))
  · subst e; subst e'
    obtain ⟨x, rfl⟩ := gf_of G hj
    obtain ⟨y, rfl⟩ := gf_of G hi
    exact sp_product G T x y (h _ (fun post2 h2 => is1 hj (br1 (is1 hi (br1 (sp_by G x y h2))))))
  · subst e
    exact is1 hj (br1 (is0 hn (br0 h2)))
theorem op_over {K : Type} [F : Lean.Grind.Field K] {en : K → Nat} {al : K} (G : gf_ok K F en al) {Fp Fl : Nat → Int32} (T : ft_ok Fp Fl) (p1 p2 : Int32) {post : Int32 → Prop} (h : ∀ r, (∀ post2 : Int32 → Prop, post2 r → wp_Mo_over p1 p2 post2) → post r) : wp_RS_over Fp Fl p1 p2 post := by
  refine sp_Fi_isByte (fun j hj e => br1 ?_) (fun hn => br0 (h (-1) (fun post2 h2 => is0 hn (br0 h2))))
  refine sp_Fi_isByte (fun i hi e' => br1 ?_) (fun hn => br0 (h (-1) (fun post2 h2 => ?_)))
  · subst e; subst e'
    refine pz_ne i 0 (fun q => ?_) (fun q => ?_)
    · obtain ⟨x, rfl⟩ := gf_of G hj
      obtain ⟨y, rfl⟩ := gf_of G hi
      refine sp_quotient G T x y (h _ (fun post2 h2 => is1 hj (br1 (is1 hi (br1 (bf (nI_ne0 (by omega) (by omega)) (sp_inverse G y (sp_by G x _ h2))))))))
    · subst q
      exact h (-1) (fun post2 h2 => is1 hj (br1 (is1 hi (br1 (bt rfl h2)))))
  · subst e
    exact is1 hj (br1 (is0 hn (br0 h2)))
theorem i32_neg (x : Int32) : x < 0 ↔ x.toBitVec.msb = true := by
  rw [Int32.lt_iff_toInt_lt, BitVec.msb_eq_toInt]
  show x.toInt < 0 ↔ _
  simp
theorem i32_nn {x : Int32} : 0 ≤ x ↔ ¬ x < 0 := by
  rw [Int32.le_iff_toInt_le, Int32.lt_iff_toInt_lt]
  have h0 : (0 : Int32).toInt = 0 := by decide
  rw [h0]; omega
theorem i32_x255 (x : Int32) : x ^^^ (255 : Int32) < 0 ↔ x < 0 := by
  rw [i32_neg, i32_neg]
  show (x.toBitVec ^^^ (255 : Int32).toBitVec).msb = true ↔ _
  rw [BitVec.msb_xor, show (255 : Int32).toBitVec.msb = false by decide]
  simp
theorem rem255t (e : Int32) : (e - e / (255 : Int32) * (255 : Int32)).toInt = e.toInt.tmod 255 := by
  have h1 := rem_toInt e 255
  rw [show (255 : Int32).toInt = 255 by decide] at h1
  exact h1
theorem i32_neg0 {x : Int32} : x < 0 ↔ x.toInt < 0 := by
  rw [Int32.lt_iff_toInt_lt]; exact Iff.rfl
theorem em_lt (e : Int) : (e % 255).toNat < 255 := by omega
theorem rem_nn {e : Int32} (h : 0 ≤ (e - e / (255 : Int32) * (255 : Int32)).toInt) : e - e / (255 : Int32) * (255 : Int32) = nI (e.toInt % 255).toNat := by
  obtain ⟨q, h1, h2, h3⟩ := rem255 e
  apply Int32.toInt_inj.mp
  rw [nI_toInt (by omega)]; omega
theorem rem_ng {e : Int32} (h : (e - e / (255 : Int32) * (255 : Int32)).toInt < 0) : e - e / (255 : Int32) * (255 : Int32) + (255 : Int32) = nI (e.toInt % 255).toNat := by
  obtain ⟨q, h1, h2, h3⟩ := rem255 e
  apply Int32.toInt_inj.mp
  rw [nI_toInt (by omega), Int32.toInt_add, show (255 : Int32).toInt = 255 by decide, Int.bmod_eq_of_le (by omega) (by omega)]
  omega
theorem tm_pos {e : Int} (h : 0 ≤ e) : 0 ≤ e.tmod 255 := by rw [Int.tmod_eq_emod_of_nonneg h]; omega
theorem tm_neg {e : Int} (h : e ≤ 0) : e.tmod 255 ≤ 0 := by
  have := tm_pos (e := -e) (by omega)
  rw [Int.neg_tmod] at this; omega
theorem sp_floorMod (e : Int32) {post : Int32 → Prop} (h : post (nI (e.toInt % 255).toNat)) : wp_Math_floorMod e 255 post := by
  refine ⟨by decide, ?_⟩
  intro r er
  have ht := rem255t e
  refine ⟨fun q => ?_, fun q => ?_⟩
  · have : ¬ e < 0 := fun q2 => (i32_nn.mp q) ((i32_x255 e).mpr q2)
    have h1 := tm_pos (e := e.toInt) (by have := mt i32_neg0.mpr this; omega)
    show post r
    rw [er, rem_nn (by rw [ht]; exact h1)]; exact h
  · have : e < 0 := (i32_x255 e).mp (Classical.byContradiction (fun q2 => q (i32_nn.mpr q2)))
    have h1 := tm_neg (e := e.toInt) (by have := i32_neg0.mp this; omega)
    refine ⟨fun q2 => ?_, fun q2 => ?_⟩
    · show post r
      rw [er, rem_nn (by rw [← er, q2]; decide)]; exact h
    · rw [er, rem_ng]
      · exact h
      · rw [ht]
        rcases Int.lt_or_eq_of_le h1 with q3 | q3
        · exact q3
        · exfalso; apply q2
          rw [er]; apply Int32.toInt_inj.mp
          rw [ht, q3]; decide
theorem op_power {K : Type} [F : Lean.Grind.Field K] {en : K → Nat} {al : K} (G : gf_ok K F en al) {Fp Fl : Nat → Int32} (T : ft_ok Fp Fl) (p1 p2 : Int32) {post : Int32 → Prop} (h : ∀ r, (∀ post2 : Int32 → Prop, post2 r → wp_Mo_power p1 p2 post2) → post r) : wp_RS_power Fp Fl p1 p2 post := by
  refine sp_Fi_isByte (fun j hj e => br1 ?_) (fun hn => br0 (h (-1) (fun post2 h2 => is0 hn (br0 h2))))
  subst e
  refine pz_ne j 0 (fun q => ?_) (fun q => ?_)
  · obtain ⟨x, rfl⟩ := gf_of G hj
    have hx : x ≠ 0 := fun q2 => q (by rw [q2]; exact gf_zero G)
    have hl := gf_log G hx
    have ref : ∀ post2 : Int32 → Prop, post2 (nI (en (x ^ (p2.toInt % 255).toNat))) → wp_Mo_power (nI (en x)) p2 post2 := fun post2 h2 => by
      refine is1 hj (br1 (bf' (nI_ne0 (by omega) (by omega)) (bf' (nI_ne0 (by omega) (by omega)) ?_)))
      intro r er
      have h3 := em_lt p2.toInt
      refine ⟨fun q2 => ?_, fun q2 => ?_⟩
      · rw [er, rem_nn (by rw [← er]; have := mt i32_neg0.mpr (i32_nn.mp q2); omega)]
        exact sp_raised G x (by omega) h2
      · rw [er, rem_ng (by rw [← er]; exact i32_neg0.mp (Classical.byContradiction (fun q3 => q2 (i32_nn.mpr q3))))]
        exact sp_raised G x (by omega) h2
    refine ⟨fun q2 => ?_, fun q2 => ?_⟩
    · refine bf' (nI_ne0 (by omega) (by omega)) ?_
      rw [and255 hj, nI_clamp (by omega), T.2 _ hj q]
      refine ⟨vp_in_nI hj (by decide), sp_floorMod p2 ?_⟩
      have h3 := em_lt p2.toInt
      have h4 : g_log (en x) * (p2.toInt % 255).toNat < 65536 := Nat.lt_of_lt_of_le (Nat.mul_lt_mul'' hl.1 h3) (by decide)
      rw [pk_mul]
      refine sp_two G T (n := g_log (en x) * (p2.toInt % 255).toNat) (nI_255 _ (by omega)) ?_
      rw [rp_mul, hl.2]
      exact h _ ref
    · refine h _ (fun post2 h2 => ref post2 ?_)
      rw [q2, show ((0 : Int32).toInt % 255).toNat = 0 by decide, Lean.Grind.Semiring.pow_zero, gf_one G]; exact h2
  · subst q
    refine ⟨fun q2 => ?_, fun q2 => h (-1) (fun post2 h2 => is1 hj (br1 (bt' rfl (bf q2 h2))))⟩
    refine ⟨fun q3 => bt' rfl (h _ (fun post2 h2 => is1 hj (br1 (bt' rfl (bt q2 (bt' rfl (bf' q3 h2))))))), fun q3 => h _ (fun post2 h2 => is1 hj (br1 (bt' rfl (bt q2 (bt' rfl (bt' q3 h2))))))⟩
theorem op_log {K : Type} [F : Lean.Grind.Field K] {en : K → Nat} {al : K} (G : gf_ok K F en al) {Fp Fl : Nat → Int32} (T : ft_ok Fp Fl) (p1 : Int32) {post : Int32 → Prop} (h : ∀ r, (∀ post2 : Int32 → Prop, post2 r → wp_Mo_log p1 post2) → post r) : wp_RS_log Fl p1 post := by
  refine sp_Fi_isByte (fun j hj e => br1 ?_) (fun hn => br0 (h (-1) (fun post2 h2 => is0 hn (br0 h2))))
  subst e
  refine pz_ne j 0 (fun q => ?_) (fun q => ?_)
  · obtain ⟨x, rfl⟩ := gf_of G hj
    have hx : x ≠ 0 := fun q2 => q (by rw [q2]; exact gf_zero G)
    have hl := gf_log G hx
    refine ⟨by rw [and255 hj]; exact vp_in_nI hj (by decide), ?_⟩
    rw [and255 hj, nI_clamp (by omega), T.2 _ hj q]
    refine h _ (fun post2 h2 => is1 hj (br1 (bf' (nI_ne0 (by omega) (by omega)) ?_)))
    have key : ∀ n i : Nat, i ≤ g_log (en x) → g_log (en x) - i < n → wp_Mo_log_L17 post2 n (nI (en x)) (nI i) (nI (en (al ^ i))) := by
      intro n
      induction n with
      | zero => intro i h1 h2; omega
      | succ n ih =>
        intro i h3 h4
        refine pk_eq (en (al ^ i)) (en x) (fun q2 => ?_) (fun q2 => ?_) (ha := by have := gf_lt G (al ^ i); omega)
        · have := gf_inj G q2
          rw [← hl.2] at this
          rw [gf_pow_inj G (by omega) hl.1 this]; exact h2
        · have h5 : i ≠ g_log (en x) := fun q3 => q2 (by rw [q3, hl.2])
          have := sp_by G (al ^ i) al (post := fun r => ∀ x2 : Int32, x2 = nI i + (1 : Int32) → wp_Mo_log_L17 post2 n (nI (en x)) x2 r) (nm_r (nI_1 i) (by
            have := ih (i + 1) (by omega) (by omega)
            rw [Lean.Grind.Semiring.pow_succ] at this; exact this))
          rw [gf_al G] at this; exact this
    have := key (g_log (en x) + 1) 0 (by omega) (by omega)
    rw [Lean.Grind.Semiring.pow_zero, gf_one G] at this
    exact ⟨_, this⟩
  · subst q
    exact h (-1) (fun post2 h2 => is1 hj (br1 (bt' rfl h2)))
