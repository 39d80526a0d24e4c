/-! The shares: the base, its weights, made. -/
def qw (told : Nat → Bool) (y x : Nat) : Bool := told x && !Nat.beq x y
theorem qw_told {told : Nat → Bool} {y x : Nat} (h : qw told y x = true) : told x = true ∧ x ≠ y := by
  unfold qw at h
  simp only [Bool.and_eq_true, Bool.not_eq_true'] at h
  exact ⟨h.1, fun e => by rw [e, Nat.beq_refl] at h; cases h.2⟩
theorem qw_of {told : Nat → Bool} {y x : Nat} (h : told x = true) (h2 : x ≠ y) : qw told y x = true := by
  unfold qw
  rw [h]
  cases hq : Nat.beq x y with
  | true => exact absurd (Nat.eq_of_beq_eq_true hq) h2
  | false => rfl
theorem qw_no {told : Nat → Bool} {y x : Nat} (h : told x = false ∨ x = y) : qw told y x = false := by
  unfold qw
  rcases h with h | h
  · rw [h]; rfl
  · rw [h, Nat.beq_refl]; cases told y <;> rfl
def sh_p {K : Type} [Lean.Grind.Field K] (ks : Nat → K) (b : Nat → Nat) (z : K) (j : Nat) : Nat → K
  | 0 => 1
  | n + 1 => if n = j then sh_p ks b z j n else sh_p ks b z j n * (z + ks (b n))
def sh_a {K : Type} [Lean.Grind.Field K] (ks : Nat → K) (b : Nat → Nat) (z : K) : Nat → K
  | 0 => 1
  | n + 1 => sh_a ks b z n * (z + ks (b n))
def sh_d {K : Type} [Lean.Grind.Field K] (ks : Nat → K) (b : Nat → Nat) (d j : Nat) : K := (sh_p ks b (ks (b j)) j d)⁻¹
def sh_c {K : Type} [Lean.Grind.Field K] (ks : Nat → K) (b : Nat → Nat) (d : Nat) (z : K) (j : Nat) : K := sh_p ks b z j d * sh_d ks b d j
def sh_v {K : Type} [Lean.Grind.Field K] (ks : Nat → K) (b : Nat → Nat) (d : Nat) (v : Nat → Nat → K) (z : K) (i : Nat) : K := ra_sum d (fun j => sh_c ks b d z j * v (b j) i)
theorem sh_split {K : Type} [Lean.Grind.Field K] (ks : Nat → K) (b : Nat → Nat) (z : K) (j : Nat) : ∀ n : Nat, sh_a ks b z n = if j < n then sh_p ks b z j n * (z + ks (b j)) else sh_p ks b z j n
  | 0 => by rw [if_neg (by omega)]; rfl
  | n + 1 => by
    have ih := sh_split ks b z j n
    show sh_a ks b z n * (z + ks (b n)) = if j < n + 1 then (if n = j then sh_p ks b z j n else sh_p ks b z j n * (z + ks (b n))) * (z + ks (b j)) else (if n = j then sh_p ks b z j n else sh_p ks b z j n * (z + ks (b n)))
    rw [ih]
    by_cases e : n = j
    · subst e
      rw [if_neg (Nat.lt_irrefl n), if_pos (Nat.lt_succ_self n), if_pos rfl]
    · rw [if_neg e]
      by_cases q : j < n
      · have q' : j < n + 1 := by omega
        rw [if_pos q, if_pos q']; grind
      · have q' : ¬ j < n + 1 := by omega
        rw [if_neg q, if_neg q']
theorem sh_pne {K : Type} [Lean.Grind.Field K] {ks : Nat → K} {b : Nat → Nat} {z : K} {j : Nat} : ∀ {n : Nat}, (∀ m, m < n → m ≠ j → z + ks (b m) ≠ 0) → sh_p ks b z j n ≠ 0
  | 0, _ => rp_10
  | n + 1, h => by
    have ih := sh_pne (ks := ks) (b := b) (z := z) (j := j) (n := n) (fun m hm => h m (by omega))
    show (if n = j then sh_p ks b z j n else sh_p ks b z j n * (z + ks (b n))) ≠ 0
    by_cases e : n = j
    · rw [if_pos e]; exact ih
    · rw [if_neg e]
      intro q
      rcases Lean.Grind.Field.of_mul_eq_zero q with q | q
      · exact ih q
      · exact h n (by omega) e q
theorem sh_pz {K : Type} [Lean.Grind.Field K] {ks : Nat → K} {b : Nat → Nat} {z : K} {j m : Nat} (hm : m ≠ j) (h0 : z + ks (b m) = 0) : ∀ {n : Nat}, m < n → sh_p ks b z j n = 0
  | 0, h => by omega
  | n + 1, h => by
    show (if n = j then sh_p ks b z j n else sh_p ks b z j n * (z + ks (b n))) = 0
    by_cases e : m = n
    · subst e
      rw [if_neg hm, h0]; grind
    · have ih := sh_pz hm h0 (n := n) (by omega)
      rw [ih]
      by_cases e2 : n = j
      · rw [if_pos e2]
      · rw [if_neg e2]; grind
theorem kx {K : Type} [F : Lean.Grind.Field K] {en : K → Nat} {al : K} (G : gf_ok K F en al) {ks : Nat → K} (hks : ∀ x, x < 256 → en (ks x) = x) {x y : Nat} (hx : x < 256) (hy : y < 256) : nI x ^^^ nI y = nI (en (ks x + ks y)) := by
  rw [nx_xor, gf_add G, hks x hx, hks y hy]
theorem i32_one {K : Type} [F : Lean.Grind.Field K] {en : K → Nat} {al : K} (G : gf_ok K F en al) : (1 : Int32) = nI (en (1 : K)) := by rw [gf_one G]; rfl
theorem i32_zero {K : Type} [F : Lean.Grind.Field K] {en : K → Nat} {al : K} (G : gf_ok K F en al) : (0 : Int32) = nI (en (0 : K)) := by rw [gf_zero G]; rfl
theorem sp_quot1 {K : Type} [F : Lean.Grind.Field K] {en : K → Nat} {al : K} (G : gf_ok K F en al) {Fp Fl : Nat → Int32} (T : ft_ok Fp Fl) (y : K) {post : Int32 → Prop} (h : post (nI (en y⁻¹))) : wp_Fi_quotient Fp Fl (1 : Int32) (nI (en y)) post := by
  have := sp_quotient G T 1 y (post := post) (by rw [show (1 : K) * y⁻¹ = y⁻¹ by grind]; exact h)
  rw [gf_one G] at this; exact this
theorem sp_weighBase {K : Type} [F : Lean.Grind.Field K] {en : K → Nat} {al : K} (G : gf_ok K F en al) {Fp Fl : Nat → Int32} (T : ft_ok Fp Fl) {ks : Nat → K} (hks : ∀ x, x < 256 → en (ks x) = x) {d : Nat} (hd : d ≤ 20) {b : Nat → Nat} {Hb Hw : Nat → Int32} (hb : ∀ j, j < d → b j < 256 ∧ Hb j = nI (b j)) {post : (Nat → Int32) → Prop} (h : ∀ f : Nat → Int32, (∀ j, j < d → f j = nI (en (sh_d ks b d j))) → post f) : wp_Sh_weighBase Fp Fl (nI d) Hb Hw post := by
  have key : ∀ (r j : Nat) (f : Nat → Int32), j ≤ d → d - j < r → (∀ z, z < j → f z = nI (en (sh_d ks b d z))) → wp_Sh_weighBase_L2 Fp Fl (nI d) Hb post r f (nI j) := by
    intro r
    induction r with
    | zero => intro j f g1 g2; omega
    | succ r ih =>
      intro j f g1 g2 g3
      refine pk_le d j (fun q => ?_) (fun q => ?_)
      · rw [show j = d by omega] at g3; exact h f g3
      · have inner : ∀ (u m : Nat), m ≤ d → d - m < u → wp_Sh_weighBase_L14 Fp Fl (nI d) Hb post (wp_Sh_weighBase_L2 Fp Fl (nI d) Hb post r) u f (nI j) (nI (en (sh_p ks b (ks (b j)) j m))) (nI m) := by
          intro u
          induction u with
          | zero => intro m c1 c2; omega
          | succ u ihu =>
            intro m c1 c2
            refine pk_le d m (fun q2 => ?_) (fun q2 => ?_)
            · rw [show m = d by omega]
              refine sp_quot1 G T _ ⟨vp_in_nI (by omega) (by decide), nm_r (nI_1 j) (ih (j + 1) _ (by omega) (by omega) (fun z hz => ?_))⟩
              rw [nI_clamp (by omega)]
              by_cases e : z = j
              · subst e; rw [pk_us]; rfl
              · rw [pk_un e]; exact g3 z (by omega)
            · have ih' := ihu (m + 1) (by omega) (by omega)
              refine pk_eq m j (fun q3 => ?_) (fun q3 => ?_)
              · rw [show sh_p ks b (ks (b j)) j (m + 1) = sh_p ks b (ks (b j)) j m from if_pos q3] at ih'
                exact nm_r (nI_1 m) ih'
              · rw [show sh_p ks b (ks (b j)) j (m + 1) = sh_p ks b (ks (b j)) j m * (ks (b j) + ks (b m)) from if_neg q3] at ih'
                rw [nI_clamp (show j < 2 ^ 31 by omega), nI_clamp (show m < 2 ^ 31 by omega), (hb j q).2, (hb m q2).2, kx G hks (hb j q).1 (hb m q2).1]
                exact ⟨vp_in_nI (by omega) (by decide), vp_in_nI (by omega) (by decide), sp_product G T _ _ (nm_r (nI_1 m) ih')⟩
        have := inner (d + 1) 0 (by omega) (by omega)
        rw [show ∀ (f : Nat → Nat) (z : K), sh_p ks f z j 0 = 1 from fun _ _ => rfl, gf_one G] at this
        exact ⟨_, this⟩
  exact ⟨_, key (d + 1) 0 Hw (by omega) (by omega) (fun z hz => by omega)⟩
/-- the base: the least told ones but one -/
theorem sp_chooseBase {K : Type} [F : Lean.Grind.Field K] {en : K → Nat} {al : K} (G : gf_ok K F en al) {Fp Fl : Nat → Int32} (T : ft_ok Fp Fl) {ks : Nat → K} (hks : ∀ x, x < 256 → en (ks x) = x) {d : Nat} (hd : d ≤ 20) {told : Nat → Bool} {y : Nat} {p1 : Int32} (hp : ∀ x, x < 256 → (nI x = p1 ↔ x = y)) {Hb Hw Ht : Nat → Int32} (ht : zB Ht told 256) {post : Int32 → (Nat → Int32) → (Nat → Int32) → Prop} (h1 : d ≤ cn (qw told y) 256 → ∀ f g : Nat → Int32, (∀ j, j < d → f j = nI (nth (qw told y) 256 j)) → (∀ j, j < d → g j = nI (en (sh_d ks (nth (qw told y) 256) d j))) → post 1 f g) (h0 : cn (qw told y) 256 < d → ∀ f g : Nat → Int32, post 0 f g) : wp_Sh_chooseBase Fp Fl (nI d) Hb Hw Ht p1 post := by
  have fin : ∀ (x c : Nat) (f : Nat → Int32), x ≤ 256 → c = cn (qw told y) x → c ≤ d → (x = 256 ∨ d ≤ c) → (∀ j, j < c → f j = nI (nth (qw told y) 256 j)) → wp_Sh_chooseBase_b49 Fp Fl (nI d) Ht post f Hw (nI c) := by
    intro x c f hx hc hcd hor hf
    have hle := cn_le (qw told y) hx
    refine pk_le d c (fun q => ?_) (fun q => ?_)
    · have hcd' : c = d := by omega
      rw [hcd'] at hf
      refine sp_weighBase G T hks hd (b := nth (qw told y) 256) (fun j hj => ⟨(nth_ok (show j < cn (qw told y) 256 by omega)).1, hf j hj⟩) (fun g hg => h1 (by omega) f g hf hg)
    · rcases hor with e | e
      · subst e; exact h0 (by omega) f Hw
      · omega
  have key : ∀ (r x : Nat) (f : Nat → Int32), x ≤ 256 → 256 - x < r → cn (qw told y) x ≤ d → (∀ j, j < cn (qw told y) x → f j = nI (nth (qw told y) 256 j)) → wp_Sh_chooseBase_L4 Fp Fl (nI d) Ht post r f Hw p1 (nI (cn (qw told y) x)) (nI x) := by
    intro r
    induction r with
    | zero => intro x f g1 g2; omega
    | succ r ih =>
      intro x f g1 g2 g3 g4
      refine pk_le 256 x (fun q => ?_) (fun q => ?_)
      · exact fin x _ f g1 rfl g3 (Or.inl (by omega)) g4
      · refine pk_le d (cn (qw told y) x) (fun q2 => fin x _ f g1 rfl g3 (Or.inr q2) g4) (fun q2 => ?_)
        rw [nI_clamp (show x < 2 ^ 31 by omega)]
        refine ⟨vp_in_nI q (by decide), ?_⟩
        have skip : qw told y x = false → wp_Sh_chooseBase_b43 Fp Fl (nI d) Ht post (wp_Sh_chooseBase_L4 Fp Fl (nI d) Ht post r) f Hw p1 (nI (cn (qw told y) x)) (nI x) := fun hq => by
          have := ih (x + 1) f (by omega) (by omega) (by rw [cn_f hq]; exact g3) (by rw [cn_f hq]; exact g4)
          rw [cn_f hq] at this
          exact nm_r (nI_1 x) this
        cases hx : told x with
        | false => exact bt (zB_f ht q hx) (skip (qw_no (Or.inl hx)))
        | true =>
          refine bf (by rw [zB_t ht q hx]; decide) ⟨fun e => skip (qw_no (Or.inr ((hp x q).mp e))), fun e => ?_⟩
          have hq : qw told y x = true := qw_of hx (fun e2 => e ((hp x q).mpr e2))
          refine ⟨vp_in_nI (by omega) (by decide), nm_r (nI_1 _) ?_⟩
          have := ih (x + 1) (upd f (cn (qw told y) x) (nI x)) (by omega) (by omega) (by rw [cn_t hq]; omega) (fun j hj => by
            rw [cn_t hq] at hj
            by_cases e2 : j = cn (qw told y) x
            · rw [e2, pk_us, nth_cn q hq]
            · rw [pk_un e2]; exact g4 j (by omega))
          rw [cn_t hq] at this
          rw [nI_clamp (by omega)]
          exact nm_r (nI_1 x) this
  exact ⟨_, key 257 0 Hb (by omega) (by omega) (Nat.zero_le _) (fun j hj => absurd hj (Nat.not_lt_zero j))⟩
theorem sp_aimAt {K : Type} [F : Lean.Grind.Field K] {en : K → Nat} {al : K} (G : gf_ok K F en al) {Fp Fl : Nat → Int32} (T : ft_ok Fp Fl) {ks : Nat → K} (hks : ∀ x, x < 256 → en (ks x) = x) {d : Nat} (hd : d ≤ 20) {b : Nat → Nat} {Hb Hw Hp : Nat → Int32} (hb : ∀ j, j < d → b j < 256 ∧ Hb j = nI (b j)) (hinj : ∀ i j, i < d → j < d → b i = b j → i = j) (hw : ∀ j, j < d → Hw j = nI (en (sh_d ks b d j))) {x : Nat} (hx : x < 256) {post : (Nat → Int32) → Prop} (h : ∀ f : Nat → Int32, (∀ j, j < d → f j = nI (en (sh_c ks b d (ks x) j))) → post f) : wp_Sh_aimAt Fp Fl (nI d) Hb Hw Hp (nI x) post := by
  have k0 : ∀ y z : Nat, y < 256 → z < 256 → ks y + ks z = 0 → y = z := fun y z hy hz q => by
    have q2 := gf_two G (ks z)
    have q3 : ks y = ks z := by grind
    rw [← hks y hy, ← hks z hz, q3]
  have part : ∀ (r j : Nat) (f : Nat → Int32), j ≤ d → d - j < r → (∀ z, z < j → f z = nI (en (sh_c ks b d (ks x) z))) → wp_Sh_aimAt_L37 Fp Fl (nI d) Hb Hw post r f (nI x) (nI (en (sh_a ks b (ks x) d))) (nI j) := by
    intro r
    induction r with
    | zero => intro j f g1 g2; omega
    | succ r ih =>
      intro j f g1 g2 g3
      refine pk_le d j (fun q => ?_) (fun q => ?_)
      · rw [show j = d by omega] at g3; exact h f g3
      · have tail : ∀ t : K, t = sh_c ks b d (ks x) j → wp_Sh_aimAt_b100 Fp Fl (nI d) Hb Hw post (wp_Sh_aimAt_L37 Fp Fl (nI d) Hb Hw post r) (upd f j (nI (en t))) (nI x) (nI (en (sh_a ks b (ks x) d))) (nI j) := fun t ht => by
          refine nm_r (nI_1 j) (ih (j + 1) _ (by omega) (by omega) (fun z hz => ?_))
          by_cases e : z = j
          · subst e; rw [pk_us, ht]
          · rw [pk_un e]; exact g3 z (by omega)
        rw [nI_clamp (show j < 2 ^ 31 by omega), (hb j q).2, hw j q]
        refine ⟨vp_in_nI (by omega) (by decide), ?_⟩
        have hbj := (hb j q).1
        refine pz_ne (b j) x (fun q2 => ?_) (fun q2 => ?_)
        · rw [kx G hks hx hbj]
          refine ⟨vp_in_nI (by omega) (by decide), sp_product G T _ _ ⟨vp_in_nI (by omega) (by decide), sp_quotient G T _ _ ⟨vp_in_nI (by omega) (by decide), tail _ ?_⟩⟩⟩
          have hne : ks x + ks (b j) ≠ 0 := fun q3 => q2 (k0 x (b j) hx hbj q3).symm
          rw [sh_split ks b (ks x) j d, if_pos q]
          unfold sh_c
          have hi := Lean.Grind.Field.mul_inv_cancel hne
          grind
        · refine ⟨vp_in_nI (by omega) (by decide), ?_⟩
          have := tail 1 (by
            unfold sh_c sh_d
            rw [← q2]
            have hne : sh_p ks b (ks (b j)) j d ≠ 0 := sh_pne (fun m hm hmj q3 => hmj (hinj m j hm q (k0 (b j) (b m) hbj (hb m hm).1 q3).symm))
            exact (Lean.Grind.Field.mul_inv_cancel hne).symm)
          rw [← i32_one G] at this
          exact this
  have key : ∀ (r j : Nat), j ≤ d → d - j < r → wp_Sh_aimAt_L4 Fp Fl (nI d) Hb Hw post r Hp (nI x) (nI (en (sh_a ks b (ks x) j))) (nI j) := by
    intro r
    induction r with
    | zero => intro j g1 g2; omega
    | succ r ih =>
      intro j g1 g2
      refine pk_le d j (fun q => ?_) (fun q => ?_)
      · rw [show j = d by omega]
        exact ⟨_, part (d + 1) 0 Hp (by omega) (by omega) (fun z hz => by omega)⟩
      · rw [nI_clamp (show j < 2 ^ 31 by omega), (hb j q).2, kx G hks hx (hb j q).1]
        exact ⟨vp_in_nI (by omega) (by decide), sp_product G T _ _ (nm_r (nI_1 j) (ih (j + 1) (by omega) (by omega)))⟩
  have := key (d + 1) 0 (by omega) (by omega)
  rw [show sh_a ks b (ks x) 0 = 1 from rfl, gf_one G] at this
  exact ⟨_, this⟩
theorem sp_shValue {K : Type} [F : Lean.Grind.Field K] {en : K → Nat} {al : K} (G : gf_ok K F en al) {Fp Fl : Nat → Int32} (T : ft_ok Fp Fl) {d : Nat} (hd : d ≤ 20) {b : Nat → Nat} {Hv Hb Hp : Nat → Int32} {c : Nat → K} {v : Nat → Nat → K} (hb : ∀ j, j < d → b j < 256 ∧ Hb j = nI (b j)) (hc : ∀ j, j < d → Hp j = nI (en (c j))) {i : Nat} (hi : i < 16) (hv : ∀ j, j < d → Hv (16 * b j + i) = nI (en (v (b j) i))) {post : Int32 → Prop} (h : post (nI (en (ra_sum d (fun j => c j * v (b j) i))))) : wp_Sh_valueOf Fp Fl (nI d) Hv Hb Hp (nI i) post := by
  have key : ∀ (r j : Nat), j ≤ d → d - j < r → wp_Sh_valueOf_L4 Fp Fl (nI d) Hv Hb Hp post r (nI i) (nI (en (ra_sum j (fun j => c j * v (b j) i)))) (nI j) := by
    intro r
    induction r with
    | zero => intro j g1 g2; omega
    | succ r ih =>
      intro j g1 g2
      refine pk_le d j (fun q => ?_) (fun q => ?_)
      · rw [show j = d by omega]; exact h
      · have hbj := (hb j q).1
        have e1 : nI (b j) * (16 : Int32) + nI i = nI (16 * b j + i) := by rw [show (16 : Int32) = nI 16 from rfl, pk_mul, nI_add, Nat.mul_comm]
        rw [nI_clamp (show j < 2 ^ 31 by omega), (hb j q).2, e1, nI_clamp (show 16 * b j + i < 2 ^ 31 by omega), hv j q, hc j q]
        refine ⟨vp_in_nI (by omega) (by decide), vp_in_nI (by omega) (by decide), vp_in_nI (by omega) (by decide), sp_product G T _ _ ?_⟩
        refine nm_r (e' := nI (en (ra_sum (j + 1) (fun j => c j * v (b j) i)))) ?_ (nm_r (nI_1 j) (ih (j + 1) (by omega) (by omega)))
        rw [nx_xor, ← gf_add G]; rfl
  have := key (d + 1) 0 (by omega) (by omega)
  rw [show ra_sum 0 (fun j => c j * v (b j) i) = 0 from rfl, gf_zero G] at this
  exact ⟨_, this⟩
/-- the reference's -/
theorem sp_findUsed {K : Type} [F : Lean.Grind.Field K] {en : K → Nat} {al : K} (G : gf_ok K F en al) {ks : Nat → K} (hks : ∀ x, x < 256 → en (ks x) = x) {d : Nat} (hd : d ≤ 20) {told : Nat → Bool} {y : Nat} {p1 : Int32} (hp : ∀ x, x < 256 → (nI x = p1 ↔ x = y)) {Mu Mdn Mt : Nat → Int32} (ht : zB Mt told 256) (hen : d ≤ cn (qw told y) 256) {post : (Nat → Int32) → (Nat → Int32) → Prop} (h1 : ∀ f g : Nat → Int32, (∀ j, j < d → f j = nI (nth (qw told y) 256 j)) → (∀ j, j < d → g j = nI (en (sh_d ks (nth (qw told y) 256) d j))) → post f g) : wp_Mo_findUsed (nI d) Mt Mu Mdn p1 post := by
  have downs : ∀ (f : Nat → Int32), (∀ j, j < d → f j = nI (nth (qw told y) 256 j)) → ∀ (r j : Nat) (g : Nat → Int32), j ≤ d → d - j < r → (∀ z, z < j → g z = nI (en (sh_d ks (nth (qw told y) 256) d z))) → wp_Mo_findUsed_L51 (nI d) Mt post r f g (nI j) := by
    intro f hf r
    have hb : ∀ j, j < d → nth (qw told y) 256 j < 256 := fun j hj => (nth_ok (show j < cn (qw told y) 256 by omega)).1
    induction r with
    | zero => intro j g g1 g2; omega
    | succ r ih =>
      intro j g g1 g2 g3
      refine pk_le d j (fun q => ?_) (fun q => ?_)
      · rw [show j = d by omega] at g3; exact h1 f g hf g3
      · have inner : ∀ (u m : Nat), m ≤ d → d - m < u → wp_Mo_findUsed_L65 (nI d) Mt post (wp_Mo_findUsed_L51 (nI d) Mt post r) u f g (nI j) (nI (en (sh_p ks (nth (qw told y) 256) (ks (nth (qw told y) 256 j)) j m))) (nI m) := by
          intro u
          induction u with
          | zero => intro m c1 c2; omega
          | succ u ihu =>
            intro m c1 c2
            refine pk_le d m (fun q2 => ?_) (fun q2 => ?_)
            · rw [show m = d by omega]
              refine sp_inverse G _ ⟨vp_in_nI (by omega) (by decide), nm_r (nI_1 j) (ih (j + 1) _ (by omega) (by omega) (fun z hz => ?_))⟩
              rw [nI_clamp (by omega)]
              by_cases e : z = j
              · subst e; rw [pk_us]; rfl
              · rw [pk_un e]; exact g3 z (by omega)
            · have ih' := ihu (m + 1) (by omega) (by omega)
              refine pz_ne m j (fun q3 => ?_) (fun q3 => ?_)
              · rw [show sh_p ks (nth (qw told y) 256) (ks (nth (qw told y) 256 j)) j (m + 1) = sh_p ks (nth (qw told y) 256) (ks (nth (qw told y) 256 j)) j m * (ks (nth (qw told y) 256 j) + ks (nth (qw told y) 256 m)) from if_neg q3] at ih'
                rw [nI_clamp (show j < 2 ^ 31 by omega), nI_clamp (show m < 2 ^ 31 by omega), hf j q, hf m q2, kx G hks (hb j q) (hb m q2)]
                exact ⟨vp_in_nI (by omega) (by decide), vp_in_nI (by omega) (by decide), sp_by G _ _ (nm_r (nI_1 m) ih')⟩
              · rw [show sh_p ks (nth (qw told y) 256) (ks (nth (qw told y) 256 j)) j (m + 1) = sh_p ks (nth (qw told y) 256) (ks (nth (qw told y) 256 j)) j m from if_pos q3] at ih'
                exact nm_r (nI_1 m) ih'
        have := inner (d + 1) 0 (by omega) (by omega)
        rw [show ∀ (f : Nat → Nat) (z : K), sh_p ks f z j 0 = 1 from fun _ _ => rfl, gf_one G] at this
        exact ⟨_, this⟩
  have fin : ∀ (x c : Nat) (f : Nat → Int32), x ≤ 256 → c = cn (qw told y) x → c ≤ d → (x = 256 ∨ d ≤ c) → (∀ j, j < c → f j = nI (nth (qw told y) 256 j)) → wp_Mo_findUsed_b49 (nI d) Mt post f Mdn := by
    intro x c f hx hc hcd hor hf
    have hcd' : c = d := by
      rcases hor with e | e
      · subst e; omega
      · omega
    rw [hcd'] at hf
    exact ⟨_, downs f hf (d + 1) 0 Mdn (by omega) (by omega) (fun z hz => by omega)⟩
  have key : ∀ (r x : Nat) (f : Nat → Int32), x ≤ 256 → 256 - x < r → cn (qw told y) x ≤ d → (∀ j, j < cn (qw told y) x → f j = nI (nth (qw told y) 256 j)) → wp_Mo_findUsed_L4 (nI d) Mt post r f Mdn p1 (nI (cn (qw told y) x)) (nI x) := by
    intro r
    induction r with
    | zero => intro x f g1 g2; omega
    | succ r ih =>
      intro x f g1 g2 g3 g4
      refine pk_le 256 x (fun q => ?_) (fun q => ?_)
      · exact fin x _ f g1 rfl g3 (Or.inl (by omega)) g4
      · refine pk_le d (cn (qw told y) x) (fun q2 => fin x _ f g1 rfl g3 (Or.inr q2) g4) (fun q2 => ?_)
        rw [nI_clamp (show x < 2 ^ 31 by omega)]
        refine ⟨vp_in_nI q (by decide), ?_⟩
        have skip : qw told y x = false → wp_Mo_findUsed_b43 (nI d) Mt post (wp_Mo_findUsed_L4 (nI d) Mt post r) f Mdn p1 (nI (cn (qw told y) x)) (nI x) := fun hq => by
          have := ih (x + 1) f (by omega) (by omega) (by rw [cn_f hq]; exact g3) (by rw [cn_f hq]; exact g4)
          rw [cn_f hq] at this
          exact nm_r (nI_1 x) this
        cases hx : told x with
        | false => exact bt (zB_f ht q hx) (skip (qw_no (Or.inl hx)))
        | true =>
          refine bf (by rw [zB_t ht q hx]; decide) ⟨fun e => skip (qw_no (Or.inr ((hp x q).mp e))), fun e => ?_⟩
          have hq : qw told y x = true := qw_of hx (fun e2 => e ((hp x q).mpr e2))
          refine ⟨vp_in_nI (by omega) (by decide), nm_r (nI_1 _) ?_⟩
          have := ih (x + 1) (upd f (cn (qw told y) x) (nI x)) (by omega) (by omega) (by rw [cn_t hq]; omega) (fun j hj => by
            rw [cn_t hq] at hj
            by_cases e2 : j = cn (qw told y) x
            · rw [e2, pk_us, nth_cn q hq]
            · rw [pk_un e2]; exact g4 j (by omega))
          rw [cn_t hq] at this
          rw [nI_clamp (by omega)]
          exact nm_r (nI_1 x) this
  exact ⟨_, key 257 0 Mu (by omega) (by omega) (Nat.zero_le _) (fun j hj => absurd hj (Nat.not_lt_zero j))⟩
theorem sp_weigh {K : Type} [F : Lean.Grind.Field K] {en : K → Nat} {al : K} (G : gf_ok K F en al) {ks : Nat → K} (hks : ∀ x, x < 256 → en (ks x) = x) {d : Nat} (hd : d ≤ 20) {b : Nat → Nat} {Mu Mdn Mw : Nat → Int32} (hb : ∀ j, j < d → b j < 256 ∧ Mu j = nI (b j)) (hw : ∀ j, j < d → Mdn j = nI (en (sh_d ks b d j))) {x : Nat} (hx : x < 256) {post : (Nat → Int32) → Prop} (h : ∀ f : Nat → Int32, (∀ j, j < d → f j = nI (en (sh_c ks b d (ks x) j))) → post f) : wp_Mo_weigh (nI d) Mu Mdn Mw (nI x) post := by
  have key : ∀ (r j : Nat) (f : Nat → Int32), j ≤ d → d - j < r → (∀ z, z < j → f z = nI (en (sh_c ks b d (ks x) z))) → wp_Mo_weigh_L2 (nI d) Mu Mdn post r f (nI x) (nI j) := by
    intro r
    induction r with
    | zero => intro j f g1 g2; omega
    | succ r ih =>
      intro j f g1 g2 g3
      refine pk_le d j (fun q => ?_) (fun q => ?_)
      · rw [show j = d by omega] at g3; exact h f g3
      · have inner : ∀ (u m : Nat), m ≤ d → d - m < u → wp_Mo_weigh_L15 (nI d) Mu Mdn post (wp_Mo_weigh_L2 (nI d) Mu Mdn post r) u f (nI x) (nI j) (nI (en (sh_p ks b (ks x) j m))) (nI m) := by
          intro u
          induction u with
          | zero => intro m c1 c2; omega
          | succ u ihu =>
            intro m c1 c2
            refine pk_le d m (fun q2 => ?_) (fun q2 => ?_)
            · rw [show m = d by omega, nI_clamp (show j < 2 ^ 31 by omega), hw j q]
              refine ⟨vp_in_nI (by omega) (by decide), sp_by G _ _ ⟨vp_in_nI (by omega) (by decide), nm_r (nI_1 j) (ih (j + 1) _ (by omega) (by omega) (fun z hz => ?_))⟩⟩
              by_cases e : z = j
              · subst e; rw [pk_us]; rfl
              · rw [pk_un e]; exact g3 z (by omega)
            · have ih' := ihu (m + 1) (by omega) (by omega)
              refine pz_ne m j (fun q3 => ?_) (fun q3 => ?_)
              · rw [show sh_p ks b (ks x) j (m + 1) = sh_p ks b (ks x) j m * (ks x + ks (b m)) from if_neg q3] at ih'
                rw [nI_clamp (show m < 2 ^ 31 by omega), (hb m q2).2, kx G hks hx (hb m q2).1]
                exact ⟨vp_in_nI (by omega) (by decide), sp_by G _ _ (nm_r (nI_1 m) ih')⟩
              · rw [show sh_p ks b (ks x) j (m + 1) = sh_p ks b (ks x) j m from if_pos q3] at ih'
                exact nm_r (nI_1 m) ih'
        have := inner (d + 1) 0 (by omega) (by omega)
        rw [show ∀ (f : Nat → Nat) (z : K), sh_p ks f z j 0 = 1 from fun _ _ => rfl, gf_one G] at this
        exact ⟨_, this⟩
  exact ⟨_, key (d + 1) 0 Mw (by omega) (by omega) (fun z hz => by omega)⟩
theorem sp_madeBy {K : Type} [F : Lean.Grind.Field K] {en : K → Nat} {al : K} (G : gf_ok K F en al) {d : Nat} (hd : d ≤ 20) {b : Nat → Nat} {Ms Mu Mw : Nat → Int32} {c : Nat → K} {v : Nat → Nat → K} (hb : ∀ j, j < d → b j < 256 ∧ Mu j = nI (b j)) (hc : ∀ j, j < d → Mw j = nI (en (c j))) {i : Nat} (hi : i < 16) (hv : ∀ j, j < d → Ms (16 * b j + i) = nI (en (v (b j) i))) {post : Int32 → Prop} (h : post (nI (en (ra_sum d (fun j => c j * v (b j) i))))) : wp_Mo_madeBy (nI d) Ms Mu Mw (nI i) post := by
  have key : ∀ (r j : Nat), j ≤ d → d - j < r → wp_Mo_madeBy_L4 (nI d) Ms Mu Mw post r (nI i) (nI (en (ra_sum j (fun j => c j * v (b j) i)))) (nI j) := by
    intro r
    induction r with
    | zero => intro j g1 g2; omega
    | succ r ih =>
      intro j g1 g2
      refine pk_le d j (fun q => ?_) (fun q => ?_)
      · rw [show j = d by omega]; exact h
      · have hbj := (hb j q).1
        have e1 : (16 : Int32) * nI (b j) + nI i = nI (16 * b j + i) := by rw [show (16 : Int32) = nI 16 from rfl, pk_mul, nI_add]
        rw [nI_clamp (show j < 2 ^ 31 by omega), (hb j q).2, e1, nI_clamp (show 16 * b j + i < 2 ^ 31 by omega), hv j q, hc j q]
        refine ⟨vp_in_nI (by omega) (by decide), vp_in_nI (by omega) (by decide), vp_in_nI (by omega) (by decide), sp_by G _ _ ?_⟩
        refine nm_r (e' := nI (en (ra_sum (j + 1) (fun j => c j * v (b j) i)))) ?_ (nm_r (nI_1 j) (ih (j + 1) (by omega) (by omega)))
        rw [nx_xor, ← gf_add G]
        congr 2
        show _ = ra_sum j (fun j => c j * v (b j) i) + c j * v (b j) i
        grind
  have := key (d + 1) 0 (by omega) (by omega)
  rw [show ra_sum 0 (fun j => c j * v (b j) i) = 0 from rfl, gf_zero G] at this
  exact ⟨_, this⟩
theorem gf_ks {K : Type} [F : Lean.Grind.Field K] {en : K → Nat} {al : K} (G : gf_ok K F en al) : ∃ ks : Nat → K, ∀ x, x < 256 → en (ks x) = x :=
  ⟨fun x => if hx : x < 256 then Classical.choose (gf_of G hx) else 0, fun x hx => by
    show en (if hx : x < 256 then Classical.choose (gf_of G hx) else 0) = x
    rw [dif_pos hx]; exact Classical.choose_spec (gf_of G hx)⟩
theorem m1_256 : ∀ x, x < 256 → (nI x = (-1 : Int32) ↔ x = 256) := fun x hx => ⟨fun q => absurd q (m1_ne (by omega)), fun q => by omega⟩
theorem qw_256 {told : Nat → Bool} : cn (qw told 256) 256 = cn told 256 := cn_congr (fun j hj => by
  cases hx : told j with
  | true => exact qw_of hx (by omega)
  | false => exact qw_no (Or.inl hx))
theorem qw_nth {told : Nat → Bool} {y d j : Nat} (hd : d ≤ cn (qw told y) 256) (hj : j < d) : nth (qw told y) 256 j < 256 ∧ told (nth (qw told y) 256 j) = true ∧ nth (qw told y) 256 j ≠ y := by
  have h := nth_ok (p := qw told y) (N := 256) (j := j) (by omega)
  have h2 := qw_told h.2.1
  exact ⟨h.1, h2.1, h2.2⟩
theorem nth_inj {p : Nat → Bool} {N i j : Nat} (hi : i < cn p N) (hj : j < cn p N) (h : nth p N i = nth p N j) : i = j := by
  have h1 := (nth_ok hi).2.2
  have h2 := (nth_ok hj).2.2
  rw [h, h2] at h1; exact h1.symm
theorem op_made {K : Type} [F : Lean.Grind.Field K] {en : K → Nat} {al : K} (G : gf_ok K F en al) {Fp Fl : Nat → Int32} (T : ft_ok Fp Fl) {Hn Hw Hc : Int32} {Hv Ht : Nat → Int32} {Md Mw Mc : Int32} {Mt Ms : Nat → Int32} (R : RHe F en Hn Hw Hc Hv Ht Md Mw Mc Mt Ms) {a1 a2 a3 b1 b2 b3 : Nat → Int32} (p1 p2 : Int32) {post : Int32 → (Nat → Int32) → (Nat → Int32) → (Nat → Int32) → Prop} (h : ∀ (r : Int32) (c1 c2 c3 : Nat → Int32), (∀ post2 : Int32 → (Nat → Int32) → (Nat → Int32) → (Nat → Int32) → Prop, (∀ d1 d2 d3 : Nat → Int32, post2 r d1 d2 d3) → wp_Mo_made Md Mw Mc Mt Ms b1 b2 b3 p1 p2 post2) → post r c1 c2 c3) : wp_RS_made Fp Fl Hn Hw Hv a1 a2 a3 Ht p1 p2 post := by
  obtain ⟨d, w, told, v, ⟨d1, d2, w1, w2⟩, ⟨rfl, rfl, rfl, rfl, rfl, rfl⟩, ht1, ht2, hv⟩ := R
  obtain ⟨ks, hks⟩ := gf_ks G
  have hcn := cn_id told 256
  refine sp_Fi_isByte (fun x hx e => br1 ?_) (fun hn => br0 (h _ _ _ _ (fun post2 h2 => is0 hn (br0 (h2 _ _ _)))))
  subst e
  refine sp_shPlace (by omega) (fun i hi e => br1 ?_) (fun hn => br0 (h _ _ _ _ (fun post2 h2 => is1 hx (br1 ?_))))
  · subst e
    have i1 : ¬ nI i < 0 := pz_lt0 (by omega)
    have i2 : ¬ nI w ≤ nI i := fun q => by have := pz_le (by omega) (by omega) q; omega
    refine sp_chooseBase G T hks d2 m1_256 ht1 (fun hen f g hf hg => bs1 ?_) (fun hen f g => bs0 (h _ _ _ _ (fun post2 h2 => is1 hx (br1 (bf i1 (bf i2 (bf (fun q => ?_) (h2 _ _ _)))))))) 
    · have hb : ∀ j, j < d → nth (qw told 256) 256 j < 256 ∧ f j = nI (nth (qw told 256) 256 j) := fun j hj => ⟨(qw_nth hen hj).1, hf j hj⟩
      refine sp_aimAt G T hks d2 hb (fun i j hi hj => nth_inj (by omega) (by omega)) hg hx (fun p hp => ?_)
      refine sp_shValue G T d2 hb hp (by omega) (v := v) (fun j hj => (hv _ (qw_nth hen hj).1 (qw_nth hen hj).2.1 i (by omega)).1) (h _ _ _ _ (fun post2 h2 => is1 hx (br1 (bf i1 (bf i2 (bt ?_ ?_))))))
      · rw [qw_256] at hen; exact nI_le hen (by omega)
      · refine sp_findUsed G hks d2 m1_256 ht2 hen (fun f2 g2 hf2 hg2 => ?_)
        have hb2 : ∀ j, j < d → nth (qw told 256) 256 j < 256 ∧ f2 j = nI (nth (qw told 256) 256 j) := fun j hj => ⟨(qw_nth hen hj).1, hf2 j hj⟩
        refine sp_weigh G hks d2 hb2 hg2 hx (fun p2 hp2 => ?_)
        exact sp_madeBy G d2 hb2 hp2 (by omega) (v := v) (fun j hj => (hv _ (qw_nth hen hj).1 (qw_nth hen hj).2.1 i (by omega)).2) (h2 _ _ _)
    · rw [qw_256] at hen
      have := pz_le (by omega) (by omega) q; omega
  · rcases hn with q | ⟨q, q2⟩
    · exact bt q (h2 _ _ _)
    · exact bf q (bt q2 (h2 _ _ _))
