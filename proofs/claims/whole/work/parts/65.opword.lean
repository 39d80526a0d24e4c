/-! The words' calls, but repair. -/
theorem ip1 {n k j : Nat} (hj : j < n + k) (hN : n + k < 2 ^ 31) {post : Int32 → Prop} (h : post 1) : wp_Mo_isPlace (nI n) (nI k) (nI j) post := by
  refine bf (pz_lt0 (by omega)) ?_
  rw [nI_add]
  exact bf (fun q => by have := pz_le hN (by omega) q; omega) ⟨rfl, h⟩
theorem ip0 {n k : Nat} (hN : n + k < 2 ^ 31) {p : Int32} (hn : ¬ ∃ j : Nat, j < n + k ∧ p = nI j) {post : Int32 → Prop} (h : post 0) : wp_Mo_isPlace (nI n) (nI k) p post := by
  rcases pz_cases p (n + k) hN with ⟨c, _⟩ | ⟨c, d, _⟩ | q
  · exact bt c ⟨rfl, h⟩
  · refine bf c ?_
    rw [nI_add]
    exact bt d ⟨rfl, h⟩
  · exact absurd q hn
theorem i32_rng {p : Int32} {a b : Nat} (h1 : ¬ p < nI a) (h2 : ¬ nI b < p) (hb : b < 2 ^ 31) (ha : a < 2 ^ 31) : ∃ n, a ≤ n ∧ n ≤ b ∧ p = nI n := by
  have e1 := mt Int32.lt_iff_toInt_lt.mpr h1
  have e2 := mt Int32.lt_iff_toInt_lt.mpr h2
  rw [nI_toInt ha] at e1
  rw [nI_toInt hb] at e2
  refine ⟨p.toInt.toNat, by omega, by omega, ?_⟩
  apply Int32.toInt_inj.mp
  rw [nI_toInt (by omega)]; omega
theorem i32_lt_le {p : Int32} {a : Nat} (ha : a + 1 < 2 ^ 31) : p < nI (a + 1) ↔ p ≤ nI a := by
  rw [Int32.lt_iff_toInt_lt, Int32.le_iff_toInt_le, nI_toInt ha, nI_toInt (by omega)]; omega
theorem i32_nle {p q : Int32} : ¬ p ≤ q ↔ q < p := by
  rw [Int32.lt_iff_toInt_lt, Int32.le_iff_toInt_le]; omega
theorem cn_z : ∀ n : Nat, cn (fun _ => false) n = 0
  | 0 => rfl
  | n + 1 => by rw [cn_f rfl]; exact cn_z n
theorem cn_set {p : Nat → Bool} {j : Nat} (hp : p j = false) : ∀ n : Nat, cn (fun i => if i = j then true else p i) n = cn p n + (if j < n then 1 else 0)
  | 0 => rfl
  | n + 1 => by
    have ih := cn_set hp n
    show cn (fun i => if i = j then true else p i) n + (if (if n = j then true else p n) then 1 else 0) = cn p n + (if p n then 1 else 0) + (if j < n + 1 then 1 else 0)
    rw [ih]
    by_cases e : n = j
    · subst e
      rw [hp]; simp
    · rw [if_neg e]
      by_cases q : j < n
      · have q' : j < n + 1 := by omega
        rw [if_pos q, if_pos q']; omega
      · have q' : ¬ j < n + 1 := by omega
        rw [if_neg q, if_neg q']; omega
theorem cn_clr {p : Nat → Bool} {j : Nat} (hp : p j = true) : ∀ n : Nat, cn p n = cn (fun i => if i = j then false else p i) n + (if j < n then 1 else 0)
  | 0 => rfl
  | n + 1 => by
    have ih := cn_clr hp n
    show cn p n + (if p n then 1 else 0) = cn (fun i => if i = j then false else p i) n + (if (if n = j then false else p n) then 1 else 0) + (if j < n + 1 then 1 else 0)
    rw [ih]
    by_cases e : n = j
    · subst e
      rw [hp]; simp
    · rw [if_neg e]
      by_cases q : j < n
      · have q' : j < n + 1 := by omega
        rw [if_pos q, if_pos q']; omega
      · have q' : ¬ j < n + 1 := by omega
        rw [if_neg q, if_neg q']; omega
theorem op_code {K : Type} [F : Lean.Grind.Field K] {en : K → Nat} {al : K} (G : gf_ok K F en al) {Fp Fl : Nat → Int32} (T : ft_ok Fp Fl) {Wlc Wd Wr Wf : Int32} {Wb Wl Wfa : Nat → Int32} {Mn Mk Mb : Int32} {Mw Ml : Nat → Int32} (R : RWe F en al Wlc Wd Wr Wf Wb Wl Wfa Mn Mk Mb Mw Ml) (p1 p2 p3 : Int32) {post : Int32 → Int32 → Int32 → Int32 → Int32 → (Nat → Int32) → (Nat → Int32) → (Nat → Int32) → Prop} (h : ∀ (r Wlc' Wd' Wr' Wf' : Int32) (Wb' Wl' Wfa' : Nat → Int32), (∀ post2 : Int32 → Int32 → Int32 → Int32 → (Nat → Int32) → (Nat → Int32) → Prop, (∀ (Mn' Mk' Mb' : Int32) (Mw' Ml' : Nat → Int32), RWe F en al Wlc' Wd' Wr' Wf' Wb' Wl' Wfa' Mn' Mk' Mb' Mw' Ml' → post2 r Mn' Mk' Mb' Mw' Ml') → wp_Mo_code Mn Mk Mb Mw Ml p1 p2 p3 post2) → post r Wlc' Wd' Wr' Wf' Wb' Wl' Wfa') : wp_RS_code Fp Fl Wlc Wd Wr Wf Wb Wl Wfa p1 p2 p3 post := by
  have no : (∀ post2 : Int32 → Int32 → Int32 → Int32 → (Nat → Int32) → (Nat → Int32) → Prop, post2 (-1) Mn Mk Mb Mw Ml → wp_Mo_code Mn Mk Mb Mw Ml p1 p2 p3 post2) → post (-1) Wlc Wd Wr Wf Wb Wl Wfa := fun q => h _ _ _ _ _ _ _ _ (fun post2 h2 => q post2 (h2 _ _ _ _ _ R))
  refine ⟨fun a1 => no (fun post2 h2 => bt a1 h2), fun a1 => ⟨fun a2 => no (fun post2 h2 => bf a1 (bt a2 h2)), fun a2 => ⟨fun a3 => no (fun post2 h2 => bf a1 (bf a2 (bt a3 h2))), fun a3 => ⟨fun a4 => ?_, fun a4 => no (fun post2 h2 => bf a1 (bf a2 (bf a3 (bt (i32_nle.mp a4) h2))))⟩⟩⟩⟩
  have a4' : ¬ (40 : Int32) < p2 := fun q => i32_nle.mpr q a4
  obtain ⟨n, n1, n2, rfl⟩ := i32_rng (a := 1) (b := 200) a1 a2 (by decide) (by decide)
  obtain ⟨k, k1, k2, rfl⟩ := i32_rng (a := 0) (b := 40) a3 a4' (by decide) (by decide)
  have a5 : ¬ (255 : Int32) < nI n + nI k := by rw [nI_add]; exact nI_nlt (b := n + k) (a := 255) (by omega) (by decide)
  refine bf a5 ⟨fun a6 => no (fun post2 h2 => bf a1 (bf a2 (bf a3 (bf a4' (bf a5 (bt a6 h2)))))), fun a6 => ⟨fun a7 => ?_, fun a7 => no (fun post2 h2 => bf a1 (bf a2 (bf a3 (bf a4' (bf a5 (bf a6 (bf (fun q => a7 ((i32_lt_le (a := 254) (by decide)).mpr q)) h2)))))))⟩⟩
  have a7' := (i32_lt_le (p := p3) (a := 254) (by decide)).mp a7
  obtain ⟨b, b1, b2, rfl⟩ := i32_rng (a := 0) (b := 254) a6 (fun q => i32_nle.mpr q a7') (by decide) (by decide)
  refine sp_shape G T k2 (by omega) (fun fb fl ff hfb hfl hff => sp_size (h _ _ _ _ _ _ _ _ (fun post2 h2 => bf a1 (bf a2 (bf a3 (bf a4' (bf a5 (bf a6 (bt a7' ?_)))))))))
  have key : ∀ (r i : Nat) (w l : Nat → Int32), i ≤ 255 → 255 - i < r → (∀ x, x < i → w x = 0 ∧ l x = 0) → wp_Mo_code_L62 post2 r (nI n) (nI k) (nI b) w l (nI i) := by
    intro r
    induction r with
    | zero => intro i w l g1 g2; omega
    | succ r ih =>
      intro i w l g1 g2 g3
      refine pk_le 255 i (fun q => ?_) (fun q => ?_)
      · rw [nI_add]
        refine h2 _ _ _ _ _ ⟨n, k, b, fun _ => 0, fun _ => false, ⟨n1, n2, k2, by omega⟩, ⟨by rw [cn_z]; rfl, rfl, rfl, rfl⟩, fun x hx => ?_, fun x hx => ?_, hff, ⟨rfl, rfl, rfl⟩, fun x hx => ?_, fun x hx => ?_⟩
        · rw [hfb x (by omega), gf_zero G]; rfl
        · rw [hfl x (by omega)]; rfl
        · rw [(g3 x (by omega)).1, gf_zero G]; rfl
        · rw [(g3 x (by omega)).2]; rfl
      · rw [nI_clamp (by omega)]
        refine ⟨vp_in_nI q (by decide), vp_in_nI q (by decide), nm_r (nI_1 i) ?_⟩
        refine ih (i + 1) _ _ (by omega) (by omega) (fun x hx => ?_)
        by_cases e : x = i
        · subst e; rw [pk_us, pk_us]; exact ⟨rfl, rfl⟩
        · rw [pk_un e, pk_un e]; exact g3 x (by omega)
  exact ⟨256, key 256 0 Mw Ml (by omega) (by omega) (fun x hx => by omega)⟩
theorem sp_makeGenerator {K : Type} [F : Lean.Grind.Field K] {en : K → Nat} {al : K} (G : gf_ok K F en al) {k b : Nat} (hk : k ≤ 40) (hb : b < 255) {g0 : Nat → Int32} {post : (Nat → Int32) → Prop} (h : ∀ f : Nat → Int32, (∀ i, i < 41 → f i = nI (en (gp_c al b k i))) → post f) : wp_Mo_makeGenerator g0 (nI k) (nI b) post := by
  have key : ∀ (r j : Nat) (f : Nat → Int32), j ≤ k → k - j < r → (∀ i, i < 41 → f i = nI (en (gp_c al b j i))) → wp_Mo_makeGenerator_L30 post r f (nI k) (nI b) (nI j) := by
    intro r
    induction r with
    | zero => intro j f h1 h2; omega
    | succ r ih =>
      intro j f h1 h2 h3
      refine pk_le k j (fun q => ?_) (fun q => ?_)
      · rw [show j = k by omega] at h3; exact h f h3
      · rw [nI_add]
        refine sp_root G (by omega) ?_
        refine nm_r (nI_1 j) ?_
        have inner : ∀ (i : Nat) (f : Nat → Int32), i ≤ j + 1 → (∀ x, x < 41 → i < x → f x = nI (en (gp_c al b (j + 1) x))) → (∀ x, x ≤ i → f x = nI (en (gp_c al b j x))) → wp_Mo_makeGenerator_L48 post (wp_Mo_makeGenerator_L30 post r) (i + 2) f (nI k) (nI b) (nI j) (nI (en (al ^ (b + j)))) (nI i) := by
          intro i
          induction i with
          | zero =>
            intro f g2 g3 g4
            refine bf (by decide) (bt (by decide) ⟨vp_in_nI (by omega) (by decide), ?_⟩)
            rw [nI_clamp (by omega), g4 0 (Nat.le_refl 0)]
            refine sp_by G _ _ ⟨vp_in_nI (by omega) (by decide), nm_e ?_⟩
            refine bt (by decide) (nm_r (nI_1 j) (ih (j + 1) _ (by omega) (by omega) (fun x hx => ?_)))
            by_cases e : x = 0
            · subst e; rw [pk_us, show (0 : Int32) = nI 0 from rfl, nx_xor, Nat.zero_xor]; rfl
            · rw [pk_un e]; exact g3 x hx (by omega)
          | succ i ihu =>
            intro f g2 g3 g4
            refine bf (pz_lt0 (by omega)) (bf (fun q2 => by have := pz_le (b := 0) (by omega) (by decide) q2; omega) ?_)
            rw [show nI (i + 1) - (1 : Int32) = nI i from nI_pred i, nI_clamp (show i < 2 ^ 31 by omega), g4 i (by omega)]
            refine ⟨vp_in_nI (by omega) (by decide), vp_in_nI (by omega) (by decide), ?_⟩
            rw [nI_clamp (show i + 1 < 2 ^ 31 by omega), g4 (i + 1) (by omega)]
            refine sp_by G _ _ ⟨vp_in_nI (by omega) (by decide), nm_r (pk_m1 i) ?_⟩
            rw [nx_xor, ← gf_add G]
            refine ihu _ (by omega) (fun x hx hx2 => ?_) (fun x hx => ?_)
            · by_cases e : x = i + 1
              · subst e; rw [pk_us]; rfl
              · rw [pk_un e]; exact g3 x hx (by omega)
            · rw [pk_un (by omega)]; exact g4 x (by omega)
        refine ⟨j + 1 + 2, inner (j + 1) f (by omega) (fun x hx hx2 => ?_) (fun x hx => h3 x (by omega))⟩
        rw [h3 x hx, gp_big al b j x (by omega), gp_big al b (j + 1) x (by omega)]
  have zero : ∀ (r i : Nat) (f : Nat → Int32), i ≤ 41 → 41 - i < r → (∀ x, x < i → f x = 0) → wp_Mo_makeGenerator_L2 post r f (nI k) (nI b) (nI i) := by
    intro r
    induction r with
    | zero => intro i f h1 h2; omega
    | succ r ih =>
      intro i f h1 h2 h3
      refine pk_lt 40 i (fun q => ?_) (fun q => ?_)
      · refine ⟨vp_in_nI (n := 0) (by decide) (by decide), k + 1, key (k + 1) 0 _ (by omega) (by omega) (fun i hi => ?_)⟩
        rw [cl0]
        by_cases e : i = 0
        · subst e
          rw [pk_us]
          show (1 : Int32) = nI (en (if 0 = 0 then (1 : K) else 0))
          rw [if_pos rfl, gf_one G]; rfl
        · rw [pk_un e, h3 i (by omega)]
          show (0 : Int32) = nI (en (if i = 0 then (1 : K) else 0))
          rw [if_neg e, gf_zero G]; rfl
      · rw [nI_clamp (by omega)]
        refine ⟨vp_in_nI (by omega) (by decide), nm_r (nI_1 i) (ih (i + 1) _ (by omega) (by omega) (fun x hx => ?_))⟩
        by_cases e : x = i
        · subst e; rw [pk_us]
        · rw [pk_un e]; exact h3 x (by omega)
  exact ⟨42, zero 42 0 g0 (by omega) (by omega) (fun x hx => by omega)⟩
theorem op_generator {K : Type} [F : Lean.Grind.Field K] {en : K → Nat} {al : K} (G : gf_ok K F en al) {Wlc Wd Wr Wf : Int32} {Wb Wl Wfa : Nat → Int32} {Mn Mk Mb : Int32} {Mw Ml : Nat → Int32} (R : RWe F en al Wlc Wd Wr Wf Wb Wl Wfa Mn Mk Mb Mw Ml) (p1 : Int32) {Mg : Nat → Int32} {post : Int32 → Prop} (h : ∀ r : Int32, (∀ post2 : Int32 → (Nat → Int32) → Prop, (∀ g, post2 r g) → wp_Mo_generator Mk Mb Mg p1 post2) → post r) : wp_RS_generator Wr Wfa p1 post := by
  obtain ⟨n, k, b, c, lp, ⟨n1, n2, k2, b2⟩, ⟨rfl, rfl, rfl, rfl⟩, hb, hl, hf, ⟨rfl, rfl, rfl⟩, hb2, hl2⟩ := R
  refine ⟨fun a1 => h _ (fun post2 h2 => bt a1 (h2 _)), fun a1 => ⟨fun a2 => ?_, fun a2 => h _ (fun post2 h2 => bf a1 (bf a2 (h2 _)))⟩⟩
  obtain ⟨i, i1, i2, rfl⟩ := i32_rng (a := 0) (b := k) a1 (fun q => i32_nle.mpr q a2) (by omega) (by decide)
  rw [nI_clamp (by omega), hf i (by omega)]
  refine ⟨vp_in_nI (by omega) (by decide), h _ (fun post2 h2 => bf a1 (bt a2 (sp_makeGenerator G k2 b2 (fun g hg => ⟨vp_in_nI (by omega) (by decide), ?_⟩))))⟩
  rw [nI_clamp (by omega), hg i (by omega)]; exact h2 _
theorem op_put {K : Type} [F : Lean.Grind.Field K] {en : K → Nat} {al : K} (G : gf_ok K F en al) {Wlc Wd Wr Wf : Int32} {Wb Wl Wfa : Nat → Int32} {Mn Mk Mb : Int32} {Mw Ml : Nat → Int32} (R : RWe F en al Wlc Wd Wr Wf Wb Wl Wfa Mn Mk Mb Mw Ml) (p1 p2 : Int32) {post : Int32 → (Nat → Int32) → Prop} (h : ∀ (r : Int32) (Wb' : Nat → Int32), (∀ post2 : Int32 → (Nat → Int32) → Prop, (∀ Mw', RWe F en al Wlc Wd Wr Wf Wb' Wl Wfa Mn Mk Mb Mw' Ml → post2 r Mw') → wp_Mo_put Mn Mk Mw p1 p2 post2) → post r Wb') : wp_RS_put Wd Wr Wb p1 p2 post := by
  have R0 := R
  obtain ⟨n, k, b, c, lp, ⟨n1, n2, k2, b2⟩, ⟨rfl, rfl, rfl, rfl⟩, hb, hl, hf, ⟨rfl, rfl, rfl⟩, hb2, hl2⟩ := R
  refine sp_hasPlace (by omega) (fun i hi e => br1 ?_) (fun hn => br0 (h _ _ (fun post2 h2 => ip0 (by omega) hn (br0 (h2 _ R0)))))
  subst e
  refine sp_Fi_isByte (fun j hj e => bs1 ?_) (fun hn => bs0 (h _ _ (fun post2 h2 => ip1 hi (by omega) (br1 (is0 hn (bs0 (h2 _ R0)))))))
  subst e
  obtain ⟨v, rfl⟩ := gf_of G hj
  refine ⟨vp_in_nI (by omega) (by decide), ?_⟩
  rw [nI_clamp (by omega)]
  refine nm_e ⟨vp_in_nI (by omega) (by decide), h _ _ (fun post2 h2 => ip1 hi (by omega) (br1 (is1 hj (bs1 ⟨vp_in_nI (by omega) (by decide), ?_⟩))))⟩
  rw [nI_clamp (by omega), hb2 i hi, ← hb i hi]
  refine nm_e ⟨vp_in_nI (by omega) (by decide), h2 _ ⟨n, k, b, fun x => if x = i then v else c x, lp, ⟨n1, n2, k2, b2⟩, ⟨rfl, rfl, rfl, rfl⟩, fun x hx => ?_, hl, hf, ⟨rfl, rfl, rfl⟩, fun x hx => ?_, hl2⟩⟩
  · by_cases e : x = i
    · subst e; rw [pk_us]; dsimp only; rw [if_pos rfl]
    · rw [pk_un e]; dsimp only; rw [if_neg e]; exact hb x hx
  · by_cases e : x = i
    · subst e; rw [pk_us]; dsimp only; rw [if_pos rfl]
    · rw [pk_un e]; dsimp only; rw [if_neg e]; exact hb2 x hx
theorem op_at {K : Type} [F : Lean.Grind.Field K] {en : K → Nat} {al : K} (G : gf_ok K F en al) {Wlc Wd Wr Wf : Int32} {Wb Wl Wfa : Nat → Int32} {Mn Mk Mb : Int32} {Mw Ml : Nat → Int32} (R : RWe F en al Wlc Wd Wr Wf Wb Wl Wfa Mn Mk Mb Mw Ml) (p1 : Int32) {post : Int32 → Prop} (h : ∀ (r : Int32), (∀ post2 : Int32 → Prop, post2 r → wp_Mo_at Mn Mk Mw p1 post2) → post r) : wp_RS_at Wd Wr Wb p1 post := by
  obtain ⟨n, k, b, c, lp, ⟨n1, n2, k2, b2⟩, ⟨rfl, rfl, rfl, rfl⟩, hb, hl, hf, ⟨rfl, rfl, rfl⟩, hb2, hl2⟩ := R
  refine sp_hasPlace (by omega) (fun i hi e => br1 ?_) (fun hn => br0 (h _ (fun post2 h2 => ip0 (by omega) hn (br0 h2))))
  subst e
  rw [nI_clamp (by omega), hb i hi, ← hb2 i hi]
  refine ⟨vp_in_nI (by omega) (by decide), h _ (fun post2 h2 => ip1 hi (by omega) (br1 ⟨vp_in_nI (by omega) (by decide), ?_⟩))⟩
  rw [nI_clamp (by omega)]; exact h2
theorem op_lose {K : Type} [F : Lean.Grind.Field K] {en : K → Nat} {al : K} (G : gf_ok K F en al) {Wlc Wd Wr Wf : Int32} {Wb Wl Wfa : Nat → Int32} {Mn Mk Mb : Int32} {Mw Ml : Nat → Int32} (R : RWe F en al Wlc Wd Wr Wf Wb Wl Wfa Mn Mk Mb Mw Ml) (p1 : Int32) {post : Int32 → Int32 → (Nat → Int32) → Prop} (h : ∀ (r Wlc' : Int32) (Wl' : Nat → Int32), (∀ post2 : Int32 → (Nat → Int32) → Prop, (∀ Ml', RWe F en al Wlc' Wd Wr Wf Wb Wl' Wfa Mn Mk Mb Mw Ml' → post2 r Ml') → wp_Mo_lose Mn Mk Ml p1 post2) → post r Wlc' Wl') : wp_RS_lose Wlc Wd Wr Wl p1 post := by
  have R0 := R
  obtain ⟨n, k, b, c, lp, ⟨n1, n2, k2, b2⟩, ⟨rfl, rfl, rfl, rfl⟩, hb, hl, hf, ⟨rfl, rfl, rfl⟩, hb2, hl2⟩ := R
  refine sp_hasPlace (by omega) (fun i hi e => br1 ?_) (fun hn => br0 (h _ _ _ (fun post2 h2 => ip0 (by omega) hn (br0 (h2 _ R0)))))
  subst e
  have q1 := hl i hi
  have q2 := hl2 i hi
  rw [nI_clamp (by omega)]
  refine ⟨vp_in_nI (by omega) (by decide), ?_⟩
  cases hp : lp i with
  | true =>
    rw [hp] at q1 q2
    refine bf (by rw [q1]; decide) (h _ _ _ (fun post2 h2 => ip1 hi (by omega) (br1 ⟨vp_in_nI (by omega) (by decide), ?_⟩)))
    rw [nI_clamp (by omega)]
    exact bf (by rw [q2]; decide) (h2 _ R0)
  | false =>
    rw [hp] at q1 q2
    refine bt (by rw [q1]; rfl) ⟨vp_in_nI (by omega) (by decide), nm_r (nI_1 _) (h _ _ _ (fun post2 h2 => ip1 hi (by omega) (br1 ⟨vp_in_nI (by omega) (by decide), ?_⟩)))⟩
    rw [nI_clamp (by omega)]
    refine bt (by rw [q2]; rfl) ⟨vp_in_nI (by omega) (by decide), ?_⟩
    have z1 : zB (upd Wl i 1) (fun x => if x = i then true else lp x) (n + k) := upd_z hl true
    have z2 : zB (upd Ml i 1) (fun x => if x = i then true else lp x) (n + k) := upd_z hl2 true
    have hc : cn (fun x => if x = i then true else lp x) (n + k) = cn lp (n + k) + 1 := by rw [cn_set hp, if_pos hi]
    have fin := h2 (upd Ml i 1) ⟨n, k, b, c, fun x => if x = i then true else lp x, ⟨n1, n2, k2, b2⟩, ⟨by rw [hc], rfl, rfl, rfl⟩, hb, z1, hf, ⟨rfl, rfl, rfl⟩, hb2, z2⟩
    have key : ∀ (r j : Nat), j ≤ n + k → n + k - j < r → wp_Mo_lose_L30 (nI n) (nI k) post2 r (upd Ml i 1) (nI (cn (fun x => if x = i then true else lp x) j)) (nI j) := by
      intro r
      induction r with
      | zero => intro j g1 g2; omega
      | succ r ih =>
        intro j g1 g2
        show wp_Mo_lose_b30 (nI n) (nI k) post2 _ _ _ _
        unfold wp_Mo_lose_b30
        rw [nI_add]
        refine pk_le (n + k) j (fun q => ?_) (fun q => ?_)
        · rw [show j = n + k by omega, hc]; exact fin
        · rw [nI_clamp (show j < 2 ^ 31 by omega)]
          refine ⟨vp_in_nI (by omega) (by decide), ?_⟩
          have ih' := ih (j + 1) (by omega) (by omega)
          cases hj : (if j = i then true else lp j) with
          | true =>
            rw [cn_t (p := fun x => if x = i then true else lp x) hj] at ih'
            exact bf (by rw [zB_t z2 q hj]; decide) (nm_r (nI_1 _) (nm_r (nI_1 j) ih'))
          | false =>
            rw [cn_f (p := fun x => if x = i then true else lp x) hj] at ih'
            exact bt (zB_f z2 q hj) (nm_r (nI_add _ 0) (nm_r (nI_1 j) ih'))
    exact ⟨n + k + 1, key (n + k + 1) 0 (by omega) (by omega)⟩
theorem vn_z {b : Bool} : vp_nar .boolean (if b then (1 : Int32) else 0) = if b then 1 else 0 := by cases b <;> rfl
theorem sp_bringWord {K : Type} {en : K → Nat} {n k b : Nat} (hN : n + k ≤ 240) {c : Nat → K} {lp : Nat → Bool} {Mw Ml : Nat → Int32} (hb : ∀ i, i < n + k → Mw i = nI (en (c i))) (hl : zB Ml lp (n + k)) {z1 z2 z3 : Int32} {a1 a2 : Nat → Int32} {post : Int32 → Int32 → Int32 → (Nat → Int32) → (Nat → Int32) → Prop} (h : ∀ w l : Nat → Int32, (∀ i, i < n + k → w i = nI (en (c i))) → zB l lp (n + k) → post (nI (n + k)) (nI k) (nI b) w l) : wp_Mo_bringWord (nI n) (nI k) (nI b) z1 z2 z3 Mw Ml a1 a2 post := by
  refine nm_r (nI_add n k) ?_
  have key : ∀ (r i : Nat) (w l : Nat → Int32), i ≤ n + k → n + k - i < r → (∀ x, x < i → w x = nI (en (c x))) → zB l lp i → wp_Mo_bringWord_L31 (nI n) (nI k) (nI b) Mw Ml post r (nI (n + k)) (nI k) (nI b) w l (nI i) := by
    intro r
    induction r with
    | zero => intro i w l g1 g2; omega
    | succ r ih =>
      intro i w l g1 g2 g3 g4
      refine pk_le (n + k) i (fun q => ?_) (fun q => ?_)
      · rw [show i = n + k by omega] at g3 g4; exact h w l g3 g4
      · rw [nI_clamp (by omega)]
        refine ⟨vp_in_nI (by omega) (by decide), vp_in_nI (by omega) (by decide), vp_in_nI (by omega) (by decide), vp_in_nI (by omega) (by decide), nm_r (nI_1 i) ?_⟩
        refine ih (i + 1) _ _ (by omega) (by omega) (fun x hx => ?_) (fun x hx => ?_)
        · by_cases e : x = i
          · subst e; rw [pk_us]; exact hb x q
          · rw [pk_un e]; exact g3 x (by omega)
        · by_cases e : x = i
          · subst e; rw [pk_us, hl x q, vn_z]
          · rw [pk_un e]; exact g4 x (by omega)
  exact ⟨n + k + 1, key (n + k + 1) 0 a1 a2 (by omega) (by omega) (fun x hx => by omega) (fun x hx => by omega)⟩
theorem op_syndrome {K : Type} [F : Lean.Grind.Field K] {en : K → Nat} {al : K} (G : gf_ok K F en al) {Fp Fl : Nat → Int32} (T : ft_ok Fp Fl) {Wlc Wd Wr Wf : Int32} {Wb Wl Wfa : Nat → Int32} {Mn Mk Mb : Int32} {Mw Ml : Nat → Int32} (R : RWe F en al Wlc Wd Wr Wf Wb Wl Wfa Mn Mk Mb Mw Ml) (p1 : Int32) {z1 z2 z3 : Int32} {a1 a2 : Nat → Int32} {post : Int32 → Prop} (h : ∀ (r : Int32), (∀ post2 : Int32 → Int32 → Int32 → Int32 → (Nat → Int32) → (Nat → Int32) → Prop, (∀ (y1 y2 y3 : Int32) (b1 b2 : Nat → Int32), post2 r y1 y2 y3 b1 b2) → wp_Mo_syndrome Mn Mk Mb z1 z2 z3 Mw Ml a1 a2 p1 post2) → post r) : wp_RS_syndrome Fp Fl Wd Wr Wf Wb Wl p1 post := by
  obtain ⟨n, k, b, c, lp, ⟨n1, n2, k2, b2⟩, ⟨rfl, rfl, rfl, rfl⟩, hb, hl, hf, ⟨rfl, rfl, rfl⟩, hb2, hl2⟩ := R
  refine ⟨fun q1 => h _ (fun post2 h2 => bt q1 (h2 _ _ _ _ _)), fun q1 => ⟨fun q2 => ?_, fun q2 => h _ (fun post2 h2 => bf q1 (bf q2 (h2 _ _ _ _ _)))⟩⟩
  obtain ⟨i, hi, rfl⟩ := nI_of q1
  have hik := pz_lt hi (by omega) q2
  rw [nI_add]
  refine sp_valueFor G T (by omega) hb hl (m := b + i) (nI_255 _ (by omega)) (h _ (fun post2 h2 => bf q1 (bt q2 (sp_bringWord (by omega) hb2 hl2 (fun w l hw hlw => ?_)))))
  rw [nI_add]
  exact sp_root G (by omega) (sp_valueAt G (by omega) hw hlw _ (h2 _ _ _ _ _))
theorem op_changed {Cc : Int32} {Cp Cd : Nat → Int32} {Mc : Int32} {Mp Mb : Nat → Int32} (R : RC Cc Cp Cd Mc Mp Mb) (p1 p2 : Int32) {post : Int32 → Prop} (h : ∀ (r : Int32), (∀ post2 : Int32 → Prop, post2 r → wp_Mo_changed Mc Mp Mb p1 p2 post2) → post r) : wp_RS_changed Cc Cp Cd p1 p2 post := by
  obtain ⟨q, q40, rfl, rfl, hq⟩ := R
  refine ⟨fun a1 => h _ (fun post2 h2 => bt a1 h2), fun a1 => ⟨fun a2 => ?_, fun a2 => h _ (fun post2 h2 => bf a1 (bt (Classical.byContradiction fun q2 => a2 (i32_nle.mp q2)) h2))⟩⟩
  obtain ⟨i, hi, rfl⟩ := nI_of a1
  have hik := pz_lt hi (by omega) a2
  have a2' : ¬ nI q ≤ nI i := i32_nle.mpr a2
  rw [nI_clamp hi, (hq i hik).1, (hq i hik).2]
  refine ⟨fun a3 => ⟨fun a4 => h _ (fun post2 h2 => bf a1 (bf a2' ?_)), fun a4 => ?_⟩, fun a3 => ?_⟩
  · refine ⟨fun _ => h2, fun a5 => ⟨fun a6 => ?_, fun _ => h2⟩⟩
    exfalso
    obtain ⟨j, j1, j2, rfl⟩ := i32_rng (a := 0) (b := 1) a5 (fun q => i32_nle.mpr q a6) (by decide) (by decide)
    rcases Nat.eq_zero_or_pos j with e | e
    · subst e; exact a3 rfl
    · rw [show j = 1 by omega] at a4; exact a4 rfl
  · refine ⟨vp_in_nI (by omega) (by decide), h _ (fun post2 h2 => bf a1 (bf a2' (bf (by rw [a4]; decide) (bt (by rw [a4]; decide) (bf' a3 ⟨vp_in_nI (by omega) (by decide), ?_⟩)))))⟩
    rw [nI_clamp hi]; exact h2
  · refine ⟨vp_in_nI (by omega) (by decide), h _ (fun post2 h2 => bf a1 (bf a2' (bf (by rw [a3]; decide) (bt (by rw [a3]; decide) (bt' a3 ⟨vp_in_nI (by omega) (by decide), ?_⟩)))))⟩
    rw [nI_clamp hi]; exact h2
