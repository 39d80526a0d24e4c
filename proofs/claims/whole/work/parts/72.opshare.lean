/-! The shares: shares, share, drop. -/
theorem op_shares {K : Type} [F : Lean.Grind.Field K] {en : K → Nat} {al : K} (G : gf_ok K F en al) {Hn Hw Hc : Int32} {Hv Ht : Nat → Int32} {Md Mw Mc : Int32} {Mt Ms : Nat → Int32} (R : RHe F en Hn Hw Hc Hv Ht Md Mw Mc Mt Ms) (p1 p2 : Int32) {post : Int32 → Int32 → Int32 → Int32 → (Nat → Int32) → Prop} (h : ∀ (r Hn' Hw' Hc' : Int32) (Ht' : Nat → Int32), (∀ post2 : Int32 → Int32 → Int32 → Int32 → (Nat → Int32) → Prop, (∀ (Md' Mw' Mc' : Int32) (Mt' : Nat → Int32), RHe F en Hn' Hw' Hc' Hv Ht' Md' Mw' Mc' Mt' Ms → post2 r Md' Mw' Mc' Mt') → wp_Mo_shares Md Mw Mc Mt p1 p2 post2) → post r Hn' Hw' Hc' Ht') : wp_RS_shares Hn Hw Hc Ht p1 p2 post := by
  have no : (∀ post2 : Int32 → Int32 → Int32 → Int32 → (Nat → Int32) → Prop, post2 (-1) Md Mw Mc Mt → wp_Mo_shares Md Mw Mc Mt p1 p2 post2) → post (-1) Hn Hw Hc Ht := fun q => h _ _ _ _ _ (fun post2 h2 => q post2 (h2 _ _ _ _ R))
  refine ⟨fun a1 => no (fun post2 h2 => bt a1 h2), fun a1 => ⟨fun a2 => no (fun post2 h2 => bf a1 (bt a2 h2)), fun a2 => ⟨fun a3 => no (fun post2 h2 => bf a1 (bf a2 (bt a3 h2))), fun a3 => ⟨fun a4 => ?_, fun a4 => no (fun post2 h2 => bf a1 (bf a2 (bf a3 (bf a4 h2))))⟩⟩⟩⟩
  obtain ⟨d, d1, d2, rfl⟩ := i32_rng (a := 1) (b := 20) a1 a2 (by decide) (by decide)
  obtain ⟨w, w1, w2, rfl⟩ := i32_rng (a := 1) (b := 16) a3 (fun q => i32_nle.mpr q a4) (by decide) (by decide)
  have key : ∀ (r i : Nat) (f : Nat → Int32), i ≤ 256 → 256 - i < r → (∀ z, z < i → f z = 0) → wp_Sh_start_L17 (fun a b c e => post 1 a b c e) r (nI d) (nI w) 0 f (nI i) := by
    intro r
    induction r with
    | zero => intro i f g1 g2; omega
    | succ r ih =>
      intro i f g1 g2 g3
      refine pk_le 256 i (fun q => ?_) (fun q => ?_)
      · refine h _ _ _ _ _ (fun post2 h2 => bf a1 (bf a2 (bf a3 (bt a4 ?_))))
        have key2 : ∀ (r i : Nat) (f2 : Nat → Int32), i ≤ 256 → 256 - i < r → (∀ z, z < i → f2 z = 0) → wp_Mo_shares_L41 post2 r (nI d) (nI w) 0 f2 (nI i) := by
          intro r
          induction r with
          | zero => intro i f g1 g2; omega
          | succ r ih =>
            intro i f2 c1 c2 c3
            refine pk_le 256 i (fun q => ?_) (fun q => ?_)
            · obtain ⟨_, _, _, v, _⟩ := R
              exact h2 _ _ _ _ ⟨d, w, fun _ => false, v, ⟨d1, d2, w1, w2⟩, ⟨rfl, rfl, by rw [cn_z]; rfl, rfl, rfl, by rw [cn_z]; rfl⟩, fun z hz => g3 z (by omega), fun z hz => c3 z (by omega), fun x hx q => by cases q⟩
            · rw [nI_clamp (by omega)]
              refine ⟨vp_in_nI q (by decide), nm_r (nI_1 i) (ih (i + 1) _ (by omega) (by omega) (fun z hz => ?_))⟩
              by_cases e : z = i
              · subst e; rw [pk_us]
              · rw [pk_un e]; exact c3 z (by omega)
        exact ⟨_, key2 257 0 Mt (by omega) (by omega) (fun z hz => by omega)⟩
      · rw [nI_clamp (by omega)]
        refine ⟨vp_in_nI q (by decide), nm_r (nI_1 i) (ih (i + 1) _ (by omega) (by omega) (fun z hz => ?_))⟩
        by_cases e : z = i
        · subst e; rw [pk_us]
        · rw [pk_un e]; exact g3 z (by omega)
  exact ⟨_, key 257 0 Ht (by omega) (by omega) (fun z hz => by omega)⟩
theorem sp_shPlace {w : Nat} (hw : w < 2 ^ 31) {p : Int32} {post : Int32 → Prop} (h1 : ∀ j : Nat, j < w → p = nI j → post 1) (h0 : (p < 0 ∨ ¬ p < 0 ∧ nI w ≤ p) → post 0) : wp_Sh_hasPlace (nI w) p post := by
  rcases pz_cases p w hw with ⟨c, q⟩ | ⟨c, d, q⟩ | ⟨j, hj, e⟩
  · exact bt c ⟨rfl, h0 (Or.inl c)⟩
  · exact bf c (bt d ⟨rfl, h0 (Or.inr ⟨c, d⟩)⟩)
  · subst e
    exact bf (pz_lt0 (by omega)) (bf (fun q => by have := pz_le hw (by omega) q; omega) ⟨rfl, h1 j hj rfl⟩)
theorem op_share {K : Type} [F : Lean.Grind.Field K] {en : K → Nat} {al : K} (G : gf_ok K F en al) {Hn Hw Hc : Int32} {Hv Ht : Nat → Int32} {Md Mw Mc : Int32} {Mt Ms : Nat → Int32} (R : RHe F en Hn Hw Hc Hv Ht Md Mw Mc Mt Ms) (p1 p2 p3 : Int32) {post : Int32 → Int32 → (Nat → Int32) → (Nat → Int32) → Prop} (h : ∀ (r Hc' : Int32) (Hv' Ht' : Nat → Int32), (∀ post2 : Int32 → Int32 → (Nat → Int32) → (Nat → Int32) → Prop, (∀ (Mc' : Int32) (Mt' Ms' : Nat → Int32), RHe F en Hn Hw Hc' Hv' Ht' Md Mw Mc' Mt' Ms' → post2 r Mc' Mt' Ms') → wp_Mo_share Mw Mc Mt Ms p1 p2 p3 post2) → post r Hc' Hv' Ht') : wp_RS_share Hw Hc Hv Ht p1 p2 p3 post := by
  have R0 := R
  obtain ⟨d, w, told, v, ⟨d1, d2, w1, w2⟩, ⟨rfl, rfl, rfl, rfl, rfl, rfl⟩, ht1, ht2, hv⟩ := R
  have hcn := cn_id told 256
  refine sp_Fi_isByte (fun x hx e => br1 ?_) (fun hn => br0 (h _ _ _ _ (fun post2 h2 => is0 hn (br0 (h2 _ _ _ R0)))))
  subst e
  refine sp_shPlace (by omega) (fun i hi e => br1 ?_) (fun hn => br0 (h _ _ _ _ (fun post2 h2 => is1 hx (br1 ?_))))
  · subst e
    have i1 : ¬ nI i < 0 := pz_lt0 (by omega)
    have i2 : ¬ nI w ≤ nI i := fun q => by have := pz_le (by omega) (by omega) q; omega
    refine sp_Fi_isByte (fun j hj e => bs1 ?_) (fun hn => bs0 (h _ _ _ _ (fun post2 h2 => is1 hx (br1 (bf i1 (bf i2 (is0 hn (bs0 (h2 _ _ _ R0)))))))))
    subst e
    obtain ⟨y, rfl⟩ := gf_of G hj
    refine nm_r (e' := nI (16 * x)) (by rw [show (16 : Int32) = nI 16 from rfl, pk_mul, Nat.mul_comm]) ⟨vp_in_nI hx (by decide), ?_⟩
    rw [nI_clamp (show x < 2 ^ 31 by omega)]
    have m16 : (16 : Int32) * nI x = nI (16 * x) := pk_mul 16 x
    -- the new values
    obtain ⟨v2, hv2⟩ : ∃ v2 : Nat → Nat → K, v2 = fun x' i' => if x' = x then (if i' = i then y else if told x = true then v x i' else 0) else v x' i' := ⟨_, rfl⟩
    have upd_ok : ∀ (f : Nat → Int32) (x' i' : Nat), x' < 256 → i' < 16 → (x' = x ∨ told x' = true) → f (16 * x' + i') = nI (en (if x' = x then (if told x = true then v x i' else 0) else v x' i')) → upd f (16 * x + i) (nI (en y)) (16 * x' + i') = nI (en (v2 x' i')) := fun f x' i' hx' hi' ht hf => by
      rw [hv2]
      dsimp only
      by_cases e : x' = x
      · subst e
        rw [if_pos rfl]
        by_cases e2 : i' = i
        · subst e2; rw [pk_us, if_pos rfl]
        · rw [pk_un (by omega), if_neg e2, hf, if_pos rfl]
      · rw [pk_un (by omega), if_neg e, hf, if_neg e]
    cases hp : told x with
    | true =>
      refine bf' (by rw [zB_t ht1 hx hp]; decide) ?_
      unfold wp_Sh_tell_b47
      rw [nI_add, nI_clamp (show 16 * x + i < 2 ^ 31 by omega)]
      refine ⟨vp_in_nI (by omega) (by decide), h _ _ _ _ (fun post2 h2 => is1 hx (br1 (bf i1 (bf i2 (is1 hj (bs1 ⟨vp_in_nI hx (by decide), ?_⟩))))))⟩
      rw [nI_clamp (show x < 2 ^ 31 by omega)]
      refine bf' (by rw [zB_t ht2 hx hp]; decide) ?_
      unfold wp_Mo_share_b83
      rw [m16, nI_add, nI_clamp (show 16 * x + i < 2 ^ 31 by omega)]
      refine ⟨vp_in_nI (by omega) (by decide), h2 _ _ _ ⟨d, w, told, v2, ⟨d1, d2, w1, w2⟩, ⟨rfl, rfl, rfl, rfl, rfl, rfl⟩, ht1, ht2, fun x' hx' ht' i' hi' => ⟨upd_ok _ x' i' hx' hi' (Or.inr ht') ?_, upd_ok _ x' i' hx' hi' (Or.inr ht') ?_⟩⟩⟩
      · rw [(hv x' hx' ht' i' hi').1]
        by_cases e : x' = x
        · subst e; rw [if_pos rfl, if_pos hp]
        · rw [if_neg e]
      · rw [(hv x' hx' ht' i' hi').2]
        by_cases e : x' = x
        · subst e; rw [if_pos rfl, if_pos hp]
        · rw [if_neg e]
    | false =>
      have hpn : ¬ told x = true := by rw [hp]; exact Bool.false_ne_true
      refine bt' (zB_f ht1 hx hp) ?_
      rw [show (16 : Int32) = nI 16 from rfl, nI_add]
      refine sp_fill4 (by decide) (by omega) (by omega) (fun f hf1 hf2 hf3 => ?_)
      refine ⟨vp_in_nI hx (by decide), nm_r (nI_1 _) ?_⟩
      unfold wp_Sh_tell_b47
      rw [nI_add, nI_clamp (show 16 * x + i < 2 ^ 31 by omega)]
      refine ⟨vp_in_nI (by omega) (by decide), h _ _ _ _ (fun post2 h2 => is1 hx (br1 (bf i1 (bf i2 (is1 hj (bs1 ⟨vp_in_nI hx (by decide), ?_⟩))))))⟩
      rw [nI_clamp (show x < 2 ^ 31 by omega)]
      refine bt' (zB_f ht2 hx hp) ⟨vp_in_nI hx (by decide), nm_r (nI_1 _) ?_⟩
      have z1 : zB (upd Ht x 1) (fun z => if z = x then true else told z) 256 := upd_z ht1 true
      have z2 : zB (upd Mt x 1) (fun z => if z = x then true else told z) 256 := upd_z ht2 true
      have hc : cn (fun z => if z = x then true else told z) 256 = cn told 256 + 1 := by rw [cn_set hp, if_pos hx]
      have key : ∀ (r j : Nat) (g : Nat → Int32), j ≤ 16 → 16 - j < r → (∀ z, z < j → g (16 * x + z) = 0) → (∀ z, (z < 16 * x ∨ 16 * x + 16 ≤ z) → g z = Ms z) → wp_Mo_share_L57 (nI w) post2 r (nI (cn told 256 + 1)) (upd Mt x 1) g (nI x) (nI i) (nI (en y)) (nI j) := by
        intro r
        induction r with
        | zero => intro j g g1 g2; omega
        | succ r ih =>
          intro j g g1 g2 g3 g4
          refine pk_le 16 j (fun q => ?_) (fun q => ?_)
          · unfold wp_Mo_share_b83
            rw [m16, nI_add, nI_clamp (show 16 * x + i < 2 ^ 31 by omega)]
            refine ⟨vp_in_nI (by omega) (by decide), h2 _ _ _ ⟨d, w, fun z => if z = x then true else told z, v2, ⟨d1, d2, w1, w2⟩, ⟨rfl, rfl, by rw [hc], rfl, rfl, by rw [hc]⟩, z1, z2, fun x' hx' ht' i' hi' => ?_⟩⟩
            have ht'' : x' = x ∨ told x' = true := by
              by_cases e : x' = x
              · exact Or.inl e
              · right
                dsimp only at ht'
                rw [if_neg e] at ht'; exact ht'
            refine ⟨upd_ok _ x' i' hx' hi' ht'' ?_, upd_ok _ x' i' hx' hi' ht'' ?_⟩
            · by_cases e : x' = x
              · subst e
                rw [hf1 _ (by omega) (by omega), if_pos rfl, if_neg hpn, gf_zero G]; rfl
              · rw [if_neg e, ← (hv x' hx' (ht''.resolve_left e) i' hi').1]
                rcases Nat.lt_or_ge x' x with q2 | q2
                · exact hf2 _ (by omega)
                · exact hf3 _ (by omega)
            · by_cases e : x' = x
              · subst e
                rw [g3 _ (by omega), if_pos rfl, if_neg hpn, gf_zero G]; rfl
              · rw [if_neg e, ← (hv x' hx' (ht''.resolve_left e) i' hi').2]
                exact g4 _ (by omega)
          · rw [m16, nI_add, nI_clamp (show 16 * x + j < 2 ^ 31 by omega)]
            refine ⟨vp_in_nI (by omega) (by decide), nm_r (nI_1 j) (ih (j + 1) _ (by omega) (by omega) (fun z hz => ?_) (fun z hz => ?_))⟩
            · by_cases e : z = j
              · subst e; rw [pk_us]
              · rw [pk_un (by omega)]; exact g3 z (by omega)
            · rw [pk_un (by omega)]; exact g4 z hz
      exact ⟨_, key 17 0 Ms (by omega) (by omega) (fun z hz => by omega) (fun z hz => rfl)⟩
  · rcases hn with q | ⟨q, q2⟩
    · exact bt q (h2 _ _ _ R0)
    · exact bf q (bt q2 (h2 _ _ _ R0))
theorem op_drop {K : Type} [F : Lean.Grind.Field K] {en : K → Nat} {al : K} (G : gf_ok K F en al) {Hn Hw Hc : Int32} {Hv Ht : Nat → Int32} {Md Mw Mc : Int32} {Mt Ms : Nat → Int32} (R : RHe F en Hn Hw Hc Hv Ht Md Mw Mc Mt Ms) (p1 : Int32) {post : Int32 → Int32 → (Nat → Int32) → Prop} (h : ∀ (r Hc' : Int32) (Ht' : Nat → Int32), (∀ post2 : Int32 → Int32 → (Nat → Int32) → Prop, (∀ (Mc' : Int32) (Mt' : Nat → Int32), RHe F en Hn Hw Hc' Hv Ht' Md Mw Mc' Mt' Ms → post2 r Mc' Mt') → wp_Mo_drop Mc Mt p1 post2) → post r Hc' Ht') : wp_RS_drop Hc Ht p1 post := by
  have R0 := R
  obtain ⟨d, w, told, v, ⟨d1, d2, w1, w2⟩, ⟨rfl, rfl, rfl, rfl, rfl, rfl⟩, ht1, ht2, hv⟩ := R
  refine sp_Fi_isByte (fun x hx e => br1 ?_) (fun hn => br0 (h _ _ _ (fun post2 h2 => is0 hn (br0 (h2 _ _ R0)))))
  subst e
  rw [nI_clamp (by omega)]
  refine ⟨vp_in_nI hx (by decide), ?_⟩
  cases hp : told x with
  | false =>
    refine bt' (zB_f ht1 hx hp) (h _ _ _ (fun post2 h2 => is1 hx (br1 ⟨vp_in_nI hx (by decide), ?_⟩)))
    rw [nI_clamp (by omega)]
    exact bt' (zB_f ht2 hx hp) (h2 _ _ R0)
  | true =>
    have hc := cn_clr (p := told) (j := x) hp 256
    rw [if_pos hx] at hc
    have hcm : nI (cn told 256) - (1 : Int32) = nI (cn (fun z => if z = x then false else told z) 256) := by rw [hc]; exact nI_pred _
    refine bf' (by rw [zB_t ht1 hx hp]; decide) ⟨vp_in_nI hx (by decide), nm_r hcm (h _ _ _ (fun post2 h2 => is1 hx (br1 ⟨vp_in_nI hx (by decide), ?_⟩)))⟩
    rw [nI_clamp (by omega)]
    refine bf' (by rw [zB_t ht2 hx hp]; decide) ⟨vp_in_nI hx (by decide), nm_r hcm (h2 _ _ ⟨d, w, fun z => if z = x then false else told z, v, ⟨d1, d2, w1, w2⟩, ⟨rfl, rfl, rfl, rfl, rfl, rfl⟩, upd_z ht1 false, upd_z ht2 false, fun x' hx' ht' i' hi' => hv x' hx' ?_ i' hi'⟩)⟩
    dsimp only at ht'
    by_cases e : x' = x
    · rw [if_pos e] at ht'; cases ht'
    · rw [if_neg e] at ht'; exact ht'
