/-! mend, whole. -/
def md_run {K : Type} [Lean.Grind.Field K] (en : K → Nat) (al : K) (m s k b : Nat) : Nat → Nat → Nat → (Nat → K) → (Nat → Bool) → Int32 → (Nat → K) → (Nat → Bool) → Prop
  | 0, _, acc, x, lp, R, x', lp' => R = nI acc ∧ x' = x ∧ lp' = lp
  | q + 1, r, acc, x, lp, R, x', lp' => (∃ t e, md_good en al m s k b r x lp t e ∧ md_run en al m s k b q (r + 1) (acc + t) (md_x m s r x lp e) (md_l m s r lp) R x' lp') ∨ ((∀ t e, ¬ md_good en al m s k b r x lp t e) ∧ R = (-2 : Int32) - nI r ∧ x' = x ∧ lp' = lp)
theorem md_same {K : Type} [F : Lean.Grind.Field K] {en : K → Nat} {al : K} (G : gf_ok K F en al) {m s k b r : Nat} (hs : 1 ≤ s) (hlg : (m + s - 1) / s + k ≤ 240) {x : Nat → K} {lp : Nat → Bool} {t t' : Nat} {e e' : Nat → K} (h : md_good en al m s k b r x lp t e) (h' : md_good en al m s k b r x lp t' e') : t = t' ∧ ∀ i, i < m + s * k → md_x m s r x lp e i = md_x m s r x lp e' i := by
  have h1 := er_one G hlg h.1 h'.1
  refine ⟨h1.1, fun i hi => ?_⟩
  unfold md_x
  by_cases er : rw_ m s i = r
  · rw [if_pos er, if_pos er, h1.2]
    rcases Nat.lt_or_ge i m with q3 | q3
    · have := (ps_data hs q3).1; omega
    · have := (ps_rep (k := k) hs q3 hi).1; omega
  · rw [if_neg er, if_neg er]
theorem op_mend {K : Type} [F : Lean.Grind.Field K] {en : K → Nat} {al : K} (G : gf_ok K F en al) {Fp Fl : Nat → Int32} (T : ft_ok Fp Fl) {Vd Vr Vf : Int32} {Vfa : Nat → Int32} {Pz Ps Pc : Int32} {Pb Po Pl Pcu : Nat → Int32} {Mz Ml Ms Mlg Mlr Mlf : Int32} {Mbk Msn Mas Msl : Nat → Int32} (R : RBe F en al Vd Vr Vf Vfa Pz Ps Pc Pb Po Pl Pcu Mz Ml Ms Mlg Mlr Mlf Mbk Msn Mas Msl) {s0 : Int32} {s1 s2 s3 s4 s5 s6 s7 : Nat → Int32} {Vlc : Int32} {Vb Vl : Nat → Int32} {t1 t2 t3 t4 : Int32} {u1 u2 u3 u4 u5 u6 u7 : Nat → Int32} {post : Int32 → Int32 → (Nat → Int32) → (Nat → Int32) → (Nat → Int32) → (Nat → Int32) → (Nat → Int32) → (Nat → Int32) → (Nat → Int32) → Int32 → (Nat → Int32) → (Nat → Int32) → (Nat → Int32) → (Nat → Int32) → Prop}
    (h : ∀ (r y0 : Int32) (y1 y2 y3 y4 y5 y6 y7 : Nat → Int32) (Vlc' : Int32) (Vb' Vl' Pl' Pcu' : Nat → Int32), (∀ post2 : Int32 → Int32 → Int32 → Int32 → Int32 → (Nat → Int32) → (Nat → Int32) → (Nat → Int32) → (Nat → Int32) → (Nat → Int32) → (Nat → Int32) → (Nat → Int32) → (Nat → Int32) → (Nat → Int32) → Prop, (∀ (v1 v2 v3 v4 : Int32) (x1 x2 x3 x4 x5 x6 x7 Msn' Msl' : Nat → Int32), RBe F en al Vd Vr Vf Vfa Pz Ps Pc Pb Po Pl' Pcu' Mz Ml Ms Mlg Mlr Mlf Mbk Msn' Mas Msl' → post2 r v1 v2 v3 v4 x1 x2 x3 x4 x5 x6 x7 Msn' Msl') → wp_Mo_mend t1 t2 t3 t4 Mz Ml Ms Mlg Mlr Mlf u1 u2 u3 u4 u5 u6 u7 Msn Msl post2) → post r y0 y1 y2 y3 y4 y5 y6 y7 Vlc' Vb' Vl' Pl' Pcu') : wp_RS_mend Fp Fl s0 s1 s2 s3 s4 s5 s6 s7 Vlc Vd Vr Vf Vb Vl Pz Ps Pl Pcu post := by
  have R0 := R
  obtain ⟨m, u, ⟨hm, rfl, rfl, hb, hb2⟩, ⟨rfl, rfl, rfl⟩ | ⟨s, k, b, x, y, lp, ⟨s1', s2', s3', s4', k2, b2⟩, ⟨rfl, rfl, rfl, hfa⟩, ⟨rfl, rfl⟩, ⟨rfl, rfl, rfl, rfl, rfl⟩, hx, hl1, hl2⟩⟩ := R
  · exact bt (by decide) ⟨rfl, br0 (h _ _ _ _ _ _ _ _ _ _ _ _ _ _ (fun post2 h2 => bt' rfl (h2 _ _ _ _ _ _ _ _ _ _ _ _ _ R0)))⟩
  · refine bf (nI_nle (by omega) (by omega)) ⟨rfl, br1 ?_⟩
    -- the reference follows
    have ref : ∀ (Rr : Int32) (x' : Nat → K) (lp' : Nat → Bool), ∀ post2 : Int32 → Int32 → Int32 → Int32 → Int32 → (Nat → Int32) → (Nat → Int32) → (Nat → Int32) → (Nat → Int32) → (Nat → Int32) → (Nat → Int32) → (Nat → Int32) → (Nat → Int32) → (Nat → Int32) → Prop, (∀ (v1 v2 v3 v4 : Int32) (x1 x2 x3 x4 x5 x6 x7 Msn' Msl' : Nat → Int32), (∀ i, i < m + s * k → Msn' i = nI (en (x' i))) → zB Msl' lp' (m + s * k) → post2 Rr v1 v2 v3 v4 x1 x2 x3 x4 x5 x6 x7 Msn' Msl') → ∀ (q r acc : Nat) (x : Nat → K) (lp : Nat → Bool) (v1 v2 v3 v4 : Int32) (x1 x2 x3 x4 x5 x6 x7 sn sl : Nat → Int32), r + q = s → md_run en al m s k b q r acc x lp Rr x' lp' → (∀ i, i < m + s * k → sn i = nI (en (x i))) → zB sl lp (m + s * k) → wp_Mo_mend_L13 (nI m) 1 (nI s) (nI ((m + s - 1) / s)) (nI k) (nI b) post2 (q + 1) v1 v2 v3 v4 x1 x2 x3 x4 x5 x6 x7 sn sl (nI acc) (nI r) := by
      intro Rr x' lp' post2 h2 q
      induction q with
      | zero =>
        intro r acc x lp v1 v2 v3 v4 x1 x2 x3 x4 x5 x6 x7 sn sl hr hrun hsn hsl
        obtain ⟨rfl, rfl, rfl⟩ := hrun
        exact bt (nI_le (by omega) (by omega)) (h2 _ _ _ _ _ _ _ _ _ _ _ _ _ hsn hsl)
      | succ q ih =>
        intro r acc x lp v1 v2 v3 v4 x1 x2 x3 x4 x5 x6 x7 sn sl hr hrun hsn hsl
        refine pk_le s r (fun q2 => by omega) (fun q2 => ?_)
        refine sp_rMend G hm s1' s2' s3' s4' q2 k2 b2 hsn hsl (fun t e hg y1 y2 y3 y0 b1 b2 b3 b4 b5 b6 b7 Ms' Ml' hMs hMl => ?_) (fun hno y1 y2 y3 y0 b1 b2 b3 b4 b5 b6 b7 => ?_)
        · rcases hrun with ⟨t', e', hg', hrun'⟩ | ⟨hn, _⟩
          · have hsame := md_same G s1' (by omega) hg hg'
            have ht := hg.1.2.1
            refine bt (nI_pos' (by omega)) (nm_r (nI_add acc t) (nm_r (nI_1 r) ?_))
            rw [hsame.1]
            exact ih (r + 1) (acc + t') _ _ _ _ _ _ _ _ _ _ _ _ _ _ _ (by omega) hrun' (fun i hi => by rw [hMs i hi, hsame.2 i hi]) hMl
          · exact absurd hg (hn t e)
        · rcases hrun with ⟨t', e', hg', hrun'⟩ | ⟨hn, rfl, rfl, rfl⟩
          · exact absurd hg' (hno t' e')
          · exact bf (by decide) (h2 _ _ _ _ _ _ _ _ _ _ _ _ _ hsn hsl)
    have fin : ∀ (Rr : Int32) (x' : Nat → K) (lp' : Nat → Bool), md_run en al m s k b s 0 0 x lp Rr x' lp' → ∀ (y0 : Int32) (y1 y2 y3 y4 y5 y6 y7 : Nat → Int32) (Vlc' : Int32) (Vb' Vl' Pl' Pcu' : Nat → Int32), (∀ i, i < m + s * k → Pcu' i = nI (en (x' i))) → zB Pl' lp' (m + s * k) → post Rr y0 y1 y2 y3 y4 y5 y6 y7 Vlc' Vb' Vl' Pl' Pcu' := by
      intro Rr x' lp' hrun y0 y1 y2 y3 y4 y5 y6 y7 Vlc' Vb' Vl' Pl' Pcu' hP1 hP2
      refine h _ _ _ _ _ _ _ _ _ _ _ _ _ _ (fun post2 h2 => bs1 ⟨_, ref Rr x' lp' post2 (fun v1 v2 v3 v4 x1 x2 x3 x4 x5 x6 x7 Msn' Msl' hM1 hM2 => h2 _ _ _ _ _ _ _ _ _ _ _ _ _ ?_) s 0 0 x lp _ _ _ _ _ _ _ _ _ _ _ _ _ (by omega) hrun (fun i hi => (hx i hi).2.1) hl2⟩)
      exact ⟨m, u, ⟨hm, rfl, rfl, hb, hb2⟩, Or.inr ⟨s, k, b, x', y, lp', ⟨s1', s2', s3', s4', k2, b2⟩, ⟨rfl, rfl, rfl, hfa⟩, ⟨rfl, rfl⟩, ⟨rfl, rfl, rfl, rfl, rfl⟩, fun z hz => ⟨hP1 z hz, hM1 z hz, (hx z hz).2.2⟩, hP2, hM2⟩⟩
    have key : ∀ (q r acc : Nat) (x : Nat → K) (lp : Nat → Bool) (y0 : Int32) (y1 y2 y3 y4 y5 y6 y7 : Nat → Int32) (Vlc' : Int32) (Vb' Vl' Pl' Pcu' : Nat → Int32), r + q = s → (∀ i, i < m + s * k → Pcu' i = nI (en (x i))) → zB Pl' lp (m + s * k) → (∀ (Rr : Int32) (x' : Nat → K) (lp' : Nat → Bool), md_run en al m s k b q r acc x lp Rr x' lp' → ∀ (y0 : Int32) (y1 y2 y3 y4 y5 y6 y7 : Nat → Int32) (Vlc' : Int32) (Vb' Vl' Pl' Pcu' : Nat → Int32), (∀ i, i < m + s * k → Pcu' i = nI (en (x' i))) → zB Pl' lp' (m + s * k) → post Rr y0 y1 y2 y3 y4 y5 y6 y7 Vlc' Vb' Vl' Pl' Pcu') → wp_St_mendAll_L4 Fp Fl (nI ((m + s - 1) / s)) (nI k) (nI b) (nI m) (nI s) (fun r_18 S_found_18 S_syndromes_18 S_locator_18 S_helper_18 S_kept_18 S_evaluator_18 S_places_18 S_fixes_18 V_lostCount_18 V_bytes_18 V_lost_18 P_lost_18 P_current_18 => (wp_RS_mend_b25 Fp Fl (nI ((m + s - 1) / s)) (nI k) (nI b) (nI m) (nI s) post S_found_18 S_syndromes_18 S_locator_18 S_helper_18 S_kept_18 S_evaluator_18 S_places_18 S_fixes_18 V_lostCount_18 V_bytes_18 V_lost_18 P_lost_18 P_current_18 r_18)) (q + 1) y0 y1 y2 y3 y4 y5 y6 y7 Vlc' Vb' Vl' Pl' Pcu' (nI acc) (nI r) := by
      intro q
      induction q with
      | zero =>
        intro r acc x lp y0 y1 y2 y3 y4 y5 y6 y7 Vlc' Vb' Vl' Pl' Pcu' hr hP hL hend
        exact bt (nI_le (by omega) (by omega)) (hend _ _ _ ⟨rfl, rfl, rfl⟩ _ _ _ _ _ _ _ _ _ _ _ _ _ hP hL)
      | succ q ih =>
        intro r acc x lp y0 y1 y2 y3 y4 y5 y6 y7 Vlc' Vb' Vl' Pl' Pcu' hr hP hL hend
        refine pk_le s r (fun q2 => by omega) (fun q2 => ?_)
        refine sp_cMend G T hm s1' s2' s3' s4' q2 k2 b2 hP hL (fun t e hg y0 b1 b2 b3 b4 b5 b6 b7 y1 Vb' Vl' Pl2 Pc2 hP2 hL2 => ?_) (fun hno y0 b1 b2 b3 b4 b5 b6 b7 y1 Vb' Vl' => ?_)
        · have ht := hg.1.2.1
          refine bf' (m1_ne (by omega)) (nm_r (nI_add acc t) (nm_r (nI_1 r) ?_))
          exact ih (r + 1) (acc + t) _ _ _ _ _ _ _ _ _ _ _ _ _ _ _ (by omega) hP2 hL2 (fun Rr x' lp' hrun => hend Rr x' lp' (Or.inl ⟨t, e, hg, hrun⟩))
        · exact bt' rfl (hend _ _ _ (Or.inr ⟨hno, rfl, rfl, rfl⟩) _ _ _ _ _ _ _ _ _ _ _ _ _ hP hL)
    exact ⟨_, key s 0 0 x lp _ _ _ _ _ _ _ _ _ _ _ _ _ (by omega) (fun i hi => (hx i hi).1) hl1 fin⟩
