/-! lay, whole. -/
theorem op_lay {K : Type} [F : Lean.Grind.Field K] {en : K → Nat} {al : K} (G : gf_ok K F en al) {Fp Fl : Nat → Int32} (T : ft_ok Fp Fl) {Wlc Wd Wr Wf : Int32} {Wb Wl Wfa : Nat → Int32} {Mn Mk Mb : Int32} {Mw Mlo : Nat → Int32} (RWr : RWe F en al Wlc Wd Wr Wf Wb Wl Wfa Mn Mk Mb Mw Mlo) {Vd Vr Vf : Int32} {Vfa : Nat → Int32} {Pz Ps Pc : Int32} {Pb Po Pl Pcu : Nat → Int32} {Mz Ml Ms Mlg Mlr Mlf : Int32} {Mbk Msn Mas Msl : Nat → Int32} (R : RBe F en al Vd Vr Vf Vfa Pz Ps Pc Pb Po Pl Pcu Mz Ml Ms Mlg Mlr Mlf Mbk Msn Mas Msl) {Vlc : Int32} {Vb Vl Mg Mwk Mr : Nat → Int32} (p1 : Int32) {post : Int32 → Int32 → Int32 → Int32 → Int32 → (Nat → Int32) → (Nat → Int32) → (Nat → Int32) → Int32 → Int32 → (Nat → Int32) → (Nat → Int32) → (Nat → Int32) → Prop}
    (h : ∀ (r Vlc' Vd' Vr' Vf' : Int32) (Vb' Vl' Vfa' : Nat → Int32) (Ps' Pc' : Int32) (Po' Pl' Pcu' : Nat → Int32), (∀ post2 : Int32 → Int32 → Int32 → Int32 → Int32 → Int32 → (Nat → Int32) → (Nat → Int32) → (Nat → Int32) → (Nat → Int32) → (Nat → Int32) → (Nat → Int32) → Prop, (∀ (Ml' Ms' Mlg' Mlr' Mlf' : Int32) (g w s Msn' Mas' Msl' : Nat → Int32), RBe F en al Vd' Vr' Vf' Vfa' Pz Ps' Pc' Pb Po' Pl' Pcu' Mz Ml' Ms' Mlg' Mlr' Mlf' Mbk Msn' Mas' Msl' → post2 r Ml' Ms' Mlg' Mlr' Mlf' g w s Msn' Mas' Msl') → wp_Mo_lay Mk Mb Mz Ml Ms Mlg Mlr Mlf Mg Mwk Mr Mbk Msn Mas Msl p1 post2) → post r Vlc' Vd' Vr' Vf' Vb' Vl' Vfa' Ps' Pc' Po' Pl' Pcu') : wp_RS_lay Fp Fl Wr Wf Vlc Vd Vr Vf Vb Vl Vfa Pz Ps Pc Pb Po Pl Pcu p1 post := by
  have R0 := R
  obtain ⟨n, k, b, c, lp, ⟨n1, n2, k2, b2⟩, ⟨rfl, rfl, rfl, rfl⟩, _, _, _, ⟨rfl, rfl, rfl⟩, _, _⟩ := RWr
  obtain ⟨m, u, ⟨hm, rfl, rfl, hb, hb2⟩, _⟩ := R
  have no : (∀ post2 : Int32 → Int32 → Int32 → Int32 → Int32 → Int32 → (Nat → Int32) → (Nat → Int32) → (Nat → Int32) → (Nat → Int32) → (Nat → Int32) → (Nat → Int32) → Prop, post2 (-1) Ml Ms Mlg Mlr Mlf Mg Mwk Mr Msn Mas Msl → wp_Mo_lay (nI k) (nI b) (nI m) Ml Ms Mlg Mlr Mlf Mg Mwk Mr Mbk Msn Mas Msl p1 post2) → post (-1) Vlc Vd Vr Vf Vb Vl Vfa Ps Pc Po Pl Pcu := fun q => h _ _ _ _ _ _ _ _ _ _ _ _ _ (fun post2 h2 => q post2 (h2 _ _ _ _ _ _ _ _ _ _ _ R0))
  refine ⟨fun a1 => no (fun post2 h2 => bt a1 h2), fun a1 => ⟨fun a2 => no (fun post2 h2 => bf a1 (bt a2 h2)), fun a2 => ⟨fun a3 => ?_, fun a3 => no (fun post2 h2 => bf a1 (bf a2 (bt (i32_nle.mp a3) h2)))⟩⟩⟩
  have a3' : ¬ nI m < p1 := fun q => i32_nle.mpr q a3
  obtain ⟨s, s1, s2, rfl⟩ := i32_rng (a := 1) (b := 16) a1 a2 (by decide) (by decide)
  have s3 := pz_le (by omega) (by omega) a3
  have s0 : ¬ nI s = 0 := nI_ne0 (by omega) (by omega)
  have hdiv : (nI m + nI s - (1 : Int32)) / nI s = nI ((m + s - 1) / s) := by
    rw [nI_add, show (1 : Int32) = nI 1 from rfl, pk_sub (by omega), pk_div (by omega) (by omega) (by omega)]
  have hlg0 : (m + s - 1) / s ≤ m + s - 1 := Nat.div_le_self _ _
  refine ⟨s0, nm_r hdiv ?_⟩
  refine pk_lt 200 ((m + s - 1) / s) (fun a4 => no (fun post2 h2 => bf a1 (bf a2 (bf a3' ⟨s0, ?_⟩)))) (fun a4 => ?_)
  · rw [hdiv]
    exact bt (nI_lt a4 (by omega)) h2
  have a4' : ¬ (200 : Int32) < nI ((m + s - 1) / s) := nI_nlt (a := 200) a4 (by decide)
  have a5 : nI ((m + s - 1) / s) + nI k ≤ (255 : Int32) := by rw [nI_add]; exact nI_le (b := 255) (by omega) (by decide)
  refine bt a5 (nm_r (e' := nI (m + s * k)) (by rw [pk_mul, nI_add]) ?_)
  have hsk := Nat.mul_le_mul s2 k2
  refine sp_shape G T k2 b2 (fun fb fl ff hfb hfl hff => ?_)
  -- the reference
  have ref : ∀ (Vlc' : Int32) (Vb' Vl' Po' Pl' Pcu' : Nat → Int32), (∀ i, i < m + s * k → Po' i = nI (en (ly_x al m s k b u i)) ∧ Pl' i = 0 ∧ Pcu' i = nI (en (ly_x al m s k b u i))) → post (nI (m + s * k)) Vlc' (nI ((m + s - 1) / s)) (nI k) (nI b) Vb' Vl' ff (nI s) (nI (m + s * k)) Po' Pl' Pcu' := by
    intro Vlc' Vb' Vl' Po' Pl' Pcu' hP
    refine h _ _ _ _ _ _ _ _ _ _ _ _ _ (fun post2 h2 => ?_)
    refine bf a1 (bf a2 (bf a3' ⟨s0, ?_⟩))
    rw [hdiv]
    refine bf a4' ⟨s0, bt a5 ⟨s0, nm_e ?_⟩⟩
    have last : ∀ (g w rs sn : Nat → Int32), (∀ i, i < m + s * k → sn i = nI (en (ly_x al m s k b u i))) → ∀ (q i : Nat) (as sl : Nat → Int32), i ≤ m + s * k → m + s * k - i < q → (∀ z, z < i → as z = nI (en (ly_x al m s k b u z)) ∧ sl z = 0) → wp_Mo_lay_L243 (nI k) (nI b) (nI m) Mbk post2 q 1 (nI s) (nI ((m + s - 1) / s)) (nI k) (nI b) g w rs sn as sl (nI i) := by
      intro g w rs sn hsn q
      induction q with
      | zero => intro i as sl g1 g2; omega
      | succ q ih =>
        intro i as sl g1 g2 g3
        show wp_Mo_lay_b243 (nI k) (nI b) (nI m) Mbk post2 _ _ _ _ _ _ _ _ _ _ _ _ _
        unfold wp_Mo_lay_b243 wp_Mo_sentSize
        rw [pk_mul, nI_add]
        refine pk_le (m + s * k) i (fun q2 => ?_) (fun q2 => ?_)
        · rw [show i = m + s * k by omega] at g3
          exact h2 _ _ _ _ _ _ _ _ _ _ _ ⟨m, u, ⟨hm, rfl, rfl, hb, hb2⟩, Or.inr ⟨s, k, b, ly_x al m s k b u, ly_x al m s k b u, fun _ => false, ⟨s1, s2, s3, a4, k2, b2⟩, ⟨rfl, rfl, rfl, hff⟩, ⟨rfl, rfl⟩, ⟨rfl, rfl, rfl, rfl, rfl⟩, fun z hz => ⟨(hP z hz).2.2, hsn z hz, (hP z hz).1, (g3 z hz).1⟩, fun z hz => (hP z hz).2.1, fun z hz => (g3 z hz).2⟩⟩
        · rw [nI_clamp (by omega), hsn i q2]
          refine ⟨vp_in_nI (by omega) (by decide), vp_in_nI (by omega) (by decide), vp_in_nI (by omega) (by decide), nm_r (nI_1 i) (ih (i + 1) _ _ (by omega) (by omega) (fun z hz => ?_))⟩
          by_cases e : z = i
          · subst e; rw [pk_us, pk_us]; exact ⟨rfl, rfl⟩
          · rw [pk_un e, pk_un e]; exact g3 z (by omega)
    have main : ∀ (q r : Nat) (g w rs sn : Nat → Int32), r ≤ s → s - r < q → (∀ i, i < m + s * k → rw_ m s i < r → sn i = nI (en (ly_x al m s k b u i))) → wp_Mo_lay_L100 (nI k) (nI b) (nI m) Mbk post2 q 1 (nI s) (nI ((m + s - 1) / s)) (nI k) (nI b) g w rs sn Mas Msl (nI s) (nI r) := by
      intro q
      induction q with
      | zero => intro r g w rs sn g1 g2; omega
      | succ q ih =>
        intro r g w rs sn g1 g2 g3
        refine pk_le s r (fun q2 => ?_) (fun q2 => ?_)
        · exact ⟨_, last g w rs sn (fun i hi => g3 i hi (by have := rw_lt (m := m) (i := i) s1; omega)) (m + s * k + 1) 0 Mas Msl (by omega) (by omega) (fun z hz => by omega)⟩
        · have reps : ∀ (g w rs : Nat → Int32), (∀ j, j < k → w ((m + s - 1) / s + j) = nI (en (ly_X al m s k b u r ((m + s - 1) / s + j)))) → ∀ (v j : Nat) (sn : Nat → Int32), j ≤ k → k - j < v → (∀ i, i < m + s * k → (rw_ m s i < r ∨ (rw_ m s i = r ∧ ps_ m s ((m + s - 1) / s) i < (m + s - 1) / s + j)) → sn i = nI (en (ly_x al m s k b u i))) → wp_Mo_lay_L195 (nI k) (nI b) (nI m) Mbk post2 (wp_Mo_lay_L100 (nI k) (nI b) (nI m) Mbk post2 q) v 1 (nI s) (nI ((m + s - 1) / s)) (nI k) (nI b) g w rs sn Mas Msl (nI s) (nI r) (nI j) := by
            intro g w rs hw v
            induction v with
            | zero => intro j sn c1 c2; omega
            | succ v ihv =>
              intro j sn c1 c2 c3
              refine pk_le k j (fun q3 => ?_) (fun q3 => ?_)
              · refine nm_r (nI_1 r) (ih (r + 1) _ _ _ _ (by omega) (by omega) (fun i hi hri => c3 i hi ?_))
                rcases Nat.lt_or_ge (rw_ m s i) r with q4 | q4
                · exact Or.inl q4
                · refine Or.inr ⟨by omega, ?_⟩
                  rcases Nat.lt_or_ge i m with q5 | q5
                  · have := (ps_data s1 q5).1; omega
                  · have := (ps_rep (k := k) s1 q5 hi).1; omega
              · have hb1 := sl_bd (p := j) (s := s) (by omega) s2
                have hsl := sl_rep (m := m) (k := k) (j := j) q2 q3
                rw [nI_add, pk_mul, nI_add, nI_add, nI_clamp (show (m + s - 1) / s + j < 2 ^ 31 by omega), nI_clamp (show m + j * s + r < 2 ^ 31 by omega), hw j q3]
                refine ⟨vp_in_nI (by omega) (by decide), vp_in_nI (by omega) (by decide), nm_r (nI_1 j) (ihv (j + 1) _ (by omega) (by omega) (fun i hi hri => ?_))⟩
                by_cases e : i = m + j * s + r
                · subst e
                  rw [pk_us]
                  unfold ly_x
                  rw [hsl.1, hsl.2.1]
                · rw [pk_un e]
                  refine c3 i hi ?_
                  rcases hri with q4 | ⟨q4, q5⟩
                  · exact Or.inl q4
                  · have : ps_ m s ((m + s - 1) / s) i ≠ (m + s - 1) / s + j := fun q6 => e (sl_one s1 hi hsl.2.2 (by rw [q4, hsl.1]) (by rw [q6, hsl.2.1]))
                    exact Or.inr ⟨q4, by omega⟩
          have data : ∀ (v p : Nat) (w sn : Nat → Int32), p ≤ (m + s - 1) / s → (m + s - 1) / s - p < v → (∀ z, z < p → w z = nI (en (ly_D m s u r z))) → (∀ i, i < m + s * k → (rw_ m s i < r ∨ (rw_ m s i = r ∧ ps_ m s ((m + s - 1) / s) i < p)) → sn i = nI (en (ly_x al m s k b u i))) → wp_Mo_lay_L107 (nI k) (nI b) (nI m) Mbk post2 (wp_Mo_lay_L100 (nI k) (nI b) (nI m) Mbk post2 q) v 1 (nI s) (nI ((m + s - 1) / s)) (nI k) (nI b) g w rs sn Mas Msl (nI s) (nI r) (nI p) := by
            intro v
            induction v with
            | zero => intro p w sn c1 c2; omega
            | succ v ihv =>
              intro p w sn c1 c2 c3 c4
              refine pk_le ((m + s - 1) / s) p (fun q3 => ?_) (fun q3 => ?_)
              · have hp : p = (m + s - 1) / s := by omega
                rw [hp] at c3 c4
                refine sp_encodeWork G (by omega) k2 b2 c3 (fun g w rs hw1 hw2 => ⟨_, reps g w rs (fun j hj => ?_) (k + 1) 0 sn (by omega) (by omega) c4⟩)
                rw [hw2 j hj]
                unfold ly_X
                rw [if_neg (by omega), Nat.add_sub_cancel_left]
              · have hb1 := sl_bd (p := p) (s := s) (by omega) s2
                refine nm_r (e' := nI (p * s + r)) (by rw [pk_mul, nI_add]) ?_
                refine pk_le m (p * s + r) (fun q4 => ⟨vp_in_nI (by omega) (by decide), bt (nI_le q4 (by omega)) (nm_r (nI_1 p) ?_)⟩) (fun q4 => ?_)
                · rw [nI_clamp (by omega)]
                  refine ihv (p + 1) _ _ (by omega) (by omega) (fun z hz => ?_) (fun i hi hri => c4 i hi ?_)
                  · by_cases e : z = p
                    · subst e; rw [pk_us]
                      unfold ly_D
                      rw [if_neg (by omega), gf_zero G]; rfl
                    · rw [pk_un e]; exact c3 z (by omega)
                  · rcases hri with q5 | ⟨q5, q6⟩
                    · exact Or.inl q5
                    · refine Or.inr ⟨q5, ?_⟩
                      rcases Nat.lt_or_ge (ps_ m s ((m + s - 1) / s) i) p with q7 | q7
                      · exact q7
                      · exfalso
                        have e1 : ps_ m s ((m + s - 1) / s) i = p := by omega
                        rcases Nat.lt_or_ge i m with q8 | q8
                        · have := (ps_data s1 q8).2
                          rw [e1, q5] at this; omega
                        · have := (ps_rep (k := k) s1 q8 hi).2.1
                          omega
                · have hsl := sl_data q2 q4
                  rw [nI_clamp (show p * s + r < 2 ^ 31 by omega), hb2 _ q4]
                  refine ⟨vp_in_nI (by omega) (by decide), vp_in_nI (by omega) (by decide), bf (nI_ge q4 (by omega)) ⟨vp_in_nI (by omega) (by decide), vp_in_nI (by omega) (by decide), nm_r (nI_1 p) ?_⟩⟩
                  rw [nI_clamp (show p < 2 ^ 31 by omega), nI_clamp (show p * s + r < 2 ^ 31 by omega), hb2 _ q4]
                  refine ihv (p + 1) _ _ (by omega) (by omega) (fun z hz => ?_) (fun i hi hri => ?_)
                  · by_cases e : z = p
                    · subst e; rw [pk_us]
                      unfold ly_D
                      rw [if_pos q4]
                    · rw [pk_un e]; exact c3 z (by omega)
                  · by_cases e : i = p * s + r
                    · subst e; rw [pk_us, ly_xd al s1 u q4]
                    · rw [pk_un e]
                      refine c4 i hi ?_
                      rcases hri with q5 | ⟨q5, q6⟩
                      · exact Or.inl q5
                      · have : ps_ m s ((m + s - 1) / s) i ≠ p := fun q7 => e (sl_one (k := k) s1 hi (by omega) (by rw [q5, hsl.1]) (by rw [q7, hsl.2]))
                        exact Or.inr ⟨q5, by omega⟩
          exact ⟨_, data ((m + s - 1) / s + 1) 0 w sn (Nat.zero_le _) (Nat.lt_succ_of_le (Nat.sub_le _ _)) (fun z hz => by omega) (fun i hi hri => g3 i hi (hri.resolve_right (fun q => by omega)))⟩
    exact ⟨_, main (s + 1) 0 Mg Mwk Mr Msn (by omega) (by omega) (fun i hi hri => by omega)⟩
  have key : ∀ (q r : Nat) (Vb' Po' Pl' Pcu' : Nat → Int32), r ≤ s → s - r < q → (∀ i, i < m + s * k → rw_ m s i < r → Po' i = nI (en (ly_x al m s k b u i)) ∧ Pl' i = 0 ∧ Pcu' i = nI (en (ly_x al m s k b u i))) → wp_St_layIn_L84 Fp Fl (nI m) Pb (fun r_19 V_lostCount_19 V_data_19 V_repairs_19 V_first_19 V_bytes_19 V_lost_19 V_factors_19 P_stripes_19 P_sentCount_19 P_original_19 P_lost_19 P_current_19 => post r_19 V_lostCount_19 V_data_19 V_repairs_19 V_first_19 V_bytes_19 V_lost_19 V_factors_19 P_stripes_19 P_sentCount_19 P_original_19 P_lost_19 P_current_19) q 0 (nI ((m + s - 1) / s)) (nI k) (nI b) Vb' fl ff (nI s) (nI (m + s * k)) Po' Pl' Pcu' (nI s) (nI r) := by
    intro q
    induction q with
    | zero => intro r Vb' Po' Pl' Pcu' g1 g2; omega
    | succ q ih =>
      intro r Vb' Po' Pl' Pcu' g1 g2 g3
      refine pk_le s r (fun q2 => ?_) (fun q2 => ?_)
      · exact ref _ _ _ _ _ _ (fun i hi => g3 i hi (by have := rw_lt (m := m) (i := i) s1; omega))
      · refine sp_layStripe G T hm s1 s2 a4 q2 k2 hff hb (fun Vb2 Po2 Pl2 Pc2 c1 c2 => nm_r (nI_1 r) (ih (r + 1) _ _ _ _ (by omega) (by omega) (fun i hi hri => ?_)))
        by_cases e : rw_ m s i = r
        · exact c1 i hi e
        · have h3 := c2 i hi e
          rw [h3.1, h3.2.1, h3.2.2]
          exact g3 i hi (by omega)
  exact ⟨_, key (s + 1) 0 fb Po Pl Pcu (by omega) (by omega) (fun i hi hri => by omega)⟩
