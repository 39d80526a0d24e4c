/-! The solver of the class, whole. -/
section SO5
theorem so_sum {K : Type} [F : Lean.Grind.Field K] {al : K} {N L m : Nat} {d g : Nat → K} {rp : Nat → Bool} (hL : L = cn rp N) : ra_hv d (al ^ m) N + ra_sum L (fun j => g (nth rp N j) * lo_X al N (nth rp N j) ^ m) = ra_sum N (fun i => (d i + if rp i then g i else 0) * lo_X al N i ^ m) := by
  rw [sy_sum, hL, nth_sum (fun i => g i * lo_X al N i ^ m), ← ra_sum_add]
  refine ra_sum_congr (fun i _ => ?_)
  cases rp i with
  | true =>
    show d i * lo_X al N i ^ m + g i * lo_X al N i ^ m = (d i + g i) * lo_X al N i ^ m
    grind
  | false =>
    show d i * lo_X al N i ^ m + 0 = (d i + 0) * lo_X al N i ^ m
    grind
theorem sp_solve {K : Type} [F : Lean.Grind.Field K] {en : K → Nat} {al : K} (G : gf_ok K F en al) {Fp Fl : Nat → Int32} (T : ft_ok Fp Fl) {n k b : Nat} (hN : n + k ≤ 240) (hk : k ≤ 40) (hb : b < 255) {Wb Wl : Nat → Int32} {c : Nat → K} {lp : Nat → Bool} (hc : ∀ i, i < n + k → Wb i = nI (en (c i))) (hl : zB Wl lp (n + k)) {z0 : Int32} {a1 a2 a3 a4 a5 a6 a7 : Nat → Int32} {post : Int32 → Int32 → (Nat → Int32) → (Nat → Int32) → (Nat → Int32) → (Nat → Int32) → (Nat → Int32) → (Nat → Int32) → (Nat → Int32) → Prop}
    (hok : ∀ (t L : Nat) (e : Nat → K) (rp : Nat → Bool) (f1 f2 f3 f4 f5 f6 f7 : Nat → Int32), er_ok en al (n + k) k b (fun i => if lp i then 0 else c i) lp t e → L = cn rp (n + k) → L ≤ 40 → (∀ i, i < n + k → lp i = true → rp i = true) → (∀ i, i < n + k → rp i = false → e i = 0) → (∀ j, j < L → f6 j = nI (nth rp (n + k) j)) → (∀ j, j < L → f7 j = nI (en (e (nth rp (n + k) j)))) → post (nI t) (nI L) f1 f2 f3 f4 f5 f6 f7)
    (hno : (∀ t e, ¬ er_ok en al (n + k) k b (fun i => if lp i then 0 else c i) lp t e) → ∀ (z : Int32) (f1 f2 f3 f4 f5 f6 f7 : Nat → Int32), post (-1 : Int32) z f1 f2 f3 f4 f5 f6 f7) : wp_So_solve Fp Fl (nI (cn lp (n + k))) (nI n) (nI k) (nI b) Wb Wl z0 a1 a2 a3 a4 a5 a6 a7 post := by
  have hvN := cn_id lp (n + k)
  refine pk_le (cn lp (n + k)) k (fun hv => ?_) (fun q => hno (fun t e he => by have := he.2.1; omega) _ _ _ _ _ _ _ _)
  refine sp_readSyndromes G T hN hk hb hc hl (fun g1 hs => ?_)
  refine sp_locateLost G T hN hl (by omega) (fun g2 p0 hp0 h00 hd0 hr0 => ?_)
  refine sp_locateErrors G T hk hv hp0 hs (lost := fun X => ∃ i, i < n + k ∧ lp i = true ∧ X = lo_X al (n + k) i) h00 hd0 (fun X hX => ?_) (fun L => ∀ t e, er_ok en al (n + k) k b (fun i => if lp i then 0 else c i) lp t e → L ≤ cn lp (n + k) + t) (fun t e _ => Nat.le_add_right _ _) (fun r L p b' B hr hne hOk t e he => ?_) (fun L g3 g4 g5 p b' hp B hOk => ?_)
  · obtain ⟨i, hi, hpi, rfl⟩ := hX
    exact hr0 i hi hpi
  · have := ra_massey (er_set G hN he) (fun i hi hpi => ⟨i, hi, hpi, rfl⟩) B hr (t := t) (by rw [cn_len]; exact he.2.2) hne
    omega
  · have hvL := B.2.2.1
    have hLk := B.2.2.2.1
    have hlost : ∀ i, i < n + k → lp i = true → ra_hq p (lo_X al (n + k) i) L = 0 := fun i hi hpi => (B.2.2.2.2.2.2.2.2 _ ⟨i, hi, hpi, rfl⟩).1
    have hend : ∀ t e, er_ok en al (n + k) k b (fun i => if lp i then 0 else c i) lp t e → L = cn lp (n + k) + t ∧ ∀ i, i < n + k → (ra_hq p (lo_X al (n + k) i) L = 0 ↔ (lp i || (!lp i && !Nat.beq (en (e i)) 0)) = true) := by
      intro t e he
      exact ra_bm_end rp_10 (er_set G hN he) (fun i hi hpi => ⟨i, hi, hpi, rfl⟩) B (by rw [cn_len]; exact he.2.2) (by rw [cn_len]) he.2.1 (hOk t e he)
    have e1 : (2 : Int32) * nI L - nI (cn lp (n + k)) = nI (2 * L - cn lp (n + k)) := by
      rw [show (2 : Int32) * nI L = nI (2 * L) from pk_mul 2 L, pk_sub (by omega)]
    rw [e1]
    refine pk_lt k (2 * L - cn lp (n + k)) (fun q => ?_) (fun q => ?_)
    · exact hno (fun t e he => by
        have h1 := hOk t e he
        have h2 := he.2.1
        omega) _ _ _ _ _ _ _ _
    · refine sp_findPlaces G T hN (by omega) hp (fun hcn g6 hg6 => ?_) (fun hcn z g6 => ?_)
      · refine ⟨fun _ => ?_, fun e => absurd e (by decide)⟩
        have hpl : ∀ j, j < L → nth (rt_p en al (n + k) L p) (n + k) j < n + k ∧ g6 j = nI (nth (rt_p en al (n + k) L p) (n + k) j) := fun j hj => ⟨(nth_ok (by omega)).1, hg6 j hj⟩
        refine sp_findFixes G T hN hk hb hLk hp B.2.1 hs hpl (fun g7 g8 hg8 => ?_)
        refine sp_isRightAfter G T hN hk hb hLk hs hpl hg8 (fun hright => ?_) (fun hwrong => ?_)
        · refine ⟨fun e => absurd e (by decide), fun _ => ?_⟩
          refine sp_countErrors G hN (by omega) hl hpl hg8 ?_
          have hrt : ∀ i, i < n + k → lp i = true → rt_p en al (n + k) L p i = true := fun i hi hpi => (rt_iff G hN p).mpr (hlost i hi hpi)
          have hcnt : cn (fun j => !lp (nth (rt_p en al (n + k) L p) (n + k) j) && !Nat.beq (en (fx_v al (n + k) b L p (fun j => ra_hv (fun i => if lp i then 0 else c i) (al ^ (b + j)) (n + k)) (nth (rt_p en al (n + k) L p) (n + k) j))) 0) L = cn (fun i => !lp i && !Nat.beq (en (if rt_p en al (n + k) L p i then fx_v al (n + k) b L p (fun j => ra_hv (fun i => if lp i then 0 else c i) (al ^ (b + j)) (n + k)) i else 0)) 0) (n + k) := by
            have := nth_count (p := rt_p en al (n + k) L p) (q := fun i => !lp i && !Nat.beq (en (fx_v al (n + k) b L p (fun j => ra_hv (fun i => if lp i then 0 else c i) (al ^ (b + j)) (n + k)) i)) 0) (n + k)
            rw [hcn] at this
            rw [this]
            refine cn_congr (fun i _ => ?_)
            cases rt_p en al (n + k) L p i with
            | true => rfl
            | false =>
              show false = (!lp i && !Nat.beq (en (0 : K)) 0)
              rw [gf_zero G]
              cases lp i <;> rfl
          rw [hcnt]
          refine hok _ L (fun i => if rt_p en al (n + k) L p i then fx_v al (n + k) b L p (fun j => ra_hv (fun i => if lp i then 0 else c i) (al ^ (b + j)) (n + k)) i else 0) (rt_p en al (n + k) L p) _ _ _ _ _ _ _ ⟨fun j hj => ?_, ?_, rfl⟩ hcn.symm (by omega) hrt (fun i _ hr => by
            show (if rt_p en al (n + k) L p i then _ else (0 : K)) = 0
            rw [hr]; rfl) hg6 (fun j hj => ?_)
          · have h1 := hright j hj
            have h2 := so_sum (F := F) (al := al) (N := n + k) (L := L) (m := b + j) (d := fun i => if lp i then 0 else c i) (g := fx_v al (n + k) b L p (fun j => ra_hv (fun i => if lp i then 0 else c i) (al ^ (b + j)) (n + k))) (rp := rt_p en al (n + k) L p) hcn.symm
            rw [← h2]
            exact h1
          · have := cn_two (a := lp) (b := fun i => !lp i && !Nat.beq (en (if rt_p en al (n + k) L p i then fx_v al (n + k) b L p (fun j => ra_hv (fun i => if lp i then 0 else c i) (al ^ (b + j)) (n + k)) i else 0)) 0) (c := rt_p en al (n + k) L p) (n := n + k) (fun i hi hpi => ⟨hrt i hi hpi, by simp only [hpi]; rfl⟩) (fun i hi he => by
              cases hr : rt_p en al (n + k) L p i with
              | true => rfl
              | false =>
                exfalso
                simp only [hr] at he
                have hz : en (0 : K) = 0 := gf_zero G
                simp [hz] at he)
            rw [hcn] at this
            omega
          · rw [hg8 j hj]
            have hn := nth_ok (p := rt_p en al (n + k) L p) (N := n + k) (j := j) (by omega)
            show _ = nI (en (if rt_p en al (n + k) L p (nth (rt_p en al (n + k) L p) (n + k) j) then fx_v al (n + k) b L p (fun j => ra_hv (fun i => if lp i then 0 else c i) (al ^ (b + j)) (n + k)) (nth (rt_p en al (n + k) L p) (n + k) j) else 0))
            rw [hn.2.1]; rfl
        · refine ⟨fun _ => hno (fun t e he => ?_) _ _ _ _ _ _ _ _, fun e => absurd rfl e⟩
          obtain ⟨i, hi, hne⟩ := hwrong
          obtain ⟨hLt, hroots⟩ := hend t e he
          apply hne
          have h2 := so_sum (F := F) (al := al) (N := n + k) (L := L) (m := b + i) (d := fun i => if lp i then 0 else c i) (g := fx_v al (n + k) b L p (fun j => ra_hv (fun i => if lp i then 0 else c i) (al ^ (b + j)) (n + k))) (rp := rt_p en al (n + k) L p) hcn.symm
          refine Eq.trans h2 (Eq.trans (ra_sum_congr (fun x hx => ?_)) (he.1 i hi))
          congr 2
          cases hr : rt_p en al (n + k) L p x with
          | true =>
            exact fx_right G hN hk he hLt B.1 B.2.1 hroots hx ((hroots x hx).mp ((rt_iff G hN p).mp hr))
          | false =>
            have hno2 : ¬ (lp x || (!lp x && !Nat.beq (en (e x)) 0)) = true := fun hh => by
              rw [(rt_iff G hN p).mpr ((hroots x hx).mpr hh)] at hr; cases hr
            have he0 : Nat.beq (en (e x)) 0 = true := by
              cases hb0 : Nat.beq (en (e x)) 0 with
              | true => rfl
              | false =>
                exfalso
                apply hno2
                rw [hb0]
                cases lp x <;> rfl
            show (0 : K) = e x
            exact ((gf_en0 G).mp (Nat.eq_of_beq_eq_true he0)).symm
      · refine ⟨fun e => absurd rfl e, fun _ => hno (fun t e he => hcn ?_) _ _ _ _ _ _ _ _⟩
        obtain ⟨hLt, hroots⟩ := hend t e he
        have h1 : cn (rt_p en al (n + k) L p) (n + k) = cn (fun i => lp i || (!lp i && !Nat.beq (en (e i)) 0)) (n + k) := cn_congr (fun i hi => by
          cases hr : rt_p en al (n + k) L p i with
          | true => exact ((hroots i hi).mp ((rt_iff G hN p).mp hr)).symm
          | false =>
            cases hh : (lp i || (!lp i && !Nat.beq (en (e i)) 0)) with
            | false => rfl
            | true => rw [(rt_iff G hN p).mpr ((hroots i hi).mpr hh)] at hr; cases hr)
        rw [h1, ← cn_len, ra_filter_or _ (fun x _ hx => by rw [hx]; rfl), cn_len, cn_len, hLt]
        have := he.2.2
        omega
end SO5
