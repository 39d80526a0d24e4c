/-! The reference's repairWork, whole. -/
section RW
theorem sp_repairWork {K : Type} [F : Lean.Grind.Field K] {en : K → Nat} {al : K} (G : gf_ok K F en al) {N k b : Nat} (hN : N ≤ 240) (hkN : k ≤ N) (hk : k ≤ 40) (hb : b < 255) {Wk Wl : Nat → Int32} {c : Nat → K} {lp : Nat → Bool} (hc : ∀ i, i < N → Wk i = nI (en (c i))) (hl : zB Wl lp N) {z0 : Int32} {a1 a2 a3 a4 a5 : Nat → Int32} {post : Int32 → Int32 → (Nat → Int32) → (Nat → Int32) → (Nat → Int32) → (Nat → Int32) → (Nat → Int32) → (Nat → Int32) → Prop}
    (hok : ∀ (t : Nat) (e : Nat → K) (z : Int32) (w f1 f2 f3 f4 f5 : Nat → Int32), er_ok en al N k b (fun i => if lp i then 0 else c i) lp t e → (∀ p, p < N → w p = nI (en ((if lp p then 0 else c p) + e p))) → post (nI t) z w f1 f2 f3 f4 f5)
    (hno : (∀ t e, ¬ er_ok en al N k b (fun i => if lp i then 0 else c i) lp t e) → ∀ (z : Int32) (w f1 f2 f3 f4 f5 : Nat → Int32), post (-1 : Int32) z w f1 f2 f3 f4 f5) : wp_Mo_repairWork (nI N) (nI k) (nI b) z0 Wk Wl a1 a2 a3 a4 a5 post := by
  have hvN := cn_id lp N
  -- the tries
  have tries : cn lp N ≤ k → ∀ (sums rest : Nat → Int32), (∀ i, i < k → sums i = nI (en (ra_hv (fun i => if lp i then 0 else c i) (al ^ (b + i)) N))) → (∀ i, i < k - cn lp N → rest i = nI (en (md_s (lo_X al N) (fun j => ra_hv (fun i => if lp i then 0 else c i) (al ^ (b + j)) N) lp N i))) → ∀ (n t : Nat) (z : Int32) (f3 f4 f5 : Nat → Int32), k + 1 - t < n → t ≤ k + 1 → (∀ t' e, t' < t → ¬ er_ok en al N k b (fun i => if lp i then 0 else c i) lp t' e) → wp_Mo_repairWork_L178 (nI N) (nI k) (nI b) Wl post n z Wk sums rest f3 f4 f5 (nI (cn lp N)) (nI (k - cn lp N)) (nI t) := by
    intro hv sums rest hsums hrest n
    induction n with
    | zero => intro t z f3 f4 f5 g1 g2; omega
    | succ n ih =>
      intro t z f3 f4 f5 g1 g2 g3
      have e1 : (2 : Int32) * nI t + nI (cn lp N) = nI (2 * t + cn lp N) := by
        rw [show (2 : Int32) = nI 2 from rfl, pk_mul, nI_add]
      show wp_Mo_repairWork_b178 (nI N) (nI k) (nI b) Wl post _ _ _ _ _ _ _ _ _ _ _
      unfold wp_Mo_repairWork_b178
      rw [e1]
      refine pk_lt k (2 * t + cn lp N) (fun q => ?_) (fun q => ?_)
      · exact hno (fun t' e he => by
          have h1 := he.2.1
          exact g3 t' e (by omega) he) _ _ _ _ _ _ _
      · -- if this try fails, there are no errata of t places
        have next : (∀ e, ¬ er_ok en al N k b (fun i => if lp i then 0 else c i) lp t e) → ∀ (z : Int32) (f3 f4 f5 : Nat → Int32), wp_Mo_repairWork_b211 (nI N) (nI k) (nI b) Wl post (wp_Mo_repairWork_L178 (nI N) (nI k) (nI b) Wl post n) z Wk sums rest f3 f4 f5 (nI (cn lp N)) (nI (k - cn lp N)) (nI t) := fun hnot z f3 f4 f5 => nm_r (nI_1 t) (ih (t + 1) z f3 f4 f5 (by omega) (by omega) (fun t' e ht' => by
          rcases Nat.lt_or_ge t' t with q2 | q2
          · exact g3 t' e q2
          · rw [show t' = t by omega]; exact hnot e))
        refine sp_findSpots G hN (t := t) (lf := k - cn lp N) (by omega) (by omega) hl hrest (fun zz f M' A' hsol hfound hle hf => ?_) (fun hbad y f M' A' => ?_)
        · refine ⟨fun e => absurd e (by decide), fun _ => ?_⟩
          rw [nI_add]
          have hcn : cn (fun p => lp p || (!lp p && rz_p en al N t zz p)) N = cn lp N + t := by
            rw [← cn_len, ra_filter_or _ (fun x _ hx => by rw [hx]; rfl), cn_len, cn_len, hfound]
          have hpl : ∀ j, j < cn lp N + t → nth (fun p => lp p || (!lp p && rz_p en al N t zz p)) N j < N ∧ f j = nI (nth (fun p => lp p || (!lp p && rz_p en al N t zz p)) N j) := fun j hj => ⟨(nth_ok (by rw [hcn]; exact hj)).1, hf j (by rw [hcn]; exact hj)⟩
          have hinj : ∀ i j, i < cn lp N + t → j < cn lp N + t → nth (fun p => lp p || (!lp p && rz_p en al N t zz p)) N i = nth (fun p => lp p || (!lp p && rz_p en al N t zz p)) N j → i = j := by
            intro i j hi hj e
            have h1 := (nth_ok (p := fun p => lp p || (!lp p && rz_p en al N t zz p)) (N := N) (j := i) (by rw [hcn]; exact hi)).2.2
            have h2 := (nth_ok (p := fun p => lp p || (!lp p && rz_p en al N t zz p)) (N := N) (j := j) (by rw [hcn]; exact hj)).2.2
            rw [e, h2] at h1
            exact h1.symm
          refine sp_mfill G hN hk hb (by omega) hc hl hsums hpl hinj (fun a w M2 A2 ha hz hw1 hw2 => ?_) (fun hbad M2 A2 => ?_)
          · refine ⟨fun e => absurd e (by decide), fun _ => ?_⟩
            -- the errata
            have hE : ∀ x, x < N → (lp x || (!lp x && rz_p en al N t zz x)) = true → nth (fun p => lp p || (!lp p && rz_p en al N t zz p)) N (cn (fun p => lp p || (!lp p && rz_p en al N t zz p)) x) = x ∧ cn (fun p => lp p || (!lp p && rz_p en al N t zz p)) x < cn lp N + t := by
              intro x hx hpx
              refine ⟨nth_cn hx hpx, ?_⟩
              have := cn_le (fun p => lp p || (!lp p && rz_p en al N t zz p)) (show x + 1 ≤ N from hx)
              rw [cn_t (p := fun p => lp p || (!lp p && rz_p en al N t zz p)) hpx] at this
              omega
            refine hok t (fun x => if (lp x || (!lp x && rz_p en al N t zz x)) then a (cn (fun p => lp p || (!lp p && rz_p en al N t zz p)) x) else 0) _ _ _ _ _ _ _ ⟨fun i hi => ?_, q, ?_⟩ (fun p hp => ?_)
            · have h1 := ha i hi
              have h2 := so_sum (F := F) (al := al) (N := N) (L := cn lp N + t) (m := b + i) (d := fun i => if lp i then 0 else c i) (g := fun x => a (cn (fun p => lp p || (!lp p && rz_p en al N t zz p)) x)) (rp := fun p => lp p || (!lp p && rz_p en al N t zz p)) hcn.symm
              refine Eq.trans h2.symm ?_
              rw [ra_sum_congr (g := fun j => lo_X al N (nth (fun p => lp p || (!lp p && rz_p en al N t zz p)) N j) ^ (b + i) * a j) (fun j hj => by
                rw [(nth_ok (p := fun p => lp p || (!lp p && rz_p en al N t zz p)) (N := N) (j := j) (by rw [hcn]; exact hj)).2.2]; grind), h1]
              exact gf_two G _
            · refine Eq.trans hfound.symm (cn_congr (fun x hx => ?_))
              show (!lp x && rz_p en al N t zz x) = (!lp x && !Nat.beq (en (if (lp x || (!lp x && rz_p en al N t zz x)) = true then a (cn (fun p => lp p || (!lp p && rz_p en al N t zz p)) x) else 0)) 0)
              cases hlx : lp x with
              | true => rfl
              | false =>
                cases hrx : rz_p en al N t zz x with
                | false =>
                  show false = (true && !Nat.beq (en (0 : K)) 0)
                  rw [gf_zero G]; rfl
                | true =>
                  have hpx : (lp x || (!lp x && rz_p en al N t zz x)) = true := by rw [hlx, hrx]; rfl
                  have h1 := hE x hx hpx
                  have h2 := hz _ h1.2 (by rw [h1.1]; exact hlx)
                  show true = (true && !Nat.beq (en (a (cn (fun p => lp p || (!lp p && rz_p en al N t zz p)) x))) 0)
                  cases hb0 : Nat.beq (en (a (cn (fun p => lp p || (!lp p && rz_p en al N t zz p)) x))) 0 with
                  | false => rfl
                  | true => exact absurd ((gf_en0 G).mp (Nat.eq_of_beq_eq_true hb0)) h2
            · cases hpx : (lp p || (!lp p && rz_p en al N t zz p)) with
              | true =>
                have h1 := hE p hp hpx
                have h2 := hw1 _ h1.2
                rw [h1.1] at h2
                exact h2
              | false =>
                have hlp : lp p = false := by
                  cases h : lp p with
                  | false => rfl
                  | true => rw [h] at hpx; cases hpx
                rw [hw2 p hp (fun j hj e => by
                  have h1 := (nth_ok (p := fun p => lp p || (!lp p && rz_p en al N t zz p)) (N := N) (j := j) (by rw [hcn]; exact hj)).2.1
                  rw [e] at h1
                  replace h1 : (lp p || (!lp p && rz_p en al N t zz p)) = true := h1
                  rw [hpx] at h1
                  cases h1), hlp]
                congr 2
                show c p = c p + 0
                grind
          · refine ⟨fun _ => next (fun e he => ?_) _ _ _ _, fun e => absurd rfl e⟩
            -- errata of t places: then the places are theirs, and the second system has them
            have S := er_set G hN he
            have hfirst := rm_first (gf_two G) S (t := t) he.2.2 (by omega)
            have hroots := hfirst.2.2 zz hsol
            have hrp : ∀ i, i < N → (lp i || (!lp i && rz_p en al N t zz i)) = (lp i || (!lp i && !Nat.beq (en (e i)) 0)) := by
              intro i hi
              cases hli : lp i with
              | true => rfl
              | false =>
                show rz_p en al N t zz i = !Nat.beq (en (e i)) 0
                have h1 := hroots i hi hli
                rcases Nat.eq_zero_or_pos t with ht0 | ht0
                · have h2 : rz_p en al N t zz i = false := by unfold rz_p; rw [decide_eq_false (by omega)]; rfl
                  rw [h2]
                  cases hb0 : Nat.beq (en (e i)) 0 with
                  | true => rfl
                  | false =>
                    exfalso
                    have h3 := cn_le (fun i => !lp i && !Nat.beq (en (e i)) 0) (show i + 1 ≤ N from hi)
                    rw [cn_t (p := fun i => !lp i && !Nat.beq (en (e i)) 0) (by rw [hli, hb0]; rfl), ← he.2.2] at h3
                    omega
                · unfold rz_p
                  rw [decide_eq_true ht0]
                  cases hb0 : Nat.beq (en (e i)) 0 with
                  | true =>
                    cases hb1 : Nat.beq (en (lo_X al N i ^ t + ra_sum t (fun j => zz j * lo_X al N i ^ j))) 0 with
                    | false => rfl
                    | true =>
                      exfalso
                      have h2 := h1.mp ((gf_en0 G).mp (Nat.eq_of_beq_eq_true hb1))
                      replace h2 : (!lp i && !Nat.beq (en (e i)) 0) = true := h2
                      rw [hb0, hli] at h2
                      cases h2
                  | false =>
                    have h2 := h1.mpr (show (!lp i && !Nat.beq (en (e i)) 0) = true by rw [hli, hb0]; rfl)
                    rw [h2, gf_zero G]; rfl
            have hsec := rm_second G hN he (rp := fun i => lp i || (!lp i && rz_p en al N t zz i)) hrp (by rw [hcn]; omega)
            rw [hcn] at hsec
            rcases hbad with hbad | ⟨a, ⟨j, hj, hne⟩, ha⟩ | ⟨a, ha, j, hj, hlj, haj⟩
            · exact hbad ⟨fun j => e (nth (fun i => lp i || (!lp i && rz_p en al N t zz i)) N j), hsec.1⟩
            · exact hne (hsec.2 a ha j hj)
            · have h1 := hsec.2 (fun j => a j - e (nth (fun i => lp i || (!lp i && rz_p en al N t zz i)) N j)) (fun i hi => by
                rw [ra_sum_congr (g := fun j => lo_X al N (nth (fun i => lp i || (!lp i && rz_p en al N t zz i)) N j) ^ (b + i) * a j - lo_X al N (nth (fun i => lp i || (!lp i && rz_p en al N t zz i)) N j) ^ (b + i) * e (nth (fun i => lp i || (!lp i && rz_p en al N t zz i)) N j)) (fun j _ => by grind), ra_sum_sub, ha i hi, hsec.1 i hi]
                grind) j hj
              have hn := nth_ok (p := fun i => lp i || (!lp i && rz_p en al N t zz i)) (N := N) (j := j) (by rw [hcn]; exact hj)
              have h2 := hrp _ hn.1
              have h3 : (lp (nth (fun i => lp i || (!lp i && rz_p en al N t zz i)) N j) || (!lp (nth (fun i => lp i || (!lp i && rz_p en al N t zz i)) N j) && rz_p en al N t zz (nth (fun i => lp i || (!lp i && rz_p en al N t zz i)) N j))) = true := hn.2.1
              rw [h2, hlj] at h3
              have h4 : e (nth (fun i => lp i || (!lp i && rz_p en al N t zz i)) N j) = 0 := by
                rw [haj] at h1
                grind
              rw [h4, gf_zero G] at h3
              cases h3
        · refine ⟨fun _ => next (fun e he => ?_) _ _ _ _, fun e => absurd rfl e⟩
          have S := er_set G hN he
          have hfirst := rm_first (gf_two G) S (t := t) he.2.2 (by omega)
          rcases hbad with hbad | hbad | ⟨zz, hsol, hbad⟩
          · exact hbad hfirst.1
          · exact hfirst.2.1 hbad
          · have hroots := hfirst.2.2 zz hsol
            have hcount : cn (fun p => !lp p && rz_p en al N t zz p) N = t := by
              conv => rhs; rw [he.2.2]
              refine cn_congr (fun i hi => ?_)
              cases hli : lp i with
              | true => rfl
              | false =>
                show rz_p en al N t zz i = !Nat.beq (en (e i)) 0
                have h1 := hroots i hi hli
                rcases Nat.eq_zero_or_pos t with ht0 | ht0
                · have h2 : rz_p en al N t zz i = false := by unfold rz_p; rw [decide_eq_false (by omega)]; rfl
                  rw [h2]
                  cases hb0 : Nat.beq (en (e i)) 0 with
                  | true => rfl
                  | false =>
                    exfalso
                    have h3 := cn_le (fun i => !lp i && !Nat.beq (en (e i)) 0) (show i + 1 ≤ N from hi)
                    rw [cn_t (p := fun i => !lp i && !Nat.beq (en (e i)) 0) (by rw [hli, hb0]; rfl), ← he.2.2] at h3
                    omega
                · unfold rz_p
                  rw [decide_eq_true ht0]
                  cases hb0 : Nat.beq (en (e i)) 0 with
                  | true =>
                    cases hb1 : Nat.beq (en (lo_X al N i ^ t + ra_sum t (fun j => zz j * lo_X al N i ^ j))) 0 with
                    | false => rfl
                    | true =>
                      exfalso
                      have h2 := h1.mp ((gf_en0 G).mp (Nat.eq_of_beq_eq_true hb1))
                      replace h2 : (!lp i && !Nat.beq (en (e i)) 0) = true := h2
                      rw [hb0, hli] at h2
                      cases h2
                  | false =>
                    have h2 := h1.mpr (show (!lp i && !Nat.beq (en (e i)) 0) = true by rw [hli, hb0]; rfl)
                    rw [h2, gf_zero G]; rfl
            rcases hbad with hbad | hbad
            · exact hbad hcount
            · rw [← cn_len, ra_filter_or _ (fun x _ hx => by rw [hx]; rfl), cn_len, cn_len, hcount] at hbad
              omega
  -- the sums without lost places
  have erase : cn lp N ≤ k → ∀ (sums : Nat → Int32), (∀ i, i < k → sums i = nI (en (ra_hv (fun i => if lp i then 0 else c i) (al ^ (b + i)) N))) → ∀ (n p : Nat) (rest : Nat → Int32), p ≤ N → N - p < n → (∀ i, i < k - cn lp p → rest i = nI (en (md_s (lo_X al N) (fun j => ra_hv (fun i => if lp i then 0 else c i) (al ^ (b + j)) N) lp p i))) → wp_Mo_repairWork_L99 (nI N) (nI k) (nI b) Wl post n z0 Wk sums rest a3 a4 a5 (nI (cn lp N)) (nI (k - cn lp p)) (nI p) := by
    intro hv sums hsums n
    induction n with
    | zero => intro p rest g1 g2; omega
    | succ n ih =>
      intro p rest g1 g2 g3
      have hle := cn_le lp g1
      refine pk_le N p (fun q => ?_) (fun q => ⟨vp_in_nI (by omega) (by decide), ?_⟩)
      · have hp : p = N := by omega
        subst hp
        exact ⟨k + 2, tries hv sums rest hsums g3 (k + 2) 0 z0 a3 a4 a5 (by omega) (by omega) (fun t' e ht => absurd ht (Nat.not_lt_zero t'))⟩
      · rw [nI_clamp (by omega), hl p q]
        cases hp : lp p with
        | false =>
          refine ⟨fun _ => nm_r (nI_1 p) ?_, fun e => absurd rfl e⟩
          have := ih (p + 1) rest (by omega) (by omega) (fun i hi => by
            rw [cn_f hp] at hi
            rw [g3 i hi]
            show _ = nI (en (if lp p then _ else md_s (lo_X al N) (fun j => ra_hv (fun i => if lp i then 0 else c i) (al ^ (b + j)) N) lp p i))
            rw [hp]; rfl)
          rw [cn_f hp] at this
          exact this
        | true =>
          refine ⟨fun e => absurd e (by decide), fun _ => sp_locator G (by omega) q ?_⟩
          have hc1 := cn_le lp (show p + 1 ≤ N from q)
          rw [cn_t hp] at hc1
          have e1 : nI (k - cn lp p) + (-1 : Int32) = nI (k - cn lp (p + 1)) := by
            rw [cn_t hp, show k - cn lp p = (k - (cn lp p + 1)) + 1 by omega]; exact pk_m1 _
          refine nm_r e1 ⟨k + 1, ?_⟩
          have inner : ∀ (v i : Nat) (rest : Nat → Int32), i ≤ k - cn lp (p + 1) → k - i < v → (∀ x, x < i → rest x = nI (en (md_s (lo_X al N) (fun j => ra_hv (fun i => if lp i then 0 else c i) (al ^ (b + j)) N) lp (p + 1) x))) → (∀ x, i ≤ x → x < k - cn lp p → rest x = nI (en (md_s (lo_X al N) (fun j => ra_hv (fun i => if lp i then 0 else c i) (al ^ (b + j)) N) lp p x))) → wp_Mo_repairWork_L129 (nI N) (nI k) (nI b) Wl post (wp_Mo_repairWork_L99 (nI N) (nI k) (nI b) Wl post n) v z0 Wk sums rest a3 a4 a5 (nI (cn lp N)) (nI (k - cn lp (p + 1))) (nI p) (nI (en (lo_X al N p))) (nI i) := by
            intro v
            induction v with
            | zero => intro i rest g4 g5; omega
            | succ v ihv =>
              intro i rest g4 g5 g6 g7
              refine pk_le (k - cn lp (p + 1)) i (fun q3 => nm_r (nI_1 p) (ih (p + 1) rest (by omega) (by omega) (fun x hx => g6 x (by omega)))) (fun q3 => ?_)
              have ht := cn_t hp
              rw [nI_1 i, nI_clamp (show i < 2 ^ 31 by omega), nI_clamp (show i + 1 < 2 ^ 31 by omega), g7 i (Nat.le_refl _) (by omega), g7 (i + 1) (by omega) (by omega)]
              refine ⟨vp_in_nI (by omega) (by decide), vp_in_nI (by omega) (by decide), sp_by G _ _ ⟨vp_in_nI (by omega) (by decide), nm_e ?_⟩⟩
              rw [nx_xor, ← gf_add G]
              refine ihv (i + 1) _ (by omega) (by omega) (fun x hx => ?_) (fun x hx hx2 => ?_)
              · by_cases e : x = i
                · subst e
                  rw [pk_us]
                  show _ = nI (en (if lp p then md_s (lo_X al N) (fun j => ra_hv (fun i => if lp i then 0 else c i) (al ^ (b + j)) N) lp p (x + 1) + lo_X al N p * md_s (lo_X al N) (fun j => ra_hv (fun i => if lp i then 0 else c i) (al ^ (b + j)) N) lp p x else _))
                  rw [hp]; rfl
                · rw [pk_un e]; exact g6 x (by omega)
              · rw [pk_un (by omega)]; exact g7 x (by omega) hx2
          exact inner (k + 1) 0 rest (by omega) (by omega) (fun x hx => absurd hx (Nat.not_lt_zero x)) (fun x _ hx => g3 x hx)
  -- the sums
  have sumsL : cn lp N ≤ k → ∀ (n i : Nat) (sums rest : Nat → Int32), i ≤ k → k - i < n → (∀ x, x < i → sums x = nI (en (ra_hv (fun i => if lp i then 0 else c i) (al ^ (b + x)) N))) → (∀ x, x < i → rest x = nI (en (ra_hv (fun i => if lp i then 0 else c i) (al ^ (b + x)) N))) → wp_Mo_repairWork_L47 (nI N) (nI k) (nI b) Wl post n z0 Wk sums rest a3 a4 a5 (nI (cn lp N)) (nI i) := by
    intro hv n
    induction n with
    | zero => intro i sums rest g1 g2; omega
    | succ n ih =>
      intro i sums rest g1 g2 g3 g4
      refine pk_le k i (fun q => ⟨N + 1, erase hv sums (fun x hx => g3 x (by omega)) (N + 1) 0 rest (by omega) (by omega) (fun x hx => g4 x (by have : cn lp 0 = 0 := rfl; omega))⟩) (fun q => ?_)
      rw [nI_add]
      refine sp_root G (by omega) (sp_valueAt G (by omega) hc hl _ ⟨vp_in_nI (by omega) (by decide), vp_in_nI (by omega) (by decide), vp_in_nI (by omega) (by decide), nm_r (nI_1 i) ?_⟩)
      rw [nI_clamp (by omega), pk_us]
      refine ih (i + 1) _ _ (by omega) (by omega) (fun x hx => ?_) (fun x hx => ?_)
      · by_cases e : x = i
        · subst e; exact pk_us
        · rw [pk_un e]; exact g3 x (by omega)
      · by_cases e : x = i
        · subst e; exact pk_us
        · rw [pk_un e]; exact g4 x (by omega)
  -- how many are lost
  have count : ∀ (n i : Nat), i ≤ N → N - i < n → wp_Mo_repairWork_L4 (nI N) (nI k) (nI b) Wl post n z0 Wk a1 a2 a3 a4 a5 (nI (cn lp i)) (nI i) := by
    intro n
    induction n with
    | zero => intro i g1 g2; omega
    | succ n ih =>
      intro i g1 g2
      refine pk_le N i (fun q => ?_) (fun q => ⟨vp_in_nI (by omega) (by decide), ?_⟩)
      · have hi : i = N := by omega
        subst hi
        refine pk_le (cn lp i) k (fun hv => ⟨k + 1, sumsL hv (k + 1) 0 a1 a2 (by omega) (by omega) (fun x hx => absurd hx (Nat.not_lt_zero x)) (fun x hx => absurd hx (Nat.not_lt_zero x))⟩) (fun hv => hno (fun t e he => by have := he.2.1; omega) _ _ _ _ _ _ _)
      · rw [nI_clamp (by omega), hl i q]
        cases hp : lp i with
        | false =>
          have := ih (i + 1) (by omega) (by omega)
          rw [cn_f hp] at this
          exact ⟨fun _ => nm_r (e' := nI (cn lp i)) (by rw [show (0 : Int32) = nI 0 from rfl, nI_add]; rfl) (nm_r (nI_1 i) this), fun e => absurd rfl e⟩
        | true =>
          have := ih (i + 1) (by omega) (by omega)
          rw [cn_t hp] at this
          exact ⟨fun e => absurd e (by decide), fun _ => nm_r (nI_1 _) (nm_r (nI_1 i) this)⟩
  exact ⟨N + 1, count (N + 1) 0 (by omega) (by omega)⟩
end RW
