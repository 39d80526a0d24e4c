/-! The reference's repair of its working word. -/
section RS
theorem sp_valueAt {K : Type} [F : Lean.Grind.Field K] {en : K → Nat} {al : K} (G : gf_ok K F en al) {N : Nat} (hN : N ≤ 255) {Wk Wl : Nat → Int32} {c : Nat → K} {lp : Nat → Bool} (hc : ∀ i, i < N → Wk i = nI (en (c i))) (hl : zB Wl lp N) (Z : K) {post : Int32 → Prop} (h : post (nI (en (ra_hv (fun i => if lp i then 0 else c i) Z N)))) : wp_Mo_valueAt (nI N) Wk Wl (nI (en Z)) post := by
  have key : ∀ (r i : Nat), i ≤ N → N - i < r → wp_Mo_valueAt_L4 (nI N) Wk Wl post r (nI (en Z)) (nI (en (ra_hv (fun i => if lp i then 0 else c i) Z i))) (nI i) := by
    intro r
    induction r with
    | zero => intro i h1 h2; omega
    | succ r ih =>
      intro i h1 h2
      refine pk_le N i (fun q => ?_) (fun q => ?_)
      · rw [show i = N by omega]; exact h
      · refine sp_by G _ _ ⟨vp_in_nI (by omega) (by decide), ?_⟩
        have tail : ∀ (t : Int32) (d : K), t = nI (en d) → d = (if lp i then 0 else c i) → wp_Mo_valueAt_b36 (nI N) Wk Wl post (wp_Mo_valueAt_L4 (nI N) Wk Wl post r) (nI (en Z)) (nI i) t (nI (en (ra_hv (fun i => if lp i then 0 else c i) Z i * Z))) := by
          intro t d ht hd
          refine nm_r (e' := nI (en (ra_hv (fun i => if lp i then 0 else c i) Z (i + 1)))) ?_ (nm_r (nI_1 i) (ih (i + 1) (by omega) (by omega)))
          rw [ht, nx_xor, ← gf_add G, hd]; rfl
        rw [nI_clamp (by omega), hl i q]
        cases hp : lp i with
        | true =>
          refine ⟨fun e => absurd e (by decide), fun _ => tail 0 0 (by rw [gf_zero G]; rfl) (by rw [hp]; rfl)⟩
        | false =>
          refine ⟨fun _ => ⟨vp_in_nI (by omega) (by decide), tail _ (c i) (hc i q) (by rw [hp]; rfl)⟩, fun e => absurd rfl e⟩
  refine ⟨N + 1, ?_⟩
  have := key (N + 1) 0 (by omega) (by omega)
  rw [show ra_hv (fun i => if lp i then 0 else c i) Z 0 = 0 from rfl, gf_zero G] at this
  exact this
theorem sp_locator {K : Type} [F : Lean.Grind.Field K] {en : K → Nat} {al : K} (G : gf_ok K F en al) {N p : Nat} (hN : N ≤ 255) (hp : p < N) {post : Int32 → Prop} (h : post (nI (en (lo_X al N p)))) : wp_Mo_locator (nI N) (nI p) post := by
  have e : nI N - (1 : Int32) - nI p = nI (N - 1 - p) := by
    rw [show (1 : Int32) = nI 1 from rfl, pk_sub (by omega), pk_sub (by omega)]
  show wp_Mo_root (nI N - (1 : Int32) - nI p) (fun r => post r)
  rw [e]
  exact sp_root G (by omega) h
/-- a root of the monic polynomial at a place -/
def rz_p {K : Type} [Lean.Grind.Field K] (en : K → Nat) (al : K) (N t : Nat) (z : Nat → K) (p : Nat) : Bool := decide (0 < t) && Nat.beq (en (lo_X al N p ^ t + ra_sum t (fun j => z j * lo_X al N p ^ j))) 0
theorem sp_findSpots {K : Type} [F : Lean.Grind.Field K] {en : K → Nat} {al : K} (G : gf_ok K F en al) {N t lf : Nat} (hN : N ≤ 240) (ht : 2 * t ≤ lf) (hlf : lf ≤ 40) {Wl Mr Ms Mm Ma : Nat → Int32} {lp : Nat → Bool} (hl : zB Wl lp N) {T : Nat → K} (hT : ∀ i, i < lf → Mr i = nI (en (T i))) {z0 : Int32} {post : Int32 → Int32 → (Nat → Int32) → (Nat → Int32) → (Nat → Int32) → Prop}
    (h1 : ∀ (z : Nat → K) (f M' A' : Nat → Int32), (∀ i, i < lf - t → ra_sum t (fun j => T (i + j) * z j) = T (i + t)) → cn (fun p => !lp p && rz_p en al N t z p) N = t → cn (fun p => lp p || (!lp p && rz_p en al N t z p)) N ≤ 40 → (∀ j, j < cn (fun p => lp p || (!lp p && rz_p en al N t z p)) N → f j = nI (nth (fun p => lp p || (!lp p && rz_p en al N t z p)) N j)) → post 1 (nI (cn (fun p => lp p || (!lp p && rz_p en al N t z p)) N)) f M' A')
    (h0 : ((¬ ∃ z : Nat → K, ∀ i, i < lf - t → ra_sum t (fun j => T (i + j) * z j) = T (i + t)) ∨ (∃ z : Nat → K, (∃ j, j < t ∧ z j ≠ 0) ∧ ∀ i, i < lf - t → ra_sum t (fun j => T (i + j) * z j) = 0) ∨ ∃ z : Nat → K, (∀ i, i < lf - t → ra_sum t (fun j => T (i + j) * z j) = T (i + t)) ∧ (cn (fun p => !lp p && rz_p en al N t z p) N ≠ t ∨ 40 < cn (fun p => lp p || (!lp p && rz_p en al N t z p)) N)) → ∀ (y : Int32) (f M' A' : Nat → Int32), post 0 y f M' A') : wp_Mo_findSpots (nI N) z0 Wl Mr Ms Mm Ma (nI t) (nI lf) post := by
  -- the places
  have places : ∀ (z : Nat → K) (M' A' : Nat → Int32), (∀ i, i < lf - t → ra_sum t (fun j => T (i + j) * z j) = T (i + t)) → (∀ j, j < t → A' j = nI (en (z j))) → ∀ (n p : Nat) (f : Nat → Int32), p ≤ N → N - p < n → cn (fun p => lp p || (!lp p && rz_p en al N t z p)) p ≤ 40 → (∀ x, x < p → (lp x || (!lp x && rz_p en al N t z x)) = true → f (cn (fun p => lp p || (!lp p && rz_p en al N t z p)) x) = nI x) → wp_Mo_findSpots_L93 (nI N) Wl Mr post n (nI (cn (fun p => lp p || (!lp p && rz_p en al N t z p)) p)) f M' A' (nI t) (nI (cn (fun p => !lp p && rz_p en al N t z p) p)) (nI p) := by
    intro z M' A' hz hA n
    induction n with
    | zero => intro p f g1 g2; omega
    | succ n ih =>
      intro p f g1 g2 g3 g4
      have hcs := cn_id (fun p => !lp p && rz_p en al N t z p) p
      refine pk_le N p (fun q => ?_) (fun q => ⟨vp_in_nI (by omega) (by decide), ?_⟩)
      · have hpN : p = N := by omega
        subst hpN
        refine pz_ne (cn (fun x => !lp x && rz_p en al p t z x) p) t (fun q2 => ⟨rfl, h0 (Or.inr (Or.inr ⟨z, hz, Or.inl q2⟩)) _ _ _ _⟩) (fun q2 => ⟨rfl, h1 z f M' A' hz q2 g3 (fun j hj => ?_)⟩)
        have hn := nth_ok (p := fun x => lp x || (!lp x && rz_p en al p t z x)) (N := p) hj
        have := g4 _ hn.1 hn.2.1
        rw [hn.2.2] at this
        exact this
      · -- behind a place: it is one, or isn't
        have yes : (lp p || (!lp p && rz_p en al N t z p)) = true → ∀ x5 : Int32, x5 = 1 → wp_Mo_findSpots_b198 (nI N) Wl Mr post (wp_Mo_findSpots_L93 (nI N) Wl Mr post n) (nI (cn (fun p => lp p || (!lp p && rz_p en al N t z p)) p)) f M' A' (nI t) (nI (cn (fun p => !lp p && rz_p en al N t z p) (p + 1))) (nI p) x5 := by
          intro hyes x5 hx5
          rw [hx5]
          refine ⟨fun e => absurd e (by decide), fun _ => pz_ne (cn (fun p => lp p || (!lp p && rz_p en al N t z p)) p) 40 (fun q2 => ⟨vp_in_nI (by omega) (by decide), nm_r (nI_1 _) (nm_r (nI_1 p) ?_)⟩) (fun q2 => ?_)⟩
          · rw [nI_clamp (by omega)]
            have := ih (p + 1) (upd f (cn (fun p => lp p || (!lp p && rz_p en al N t z p)) p) (nI p)) (by omega) (by omega) (by rw [cn_t (p := fun p => lp p || (!lp p && rz_p en al N t z p)) hyes]; omega) (fun x hx hpx => by
              rcases Nat.lt_or_ge x p with q5 | q5
              · have hlt : cn (fun p => lp p || (!lp p && rz_p en al N t z p)) x + 1 ≤ cn (fun p => lp p || (!lp p && rz_p en al N t z p)) p := by rw [← cn_t (p := fun p => lp p || (!lp p && rz_p en al N t z p)) hpx]; exact cn_le _ q5
                rw [pk_un (by omega)]; exact g4 x q5 hpx
              · rw [show x = p by omega]; exact pk_us)
            rw [cn_t (p := fun p => lp p || (!lp p && rz_p en al N t z p)) hyes] at this
            exact this
          · have hmore := cn_le (fun p => lp p || (!lp p && rz_p en al N t z p)) (show p + 1 ≤ N from q)
            rw [cn_t (p := fun p => lp p || (!lp p && rz_p en al N t z p)) hyes] at hmore
            exact h0 (Or.inr (Or.inr ⟨z, hz, Or.inr (by omega)⟩)) _ _ _ _
        have no : (lp p || (!lp p && rz_p en al N t z p)) = false → wp_Mo_findSpots_b198 (nI N) Wl Mr post (wp_Mo_findSpots_L93 (nI N) Wl Mr post n) (nI (cn (fun p => lp p || (!lp p && rz_p en al N t z p)) p)) f M' A' (nI t) (nI (cn (fun p => !lp p && rz_p en al N t z p) (p + 1))) (nI p) 0 := by
          intro hnot
          refine ⟨fun _ => nm_r (nI_1 p) ?_, fun e => absurd rfl e⟩
          have := ih (p + 1) f (by omega) (by omega) (by rw [cn_f (p := fun p => lp p || (!lp p && rz_p en al N t z p)) hnot]; exact g3) (fun x hx hpx => by
            rcases Nat.lt_or_ge x p with q5 | q5
            · exact g4 x q5 hpx
            · rw [show x = p by omega, hnot] at hpx; cases hpx)
          rw [cn_f (p := fun p => lp p || (!lp p && rz_p en al N t z p)) hnot] at this
          exact this
        rw [nI_clamp (by omega), hl p q]
        cases hp : lp p with
        | true =>
          refine nm_e ⟨fun _ => ?_, fun e => absurd e (by decide)⟩
          have hf : (!lp p && rz_p en al N t z p) = false := by rw [hp]; rfl
          have := yes (by rw [hp]; rfl) 1 rfl
          rw [cn_f (p := fun p => !lp p && rz_p en al N t z p) hf] at this
          exact this
        | false =>
          refine nm_e ⟨fun e => absurd rfl e, fun _ => pk_le t 0 (fun q2 => ?_) (fun q2 => ?_)⟩
          · have hr : rz_p en al N t z p = false := by unfold rz_p; rw [decide_eq_false (by omega)]; rfl
            have hf : (!lp p && rz_p en al N t z p) = false := by rw [hr, hp]; rfl
            have := no (by rw [hp, hr]; rfl)
            rw [cn_f (p := fun p => !lp p && rz_p en al N t z p) hf] at this
            exact this
          · refine sp_locator G (by omega) q (sp_raised G _ (by omega) ⟨t + 1, ?_⟩)
            have inner : ∀ (v j : Nat), j ≤ t → t - j < v → wp_Mo_findSpots_L139 (nI N) Wl Mr post (wp_Mo_findSpots_L93 (nI N) Wl Mr post n) v (nI (cn (fun p => lp p || (!lp p && rz_p en al N t z p)) p)) f M' A' (nI t) (nI (cn (fun p => !lp p && rz_p en al N t z p) p)) (nI p) (nI (en (lo_X al N p))) (nI (en (lo_X al N p ^ t + ra_sum j (fun j => z j * lo_X al N p ^ j)))) (nI j) := by
              intro v
              induction v with
              | zero => intro j g5 g6; omega
              | succ v ihv =>
                intro j g5 g6
                refine pk_le t j (fun q3 => ?_) (fun q3 => ⟨vp_in_nI (by omega) (by decide), ?_⟩)
                · have hj : j = t := by omega
                  subst hj
                  refine pz_ne _ 0 (fun q4 => ?_) (fun q4 => ?_) (ha := by have := gf_lt G (lo_X al N p ^ j + ra_sum j (fun j => z j * lo_X al N p ^ j)); omega) (hb := by decide)
                  · have hr : rz_p en al N j z p = false := by
                      unfold rz_p
                      cases hb : Nat.beq (en (lo_X al N p ^ j + ra_sum j (fun j => z j * lo_X al N p ^ j))) 0 with
                      | false => rw [Bool.and_false]
                      | true => exact absurd (Nat.eq_of_beq_eq_true hb) q4
                    have hf : (!lp p && rz_p en al N j z p) = false := by rw [hr, hp]; rfl
                    have := no (by rw [hp, hr]; rfl)
                    rw [cn_f (p := fun p => !lp p && rz_p en al N j z p) hf] at this
                    refine ⟨fun _ => nm_r (e' := nI (cn (fun p => !lp p && rz_p en al N j z p) p)) (by rw [show (0 : Int32) = nI 0 from rfl, nI_add]; rfl) this, fun e => absurd rfl e⟩
                  · have hr : rz_p en al N j z p = true := by
                      unfold rz_p
                      rw [q4, decide_eq_true q2]; rfl
                    have ht1 : (!lp p && rz_p en al N j z p) = true := by rw [hr, hp]; rfl
                    have := yes (by rw [hp, hr]; rfl) 1 rfl
                    rw [cn_t (p := fun p => !lp p && rz_p en al N j z p) ht1] at this
                    exact ⟨fun e => absurd e (by decide), fun _ => nm_r (nI_1 _) this⟩
                · rw [nI_clamp (by omega), hA j q3]
                  refine sp_raised G _ (by omega) (sp_by G _ _ (nm_r (e' := nI (en (lo_X al N p ^ t + ra_sum (j + 1) (fun j => z j * lo_X al N p ^ j)))) ?_ (nm_r (nI_1 j) (ihv (j + 1) (by omega) (by omega)))))
                  rw [nx_xor, ← gf_add G]
                  congr 2
                  show _ = lo_X al N p ^ t + (ra_sum j (fun j => z j * lo_X al N p ^ j) + z j * lo_X al N p ^ j)
                  grind
            have := inner (t + 1) 0 (by omega) (by omega)
            have e0 : lo_X al N p ^ t + ra_sum 0 (fun j => z j * lo_X al N p ^ j) = lo_X al N p ^ t := by
              show lo_X al N p ^ t + 0 = _
              grind
            rw [e0] at this
            exact this
  -- the system
  have e1 : nI lf - nI t = nI (lf - t) := pk_sub (by omega)
  have build : ∀ (n i : Nat) (f : Nat → Int32), i ≤ lf - t → lf - t - i < n → (∀ x, x < i → ∀ j, j ≤ t → f (41 * x + j) = nI (en (T (x + j)))) → wp_Mo_findSpots_L2 (nI N) Wl Mr post n z0 Ms f Ma (nI t) (nI lf) (nI i) := by
    intro n
    induction n with
    | zero => intro i f g1 g2; omega
    | succ n ih =>
      intro i f g1 g2 g3
      show wp_Mo_findSpots_b2 (nI N) Wl Mr post _ _ _ _ _ _ _ _
      unfold wp_Mo_findSpots_b2
      rw [e1]
      refine pk_le (lf - t) i (fun q => ?_) (fun q => ⟨t + 1, ?_⟩)
      · refine sp_msolve G (R := lf - t) (u := t) (by omega) (by omega) (M := fun x j => T (x + j)) (fun x hx j hj => g3 x (by omega) j hj) (fun f' A' z hA hz => ?_) (fun hbad f' A' => ?_)
        · refine ⟨fun _ => ⟨N + 1, ?_⟩, fun e => absurd e (by decide)⟩
          exact places z f' A' hz hA (N + 1) 0 Ms (by omega) (by omega) (Nat.zero_le _) (fun x hx => absurd hx (Nat.not_lt_zero x))
        · refine ⟨fun e => absurd rfl e, fun _ => h0 ?_ _ _ _ _⟩
          rcases hbad with hb | hb
          · exact Or.inl hb
          · exact Or.inr (Or.inl hb)
      · have inner : ∀ (v j : Nat) (f : Nat → Int32), j ≤ t → t - j < v → (∀ x, x < i → ∀ y, y ≤ t → f (41 * x + y) = nI (en (T (x + y)))) → (∀ y, y < j → f (41 * i + y) = nI (en (T (i + y)))) → wp_Mo_findSpots_L12 (nI N) Wl Mr post (wp_Mo_findSpots_L2 (nI N) Wl Mr post n) v z0 Ms f Ma (nI t) (nI lf) (nI i) (nI j) := by
          intro v
          induction v with
          | zero => intro j f g4 g5; omega
          | succ v ihv =>
            intro j f g4 g5 g6 g7
            refine pk_le t j (fun q3 => ?_) (fun q3 => ?_)
            · rw [ix41, nI_add, nI_clamp (show 41 * i + t < 2 ^ 31 by omega), nI_clamp (show i + t < 2 ^ 31 by omega), hT (i + t) (by omega)]
              refine ⟨vp_in_nI (by omega) (by decide), vp_in_nI (by omega) (by decide), nm_r (nI_1 i) ?_⟩
              refine ih (i + 1) _ (by omega) (by omega) (fun x hx y hy => ?_)
              by_cases e : 41 * x + y = 41 * i + t
              · rw [e, pk_us, show x = i by omega, show y = t by omega]
              · rw [pk_un e]
                rcases Nat.lt_or_ge x i with q4 | q4
                · exact g6 x q4 y hy
                · have hxi : x = i := by omega
                  subst hxi
                  exact g7 y (by omega)
            · rw [ix41, nI_add, nI_clamp (show 41 * i + j < 2 ^ 31 by omega), nI_clamp (show i + j < 2 ^ 31 by omega), hT (i + j) (by omega)]
              refine ⟨vp_in_nI (by omega) (by decide), vp_in_nI (by omega) (by decide), nm_r (nI_1 j) ?_⟩
              refine ihv (j + 1) _ (by omega) (by omega) (fun x hx y hy => ?_) (fun y hy => ?_)
              · rw [pk_un (by omega)]; exact g6 x hx y hy
              · by_cases e : y = j
                · subst e; exact pk_us
                · rw [pk_un (by omega)]; exact g7 y (by omega)
        exact inner (t + 1) 0 f (by omega) (by omega) g3 (fun y hy => absurd hy (Nat.not_lt_zero y))
  exact ⟨lf - t + 1, build (lf - t + 1) 0 Mm (by omega) (by omega) (fun x hx => absurd hx (Nat.not_lt_zero x))⟩
end RS
