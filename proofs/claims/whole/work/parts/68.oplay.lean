/-! lay. -/
def rw_ (m s i : Nat) : Nat := if i < m then i % s else (i - m) % s
def ps_ (m s lg i : Nat) : Nat := if i < m then i / s else lg + (i - m) / s
theorem lg_ge {m s : Nat} (hs : 1 ≤ s) : m ≤ s * ((m + s - 1) / s) := by
  have h1 := Nat.div_add_mod (m + s - 1) s
  have h2 := Nat.mod_lt (m + s - 1) (show s > 0 by omega)
  omega
theorem lg_le {m s : Nat} (hs : 1 ≤ s) : s * ((m + s - 1) / s) ≤ m + s - 1 := by
  have h1 := Nat.div_add_mod (m + s - 1) s
  omega
theorem rw_lt {m s i : Nat} (hs : 1 ≤ s) : rw_ m s i < s := by
  unfold rw_; split <;> exact Nat.mod_lt _ (by omega)
theorem ps_data {m s i : Nat} (hs : 1 ≤ s) (hi : i < m) : ps_ m s ((m + s - 1) / s) i < (m + s - 1) / s ∧ i = ps_ m s ((m + s - 1) / s) i * s + rw_ m s i := by
  unfold ps_ rw_
  rw [if_pos hi, if_pos hi]
  have h1 := lg_ge (m := m) hs
  have h2 := Nat.div_add_mod i s
  refine ⟨Nat.div_lt_of_lt_mul (by omega), by rw [Nat.mul_comm]; omega⟩
theorem ps_rep {m s k i : Nat} (hs : 1 ≤ s) (hi : m ≤ i) (hi2 : i < m + s * k) : ps_ m s ((m + s - 1) / s) i < (m + s - 1) / s + k ∧ (m + s - 1) / s ≤ ps_ m s ((m + s - 1) / s) i ∧ i = m + (ps_ m s ((m + s - 1) / s) i - (m + s - 1) / s) * s + rw_ m s i := by
  unfold ps_ rw_
  rw [if_neg (by omega), if_neg (by omega)]
  have h2 := Nat.div_add_mod (i - m) s
  have h3 : (i - m) / s < k := Nat.div_lt_of_lt_mul (by omega)
  refine ⟨by omega, Nat.le_add_right _ _, ?_⟩
  rw [Nat.add_sub_cancel_left, Nat.mul_comm]; omega
theorem sl_data {m s r p : Nat} (hr : r < s) (h : p * s + r < m) : rw_ m s (p * s + r) = r ∧ ps_ m s ((m + s - 1) / s) (p * s + r) = p := by
  unfold rw_ ps_
  rw [if_pos h, if_pos h, Nat.add_comm, Nat.add_mul_mod_self_right, Nat.add_mul_div_right _ _ (by omega), Nat.mod_eq_of_lt hr, Nat.div_eq_of_lt hr]
  exact ⟨rfl, Nat.zero_add p⟩
theorem sl_rep {m s k r j : Nat} (hr : r < s) (hj : j < k) : rw_ m s (m + j * s + r) = r ∧ ps_ m s ((m + s - 1) / s) (m + j * s + r) = (m + s - 1) / s + j ∧ m + j * s + r < m + s * k := by
  unfold rw_ ps_
  rw [if_neg (by omega), if_neg (by omega), show m + j * s + r - m = r + j * s by omega, Nat.add_mul_mod_self_right, Nat.add_mul_div_right _ _ (by omega), Nat.mod_eq_of_lt hr, Nat.div_eq_of_lt hr]
  have h1 : s * (j + 1) ≤ s * k := Nat.mul_le_mul_left s (by omega)
  rw [Nat.mul_add, Nat.mul_one, Nat.mul_comm s j] at h1
  exact ⟨rfl, by omega, by omega⟩
theorem sl_one {m s k i i' : Nat} (hs : 1 ≤ s) (hi : i < m + s * k) (hi' : i' < m + s * k) (h1 : rw_ m s i = rw_ m s i') (h2 : ps_ m s ((m + s - 1) / s) i = ps_ m s ((m + s - 1) / s) i') : i = i' := by
  rcases Nat.lt_or_ge i m with q | q
  · have a1 := ps_data hs q
    rcases Nat.lt_or_ge i' m with q' | q'
    · have a2 := ps_data hs q'
      rw [a1.2, a2.2, h1, h2]
    · have a2 := ps_rep (k := k) hs q' hi'
      omega
  · have a1 := ps_rep (k := k) hs q hi
    rcases Nat.lt_or_ge i' m with q' | q'
    · have a2 := ps_data hs q'
      omega
    · have a2 := ps_rep (k := k) hs q' hi'
      rw [a1.2.2, a2.2.2, h1, h2]
theorem sl_bd {p s : Nat} (hp : p ≤ 240) (hs : s ≤ 16) : p * s ≤ 3840 := Nat.le_trans (Nat.mul_le_mul hp hs) (by decide)
theorem sp_slotOf {m s k r p : Nat} (hm : m ≤ 800) (hs : 1 ≤ s) (hs2 : s ≤ 16) (hlg : (m + s - 1) / s ≤ 200) (hr : r < s) (hk : k ≤ 40) (hp : p < (m + s - 1) / s + k) {post : Int32 → Prop} (h1 : ∀ i, i < m + s * k → rw_ m s i = r → ps_ m s ((m + s - 1) / s) i = p → (p < (m + s - 1) / s → i < m ∧ p * s + r = i) → post (nI i)) (h0 : (∀ i, i < m + s * k → rw_ m s i = r → ps_ m s ((m + s - 1) / s) i ≠ p) → p < (m + s - 1) / s → m ≤ p * s + r → post (-1)) : wp_St_slotOf (nI ((m + s - 1) / s)) (nI m) (nI s) (nI r) (nI p) post := by
  have b1 := sl_bd (p := p) (s := s) (by omega) hs2
  have b2 := sl_bd (p := p - (m + s - 1) / s) (s := s) (by omega) hs2
  refine pk_lt p ((m + s - 1) / s) (fun q => ?_) (fun q => ?_)
  · refine nm_r (e' := nI (p * s + r)) (by rw [pk_mul, nI_add]) ?_
    refine pk_le m (p * s + r) (fun q2 => ?_) (fun q2 => ?_)
    · refine h0 (fun i hi e1 e2 => ?_) q q2
      rcases Nat.lt_or_ge i m with q3 | q3
      · have := ps_data hs q3
        rw [e1, e2] at this; omega
      · have := ps_rep (k := k) hs q3 hi
        omega
    · have := sl_data hr q2
      exact h1 _ (by omega) this.1 this.2 (fun _ => ⟨q2, rfl⟩)
  · rw [pk_sub q, pk_mul, nI_add, nI_add]
    have := sl_rep (m := m) (k := k) (j := p - (m + s - 1) / s) hr (by omega)
    exact h1 _ this.2.2 this.1 (by rw [this.2.1]; omega) (fun q2 => by omega)
theorem sp_whereSent {m s k r p : Nat} (hm : m ≤ 800) (hs : 1 ≤ s) (hs2 : s ≤ 16) (hlg : (m + s - 1) / s ≤ 200) (hr : r < s) (hk : k ≤ 40) (hp : p < (m + s - 1) / s + k) {post : Int32 → Prop} (h1 : ∀ i, i < m + s * k → rw_ m s i = r → ps_ m s ((m + s - 1) / s) i = p → post (nI i)) (h0 : (∀ i, i < m + s * k → rw_ m s i = r → ps_ m s ((m + s - 1) / s) i ≠ p) → p < (m + s - 1) / s → m ≤ p * s + r → post (-1)) : wp_Mo_whereSent (nI m) (nI s) (nI ((m + s - 1) / s)) (nI r) (nI p) post := by
  have b1 := sl_bd (p := p) (s := s) (by omega) hs2
  have b2 := sl_bd (p := p - (m + s - 1) / s) (s := s) (by omega) hs2
  refine pk_lt p ((m + s - 1) / s) (fun q => ?_) (fun q => ?_)
  · refine nm_r (e' := nI (p * s + r)) (by rw [pk_mul, nI_add]) ?_
    refine pk_le m (p * s + r) (fun q2 => ?_) (fun q2 => ?_)
    · refine h0 (fun i hi e1 e2 => ?_) q q2
      rcases Nat.lt_or_ge i m with q3 | q3
      · have := ps_data hs q3
        rw [e1, e2] at this; omega
      · have := ps_rep (k := k) hs q3 hi
        omega
    · have := sl_data hr q2
      exact h1 _ (by omega) this.1 this.2
  · rw [pk_sub q, pk_mul, nI_add, nI_add]
    have := sl_rep (m := m) (k := k) (j := p - (m + s - 1) / s) hr (by omega)
    exact h1 _ this.2.2 this.1 (by rw [this.2.1]; omega)
/-- storing a stripe -/
theorem sp_store {K : Type} {en : K → Nat} {m s k r : Nat} (hm : m ≤ 800) (hs : 1 ≤ s) (hs2 : s ≤ 16) (hlg : (m + s - 1) / s ≤ 200) (hr : r < s) (hk : k ≤ 40) {X : Nat → K} {Vb Pl Pc : Nat → Int32} (hV : ∀ p, p < (m + s - 1) / s + k → Vb p = nI (en (X p))) {post : (Nat → Int32) → (Nat → Int32) → Prop} (h : ∀ Pl' Pc' : Nat → Int32, (∀ i, i < m + s * k → rw_ m s i = r → Pl' i = 0 ∧ Pc' i = nI (en (X (ps_ m s ((m + s - 1) / s) i)))) → (∀ i, i < m + s * k → rw_ m s i ≠ r → Pl' i = Pl i ∧ Pc' i = Pc i) → post Pl' Pc') : wp_St_storeStripe (nI ((m + s - 1) / s)) (nI k) Vb (nI m) (nI s) Pl Pc (nI r) post := by
  have hsk := Nat.mul_le_mul hs2 hk
  have key : ∀ (u p : Nat) (l c : Nat → Int32), p ≤ (m + s - 1) / s + k → (m + s - 1) / s + k - p < u → (∀ i, i < m + s * k → rw_ m s i = r → ps_ m s ((m + s - 1) / s) i < p → l i = 0 ∧ c i = nI (en (X (ps_ m s ((m + s - 1) / s) i)))) → (∀ i, i < m + s * k → rw_ m s i ≠ r → l i = Pl i ∧ c i = Pc i) → wp_St_storeStripe_L2 (nI ((m + s - 1) / s)) (nI k) Vb (nI m) (nI s) post u l c (nI r) (nI p) := by
    intro u
    induction u with
    | zero => intro p l c g1 g2; omega
    | succ u ih =>
      intro p l c g1 g2 g3 g4
      show wp_St_storeStripe_b2 _ _ _ _ _ _ _ _ _ _ _
      unfold wp_St_storeStripe_b2
      refine sp_size ?_
      refine pk_le ((m + s - 1) / s + k) p (fun q => ?_) (fun q => ?_)
      · refine h l c (fun i hi e => g3 i hi e ?_) g4
        rcases Nat.lt_or_ge i m with q3 | q3
        · have := (ps_data hs q3).1; omega
        · have := (ps_rep (k := k) hs q3 hi).1; omega
      · refine sp_slotOf hm hs hs2 hlg hr hk q (fun i hi e1 e2 _ => bf (m1_ne (by omega)) ?_) (fun hnone _ _ => bt rfl ?_)
        · rw [nI_clamp (show i < 2 ^ 31 by omega), nI_clamp (show p < 2 ^ 31 by omega), hV p q]
          refine ⟨vp_in_nI (by omega) (by decide), vp_in_nI (by omega) (by decide), vp_in_nI (by omega) (by decide), nm_r (nI_1 p) (ih (p + 1) _ _ (by omega) (by omega) (fun z hz a1 a2 => ?_) (fun z hz a1 => ?_))⟩
          · by_cases e : z = i
            · subst e; rw [pk_us, pk_us, e2]; exact ⟨rfl, rfl⟩
            · rw [pk_un e, pk_un e]
              refine g3 z hz a1 ?_
              have : ps_ m s ((m + s - 1) / s) z ≠ p := fun q3 => e (sl_one hs hz hi (by rw [a1, e1]) (by rw [q3, e2]))
              omega
          · have e : z ≠ i := fun q3 => a1 (by rw [q3, e1])
            rw [pk_un e, pk_un e]; exact g4 z hz a1
        · refine nm_r (nI_1 p) (ih (p + 1) _ _ (by omega) (by omega) (fun z hz a1 a2 => ?_) g4)
          have := hnone z hz a1
          exact g3 z hz a1 (by omega)
  exact ⟨_, key ((m + s - 1) / s + k + 1) 0 Pl Pc (Nat.zero_le _) (Nat.lt_succ_of_le (Nat.sub_le _ _)) (fun i hi _ q => by omega) (fun i hi _ => ⟨rfl, rfl⟩)⟩
def ly_D {K : Type} [Lean.Grind.Field K] (m s : Nat) (u : Nat → K) (r p : Nat) : K := if p * s + r < m then u (p * s + r) else 0
def ly_X {K : Type} [Lean.Grind.Field K] (al : K) (m s k b : Nat) (u : Nat → K) (r p : Nat) : K := if p < (m + s - 1) / s then ly_D m s u r p else rm_c (gp_c al b k) k (ly_D m s u r) ((m + s - 1) / s) (p - (m + s - 1) / s)
def ly_x {K : Type} [Lean.Grind.Field K] (al : K) (m s k b : Nat) (u : Nat → K) (i : Nat) : K := ly_X al m s k b u (rw_ m s i) (ps_ m s ((m + s - 1) / s) i)
theorem ly_xd {K : Type} [Lean.Grind.Field K] (al : K) {m s k b i : Nat} (hs : 1 ≤ s) (u : Nat → K) (hi : i < m) : ly_x al m s k b u i = u i := by
  have h := ps_data hs hi
  unfold ly_x ly_X ly_D
  rw [if_pos h.1, ← h.2, if_pos hi]
theorem sp_layStripe {K : Type} [F : Lean.Grind.Field K] {en : K → Nat} {al : K} (G : gf_ok K F en al) {Fp Fl : Nat → Int32} (T : ft_ok Fp Fl) {m s k b r : Nat} (hm : m ≤ 800) (hs : 1 ≤ s) (hs2 : s ≤ 16) (hlg : (m + s - 1) / s ≤ 200) (hr : r < s) (hk : k ≤ 40) {u : Nat → K} {Vb Vfa Pb Po Pl Pc : Nat → Int32} (hfa : ∀ i, i < 41 → Vfa i = nI (en (gp_c al b k i))) (hb : ∀ i, i < m → Pb i = nI (en (u i))) {post : (Nat → Int32) → (Nat → Int32) → (Nat → Int32) → (Nat → Int32) → Prop} (h : ∀ Vb' Po' Pl' Pc' : Nat → Int32, (∀ i, i < m + s * k → rw_ m s i = r → Po' i = nI (en (ly_x al m s k b u i)) ∧ Pl' i = 0 ∧ Pc' i = nI (en (ly_x al m s k b u i))) → (∀ i, i < m + s * k → rw_ m s i ≠ r → Po' i = Po i ∧ Pl' i = Pl i ∧ Pc' i = Pc i) → post Vb' Po' Pl' Pc') : wp_St_layStripe Fp Fl (nI ((m + s - 1) / s)) (nI k) Vb Vfa (nI m) (nI s) Pb Po Pl Pc (nI r) post := by
  have hsk := Nat.mul_le_mul hs2 hk
  have copy : ∀ (Vb' l c : Nat → Int32), (∀ i, i < m + s * k → rw_ m s i = r → l i = 0 ∧ c i = nI (en (ly_x al m s k b u i))) → (∀ i, i < m + s * k → rw_ m s i ≠ r → l i = Pl i ∧ c i = Pc i) → ∀ (w p : Nat) (o : Nat → Int32), p ≤ (m + s - 1) / s + k → (m + s - 1) / s + k - p < w → (∀ i, i < m + s * k → rw_ m s i = r → ps_ m s ((m + s - 1) / s) i < p → o i = nI (en (ly_x al m s k b u i))) → (∀ i, i < m + s * k → rw_ m s i ≠ r → o i = Po i) → wp_St_layStripe_L64 Fp Fl (nI ((m + s - 1) / s)) (nI k) Vfa (nI m) (nI s) Pb post w Vb' o l c (nI r) (nI p) := by
    intro Vb' l c hl1 hl2 w
    induction w with
    | zero => intro p o g1 g2; omega
    | succ w ih =>
      intro p o g1 g2 g3 g4
      show wp_St_layStripe_b64 _ _ _ _ _ _ _ _ _ _ _ _ _ _ _ _
      unfold wp_St_layStripe_b64
      refine sp_size ?_
      refine pk_le ((m + s - 1) / s + k) p (fun q => ?_) (fun q => ?_)
      · refine h Vb' o l c (fun i hi e => ⟨g3 i hi e ?_, hl1 i hi e⟩) (fun i hi e => ⟨g4 i hi e, hl2 i hi e⟩)
        rcases Nat.lt_or_ge i m with q3 | q3
        · have := (ps_data hs q3).1; omega
        · have := (ps_rep (k := k) hs q3 hi).1; omega
      · refine sp_slotOf hm hs hs2 hlg hr hk q (fun i hi e1 e2 _ => bf (m1_ne (by omega)) ?_) (fun hnone _ _ => bt rfl ?_)
        · rw [nI_clamp (show i < 2 ^ 31 by omega), (hl1 i hi e1).2]
          refine ⟨vp_in_nI (by omega) (by decide), vp_in_nI (by omega) (by decide), nm_r (nI_1 p) (ih (p + 1) _ (by omega) (by omega) (fun z hz a1 a2 => ?_) (fun z hz a1 => ?_))⟩
          · by_cases e : z = i
            · subst e; rw [pk_us]
            · rw [pk_un e]
              refine g3 z hz a1 ?_
              have : ps_ m s ((m + s - 1) / s) z ≠ p := fun q3 => e (sl_one hs hz hi (by rw [a1, e1]) (by rw [q3, e2]))
              omega
          · have e : z ≠ i := fun q3 => a1 (by rw [q3, e1])
            rw [pk_un e]; exact g4 z hz a1
        · refine nm_r (nI_1 p) (ih (p + 1) _ (by omega) (by omega) (fun z hz a1 a2 => ?_) g4)
          have := hnone z hz a1
          exact g3 z hz a1 (by omega)
  have key : ∀ (w p : Nat) (v : Nat → Int32), p ≤ (m + s - 1) / s → (m + s - 1) / s - p < w → (∀ z, z < p → v z = nI (en (ly_D m s u r z))) → wp_St_layStripe_L2 Fp Fl (nI ((m + s - 1) / s)) (nI k) Vfa (nI m) (nI s) Pb post w v Po Pl Pc (nI r) (nI p) := by
    intro w
    induction w with
    | zero => intro p v g1 g2; omega
    | succ w ih =>
      intro p v g1 g2 g3
      refine pk_le ((m + s - 1) / s) p (fun q => ?_) (fun q => ?_)
      · rw [show p = (m + s - 1) / s by omega] at g3
        refine sp_fillRepairs G T (by omega) hk g3 hfa (fun f hf1 hf2 => ?_)
        refine sp_store (en := en) hm hs hs2 hlg hr hk (X := ly_X al m s k b u r) (fun p hp => ?_) (fun Pl' Pc' c1 c2 => ⟨_, copy f Pl' Pc' (fun i hi e => ?_) c2 ((m + s - 1) / s + k + 1) 0 Po (Nat.zero_le _) (Nat.lt_succ_of_le (Nat.sub_le _ _)) (fun i hi _ q => by omega) (fun i hi _ => rfl)⟩)
        · unfold ly_X
          by_cases e : p < (m + s - 1) / s
          · rw [if_pos e]; exact hf1 p e
          · rw [if_neg e]
            have := hf2 (p - (m + s - 1) / s) (by omega)
            rw [show (m + s - 1) / s + (p - (m + s - 1) / s) = p by omega] at this; exact this
        · have := c1 i hi e
          unfold ly_x
          rw [e]; exact this
      · have tail : ∀ t0 : Int32, t0 = nI (en (ly_D m s u r p)) → wp_St_layStripe_b43 Fp Fl (nI ((m + s - 1) / s)) (nI k) Vfa (nI m) (nI s) Pb post (wp_St_layStripe_L2 Fp Fl (nI ((m + s - 1) / s)) (nI k) Vfa (nI m) (nI s) Pb post w) v Po Pl Pc (nI r) (nI p) t0 (nI p) := fun t0 ht0 => by
          refine ⟨vp_in_nI (by omega) (by decide), nm_r (nI_1 p) ?_⟩
          rw [nI_clamp (by omega)]
          refine ih (p + 1) _ (by omega) (by omega) (fun z hz => ?_)
          by_cases e : z = p
          · subst e; rw [pk_us]; exact ht0
          · rw [pk_un e]; exact g3 z (by omega)
        refine sp_slotOf hm hs hs2 hlg hr hk (by omega) (fun i hi e1 e2 e3 => bf' (m1_ne (by omega)) ?_) (fun hnone _ hge => bt' rfl (tail 0 ?_))
        · have e4 := e3 q
          refine ⟨vp_in_nI (by omega) (by decide), tail _ ?_⟩
          rw [nI_clamp (by omega), hb i e4.1]
          unfold ly_D
          rw [e4.2, if_pos e4.1]
        · unfold ly_D
          rw [if_neg (by omega), gf_zero G]; rfl
  exact ⟨_, key ((m + s - 1) / s + 1) 0 Vb (Nat.zero_le _) (Nat.lt_succ_of_le (Nat.sub_le _ _)) (fun z hz => by omega)⟩
