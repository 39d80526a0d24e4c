/-! The blocks' calls, but lay and mend. -/
def gv (p : Int32) : Prop := p = (-1 : Int32) ∨ ∃ j : Nat, j < 256 ∧ p = nI j
def ct (p : Int32) : Nat := if p = (-1 : Int32) then 0 else 1
theorem m1_ne {j : Nat} (hj : j < 2 ^ 31) : ¬ nI j = (-1 : Int32) := fun q => by
  have := nI_pos' hj
  rw [q] at this; exact absurd this (by decide)
theorem gv_of {K : Type} [F : Lean.Grind.Field K] {en : K → Nat} {al : K} (G : gf_ok K F en al) {p : Int32} (h : gv p) : ∃ v : K, p = (-1 : Int32) ∨ p = nI (en v) := by
  rcases h with q | ⟨j, hj, e⟩
  · exact ⟨0, Or.inl q⟩
  · obtain ⟨v, hv⟩ := gf_of G hj
    exact ⟨v, Or.inr (by rw [hv]; exact e)⟩
theorem sp_mayFollow {p : Int32} {post : Int32 → Prop} (h1 : gv p → post 1) (h0 : ¬ gv p → post 0) : wp_RS_mayFollow p post := by
  refine ⟨fun q => ⟨rfl, h1 (Or.inl q)⟩, fun q => sp_Fi_isByte (fun j hj e => br1 ⟨rfl, h1 (Or.inr ⟨j, hj, e⟩)⟩) (fun hn => br0 ⟨rfl, h0 (fun g => ?_)⟩)⟩
  rcases g with g | g
  · exact q g
  · exact hn g
theorem i32_m1 {p : Int32} (h : ¬ p < (-1 : Int32)) (h2 : p < 0) : p = (-1 : Int32) := by
  have e1 := mt Int32.lt_iff_toInt_lt.mpr h
  have e2 := i32_neg0.mp h2
  rw [show (-1 : Int32).toInt = -1 by decide] at e1
  apply Int32.toInt_inj.mp
  rw [show (-1 : Int32).toInt = -1 by decide]; omega
theorem gi1 {p : Int32} (h : gv p) {post : Int32 → Prop} (h1 : post 1) : wp_Mo_isGiven p post := by
  rcases h with q | ⟨j, hj, e⟩
  · subst q; exact bf (by decide) (bf (by decide) ⟨rfl, h1⟩)
  · subst e
    refine bf (fun q => ?_) (bf (fun q => by have := pz_le (a := 256) (by decide) (by omega) q; omega) ⟨rfl, h1⟩)
    have e1 := Int32.lt_iff_toInt_lt.mp q
    rw [nI_toInt (by omega), show (-1 : Int32).toInt = -1 by decide] at e1
    omega
theorem gi0 {p : Int32} (h : ¬ gv p) {post : Int32 → Prop} (h0 : post 0) : wp_Mo_isGiven p post := by
  refine ⟨fun _ => ⟨rfl, h0⟩, fun q => ⟨fun _ => ⟨rfl, h0⟩, fun q2 => ?_⟩⟩
  exfalso
  rcases pz_cases p 256 (by decide) with ⟨c, _⟩ | ⟨c, d, _⟩ | g
  · exact h (Or.inl (i32_m1 q c))
  · exact q2 d
  · exact h (Or.inr g)
def BL {K : Type} (en : K → Nat) (m : Nat) (u : Nat → K) (f : Nat → Int32) : Prop := ∀ i, i < m → f i = nI (en (u i))
def ap {K : Type} (u : Nat → K) (m : Nat) (v : K) : Nat → K := fun i => if i = m then v else u i
theorem BL_ap {K : Type} {en : K → Nat} {m : Nat} {u : Nat → K} {f : Nat → Int32} (h : BL en m u f) (v : K) : BL en (m + 1) (ap u m v) (upd f m (nI (en v))) := fun i hi => by
  unfold ap
  by_cases e : i = m
  · subst e; rw [pk_us, if_pos rfl]
  · rw [pk_un e, if_neg e]; exact h i (by omega)
theorem BL_sk {K : Type} {en : K → Nat} {m : Nat} {u : Nat → K} {f : Nat → Int32} (h : BL en m u f) (v : K) : BL en (m + 0) (ap u m v) f := fun i hi => by
  unfold ap
  rw [if_neg (by omega)]; exact h i (by omega)
theorem sp_append {K : Type} [F : Lean.Grind.Field K] {en : K → Nat} {al : K} (G : gf_ok K F en al) {m : Nat} {u : Nat → K} {f : Nat → Int32} {p : Int32} {v : K} (hp : p = (-1 : Int32) ∨ p = nI (en v)) (hm : m + ct p ≤ 800) (hf : BL en m u f) {post : Int32 → (Nat → Int32) → Prop} (h : ∀ f' : Nat → Int32, BL en (m + ct p) (ap u m v) f' → post (nI (m + ct p)) f') : wp_St_append (nI m) f p post := by
  have hlt := gf_lt G v
  rcases hp with q | q
  · subst q
    exact bt rfl (h f (BL_sk hf v))
  · subst q
    have hne := m1_ne (show en v < 2 ^ 31 by omega)
    have hc : ct (nI (en v)) = 1 := if_neg hne
    rw [hc] at hm h
    refine bf hne (bf (fun q => by have := pz_le (a := 800) (by decide) (by omega) q; omega) ⟨vp_in_nI (by omega) (by decide), nm_r (nI_1 m) ?_⟩)
    rw [nI_clamp (by omega)]
    exact h _ (BL_ap hf v)
theorem mb_step {K : Type} [F : Lean.Grind.Field K] {en : K → Nat} {al : K} (G : gf_ok K F en al) {m : Nat} {u : Nat → K} {B : Nat → Int32} {p : Int32} {v : K} (hp : p = (-1 : Int32) ∨ p = nI (en v)) (hm : m + ct p ≤ 800) (hf : BL en m u B) {L x1 x2 x3 x4 : Int32} {i : Nat} {post : Int32 → Int32 → Int32 → (Nat → Int32) → Prop} {K89 : Int32 → Int32 → (Nat → Int32) → Int32 → Int32 → Int32 → Int32 → Int32 → Prop} (h : ∀ B' : Nat → Int32, BL en (m + ct p) (ap u m v) B' → K89 (nI (m + ct p)) L B' x1 x2 x3 x4 (nI (i + 1))) : wp_Mo_block_b126 post K89 (nI m) L B x1 x2 x3 x4 (nI i) p := by
  have hlt := gf_lt G v
  rcases hp with q | q
  · subst q
    exact bt (by decide) (nm_r (nI_1 i) (h B (BL_sk hf v)))
  · subst q
    have hc : ct (nI (en v)) = 1 := if_neg (m1_ne (show en v < 2 ^ 31 by omega))
    rw [hc] at hm h
    refine bf (pz_lt0 (by omega)) ⟨vp_in_nI (by omega) (by decide), nm_r (nI_1 m) ?_⟩
    rw [nI_clamp (by omega)]
    exact nm_r (nI_1 i) (h _ (BL_ap hf v))
theorem mb_any {S L : Int32} {B : Nat → Int32} {x1 x2 x3 x4 : Int32} {post : Int32 → Int32 → Int32 → (Nat → Int32) → Prop} (h : ∀ t0 t1, wp_Mo_block_b39 post S L B x1 x2 x3 x4 t0 t1) : wp_Mo_block S L B x1 x2 x3 x4 post := by
  refine ⟨fun _ => ?_, fun _ => ?_⟩ <;> refine ⟨fun _ => ?_, fun _ => ?_⟩ <;> refine ⟨fun _ => ?_, fun _ => ?_⟩ <;> exact ⟨fun _ => h _ _, fun _ => h _ _⟩
theorem gv_sg {p : Int32} (h : gv p) {A : Int32 → Prop} (k : A (nI (ct p))) : (0 ≤ p → A 1) ∧ (¬ 0 ≤ p → A 0) := by
  rcases h with q | ⟨j, hj, q⟩
  · subst q; exact bf (by decide) k
  · subst q
    have hc : ct (nI j) = 1 := if_neg (m1_ne (by omega))
    rw [hc] at k
    exact bt (nI_pos' (by omega)) k
theorem mb_cnt {S L : Int32} {B : Nat → Int32} {x1 x2 x3 x4 : Int32} (h1 : gv x1) (h2 : gv x2) (h3 : gv x3) (h4 : gv x4) {post : Int32 → Int32 → Int32 → (Nat → Int32) → Prop} (h : wp_Mo_block_b39 post S L B x1 x2 x3 x4 (nI (ct x4)) (nI (ct x1) + nI (ct x2) + nI (ct x3))) : wp_Mo_block S L B x1 x2 x3 x4 post :=
  gv_sg h1 (A := fun t => wp_Mo_block_b9 post S L B x1 x2 x3 x4 t) (gv_sg h2 (A := fun t => wp_Mo_block_b18 post S L B x1 x2 x3 x4 t _) (gv_sg h3 (A := fun t => wp_Mo_block_b28 post S L B x1 x2 x3 x4 t _) (gv_sg h4 (A := fun t => wp_Mo_block_b39 post S L B x1 x2 x3 x4 t _) h)))
theorem sp_counted {p : Int32} {post : Int32 → Prop} (h : post (nI (ct p))) : wp_RS_counted p post := by
  refine ⟨fun q => ?_, fun q => ?_⟩
  · rw [show ct p = 1 from if_neg q] at h; exact h
  · rw [show ct p = 0 from if_pos q] at h; exact h
theorem op_block {K : Type} [F : Lean.Grind.Field K] {en : K → Nat} {al : K} (G : gf_ok K F en al) {Vd Vr Vf : Int32} {Vfa : Nat → Int32} {Pz Ps Pc : Int32} {Pb Po Pl Pcu : Nat → Int32} {Mz Ml Ms Mlg Mlr Mlf : Int32} {Mb Msn Mas Msl : Nat → Int32} (R : RBe F en al Vd Vr Vf Vfa Pz Ps Pc Pb Po Pl Pcu Mz Ml Ms Mlg Mlr Mlf Mb Msn Mas Msl) (p1 p2 p3 p4 : Int32) {post : Int32 → Int32 → Int32 → Int32 → (Nat → Int32) → Prop} (h : ∀ (r Pz' Ps' Pc' : Int32) (Pb' : Nat → Int32), (∀ post2 : Int32 → Int32 → Int32 → (Nat → Int32) → Prop, (∀ (Mz' Ml' : Int32) (Mb' : Nat → Int32), RBe F en al Vd Vr Vf Vfa Pz' Ps' Pc' Pb' Po Pl Pcu Mz' Ml' Ms Mlg Mlr Mlf Mb' Msn Mas Msl → post2 r Mz' Ml' Mb') → wp_Mo_block Mz Ml Mb p1 p2 p3 p4 post2) → post r Pz' Ps' Pc' Pb') : wp_RS_block Pz Ps Pc Pb p1 p2 p3 p4 post := by
  have R0 := R
  obtain ⟨m, u, ⟨hm, rfl, rfl, hb, hb2⟩, _⟩ := R
  have no : (∀ post2 : Int32 → Int32 → Int32 → (Nat → Int32) → Prop, post2 (-1) (nI m) Ml Mb → ∀ t0 t1, wp_Mo_block_b39 post2 (nI m) Ml Mb p1 p2 p3 p4 t0 t1) → post (-1) (nI m) Ps Pc Pb := fun q => h _ _ _ _ _ (fun post2 h2 => mb_any (q post2 (h2 _ _ _ R0)))
  refine sp_mayFollow (fun g1 => br1 ?_) (fun g1 => br0 (no (fun post2 h2 t0 t1 => nm_e (gi0 g1 (br0 h2)))))
  refine sp_mayFollow (fun g2 => br1 ?_) (fun g2 => br0 (no (fun post2 h2 t0 t1 => nm_e (gi1 g1 (br1 (gi0 g2 (br0 h2)))))))
  refine sp_mayFollow (fun g3 => br1 ?_) (fun g3 => br0 (no (fun post2 h2 t0 t1 => nm_e (gi1 g1 (br1 (gi1 g2 (br1 (gi0 g3 (br0 h2)))))))))
  refine sp_mayFollow (fun g4 => bs1 ?_) (fun g4 => bs0 (no (fun post2 h2 t0 t1 => nm_e (gi1 g1 (br1 (gi1 g2 (br1 (gi1 g3 (br1 (gi0 g4 (br0 h2)))))))))))
  refine sp_counted (sp_counted (sp_counted (sp_counted ?_)))
  have c1 : ∀ p, ct p ≤ 1 := fun p => by unfold ct; split <;> omega
  have d1 := c1 p1
  have d2 := c1 p2
  have d3 := c1 p3
  have d4 := c1 p4
  refine nm_r (e' := nI (ct p1 + ct p2 + ct p3 + ct p4)) (by rw [nI_add, nI_add, nI_add]) ?_
  rw [nI_add]
  obtain ⟨v1, w1⟩ := gv_of G g1
  obtain ⟨v2, w2⟩ := gv_of G g2
  obtain ⟨v3, w3⟩ := gv_of G g3
  obtain ⟨v4, w4⟩ := gv_of G g4
  refine pk_le (m + (ct p1 + ct p2 + ct p3 + ct p4)) 800 (fun q => ?_) (fun q => h _ _ _ _ _ (fun post2 h2 => mb_cnt g1 g2 g3 g4 ?_))
  · refine sp_append G w1 (by omega) hb (fun f1 hf1 => sp_append G w2 (by omega) hf1 (fun f2 hf2 => sp_append G w3 (by omega) hf2 (fun f3 hf3 => sp_append G w4 (by omega) hf3 (fun f4 hf4 => ?_))))
    refine h _ _ _ _ _ (fun post2 h2 => mb_cnt g1 g2 g3 g4 ?_)
    refine nm_r (e' := nI (ct p1 + ct p2 + ct p3 + ct p4)) (by rw [nI_add, nI_add, nI_add]) ?_
    refine gi1 g1 (br1 (gi1 g2 (br1 (gi1 g3 (br1 (gi1 g4 (br1 (bt (by rw [nI_add]; exact nI_le q (by decide)) ⟨5, ?_⟩))))))))
    refine bf (by decide) (bt' rfl (mb_step G (i := 0) w1 (by omega) hb2 (fun B1 hB1 => ?_)))
    refine bf (by decide) (bf' (by decide) (bt' rfl (mb_step G (i := 1) w2 (by omega) hB1 (fun B2 hB2 => ?_))))
    refine bf (by decide) (bf' (by decide) (bf' (by decide) (bt' rfl (mb_step G (i := 2) w3 (by omega) hB2 (fun B3 hB3 => ?_)))))
    refine bf (by decide) (bf' (by decide) (bf' (by decide) (bf' (by decide) (mb_step G (i := 3) w4 (by omega) hB3 (fun B4 hB4 => ?_)))))
    exact bt (by decide) (h2 _ _ _ ⟨_, _, ⟨by omega, rfl, rfl, hf4, hB4⟩, Or.inl ⟨rfl, rfl, rfl⟩⟩)
  · refine nm_r (e' := nI (ct p1 + ct p2 + ct p3 + ct p4)) (by rw [nI_add, nI_add, nI_add]) ?_
    exact gi1 g1 (br1 (gi1 g2 (br1 (gi1 g3 (br1 (gi1 g4 (br1 (bf (by rw [nI_add]; exact nI_ge q (by omega)) (h2 _ _ _ R0)))))))))
theorem op_wipe {K : Type} [F : Lean.Grind.Field K] {en : K → Nat} {al : K} (G : gf_ok K F en al) {Vd Vr Vf : Int32} {Vfa : Nat → Int32} {Pz Ps Pc : Int32} {Pb Po Pl Pcu : Nat → Int32} {Mz Ml Ms Mlg Mlr Mlf : Int32} {Mb Msn Mas Msl : Nat → Int32} (R : RBe F en al Vd Vr Vf Vfa Pz Ps Pc Pb Po Pl Pcu Mz Ml Ms Mlg Mlr Mlf Mb Msn Mas Msl) {post : Int32 → Int32 → Int32 → Int32 → Prop} (h : ∀ (r Pz' Ps' Pc' : Int32), (∀ post2 : Int32 → Int32 → Int32 → Prop, (∀ (Mz' Ml' : Int32), RBe F en al Vd Vr Vf Vfa Pz' Ps' Pc' Pb Po Pl Pcu Mz' Ml' Ms Mlg Mlr Mlf Mb Msn Mas Msl → post2 r Mz' Ml') → wp_Mo_wipe Mz Ml post2) → post r Pz' Ps' Pc') : wp_RS_wipe Pz Ps Pc post := by
  obtain ⟨m, u, ⟨hm, rfl, rfl, hb, hb2⟩, _⟩ := R
  exact h _ _ _ _ (fun post2 h2 => h2 _ _ ⟨0, u, ⟨by omega, rfl, rfl, fun i hi => by omega, fun i hi => by omega⟩, Or.inl ⟨rfl, rfl, rfl⟩⟩)
theorem sp_hasSent {n : Nat} (hn : n < 2 ^ 31) {p : Int32} {post : Int32 → Prop} (h1 : ∀ j : Nat, j < n → p = nI j → post 1) (h0 : (¬ ∃ j : Nat, j < n ∧ p = nI j) → post 0) : wp_St_hasSent (nI n) p post := by
  rcases pz_cases p n hn with ⟨c, q⟩ | ⟨c, d, q⟩ | ⟨j, hj, e⟩
  · exact bt c ⟨rfl, h0 q⟩
  · exact bf c (bt d ⟨rfl, h0 q⟩)
  · subst e
    exact bf (pz_lt0 (by omega)) (bf (fun q => by have := pz_le hn (by omega) q; omega) ⟨rfl, h1 j hj rfl⟩)
theorem ms_1 {m s k j : Nat} (hn : m + s * k < 2 ^ 31) (hj : j < m + s * k) {post : Int32 → Prop} (h : post 1) : wp_Mo_isSent (nI m) 1 (nI s) (nI k) (nI j) post := by
  refine br1 (bf (pz_lt0 (by omega)) ?_)
  unfold wp_Mo_sentSize
  rw [pk_mul, nI_add]
  exact bf (fun q => by have := pz_le hn (by omega) q; omega) ⟨rfl, h⟩
theorem ms_0 {m s k : Nat} (hn : m + s * k < 2 ^ 31) {p : Int32} (hp : ¬ ∃ j : Nat, j < m + s * k ∧ p = nI j) {post : Int32 → Prop} (h : post 0) : wp_Mo_isSent (nI m) 1 (nI s) (nI k) p post := by
  refine br1 ?_
  rcases pz_cases p (m + s * k) hn with ⟨c, q⟩ | ⟨c, d, q⟩ | q
  · exact bt c ⟨rfl, h⟩
  · refine bf c ?_
    unfold wp_Mo_sentSize
    rw [pk_mul, nI_add]
    exact bt d ⟨rfl, h⟩
  · exact absurd q hp
theorem hs_0 {p : Int32} {post : Int32 → Prop} (h0 : post 0) : wp_St_hasSent 0 p post := sp_hasSent (n := 0) (by decide) (fun j hj _ => absurd hj (Nat.not_lt_zero j)) (fun _ => h0)
theorem op_sent {K : Type} [F : Lean.Grind.Field K] {en : K → Nat} {al : K} (G : gf_ok K F en al) {Vd Vr Vf : Int32} {Vfa : Nat → Int32} {Pz Ps Pc : Int32} {Pb Po Pl Pcu : Nat → Int32} {Mz Ml Ms Mlg Mlr Mlf : Int32} {Mb Msn Mas Msl : Nat → Int32} (R : RBe F en al Vd Vr Vf Vfa Pz Ps Pc Pb Po Pl Pcu Mz Ml Ms Mlg Mlr Mlf Mb Msn Mas Msl) (p1 : Int32) {post : Int32 → Prop} (h : ∀ (r : Int32), (∀ post2 : Int32 → Prop, post2 r → wp_Mo_sent Mz Ml Ms Mlr Msn p1 post2) → post r) : wp_RS_sent Pc Pcu p1 post := by
  obtain ⟨m, u, ⟨hm, rfl, rfl, hb, hb2⟩, ⟨rfl, rfl, rfl⟩ | ⟨s, k, b, x, y, lp, ⟨s1, s2, s3, s4, k2, b2⟩, ⟨rfl, rfl, rfl, hfa⟩, ⟨rfl, rfl⟩, ⟨rfl, rfl, rfl, rfl, rfl⟩, hx, hl1, hl2⟩⟩ := R
  · exact hs_0 (br0 (h _ (fun post2 h2 => bt rfl ⟨rfl, br0 h2⟩)))
  · have hsk := Nat.mul_le_mul s2 k2
    refine sp_hasSent (by omega) (fun j hj e => br1 ?_) (fun hn => br0 (h _ (fun post2 h2 => ms_0 (by omega) hn (br0 h2))))
    subst e
    rw [nI_clamp (by omega), (hx j hj).1]
    refine ⟨vp_in_nI (by omega) (by decide), h _ (fun post2 h2 => ms_1 (by omega) hj (br1 ⟨vp_in_nI (by omega) (by decide), ?_⟩))⟩
    rw [nI_clamp (by omega), (hx j hj).2.1]; exact h2
def hm_x {K : Type} [Lean.Grind.Field K] (w : Bool) (v : K) (j e : Nat) (x : Nat → K) (i : Nat) : K := if w = false ∧ j ≤ i ∧ i < e then x i + v else x i
def hm_l (w : Bool) (j e : Nat) (lp : Nat → Bool) (i : Nat) : Bool := if w = true ∧ j ≤ i ∧ i < e then true else lp i
theorem hm_x0 {K : Type} [Lean.Grind.Field K] (w : Bool) (v : K) (j : Nat) (x : Nat → K) (i : Nat) : hm_x w v j j x i = x i := if_neg (fun q => by omega)
theorem hm_l0 (w : Bool) (j : Nat) (lp : Nat → Bool) (i : Nat) : hm_l w j j lp i = lp i := if_neg (fun q => by omega)
theorem hm_xs {K : Type} [F : Lean.Grind.Field K] {en : K → Nat} {al : K} (G : gf_ok K F en al) {w : Bool} {v : K} {j i N : Nat} {x : Nat → K} {f : Nat → Int32} (hw : w = false) (hj : j ≤ i) (h : BL en N (hm_x w v j i x) f) : BL en N (hm_x w v j (i + 1) x) (upd f i (nI (en (x i)) ^^^ nI (en v))) := fun z hz => by
  unfold hm_x
  by_cases e : z = i
  · subst e; rw [pk_us, if_pos ⟨hw, hj, by omega⟩, nx_xor, ← gf_add G]
  · rw [pk_un e, h z hz]
    unfold hm_x
    by_cases q : w = false ∧ j ≤ z ∧ z < i
    · rw [if_pos q, if_pos ⟨q.1, q.2.1, by omega⟩]
    · rw [if_neg q, if_neg (fun q2 => q ⟨q2.1, q2.2.1, by omega⟩)]
theorem hm_xk {K : Type} [Lean.Grind.Field K] {en : K → Nat} {w : Bool} {v : K} {j i N : Nat} {x : Nat → K} {f : Nat → Int32} (hw : w = true) (h : BL en N (hm_x w v j i x) f) : BL en N (hm_x w v j (i + 1) x) f := fun z hz => by
  rw [h z hz]
  unfold hm_x
  rw [if_neg (fun q => by rw [hw] at q; cases q.1), if_neg (fun q => by rw [hw] at q; cases q.1)]
theorem hm_ls {w : Bool} {j i N : Nat} {lp : Nat → Bool} {f : Nat → Int32} (hw : w = true) (hj : j ≤ i) (h : zB f (hm_l w j i lp) N) : zB (upd f i 1) (hm_l w j (i + 1) lp) N := fun z hz => by
  by_cases e : z = i
  · subst e
    rw [pk_us]
    have : hm_l w j (z + 1) lp z = true := if_pos ⟨hw, hj, by omega⟩
    rw [this]; rfl
  · rw [pk_un e, h z hz]
    have : hm_l w j (i + 1) lp z = hm_l w j i lp z := by
      unfold hm_l
      by_cases q : w = true ∧ j ≤ z ∧ z < i
      · rw [if_pos q, if_pos ⟨q.1, q.2.1, by omega⟩]
      · rw [if_neg q, if_neg (fun q2 => q ⟨q2.1, q2.2.1, by omega⟩)]
    rw [this]
theorem hm_lk {w : Bool} {j i N : Nat} {lp : Nat → Bool} {f : Nat → Int32} (hw : w = false) (h : zB f (hm_l w j i lp) N) : zB f (hm_l w j (i + 1) lp) N := fun z hz => by
  rw [h z hz]
  have : hm_l w j (i + 1) lp z = hm_l w j i lp z := by
    unfold hm_l
    rw [if_neg (fun q => by rw [hw] at q; cases q.1), if_neg (fun q => by rw [hw] at q; cases q.1)]
  rw [this]
theorem op_damage {K : Type} [F : Lean.Grind.Field K] {en : K → Nat} {al : K} (G : gf_ok K F en al) {Vd Vr Vf : Int32} {Vfa : Nat → Int32} {Pz Ps Pc : Int32} {Pb Po Pl Pcu : Nat → Int32} {Mz Ml Ms Mlg Mlr Mlf : Int32} {Mb Msn Mas Msl : Nat → Int32} (R : RBe F en al Vd Vr Vf Vfa Pz Ps Pc Pb Po Pl Pcu Mz Ml Ms Mlg Mlr Mlf Mb Msn Mas Msl) (p1 p2 p3 : Int32) {post : Int32 → (Nat → Int32) → (Nat → Int32) → Prop} (h : ∀ (r : Int32) (Pl' Pcu' : Nat → Int32), (∀ post2 : Int32 → (Nat → Int32) → (Nat → Int32) → Prop, (∀ Msn' Msl' : Nat → Int32, RBe F en al Vd Vr Vf Vfa Pz Ps Pc Pb Po Pl' Pcu' Mz Ml Ms Mlg Mlr Mlf Mb Msn' Mas Msl' → post2 r Msn' Msl') → wp_Mo_damage Mz Ml Ms Mlr Msn Msl p1 p2 p3 post2) → post r Pl' Pcu') : wp_RS_damage Pc Pl Pcu p1 p2 p3 post := by
  have R0 := R
  obtain ⟨m, u, ⟨hm, rfl, rfl, hb, hb2⟩, ⟨rfl, rfl, rfl⟩ | ⟨s, k, b, x, y, lp, ⟨s1, s2, s3, s4, k2, b2⟩, ⟨rfl, rfl, rfl, hfa⟩, ⟨rfl, rfl⟩, ⟨rfl, rfl, rfl, rfl, rfl⟩, hx, hl1, hl2⟩⟩ := R
  · have no : post (-1) Pl Pcu := h _ _ _ (fun post2 h2 => bt rfl ⟨rfl, br0 (h2 _ _ R0)⟩)
    exact ⟨fun _ => no, fun _ => ⟨fun _ => no, fun _ => sp_mayFollow (fun _ => bs1 (hs_0 (br0 no))) (fun _ => bs0 no)⟩⟩
  · have hsk := Nat.mul_le_mul s2 k2
    have no : (¬ ∃ j q : Nat, j < m + s * k ∧ p1 = nI j ∧ 1 ≤ q ∧ q ≤ 100 ∧ p2 = nI q ∧ j + q ≤ m + s * k ∧ gv p3) → post (-1) Pl Pcu := fun bad => h _ _ _ (fun post2 h2 => by
      have fin := h2 _ _ R0
      by_cases g1 : ∃ j : Nat, j < m + s * k ∧ p1 = nI j
      · obtain ⟨j, hj, rfl⟩ := g1
        refine ms_1 (by omega) hj (br1 ⟨fun _ => fin, fun a1 => ⟨fun _ => fin, fun a2 => ?_⟩⟩)
        obtain ⟨q, q1, q2, rfl⟩ := i32_rng (a := 1) (b := 100) a1 a2 (by decide) (by decide)
        unfold wp_Mo_sentSize
        rw [pk_mul, nI_add, nI_add]
        refine ⟨fun _ => fin, fun a3 => ?_⟩
        by_cases g3 : gv p3
        · exact absurd ⟨j, q, hj, rfl, q1, q2, rfl, Nat.le_of_not_lt (fun q => a3 (nI_lt q (by omega))), g3⟩ bad
        · exact gi0 g3 (bs0 fin)
      · exact ms_0 (by omega) g1 (br0 fin))
    refine ⟨fun a1 => no ?_, fun a1 => ⟨fun a2 => no ?_, fun a2 => ?_⟩⟩
    · rintro ⟨j, q, _, _, q1, q2, rfl, _⟩
      have := pz_lt (b := 1) (by omega) (by decide) a1; omega
    · rintro ⟨j, q, _, _, q1, q2, rfl, _⟩
      have := pz_lt (a := 100) (by decide) (by omega) a2; omega
    · obtain ⟨q, q1, q2, rfl⟩ := i32_rng (a := 1) (b := 100) a1 a2 (by decide) (by decide)
      refine sp_mayFollow (fun g3 => bs1 ?_) (fun g3 => bs0 (no (fun ⟨_, _, _, _, _, _, _, _, g⟩ => g3 g)))
      refine sp_hasSent (by omega) (fun j hj e => br1 ?_) (fun hn => br0 (no (fun ⟨j, _, hj, e, _⟩ => hn ⟨j, hj, e⟩)))
      subst e
      rw [pk_sub (by omega)]
      refine pk_le q (m + s * k - j) (fun g4 => ?_) (fun g4 => no (fun ⟨j', q', _, e1, _, q2', e2, hle, _⟩ => by
        have e1' := (nI_eq (by omega) (by omega)).mp e1
        have e2' := (nI_eq (by omega) (by omega)).mp e2
        omega))
      obtain ⟨v, hv⟩ := gv_of G g3
      have hlt := gf_lt G v
      have hw : ∃ w : Bool, (w = true → p3 = (-1 : Int32)) ∧ (w = false → p3 = nI (en v) ∧ ¬ p3 = (-1 : Int32)) := by
        by_cases e : p3 = (-1 : Int32)
        · exact ⟨true, fun _ => e, fun q => Bool.noConfusion q⟩
        · exact ⟨false, fun q => Bool.noConfusion q, fun _ => ⟨hv.resolve_left e, e⟩⟩
      obtain ⟨w, hw1, hw2⟩ := hw
      have ref : ∀ (Pl' Pcu' : Nat → Int32), BL en (m + s * k) (hm_x w v j (j + q) x) Pcu' → zB Pl' (hm_l w j (j + q) lp) (m + s * k) → post 1 Pl' Pcu' := fun Pl' Pcu' hP1 hP2 => h _ _ _ (fun post2 h2 => by
        refine ms_1 (by omega) hj (br1 (bf a1 (bf a2 ?_)))
        unfold wp_Mo_sentSize
        rw [pk_mul, nI_add, nI_add]
        refine bf (fun q3 => by have := pz_lt (by omega) (by omega) q3; omega) (gi1 g3 (bs1 ?_))
        have key : ∀ (r i : Nat) (a l : Nat → Int32), j ≤ i → i ≤ j + q → j + q - i < r → BL en (m + s * k) (hm_x w v j i x) a → zB l (hm_l w j i lp) (m + s * k) → wp_Mo_damage_L41 (nI m) 1 (nI s) (nI k) post2 r a l (nI j) (nI q) p3 (nI i) := by
          intro r
          induction r with
          | zero => intro i a l c1 c2 c3; omega
          | succ r ih =>
            intro i a l c1 c2 c3 c4 c5
            show wp_Mo_damage_b41 (nI m) 1 (nI s) (nI k) post2 _ _ _ _ _ _ _
            unfold wp_Mo_damage_b41
            rw [nI_add]
            refine pk_le (j + q) i (fun q4 => ?_) (fun q4 => ?_)
            · rw [show i = j + q by omega] at c4 c5
              exact h2 _ _ ⟨m, u, ⟨hm, rfl, rfl, hb, hb2⟩, Or.inr ⟨s, k, b, hm_x w v j (j + q) x, y, hm_l w j (j + q) lp, ⟨s1, s2, s3, s4, k2, b2⟩, ⟨rfl, rfl, rfl, hfa⟩, ⟨rfl, rfl⟩, ⟨rfl, rfl, rfl, rfl, rfl⟩, fun z hz => ⟨hP1 z hz, c4 z hz, (hx z hz).2.2⟩, hP2, c5⟩⟩
            · cases hw' : w with
              | true =>
                refine bf (by rw [hw1 hw']; decide) ⟨vp_in_nI (by omega) (by decide), nm_r (nI_1 i) ?_⟩
                rw [nI_clamp (by omega)]
                have := ih (i + 1) a (upd l i 1) (by omega) (by omega) (by omega) (hm_xk hw' c4) (hm_ls hw' c1 c5)
                exact this
              | false =>
                have hai : a i = nI (en (x i)) := by
                  rw [c4 i (by omega)]
                  unfold hm_x
                  rw [if_neg (fun q => by omega)]
                rw [nI_clamp (by omega), hai, (hw2 hw').1]
                refine bt (nI_pos' (by omega)) ⟨vp_in_nI (by omega) (by decide), vp_in_nI (by omega) (by decide), nm_r (nI_1 i) ?_⟩
                have := ih (i + 1) _ l (by omega) (by omega) (by omega) (hm_xs G hw' c1 c4) (hm_lk hw' c5)
                rw [(hw2 hw').1] at this
                exact this
        exact ⟨q + 1, key (q + 1) j Msn Msl (by omega) (by omega) (by omega) (fun z hz => by rw [hm_x0]; exact (hx z hz).2.1) (fun z hz => by rw [hm_l0]; exact hl2 z hz)⟩)
      have key : ∀ (r i : Nat) (l a : Nat → Int32), j ≤ i → i ≤ j + q → j + q - i < r → BL en (m + s * k) (hm_x w v j i x) a → zB l (hm_l w j i lp) (m + s * k) → wp_St_harm_L3 (fun P_lost_53 P_current_53 => post 1 P_lost_53 P_current_53) r l a (nI j) (nI q) p3 (nI i) := by
        intro r
        induction r with
        | zero => intro i l a c1 c2 c3; omega
        | succ r ih =>
          intro i l a c1 c2 c3 c4 c5
          show wp_St_harm_b3 _ _ _ _ _ _ _ _
          unfold wp_St_harm_b3
          rw [nI_add]
          refine pk_le (j + q) i (fun q4 => ?_) (fun q4 => ?_)
          · rw [show i = j + q by omega] at c4 c5
            exact ref l a c4 c5
          · cases hw' : w with
            | true =>
              refine bt' (hw1 hw') ⟨vp_in_nI (by omega) (by decide), nm_r (nI_1 i) ?_⟩
              rw [nI_clamp (by omega)]
              have := ih (i + 1) (upd l i 1) a (by omega) (by omega) (by omega) (hm_xk hw' c4) (hm_ls hw' c1 c5)
              exact this
            | false =>
              have hai : a i = nI (en (x i)) := by
                rw [c4 i (by omega)]
                unfold hm_x
                rw [if_neg (fun q => by omega)]
              refine bf' (hw2 hw').2 ⟨vp_in_nI (by omega) (by decide), vp_in_nI (by omega) (by decide), nm_r (nI_1 i) ?_⟩
              rw [nI_clamp (by omega), hai, (hw2 hw').1]
              have := ih (i + 1) l _ (by omega) (by omega) (by omega) (hm_xs G hw' c1 c4) (hm_lk hw' c5)
              rw [(hw2 hw').1] at this
              exact this
      exact ⟨q + 1, key (q + 1) j Pl Pcu (by omega) (by omega) (by omega) (fun z hz => by rw [hm_x0]; exact (hx z hz).1) (fun z hz => by rw [hm_l0]; exact hl1 z hz)⟩
theorem op_wrong {K : Type} [F : Lean.Grind.Field K] {en : K → Nat} {al : K} (G : gf_ok K F en al) {Vd Vr Vf : Int32} {Vfa : Nat → Int32} {Pz Ps Pc : Int32} {Pb Po Pl Pcu : Nat → Int32} {Mz Ml Ms Mlg Mlr Mlf : Int32} {Mb Msn Mas Msl : Nat → Int32} (R : RBe F en al Vd Vr Vf Vfa Pz Ps Pc Pb Po Pl Pcu Mz Ml Ms Mlg Mlr Mlf Mb Msn Mas Msl) {post : Int32 → Prop} (h : ∀ (r : Int32), (∀ post2 : Int32 → Prop, post2 r → wp_Mo_wrong Mz Ml Ms Mlr Msn Mas Msl post2) → post r) : wp_RS_wrong Ps Pc Po Pl Pcu post := by
  obtain ⟨m, u, ⟨hm, rfl, rfl, hb, hb2⟩, ⟨rfl, rfl, rfl⟩ | ⟨s, k, b, x, y, lp, ⟨s1, s2, s3, s4, k2, b2⟩, ⟨rfl, rfl, rfl, hfa⟩, ⟨rfl, rfl⟩, ⟨rfl, rfl, rfl, rfl, rfl⟩, hx, hl1, hl2⟩⟩ := R
  · exact bt (by decide) ⟨rfl, br0 (h _ (fun post2 h2 => bt' rfl h2))⟩
  · have hsk := Nat.mul_le_mul s2 k2
    refine bf (nI_nle (by omega) (by omega)) ⟨rfl, br1 ?_⟩
    obtain ⟨wp, hwp⟩ : ∃ wp : Nat → Bool, wp = fun i => lp i || !Nat.beq (en (x i)) (en (y i)) := ⟨_, rfl⟩
    have w1 : ∀ i, lp i = true → wp i = true := fun i q => by rw [hwp]; show (lp i || _) = true; rw [q]; rfl
    have w2 : ∀ i, lp i = false → en (x i) = en (y i) → wp i = false := fun i q q2 => by
      rw [hwp]; show (lp i || !Nat.beq (en (x i)) (en (y i))) = false
      rw [q, q2, Nat.beq_refl]; rfl
    have w3 : ∀ i, lp i = false → en (x i) ≠ en (y i) → wp i = true := fun i q q2 => by
      rw [hwp]; show (lp i || !Nat.beq (en (x i)) (en (y i))) = true
      rw [q]
      cases hq : Nat.beq (en (x i)) (en (y i)) with
      | true => exact absurd (Nat.eq_of_beq_eq_true hq) q2
      | false => rfl
    have ref : post (nI (cn wp (m + s * k))) := h _ (fun post2 h2 => by
      refine bs1 ?_
      have key : ∀ (r i : Nat), i ≤ m + s * k → m + s * k - i < r → wp_Mo_wrong_L13 (nI m) 1 (nI s) (nI k) Msn Mas Msl post2 r (nI (cn wp i)) (nI i) := by
        intro r
        induction r with
        | zero => intro i c1 c2; omega
        | succ r ih =>
          intro i c1 c2
          show wp_Mo_wrong_b13 (nI m) 1 (nI s) (nI k) Msn Mas Msl post2 _ _ _
          unfold wp_Mo_wrong_b13 wp_Mo_sentSize
          rw [pk_mul, nI_add]
          refine pk_le (m + s * k) i (fun q => ?_) (fun q => ?_)
          · rw [show i = m + s * k by omega]; exact h2
          · have ih' := ih (i + 1) (by omega) (by omega)
            rw [nI_clamp (by omega), (hx i q).2.1, (hx i q).2.2.2]
            refine ⟨vp_in_nI (by omega) (by decide), ?_⟩
            cases hp : lp i with
            | true =>
              rw [cn_t (w1 i hp)] at ih'
              exact bf' (by rw [zB_t hl2 q hp]; decide) (nm_r (nI_1 _) (nm_r (nI_1 i) ih'))
            | false =>
              refine bt' (zB_f hl2 q hp) ⟨vp_in_nI (by omega) (by decide), vp_in_nI (by omega) (by decide), ?_⟩
              refine pk_eq (en (x i)) (en (y i)) (fun q2 => ?_) (fun q2 => ?_) (ha := by have := gf_lt G (x i); omega) (hb := by have := gf_lt G (y i); omega)
              · rw [cn_f (w2 i hp q2)] at ih'
                exact nm_r (nI_add _ 0) (nm_r (nI_1 i) ih')
              · rw [cn_t (w3 i hp q2)] at ih'
                exact nm_r (nI_1 _) (nm_r (nI_1 i) ih')
      exact ⟨m + s * k + 1, key (m + s * k + 1) 0 (by omega) (by omega)⟩)
    have key : ∀ (r i : Nat), i ≤ m + s * k → m + s * k - i < r → wp_St_countWrong_L4 (nI (m + s * k)) Po Pl Pcu (fun r_14 => wp_RS_wrong_b21 (nI s) (nI (m + s * k)) Po Pl Pcu post r_14) r (nI (cn wp i)) (nI i) := by
      intro r
      induction r with
      | zero => intro i c1 c2; omega
      | succ r ih =>
        intro i c1 c2
        refine pk_le (m + s * k) i (fun q => ?_) (fun q => ?_)
        · rw [show i = m + s * k by omega]; exact ref
        · have ih' := ih (i + 1) (by omega) (by omega)
          rw [nI_clamp (by omega), (hx i q).1, (hx i q).2.2.1]
          refine ⟨vp_in_nI (by omega) (by decide), ?_⟩
          cases hp : lp i with
          | true =>
            rw [cn_t (w1 i hp)] at ih'
            exact bf' (by rw [zB_t hl1 q hp]; decide) (nm_r (nI_1 _) (nm_r (nI_1 i) ih'))
          | false =>
            refine bt' (zB_f hl1 q hp) ⟨vp_in_nI (by omega) (by decide), vp_in_nI (by omega) (by decide), ?_⟩
            refine pk_eq (en (x i)) (en (y i)) (fun q2 => ?_) (fun q2 => ?_) (ha := by have := gf_lt G (x i); omega) (hb := by have := gf_lt G (y i); omega)
            · rw [cn_f (w2 i hp q2)] at ih'
              exact nm_r (nI_1 i) ih'
            · rw [cn_t (w3 i hp q2)] at ih'
              exact nm_r (nI_1 _) (nm_r (nI_1 i) ih')
    exact ⟨m + s * k + 1, key (m + s * k + 1) 0 (by omega) (by omega)⟩
