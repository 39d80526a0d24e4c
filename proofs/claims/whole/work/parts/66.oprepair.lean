/-! encode and repair. -/
theorem sp_encodeWork {K : Type} [F : Lean.Grind.Field K] {en : K → Nat} {al : K} (G : gf_ok K F en al) {n k b : Nat} (hN : n + k ≤ 240) (hk : k ≤ 40) (hb : b < 255) {Mg Mw Mr : Nat → Int32} {c : Nat → K} (hc : ∀ i, i < n → Mw i = nI (en (c i))) {post : (Nat → Int32) → (Nat → Int32) → (Nat → Int32) → Prop} (h : ∀ g w r : Nat → Int32, (∀ i, i < n → w i = nI (en (c i))) → (∀ j, j < k → w (n + j) = nI (en (rm_c (gp_c al b k) k c n j))) → post g w r) : wp_Mo_encodeWork Mg Mw Mr (nI n) (nI k) (nI b) post := by
  refine sp_makeGenerator G hk hb (fun g hg => ?_)
  have copy : ∀ (rest : Nat → Int32), (∀ j, j < k → rest j = nI (en (rm_c (gp_c al b k) k c n j))) → ∀ (r j : Nat) (w : Nat → Int32), j ≤ k → k - j < r → (∀ i, i < n → w i = nI (en (c i))) → (∀ x, x < j → w (n + x) = nI (en (rm_c (gp_c al b k) k c n x))) → wp_Mo_encodeWork_L135 post r g w rest (nI n) (nI k) (nI j) := by
    intro rest hrest r
    induction r with
    | zero => intro j w g1 g2; omega
    | succ r ih =>
      intro j w g1 g2 g3 g4
      refine pk_le k j (fun q => ?_) (fun q => ?_)
      · rw [show j = k by omega] at g4; exact h g w rest g3 g4
      · rw [nI_add, nI_clamp (show n + j < 2 ^ 31 by omega), nI_clamp (show j < 2 ^ 31 by omega)]
        refine ⟨vp_in_nI (by omega) (by decide), vp_in_nI (by omega) (by decide), nm_r (nI_1 j) ?_⟩
        refine ih (j + 1) _ (by omega) (by omega) (fun x hx => ?_) (fun x hx => ?_)
        · rw [pk_un (by omega)]; exact g3 x hx
        · by_cases e : x = j
          · subst e; rw [pk_us]; exact hrest x q
          · rw [pk_un (by omega)]; exact g4 x (by omega)
  have main : ∀ (r i : Nat) (rest : Nat → Int32), i ≤ n → n - i < r → (∀ j, j < k → rest j = nI (en (rm_c (gp_c al b k) k c i j))) → wp_Mo_encodeWork_L32 post r g Mw rest (nI n) (nI k) (nI i) := by
    intro r
    induction r with
    | zero => intro i rest g1 g2; omega
    | succ r ih =>
      intro i rest g1 g2 g3
      refine pk_le n i (fun q => ?_) (fun q => ?_)
      · rw [show i = n by omega] at g3
        exact ⟨k + 1, copy rest g3 (k + 1) 0 Mw (by omega) (by omega) hc (fun x hx => by omega)⟩
      · rw [nI_clamp (show i < 2 ^ 31 by omega), hc i q]
        refine ⟨vp_in_nI (by omega) (by decide), ?_⟩
        refine pk_le k 0 (fun q2 => ?_) (fun q2 => ?_)
        · intro x5 _
          have hk0 : k = 0 := by omega
          refine ⟨1, bt (by rw [hk0]; decide) (nm_r (nI_1 i) (ih (i + 1) rest (by omega) (by omega) (fun j hj => by omega)))⟩
        · refine ⟨vp_in_nI (n := 0) (by decide) (by decide), ?_⟩
          refine nm_r (e' := nI (en (c i + rm_c (gp_c al b k) k c i 0))) (by rw [cl0, g3 0 (by omega), nx_xor, ← gf_add G]) ?_
          have inner : ∀ (u j : Nat) (f : Nat → Int32), j ≤ k → k - j < u → (∀ x, x < j → f x = nI (en (rm_c (gp_c al b k) k c (i + 1) x))) → (∀ x, j ≤ x → x < k → f x = nI (en (rm_c (gp_c al b k) k c i x))) → wp_Mo_encodeWork_L65 post (wp_Mo_encodeWork_L32 post r) u g Mw f (nI n) (nI k) (nI i) (nI (en (c i + rm_c (gp_c al b k) k c i 0))) (nI j) := by
            intro u
            induction u with
            | zero => intro j f g1 g2; omega
            | succ u ihu =>
              intro j f a1 a2 a3 a4
              refine pk_le k j (fun q3 => ?_) (fun q3 => ?_)
              · rw [show j = k by omega] at a3
                exact nm_r (nI_1 i) (ih (i + 1) f (by omega) (by omega) a3)
              · have tail : ∀ t0 : K, t0 = (if j + 1 < k then rm_c (gp_c al b k) k c i (j + 1) else 0) → wp_Mo_encodeWork_b92 post (wp_Mo_encodeWork_L32 post r) (wp_Mo_encodeWork_L65 post (wp_Mo_encodeWork_L32 post r) u) g Mw f (nI n) (nI k) (nI i) (nI (en (c i + rm_c (gp_c al b k) k c i 0))) (nI j) (nI (en t0)) := by
                  intro t0 ht0
                  have e1 : nI k - (1 : Int32) - nI j = nI (k - 1 - j) := by
                    rw [show (1 : Int32) = nI 1 from rfl, pk_sub (by omega), pk_sub (by omega)]
                  unfold wp_Mo_encodeWork_b92
                  rw [e1, nI_clamp (show k - 1 - j < 2 ^ 31 by omega), hg (k - 1 - j) (by omega)]
                  refine ⟨vp_in_nI (by omega) (by decide), sp_by G _ _ ⟨vp_in_nI (by omega) (by decide), nm_r (nI_1 j) ?_⟩⟩
                  rw [nx_xor, ← gf_add G, nI_clamp (show j < 2 ^ 31 by omega)]
                  refine ihu (j + 1) _ (by omega) (by omega) (fun x hx => ?_) (fun x hx hx2 => ?_)
                  · by_cases e : x = j
                    · subst e; rw [pk_us, ht0]; rfl
                    · rw [pk_un e]; exact a3 x (by omega)
                  · rw [pk_un (by omega)]; exact a4 x (by omega) hx2
                rw [show nI j + (1 : Int32) = nI (j + 1) from nI_1 j]
                refine pk_le k (j + 1) (fun q4 => ?_) (fun q4 => ?_)
                · have := tail 0 (by rw [if_neg (by omega)])
                  rw [gf_zero G] at this; exact this
                · refine ⟨vp_in_nI (by omega) (by decide), ?_⟩
                  rw [nI_clamp (show j + 1 < 2 ^ 31 by omega), a4 (j + 1) (by omega) (by omega)]
                  exact tail _ (by rw [if_pos (by omega)])
          exact ⟨k + 1, inner (k + 1) 0 rest (by omega) (by omega) (fun x hx => by omega) (fun x _ hx => g3 x hx)⟩
  have zero : ∀ (r i : Nat) (f : Nat → Int32), i ≤ k → k - i < r → (∀ x, x < i → f x = 0) → wp_Mo_encodeWork_L9 post r g Mw f (nI n) (nI k) (nI i) := by
    intro r
    induction r with
    | zero => intro i f h1 h2; omega
    | succ r ih =>
      intro i f h1 h2 h3
      refine pk_le k i (fun q => ?_) (fun q => ?_)
      · refine ⟨n + 1, main (n + 1) 0 f (by omega) (by omega) (fun j hj => ?_)⟩
        rw [h3 j (by omega)]
        show (0 : Int32) = nI (en (0 : K))
        rw [gf_zero G]; rfl
      · rw [nI_clamp (by omega)]
        refine ⟨vp_in_nI (by omega) (by decide), nm_r (nI_1 i) (ih (i + 1) _ (by omega) (by omega) (fun x hx => ?_))⟩
        by_cases e : x = i
        · subst e; rw [pk_us]
        · rw [pk_un e]; exact h3 x (by omega)
  exact ⟨k + 1, zero (k + 1) 0 Mr (by omega) (by omega) (fun x hx => by omega)⟩
theorem op_encode {K : Type} [F : Lean.Grind.Field K] {en : K → Nat} {al : K} (G : gf_ok K F en al) {Fp Fl : Nat → Int32} (T : ft_ok Fp Fl) {Wlc Wd Wr Wf : Int32} {Wb Wl Wfa : Nat → Int32} {Mn Mk Mb : Int32} {Mw Ml : Nat → Int32} (R : RWe F en al Wlc Wd Wr Wf Wb Wl Wfa Mn Mk Mb Mw Ml) {Mg Mk2 Mr : Nat → Int32} {post : Int32 → Int32 → (Nat → Int32) → (Nat → Int32) → Prop} (h : ∀ (r Wlc' : Int32) (Wb' Wl' : Nat → Int32), (∀ post2 : Int32 → (Nat → Int32) → (Nat → Int32) → (Nat → Int32) → (Nat → Int32) → (Nat → Int32) → Prop, (∀ (Mw' Ml' g w s : Nat → Int32), RWe F en al Wlc' Wd Wr Wf Wb' Wl' Wfa Mn Mk Mb Mw' Ml' → post2 r Mw' Ml' g w s) → wp_Mo_encode Mn Mk Mb Mw Ml Mg Mk2 Mr post2) → post r Wlc' Wb' Wl') : wp_RS_encode Fp Fl Wlc Wd Wr Wb Wl Wfa post := by
  have R0 := R
  obtain ⟨n, k, b, c, lp, ⟨n1, n2, k2, b2⟩, ⟨rfl, rfl, rfl, rfl⟩, hb, hl, hf, ⟨rfl, rfl, rfl⟩, hb2, hl2⟩ := R
  refine sp_hasLostData (by omega) (fun i hi => hl i (by omega)) (fun he => br1 (h _ _ _ _ (fun post2 h2 => ?_))) (fun hz => br0 ?_)
  · obtain ⟨p, hp, hlp⟩ := he
    have key : ∀ (r i : Nat), i ≤ p → p - i < r → wp_Mo_encode_L2 (nI n) (nI k) (nI b) post2 r Mw Ml Mg Mk2 Mr (nI i) := by
      intro r
      induction r with
      | zero => intro i g1 g2; omega
      | succ r ih =>
        intro i g1 g2
        refine pk_le n i (fun q => by omega) (fun q => ?_)
        rw [nI_clamp (by omega)]
        refine ⟨vp_in_nI (by omega) (by decide), ?_⟩
        cases hi : lp i with
        | true => exact bf (by rw [zB_t hl2 (by omega) hi]; decide) (h2 _ _ _ _ _ R0)
        | false =>
          have hip : i ≠ p := fun q2 => by rw [q2, hlp] at hi; cases hi
          exact bt (zB_f hl2 (by omega) hi) (nm_r (nI_1 i) (ih (i + 1) (by omega) (by omega)))
    exact ⟨p + 1, key (p + 1) 0 (by omega) (by omega)⟩
  · refine sp_fillRepairs G T (by omega) k2 (fun i hi => hb i (by omega)) hf (fun fb hfb1 hfb2 => sp_findAll (fun fl hfl => h _ _ _ _ (fun post2 h2 => ?_)))
    have last : ∀ (g w s : Nat → Int32), (∀ i, i < n → w i = nI (en (c i))) → (∀ j, j < k → w (n + j) = nI (en (rm_c (gp_c al b k) k c n j))) → ∀ (r i : Nat) (a l : Nat → Int32), i ≤ n + k → n + k - i < r → (∀ x, x < i → a x = w x ∧ l x = 0) → wp_Mo_encode_L73 (nI n) (nI k) (nI b) post2 r a l g w s (nI i) := by
      intro g w s hw1 hw2 r
      induction r with
      | zero => intro i a l g1 g2; omega
      | succ r ih =>
        intro i a l g1 g2 g3
        show wp_Mo_encode_b73 (nI n) (nI k) (nI b) post2 _ _ _ _ _ _ _
        unfold wp_Mo_encode_b73
        rw [nI_add]
        refine pk_le (n + k) i (fun q => ?_) (fun q => ?_)
        · refine h2 _ _ _ _ _ ⟨n, k, b, fun x => if x < n then c x else rm_c (gp_c al b k) k c n (x - n), fun _ => false, ⟨n1, n2, k2, b2⟩, ⟨by rw [cn_z]; rfl, rfl, rfl, rfl⟩, fun x hx => ?_, fun x hx => ?_, hf, ⟨rfl, rfl, rfl⟩, fun x hx => ?_, fun x hx => ?_⟩
          · dsimp only
            by_cases e : x < n
            · rw [if_pos e]; exact hfb1 x e
            · rw [if_neg e]
              have := hfb2 (x - n) (by omega)
              rw [show n + (x - n) = x by omega] at this; exact this
          · rw [hfl x (by omega)]; rfl
          · rw [(g3 x (by omega)).1]
            dsimp only
            by_cases e : x < n
            · rw [if_pos e]; exact hw1 x e
            · rw [if_neg e]
              have := hw2 (x - n) (by omega)
              rw [show n + (x - n) = x by omega] at this; exact this
          · rw [(g3 x (by omega)).2]; rfl
        · rw [nI_clamp (by omega)]
          refine ⟨vp_in_nI (by omega) (by decide), vp_in_nI (by omega) (by decide), vp_in_nI (by omega) (by decide), nm_r (nI_1 i) (ih (i + 1) _ _ (by omega) (by omega) (fun x hx => ?_))⟩
          by_cases e : x = i
          · subst e; rw [pk_us, pk_us]; exact ⟨rfl, rfl⟩
          · rw [pk_un e, pk_un e]; exact g3 x (by omega)
    have bring : ∀ (r i : Nat) (w : Nat → Int32), i ≤ n → n - i < r → (∀ x, x < i → w x = nI (en (c x))) → wp_Mo_encode_L29 (nI n) (nI k) (nI b) post2 r Mw Ml Mg w Mr (nI i) := by
      intro r
      induction r with
      | zero => intro i w g1 g2; omega
      | succ r ih =>
        intro i w g1 g2 g3
        refine pk_le n i (fun q => ?_) (fun q => ?_)
        · rw [show i = n by omega] at g3
          exact sp_encodeWork G (by omega) k2 b2 g3 (fun g w s hw1 hw2 => ⟨n + k + 1, last g w s hw1 hw2 (n + k + 1) 0 Mw Ml (by omega) (by omega) (fun x hx => by omega)⟩)
        · rw [nI_clamp (by omega), hb2 i (by omega)]
          refine ⟨vp_in_nI (by omega) (by decide), vp_in_nI (by omega) (by decide), nm_r (nI_1 i) (ih (i + 1) _ (by omega) (by omega) (fun x hx => ?_))⟩
          by_cases e : x = i
          · subst e; rw [pk_us]
          · rw [pk_un e]; exact g3 x (by omega)
    have key : ∀ (r i : Nat), i ≤ n → n - i < r → wp_Mo_encode_L2 (nI n) (nI k) (nI b) post2 r Mw Ml Mg Mk2 Mr (nI i) := by
      intro r
      induction r with
      | zero => intro i g1 g2; omega
      | succ r ih =>
        intro i g1 g2
        refine pk_le n i (fun q => ?_) (fun q => ?_)
        · exact ⟨n + 1, bring (n + 1) 0 Mk2 (by omega) (by omega) (fun x hx => by omega)⟩
        · rw [nI_clamp (by omega)]
          refine ⟨vp_in_nI (by omega) (by decide), bt (zB_f hl2 (by omega) (hz i q)) (nm_r (nI_1 i) (ih (i + 1) (by omega) (by omega)))⟩
    exact ⟨n + 1, key (n + 1) 0 (by omega) (by omega)⟩
theorem sp_byteAfter {K : Type} [F : Lean.Grind.Field K] {en : K → Nat} {al : K} (G : gf_ok K F en al) {N p j : Nat} (hN : N ≤ 240) (hp : p < N) (hj : j < 40) {c e : Nat → K} {lp : Nat → Bool} {Wb Wl Sp Sf : Nat → Int32} (hb : Wb p = nI (en (c p))) (hl : zB Wl lp N) (h6 : Sp j = nI p) (h7 : Sf j = nI (en (e p))) {post : Int32 → Prop} (h : post (nI (en ((if lp p then 0 else c p) + e p)))) : wp_So_byteAfter Wb Wl Sp Sf (nI j) post := by
  refine ⟨vp_in_nI hj (by decide), ?_⟩
  rw [nI_clamp (show j < 2 ^ 31 by omega), h6]
  refine nm_e ⟨vp_in_nI (by omega) (by decide), ?_⟩
  rw [nI_clamp (show p < 2 ^ 31 by omega)]
  cases hl' : lp p with
  | true =>
    rw [hl'] at h
    refine bf (by rw [zB_t hl hp hl']; decide) ⟨vp_in_nI hj (by decide), ?_⟩
    rw [nI_clamp (show j < 2 ^ 31 by omega), h7, show (0 : Int32) = nI (en (0 : K)) by rw [gf_zero G]; rfl, nx_xor, ← gf_add G]; exact h
  | false =>
    rw [hl'] at h
    refine bt (zB_f hl hp hl') ⟨vp_in_nI (by omega) (by decide), vp_in_nI hj (by decide), ?_⟩
    rw [nI_clamp (show j < 2 ^ 31 by omega), h7, hb, nx_xor, ← gf_add G]; exact h
theorem cn_mono {p q : Nat → Bool} {N : Nat} (h : ∀ i, i < N → p i = true → q i = true) : ∀ n : Nat, n ≤ N → cn p n ≤ cn q n
  | 0, _ => Nat.le_refl 0
  | n + 1, hn => by
    have ih := cn_mono h n (by omega)
    cases hp : p n with
    | true => rw [cn_t hp, cn_t (h n (by omega) hp)]; omega
    | false =>
      rw [cn_f hp]
      exact Nat.le_trans ih (cn_le q (by omega))
theorem cn_gap {p q : Nat → Bool} {N x y : Nat} (h : ∀ i, i < N → p i = true → q i = true) (hx : x ≤ y) (hy : y ≤ N) (e : cn q x = cn q y) : cn p x = cn p y := by
  have key : ∀ z, x + z ≤ y → cn p (x + z) = cn p x := by
    intro z
    induction z with
    | zero => intro _; rfl
    | succ z ih =>
      intro hz
      have h1 : q (x + z) = false := cn_no e (by omega) (by omega)
      have h2 : p (x + z) = false := by
        cases hp : p (x + z) with
        | false => rfl
        | true => rw [h _ (by omega) hp] at h1; cases h1
      rw [show x + (z + 1) = x + z + 1 by omega, cn_f h2]; exact ih (by omega)
  have := key (y - x) (by omega)
  rw [show x + (y - x) = y by omega] at this; exact this.symm
theorem sp_settle {K : Type} [F : Lean.Grind.Field K] {en : K → Nat} {al : K} (G : gf_ok K F en al) {N L : Nat} (hN : N ≤ 240) {rp : Nat → Bool} (hL : L = cn rp N) (hL40 : L ≤ 40) {c e : Nat → K} {lp : Nat → Bool} {Wb Wl Sp Sf : Nat → Int32} (hb : ∀ i, i < N → Wb i = nI (en (c i))) (hl : zB Wl lp N) (hr1 : ∀ i, i < N → lp i = true → rp i = true) (hr2 : ∀ i, i < N → rp i = false → e i = 0) (h6 : ∀ j, j < L → Sp j = nI (nth rp N j)) (h7 : ∀ j, j < L → Sf j = nI (en (e (nth rp N j)))) {z : Int32} {post : Int32 → (Nat → Int32) → (Nat → Int32) → Prop} (h : ∀ f fl : Nat → Int32, (∀ i, i < N → f i = nI (en ((if lp i then 0 else c i) + e i))) → (∀ i, i < 240 → fl i = 0) → post 0 f fl) : wp_So_settle z Wb Wl (nI L) Sp Sf post := by
  have key : ∀ (r j : Nat) (w : Nat → Int32), j ≤ L → L - j < r → (∀ x, x < N → w x = nI (en (if rp x = true ∧ cn rp x < j then (if lp x then 0 else c x) + e x else c x))) → wp_So_settle_L2 (nI L) Sp Sf post r z w Wl (nI j) := by
    intro r
    induction r with
    | zero => intro j w g1 g2; omega
    | succ r ih =>
      intro j w g1 g2 g3
      refine pk_le L j (fun q => ?_) (fun q => ?_)
      · refine sp_findAll (fun fl hfl => h w fl (fun i hi => ?_) hfl)
        rw [g3 i hi]
        cases hr : rp i with
        | true =>
          have h1 := cn_le rp (show i + 1 ≤ N by omega)
          rw [cn_t hr] at h1
          rw [if_pos ⟨rfl, by omega⟩]
        | false =>
          rw [if_neg (fun q2 => by cases q2.1), hr2 i hi hr]
          have : lp i = false := by
            cases hlp : lp i with
            | false => rfl
            | true => rw [hr1 i hi hlp] at hr; cases hr
          rw [this]
          congr 2
          grind
      · have hn := nth_ok (p := rp) (N := N) (j := j) (by omega)
        refine ⟨vp_in_nI (by omega) (by decide), ?_⟩
        refine sp_byteAfter G hN hn.1 (by omega) (c := c) (e := e) ?_ hl (h6 j q) (h7 j q) ?_
        · rw [g3 _ hn.1, if_neg (fun q2 => by omega)]
        · rw [nI_clamp (show j < 2 ^ 31 by omega), h6 j q]
          refine ⟨vp_in_nI (by omega) (by decide), nm_r (nI_1 j) (ih (j + 1) _ (by omega) (by omega) (fun x hx => ?_))⟩
          rw [nI_clamp (by omega)]
          by_cases ex : x = nth rp N j
          · rw [ex, pk_us, if_pos (show rp (nth rp N j) = true ∧ cn rp (nth rp N j) < j + 1 from ⟨hn.2.1, by omega⟩)]
          · rw [pk_un ex, g3 x hx]
            by_cases hh : rp x = true ∧ cn rp x < j
            · rw [if_pos hh, if_pos (show rp x = true ∧ cn rp x < j + 1 from ⟨hh.1, by omega⟩)]
            · rw [if_neg hh, if_neg (fun q2 => hh ⟨q2.1, ?_⟩)]
              have h3 : cn rp x ≠ j := fun q3 => ex (by rw [← q3]; exact (nth_cn hx q2.1).symm)
              omega
  refine ⟨L + 1, key (L + 1) 0 Wb (by omega) (by omega) (fun x hx => ?_)⟩
  rw [if_neg (fun q => by omega)]; exact hb x hx
theorem op_repair {K : Type} [F : Lean.Grind.Field K] {en : K → Nat} {al : K} (G : gf_ok K F en al) {Fp Fl : Nat → Int32} (T : ft_ok Fp Fl) {Wlc Wd Wr Wf : Int32} {Wb Wl Wfa : Nat → Int32} {Mn Mk Mb : Int32} {Mw Ml : Nat → Int32} (R : RWe F en al Wlc Wd Wr Wf Wb Wl Wfa Mn Mk Mb Mw Ml) {Cc : Int32} {Cp Cd : Nat → Int32} {Mc : Int32} {Mcp Mcb : Nat → Int32} (RCh : RC Cc Cp Cd Mc Mcp Mcb) {s0 : Int32} {s1 s2 s3 s4 s5 s6 s7 : Nat → Int32} {t1 t2 t3 t4 : Int32} {u1 u2 u3 u4 u5 u6 u7 : Nat → Int32} {post : Int32 → Int32 → (Nat → Int32) → (Nat → Int32) → Int32 → (Nat → Int32) → (Nat → Int32) → (Nat → Int32) → (Nat → Int32) → (Nat → Int32) → (Nat → Int32) → (Nat → Int32) → Int32 → (Nat → Int32) → (Nat → Int32) → Prop}
    (h : ∀ (r Wlc' : Int32) (Wb' Wl' : Nat → Int32) (y0 : Int32) (y1 y2 y3 y4 y5 y6 y7 : Nat → Int32) (Cc' : Int32) (Cp' Cd' : Nat → Int32), (∀ post2 : Int32 → Int32 → Int32 → Int32 → Int32 → Int32 → (Nat → Int32) → (Nat → Int32) → (Nat → Int32) → (Nat → Int32) → (Nat → Int32) → (Nat → Int32) → (Nat → Int32) → (Nat → Int32) → (Nat → Int32) → (Nat → Int32) → (Nat → Int32) → Prop, (∀ (Mc' v1 v2 v3 v4 : Int32) (Mw' Ml' Mcp' Mcb' x1 x2 x3 x4 x5 x6 x7 : Nat → Int32), RWe F en al Wlc' Wd Wr Wf Wb' Wl' Wfa Mn Mk Mb Mw' Ml' → RC Cc' Cp' Cd' Mc' Mcp' Mcb' → post2 r Mc' v1 v2 v3 v4 Mw' Ml' Mcp' Mcb' x1 x2 x3 x4 x5 x6 x7) → wp_Mo_repair Mn Mk Mb Mc t1 t2 t3 t4 Mw Ml Mcp Mcb u1 u2 u3 u4 u5 u6 u7 post2) → post r Wlc' Wb' Wl' y0 y1 y2 y3 y4 y5 y6 y7 Cc' Cp' Cd') : wp_RS_repair Fp Fl Wlc Wd Wr Wf Wb Wl s0 s1 s2 s3 s4 s5 s6 s7 Cc Cp Cd post := by
  have R0 := R
  obtain ⟨n, k, b, c, lp, ⟨n1, n2, k2, b2⟩, ⟨rfl, rfl, rfl, rfl⟩, hb, hl, hf, ⟨rfl, rfl, rfl⟩, hb2, hl2⟩ := R
  refine sp_solve G T (by omega) k2 b2 hb hl (fun t L e rp f1 f2 f3 f4 f5 f6 f7 he hL hL40 hr1 hr2 h6 h7 => ?_) (fun hno z f1 f2 f3 f4 f5 f6 f7 => ?_)
  · have ht := he.2.1
    have tne : ¬ nI t = (-1 : Int32) := fun q => by
      have := nI_pos' (show t < 2 ^ 31 by omega)
      rw [q] at this; exact absurd this (by decide)
    refine bf' tne ?_
    -- the difference at a place
    have hd : ∃ dp : Nat → Bool, dp = fun i => !Nat.beq (en (c i + ((if lp i then 0 else c i) + e i))) 0 := ⟨_, rfl⟩
    obtain ⟨dp, hdp⟩ := hd
    have hv : ∃ v : Nat → K, v = fun i => (if lp i then 0 else c i) + e i := ⟨_, rfl⟩
    obtain ⟨v, hv⟩ := hv
    have hdv : ∀ i, dp i = false ↔ c i = v i := fun i => by
      rw [hdp, hv]
      constructor
      · intro q
        have q1 : Nat.beq (en (c i + ((if lp i then 0 else c i) + e i))) 0 = true := by
          cases hq : Nat.beq (en (c i + ((if lp i then 0 else c i) + e i))) 0 with
          | true => rfl
          | false => dsimp only at q; rw [hq] at q; cases q
        have q2 := (gf_en0 G).mp (Nat.eq_of_beq_eq_true q1)
        have q3 := gf_two G (c i)
        dsimp only
        grind
      · intro q
        dsimp only at q
        show (!Nat.beq (en (c i + ((if lp i then 0 else c i) + e i))) 0) = false
        rw [← q, gf_two G, gf_zero G]; rfl
    have hsub : ∀ i, i < n + k → dp i = true → rp i = true := fun i hi q => by
      cases hr : rp i with
      | true => rfl
      | false =>
        exfalso
        have hlf : lp i = false := by
          cases hlp : lp i with
          | false => rfl
          | true => rw [hr1 i hi hlp] at hr; cases hr
        have : c i = v i := by
          rw [hv]
          show c i = (if lp i then 0 else c i) + e i
          rw [hr2 i hi hr, hlf]
          show c i = c i + 0
          grind
        rw [(hdv i).mpr this] at q; cases q
    have hq40 : cn dp (n + k) ≤ L := by rw [hL]; exact cn_mono hsub (n + k) (Nat.le_refl _)
    -- the reference
    have ref : ∀ (Cc' : Int32) (Cp' Cd' Wb' Wl' : Nat → Int32), Cc' = nI (cn dp (n + k)) → (∀ q, q < cn dp (n + k) → Cp' q = nI (nth dp (n + k) q) ∧ Cd' q = nI (en (c (nth dp (n + k) q) + v (nth dp (n + k) q)))) → (∀ i, i < n + k → Wb' i = nI (en (v i))) → (∀ i, i < 240 → Wl' i = 0) → ∀ post2 : Int32 → Int32 → Int32 → Int32 → Int32 → Int32 → (Nat → Int32) → (Nat → Int32) → (Nat → Int32) → (Nat → Int32) → (Nat → Int32) → (Nat → Int32) → (Nat → Int32) → (Nat → Int32) → (Nat → Int32) → (Nat → Int32) → (Nat → Int32) → Prop, (∀ (Mc' v1 v2 v3 v4 : Int32) (Mw' Ml' Mcp' Mcb' x1 x2 x3 x4 x5 x6 x7 : Nat → Int32), RWe F en al 0 (nI n) (nI k) (nI b) Wb' Wl' Wfa (nI n) (nI k) (nI b) Mw' Ml' → RC Cc' Cp' Cd' Mc' Mcp' Mcb' → post2 (nI t) Mc' v1 v2 v3 v4 Mw' Ml' Mcp' Mcb' x1 x2 x3 x4 x5 x6 x7) → wp_Mo_repair (nI n) (nI k) (nI b) Mc t1 t2 t3 t4 Mw Ml Mcp Mcb u1 u2 u3 u4 u5 u6 u7 post2 := by
      intro Cc' Cp' Cd' Wb' Wl' hCc hC hWb hWl post2 h2
      refine sp_bringWord (by omega) hb2 hl2 (fun w l hw hlw => ?_)
      refine sp_repairWork G (by omega) (by omega) k2 b2 hw hlw (fun t' e' z w' g1 g2 g3 g4 g5 he' hw' => ?_) (fun hno z w' g1 g2 g3 g4 g5 => absurd he (hno t e))
      obtain ⟨htt, hee⟩ := er_one G (by omega) he he'
      subst htt
      refine bt (nI_pos' (by omega)) ?_
      have hw2 : ∀ i, i < n + k → w' i = nI (en (v i)) := fun i hi => by
        rw [hw' i hi, hv, ← hee i hi]
      have key : ∀ (r i : Nat) (a l1 p1 p2 : Nat → Int32), i ≤ n + k → n + k - i < r → (∀ x, x < n + k → a x = nI (en (if x < i then v x else c x))) → (∀ x, x < i → l1 x = 0) → (∀ q, q < cn dp i → p1 q = nI (nth dp (n + k) q) ∧ p2 q = nI (en (c (nth dp (n + k) q) + v (nth dp (n + k) q)))) → wp_Mo_repair_L22 (nI n) (nI k) (nI b) post2 r (nI (cn dp i)) (nI (n + k)) (nI k) (nI b) z a l1 p1 p2 w' l g1 g2 g3 g4 g5 (nI t) (nI i) := by
        intro r
        induction r with
        | zero => intro i a l1 p1 p2 a1 a2; omega
        | succ r ih =>
          intro i a l1 p1 p2 a1 a2 a3 a4 a5
          show wp_Mo_repair_b22 (nI n) (nI k) (nI b) post2 _ _ _ _ _ _ _ _ _ _ _ _ _ _ _ _ _ _ _
          unfold wp_Mo_repair_b22
          rw [nI_add]
          refine pk_le (n + k) i (fun q => ?_) (fun q => ?_)
          · have hi : i = n + k := by omega
            subst hi
            refine h2 _ _ _ _ _ _ _ _ _ _ _ _ _ _ _ _ ⟨n, k, b, v, fun _ => false, ⟨n1, n2, k2, b2⟩, ⟨by rw [cn_z]; rfl, rfl, rfl, rfl⟩, hWb, fun x hx => ?_, hf, ⟨rfl, rfl, rfl⟩, fun x hx => ?_, fun x hx => ?_⟩ ⟨cn dp (n + k), by omega, hCc, rfl, fun q hq => ?_⟩
            · rw [hWl x (by omega)]; rfl
            · rw [a3 x hx, if_pos hx]
            · rw [a4 x hx]; rfl
            · rw [(hC q hq).1, (hC q hq).2, (a5 q hq).1, (a5 q hq).2]; exact ⟨rfl, rfl⟩
          · have tail : ∀ (p1 p2 : Nat → Int32), (∀ q, q < cn dp (i + 1) → p1 q = nI (nth dp (n + k) q) ∧ p2 q = nI (en (c (nth dp (n + k) q) + v (nth dp (n + k) q)))) → wp_Mo_repair_b92 (nI n) (nI k) (nI b) post2 (wp_Mo_repair_L22 (nI n) (nI k) (nI b) post2 r) (nI (cn dp (i + 1))) (nI (n + k)) (nI k) (nI b) z a l1 p1 p2 w' l g1 g2 g3 g4 g5 (nI t) (nI i) := fun p1 p2 a6 => by
              unfold wp_Mo_repair_b92
              rw [nI_clamp (show i < 2 ^ 31 by omega), hw2 i q]
              refine ⟨vp_in_nI (by omega) (by decide), vp_in_nI (by omega) (by decide), vp_in_nI (by omega) (by decide), nm_r (nI_1 i) (ih (i + 1) _ _ _ _ (by omega) (by omega) (fun x hx => ?_) (fun x hx => ?_) a6)⟩
              · by_cases ex : x = i
                · subst ex; rw [pk_us, if_pos (by omega)]
                · rw [pk_un ex, a3 x hx]
                  by_cases q2 : x < i
                  · rw [if_pos q2, if_pos (by omega)]
                  · rw [if_neg q2, if_neg (by omega)]
              · by_cases ex : x = i
                · subst ex; rw [pk_us]
                · rw [pk_un ex]; exact a4 x (by omega)
            have hidc := cn_id dp i
            rw [nI_clamp (show i < 2 ^ 31 by omega), nI_clamp (show cn dp i < 2 ^ 31 by omega), hw2 i q, a3 i q, if_neg (by omega)]
            refine ⟨vp_in_nI (by omega) (by decide), vp_in_nI (by omega) (by decide), ?_⟩
            refine pk_eq (en (v i)) (en (c i)) (fun q2 => ?_) (fun q2 => ?_) (ha := by have := gf_lt G (v i); omega) (hb := by have := gf_lt G (c i); omega)
            · have hdf := (hdv i).mpr (gf_inj G q2).symm
              have := tail p1 p2 (by rw [cn_f hdf]; exact a5)
              rw [cn_f hdf] at this; exact this
            · have hdt : dp i = true := by
                cases hx : dp i with
                | true => rfl
                | false => exact absurd (congrArg en ((hdv i).mp hx).symm) q2
              refine ⟨vp_in_nI (by omega) (by decide), vp_in_nI (by omega) (by decide), vp_in_nI (by omega) (by decide), vp_in_nI (by omega) (by decide), nm_r (nI_1 _) ?_⟩
              have := tail (upd p1 (cn dp i) (nI i)) (upd p2 (cn dp i) (nI (en (v i)) ^^^ nI (en (c i)))) (fun q3 hq3 => ?_)
              · rw [cn_t hdt] at this; exact this
              · rw [cn_t hdt] at hq3
                by_cases eq : q3 = cn dp i
                · subst eq
                  rw [pk_us, pk_us, nth_cn q hdt, nx_xor, Nat.xor_comm, ← gf_add G]; exact ⟨rfl, rfl⟩
                · rw [pk_un eq, pk_un eq]; exact a5 q3 (by omega)
      refine ⟨n + k + 1, key (n + k + 1) 0 Mw Ml Mcp Mcb (by omega) (by omega) (fun x hx => ?_) (fun x hx => by omega) (fun q hq => absurd hq (Nat.not_lt_zero q))⟩
      rw [if_neg (by omega)]; exact hb2 x hx
    -- the class
    have key : ∀ (r j : Nat) (Cp' Cd' : Nat → Int32) (q0 : Nat), j ≤ L → L - j < r → (∀ x, x ≤ n + k → cn rp x = j → q0 = cn dp x) → (∀ q, q < q0 → Cp' q = nI (nth dp (n + k) q) ∧ Cd' q = nI (en (c (nth dp (n + k) q) + v (nth dp (n + k) q)))) → wp_RS_repair_L28 Fp Fl (nI n) (nI k) (nI b) post r (nI (cn lp (n + k))) Wb Wl (nI L) f1 f2 f3 f4 f5 f6 f7 (nI q0) Cp' Cd' (nI t) (nI j) := by
      intro r
      induction r with
      | zero => intro j Cp' Cd' q0 g1 g2; omega
      | succ r ih =>
        intro j Cp' Cd' q0 g1 g2 g3 g4
        refine pk_le L j (fun q => ?_) (fun q => ?_)
        · have hq0 := g3 (n + k) (Nat.le_refl _) (by omega)
          rw [hq0] at g4
          refine sp_settle G (by omega) hL hL40 hb hl hr1 hr2 h6 h7 (fun f fl hf' hfl => h _ _ _ _ _ _ _ _ _ _ _ _ _ _ _ (ref _ _ _ _ _ (by rw [hq0]) g4 (fun i hi => ?_) hfl))
          rw [hf' i hi, hv]
        · have hn := nth_ok (p := rp) (N := n + k) (j := j) (by omega)
          have hq0 := g3 _ (Nat.le_of_lt hn.1) hn.2.2
          have hq1 := cn_mono hsub _ (Nat.le_of_lt hn.1)
          rw [nI_clamp (show j < 2 ^ 31 by omega), h6 j q]
          refine ⟨vp_in_nI (by omega) (by decide), nm_e ⟨vp_in_nI (by omega) (by decide), ?_⟩⟩
          refine sp_byteAfter G (by omega : n + k ≤ 240) hn.1 (by omega) (c := c) (e := e) (hb _ hn.1) hl (h6 j q) (h7 j q) ?_
          rw [nI_clamp (by omega), hb _ hn.1, nx_xor, ← gf_add G]
          have hvp : (if lp (nth rp (n + k) j) = true then 0 else c (nth rp (n + k) j)) + e (nth rp (n + k) j) = v (nth rp (n + k) j) := by rw [hv]
          rw [hvp]
          have hgap : ∀ x, x ≤ n + k → cn rp x = j + 1 → cn dp (nth rp (n + k) j + 1) = cn dp x := fun x hx hxj => by
            have e1 : cn rp (nth rp (n + k) j + 1) = j + 1 := by rw [cn_t hn.2.1, hn.2.2]
            rcases Nat.le_total (nth rp (n + k) j + 1) x with q2 | q2
            · exact cn_gap hsub q2 hx (by rw [e1, hxj])
            · exact (cn_gap hsub q2 (by omega) (by rw [e1, hxj])).symm
          refine pk_eq (en (c (nth rp (n + k) j) + v (nth rp (n + k) j))) 0 (fun q2 => ?_) (fun q2 => ?_) (ha := by have := gf_lt G (c (nth rp (n + k) j) + v (nth rp (n + k) j)); omega)
          · have hdf : dp (nth rp (n + k) j) = false := (hdv _).mpr (by
              have q3 := (gf_en0 G).mp q2
              have q4 := gf_two G (v (nth rp (n + k) j))
              grind)
            refine nm_r (nI_1 j) (ih (j + 1) _ _ q0 (by omega) (by omega) (fun x hx hxj => ?_) g4)
            rw [← hgap x hx hxj, cn_f hdf]; exact hq0
          · have hdt : dp (nth rp (n + k) j) = true := by
              cases hx : dp (nth rp (n + k) j) with
              | true => rfl
              | false =>
                exfalso; apply q2
                rw [(hdv _).mp hx, gf_two G, gf_zero G]
            refine bf (fun q3 => by have := pz_le (a := 40) (by decide) (by omega) q3; omega) ⟨vp_in_nI (by omega) (by decide), vp_in_nI (by omega) (by decide), nm_r (nI_1 q0) (nm_r (nI_1 j) (ih (j + 1) _ _ (q0 + 1) (by omega) (by omega) (fun x hx hxj => ?_) (fun q3 hq3 => ?_)))⟩
            · rw [← hgap x hx hxj, cn_t hdt, ← hq0]
            · rw [nI_clamp (by omega)]
              by_cases eq : q3 = q0
              · rw [eq, pk_us, pk_us, hq0, nth_cn hn.1 hdt]; exact ⟨rfl, rfl⟩
              · rw [pk_un eq, pk_un eq]; exact g4 q3 (by omega)
    refine ⟨L + 1, key (L + 1) 0 Cp Cd 0 (by omega) (by omega) (fun x hx hxj => ?_) (fun q hq => by omega)⟩
    have := cn_mono hsub x hx
    omega
  · refine bt' rfl (h _ _ _ _ _ _ _ _ _ _ _ _ _ _ _ (fun post2 h2 => ?_))
    refine sp_bringWord (by omega) hb2 hl2 (fun w l hw hlw => ?_)
    refine sp_repairWork G (by omega) (by omega) k2 b2 hw hlw (fun t' e' z w' g1 g2 g3 g4 g5 he' hw' => absurd he' (hno t' e')) (fun _ z w' g1 g2 g3 g4 g5 => ?_)
    exact bf (by decide) (h2 _ _ _ _ _ _ _ _ _ _ _ _ _ _ _ _ R0 RCh)
