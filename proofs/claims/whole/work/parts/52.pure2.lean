/-! Words: the class's methods. Abstract: c the bytes, lp the lost places, gp_c the generator, rm_c the remainder, ra_hv the value. -/
theorem cl0 : (0 : Int32).toNatClampNeg = 0 := rfl
theorem nI_inc {n : Nat} {x : Int32} (h : x = nI n) : x + (1 : Int32) = nI (n + 1) := by rw [h]; exact nI_1 n
def ra_hv {K : Type} [Lean.Grind.Field K] (p : Nat → K) (X : K) : Nat → K
  | 0 => 0
  | m + 1 => ra_hv p X m * X + p m
theorem ra_hv_hq {K : Type} [Lean.Grind.Field K] (p : Nat → K) (X : K) : ∀ m : Nat, ra_hv p X (m + 1) = ra_hq p X m
  | 0 => by
    show 0 * X + p 0 = p 0
    grind
  | m + 1 => by
    show ra_hv p X (m + 1) * X + p (m + 1) = p (m + 1) + X * ra_hq p X m
    rw [ra_hv_hq p X m]; grind
def gp_c {K : Type} [Lean.Grind.Field K] (al : K) (b : Nat) : Nat → Nat → K
  | 0, i => if i = 0 then 1 else 0
  | j + 1, 0 => gp_c al b j 0 * al ^ (b + j)
  | j + 1, i + 1 => gp_c al b j i + gp_c al b j (i + 1) * al ^ (b + j)
theorem gp_big {K : Type} [Lean.Grind.Field K] (al : K) (b : Nat) : ∀ (j i : Nat), j < i → gp_c al b j i = 0
  | 0, i, h => by
    show (if i = 0 then (1 : K) else 0) = 0
    rw [if_neg (by omega)]
  | j + 1, 0, h => by omega
  | j + 1, i + 1, h => by
    show gp_c al b j i + gp_c al b j (i + 1) * al ^ (b + j) = 0
    rw [gp_big al b j i (by omega), gp_big al b j (i + 1) (by omega)]; grind
def rm_c {K : Type} [Lean.Grind.Field K] (g : Nat → K) (k : Nat) (c : Nat → K) : Nat → Nat → K
  | 0, _ => 0
  | i + 1, j => (if j + 1 < k then rm_c g k c i (j + 1) else 0) + (c i + rm_c g k c i 0) * g (k - 1 - j)
theorem sp_fill2 {nA : Nat} (hn : nA < 2 ^ 31) {A_ : Nat → Int32} {v : Int32} {post : (Nat → Int32) → Prop} (h : ∀ f : Nat → Int32, (∀ i, i < nA → f i = v) → post f) : wp_Arr_fill2 nA A_ v post := by
  have key : ∀ (n i : Nat) (f : Nat → Int32), i ≤ nA → nA - i < n → (∀ j, j < i → f j = v) → wp_Arr_fill2_L5 nA post n f v (nI i) (nI nA) := by
    intro n
    induction n with
    | zero => intro i f h1 h2; omega
    | succ n ih =>
      intro i f h1 h2 h3
      refine pk_le nA i (fun q => ?_) (fun q => ?_)
      · exact h f (fun j hj => h3 j (by omega))
      · refine ⟨vp_in_nI q hn, nm_r (nI_1 i) ?_⟩
        rw [nI_clamp (by omega)]
        refine ih (i + 1) _ (by omega) (by omega) (fun j hj => ?_)
        by_cases e : j = i
        · subst e; exact pk_us
        · rw [pk_un e]; exact h3 j (by omega)
  intro x3 e3
  rw [e3]
  exact ⟨nA + 1, key (nA + 1) 0 A_ (by omega) (by omega) (fun j hj => absurd hj (Nat.not_lt_zero j))⟩
theorem sp_fill4 {nA lo hi : Nat} (hn : nA < 2 ^ 31) (h1 : lo ≤ hi) (h2 : hi ≤ nA) {A_ : Nat → Int32} {v : Int32} {post : (Nat → Int32) → Prop} (h : ∀ f : Nat → Int32, (∀ i, lo ≤ i → i < hi → f i = v) → (∀ i, i < lo → f i = A_ i) → (∀ i, hi ≤ i → f i = A_ i) → post f) : wp_Arr_fill4 nA A_ (nI lo) (nI hi) v post := by
  have key : ∀ (n i : Nat) (f : Nat → Int32), lo ≤ i → i ≤ hi → hi - i < n → (∀ j, lo ≤ j → j < i → f j = v) → (∀ j, j < lo → f j = A_ j) → (∀ j, hi ≤ j → f j = A_ j) → wp_Arr_fill4_L10 nA post n f (nI hi) v (nI i) := by
    intro n
    induction n with
    | zero => intro i f h0 h1 h2; omega
    | succ n ih =>
      intro i f h0 h1 h2 h3 h4 h5
      refine pk_le hi i (fun q => ?_) (fun q => ?_)
      · exact h f (fun j hj hj2 => h3 j hj (by omega)) h4 h5
      · refine ⟨vp_in_nI (by omega) hn, nm_r (nI_1 i) ?_⟩
        rw [nI_clamp (by omega)]
        refine ih (i + 1) _ (by omega) (by omega) (by omega) (fun j hj hj2 => ?_) (fun j hj => ?_) (fun j hj => ?_)
        · by_cases e : j = i
          · subst e; exact pk_us
          · rw [pk_un e]; exact h3 j hj (by omega)
        · rw [pk_un (by omega)]; exact h4 j hj
        · rw [pk_un (by omega)]; exact h5 j hj
  refine pk_le lo hi (fun _ => pk_le 0 lo (fun _ => pk_le hi nA (fun _ => ?_) (fun q => by omega)) (fun q => by omega)) (fun q => by omega)
  exact ⟨hi - lo + 1, key _ lo A_ (Nat.le_refl _) h1 (by omega) (fun j h1 h2 => by omega) (fun _ _ => rfl) (fun _ _ => rfl)⟩
theorem sp_size {n k : Nat} {post : Int32 → Prop} (h : post (nI (n + k))) : wp_Wo_size (nI n) (nI k) post := by
  show post (nI n + nI k)
  rw [nI_add]; exact h
theorem sp_hasPlace {n k : Nat} (hN : n + k < 2 ^ 31) {p : Int32} {post : Int32 → Prop} (h1 : ∀ j : Nat, j < n + k → p = nI j → post 1) (h0 : (¬ ∃ j : Nat, j < n + k ∧ p = nI j) → post 0) : wp_Wo_hasPlace (nI n) (nI k) p post := by
  rcases pz_cases p (n + k) hN with ⟨c, q⟩ | ⟨c, d, q⟩ | ⟨j, hj, e⟩
  · exact ⟨fun _ => ⟨rfl, h0 q⟩, fun h => absurd c h⟩
  · refine ⟨fun h => absurd h c, fun _ => sp_size ⟨fun _ => ⟨rfl, h0 q⟩, fun h => absurd d h⟩⟩
  · refine ⟨fun h => absurd (e ▸ h) (pz_lt0 (by omega)), fun _ => sp_size ⟨fun h => ?_, fun _ => ⟨rfl, h1 j hj e⟩⟩⟩
    rw [e] at h
    exact absurd (pz_le hN (by omega) h) (by omega)
theorem sp_powerAt {n k i : Nat} (hi : i < n + k) {post : Int32 → Prop} (h : post (nI (n + k - 1 - i))) : wp_Wo_powerAt (nI n) (nI k) (nI i) post := by
  refine sp_size ?_
  rw [show (1 : Int32) = nI 1 from rfl, pk_sub (by omega), pk_sub (by omega)]; exact h
theorem sp_findAll {lc : Int32} {Wl : Nat → Int32} {post : Int32 → (Nat → Int32) → Prop} (h : ∀ f : Nat → Int32, (∀ i, i < 240 → f i = 0) → post 0 f) : wp_Wo_findAll lc Wl post := by
  have key : ∀ (n i : Nat) (f : Nat → Int32), i ≤ 240 → 240 - i < n → (∀ j, j < i → f j = 0) → wp_Wo_findAll_L2 post n lc f (nI i) := by
    intro n
    induction n with
    | zero => intro i f h1 h2; omega
    | succ n ih =>
      intro i f h1 h2 h3
      refine pk_le 240 i (fun q => ?_) (fun q => ?_)
      · exact h f (fun j hj => h3 j (by omega))
      · refine ⟨vp_in_nI q (by decide), nm_r (nI_1 i) ?_⟩
        rw [nI_clamp (by omega)]
        refine ih (i + 1) _ (by omega) (by omega) (fun j hj => ?_)
        by_cases e : j = i
        · subst e; exact pk_us
        · rw [pk_un e]; exact h3 j (by omega)
  exact ⟨241, key 241 0 Wl (by omega) (by omega) (fun j hj => absurd hj (Nat.not_lt_zero j))⟩
/-- which are lost: booleans of a row -/
def zB (f : Nat → Int32) (p : Nat → Bool) (N : Nat) : Prop := ∀ i, i < N → f i = if p i then 1 else 0
theorem sp_hasLostData {n : Nat} (hn : n ≤ 240) {Wl : Nat → Int32} {lp : Nat → Bool} (hl : zB Wl lp n) {post : Int32 → Prop} (h1 : (∃ i, i < n ∧ lp i = true) → post 1) (h0 : (∀ i, i < n → lp i = false) → post 0) : wp_Wo_hasLostData (nI n) Wl post := by
  have key : ∀ (r i : Nat), i ≤ n → n - i < r → (∀ j, j < i → lp j = false) → wp_Wo_hasLostData_L2 (nI n) Wl post r (nI i) := by
    intro r
    induction r with
    | zero => intro i h1 h2; omega
    | succ r ih =>
      intro i h2 h3 h4
      refine pk_le n i (fun q => ?_) (fun q => ?_)
      · exact h0 (fun j hj => h4 j (by omega))
      · refine ⟨vp_in_nI (by omega) (by decide), ?_⟩
        rw [nI_clamp (by omega), hl i q]
        cases hp : lp i with
        | true => exact ⟨fun e => absurd e (by decide), fun _ => h1 ⟨i, q, hp⟩⟩
        | false =>
          refine ⟨fun _ => nm_r (nI_1 i) ?_, fun e => absurd rfl e⟩
          refine ih (i + 1) (by omega) (by omega) (fun j hj => ?_)
          by_cases e : j = i
          · subst e; exact hp
          · exact h4 j (by omega)
  exact ⟨n + 1, key (n + 1) 0 (by omega) (by omega) (fun j hj => absurd hj (Nat.not_lt_zero j))⟩
section WO
theorem nI_255 (n : Nat) (h : n < 2 ^ 31) : (nI n).toInt % 255 = (n : Int) % 255 := by rw [nI_toInt h]
theorem sp_valueFor {K : Type} [F : Lean.Grind.Field K] {en : K → Nat} {al : K} (G : gf_ok K F en al) {Fp Fl : Nat → Int32} (T : ft_ok Fp Fl) {n k : Nat} (hN : n + k ≤ 240) {Wb Wl : Nat → Int32} {c : Nat → K} {lp : Nat → Bool} (hb : ∀ i, i < n + k → Wb i = nI (en (c i))) (hl : zB Wl lp (n + k)) {e : Int32} {m : Nat} (he : e.toInt % 255 = (m : Int) % 255) {post : Int32 → Prop} (h : post (nI (en (ra_hv (fun i => if lp i then 0 else c i) (al ^ m) (n + k))))) : wp_Wo_valueFor Fp Fl (nI n) (nI k) Wb Wl e post := by
  refine sp_two G T he ?_
  have key : ∀ (r i : Nat), i ≤ n + k → n + k - i < r → wp_Wo_valueFor_L14 Fp Fl (nI n) (nI k) Wb Wl post r (nI (en (al ^ m))) (nI (en (ra_hv (fun i => if lp i then 0 else c i) (al ^ m) i))) (nI i) := by
    intro r
    induction r with
    | zero => intro i h1 h2; omega
    | succ r ih =>
      intro i h1 h2
      show wp_Wo_valueFor_b14 Fp Fl (nI n) (nI k) Wb Wl post _ _ _ _
      unfold wp_Wo_valueFor_b14
      refine sp_size ?_
      refine pk_le (n + k) i (fun q => ?_) (fun q => ?_)
      · rw [show i = n + k by omega]; exact h
      · refine sp_product G T _ _ ?_
        refine ⟨vp_in_nI (by omega) (by decide), ?_⟩
        have tail : ∀ (t : Int32) (d : K), t = nI (en d) → d = (if lp i then 0 else c i) → wp_Wo_valueFor_b53 Fp Fl (nI n) (nI k) Wb Wl post (wp_Wo_valueFor_L14 Fp Fl (nI n) (nI k) Wb Wl post r) (nI (en (al ^ m))) (nI i) t (nI (en (ra_hv (fun i => if lp i then 0 else c i) (al ^ m) i * al ^ m))) := by
          intro t d ht hd
          refine nm_r (e' := nI (en (ra_hv (fun i => if lp i then 0 else c i) (al ^ m) (i + 1)))) ?_ (nm_r (nI_1 i) (ih (i + 1) (by omega) (by omega)))
          rw [ht, nx_xor, ← gf_add G, hd]; rfl
        rw [nI_clamp (by omega), hl i q]
        cases hp : lp i with
        | true =>
          refine ⟨fun e => absurd e (by decide), fun _ => tail 0 0 (by rw [gf_zero G]; rfl) (by rw [hp]; rfl)⟩
        | false =>
          refine ⟨fun _ => ⟨vp_in_nI (by omega) (by decide), tail _ (c i) (hb i q) (by rw [hp]; rfl)⟩, fun e => absurd rfl e⟩
  refine ⟨n + k + 1, ?_⟩
  have := key (n + k + 1) 0 (by omega) (by omega)
  rw [show ra_hv (fun i => if lp i then 0 else c i) (al ^ m) 0 = 0 from rfl, gf_zero G] at this
  exact this
theorem sp_multiplyFactors {K : Type} [F : Lean.Grind.Field K] {en : K → Nat} {al : K} (G : gf_ok K F en al) {Fp Fl : Nat → Int32} (T : ft_ok Fp Fl) {k b : Nat} (hk : k ≤ 40) (hb : b < 255) {Wf : Nat → Int32} {post : (Nat → Int32) → Prop} (h : ∀ f : Nat → Int32, (∀ i, i < 41 → f i = nI (en (gp_c al b k i))) → post f) : wp_Wo_multiplyFactors Fp Fl (nI k) (nI b) Wf post := by
  refine sp_fill2 (by decide) (fun f0 hf0 => ?_)
  have key : ∀ (r j : Nat) (f : Nat → Int32), j ≤ k → k - j < r → (∀ i, i < 41 → f i = nI (en (gp_c al b j i))) → wp_Wo_multiplyFactors_L17 Fp Fl (nI k) (nI b) post r f (nI j) := by
    intro r
    induction r with
    | zero => intro j f h1 h2; omega
    | succ r ih =>
      intro j f h1 h2 h3
      refine pk_le k j (fun q => ?_) (fun q => ?_)
      · rw [show j = k by omega] at h3; exact h f h3
      · rw [nI_add]
        refine sp_two G T (n := b + j) (nI_255 _ (by omega)) ?_
        refine nm_r (nI_1 j) ?_
        have inner : ∀ (u i : Nat) (f : Nat → Int32), i < u → i ≤ j + 1 → (∀ x, x < 41 → i < x → f x = nI (en (gp_c al b (j + 1) x))) → (∀ x, x ≤ i → f x = nI (en (gp_c al b j x))) → wp_Wo_multiplyFactors_L43 Fp Fl (nI k) (nI b) post (wp_Wo_multiplyFactors_L17 Fp Fl (nI k) (nI b) post r) u f (nI j) (nI (en (al ^ (b + j)))) (nI i) := by
          intro u
          induction u with
          | zero => intro i f h1; omega
          | succ u ihu =>
            intro i f g1 g2 g3 g4
            refine pk_lt i 1 (fun q2 => ?_) (fun q2 => ?_)
            · have hi0 : i = 0 := by omega
              subst hi0
              refine ⟨vp_in_nI (n := 0) (by decide) (by decide), ?_⟩
              rw [cl0, g4 0 (Nat.le_refl 0)]
              refine sp_product G T _ _ ⟨vp_in_nI (n := 0) (by decide) (by decide), nm_r (nI_1 j) ?_⟩
              refine ih (j + 1) _ (by omega) (by omega) (fun x hx => ?_)
              by_cases e : x = 0
              · subst e; rw [pk_us]; rfl
              · rw [pk_un e]; exact g3 x hx (by omega)
            · obtain ⟨i, rfl⟩ : ∃ z, i = z + 1 := ⟨i - 1, by omega⟩
              rw [show nI (i + 1) - (1 : Int32) = nI i from nI_pred i, nI_clamp (show i + 1 < 2 ^ 31 by omega), nI_clamp (show i < 2 ^ 31 by omega), g4 (i + 1) (Nat.le_refl _), g4 i (by omega)]
              refine ⟨vp_in_nI (by omega) (by decide), vp_in_nI (by omega) (by decide), ?_⟩
              refine sp_product G T _ _ ⟨vp_in_nI (by omega) (by decide), nm_r (pk_m1 i) ?_⟩
              rw [nx_xor, ← gf_add G]
              refine ihu i _ (by omega) (by omega) (fun x hx hx2 => ?_) (fun x hx => ?_)
              · by_cases e : x = i + 1
                · subst e; rw [pk_us]; rfl
                · rw [pk_un e]; exact g3 x hx (by omega)
              · rw [pk_un (by omega)]; exact g4 x (by omega)
        refine ⟨j + 2, inner (j + 2) (j + 1) f (by omega) (by omega) (fun x hx hx2 => ?_) (fun x hx => h3 x (by omega))⟩
        rw [h3 x hx, gp_big al b j x (by omega), gp_big al b (j + 1) x (by omega)]
  refine ⟨vp_in_nI (n := 0) (by decide) (by decide), k + 1, key (k + 1) 0 _ (by omega) (by omega) (fun i hi => ?_)⟩
  rw [cl0]
  by_cases e : i = 0
  · subst e
    rw [pk_us]
    show (1 : Int32) = nI (en (if 0 = 0 then (1 : K) else 0))
    rw [if_pos rfl, gf_one G]; rfl
  · rw [pk_un e, hf0 i hi]
    show (0 : Int32) = nI (en (if i = 0 then (1 : K) else 0))
    rw [if_neg e, gf_zero G]; rfl
theorem sp_fillRepairs {K : Type} [F : Lean.Grind.Field K] {en : K → Nat} {al : K} (G : gf_ok K F en al) {Fp Fl : Nat → Int32} (T : ft_ok Fp Fl) {n k : Nat} (hN : n + k ≤ 240) (hk : k ≤ 40) {Wb Wf : Nat → Int32} {c g : Nat → K} (hb : ∀ i, i < n → Wb i = nI (en (c i))) (hf : ∀ i, i < 41 → Wf i = nI (en (g i))) {post : (Nat → Int32) → Prop} (h : ∀ f : Nat → Int32, (∀ i, i < n → f i = nI (en (c i))) → (∀ j, j < k → f (n + j) = nI (en (rm_c g k c n j))) → post f) : wp_Wo_fillRepairs Fp Fl (nI n) (nI k) Wb Wf post := by
  refine pz_ne k 0 (fun hk0 => ?_) (fun hk0 => h Wb hb (fun j hj => by omega))
  rw [nI_add]
  refine sp_fill4 (by decide) (by omega) hN (fun f0 z0 z1 _ => ?_)
  refine nm_r (e' := nI (k - 1)) (pk_sub (b := 1) (by omega)) ?_
  have key : ∀ (r i : Nat) (f : Nat → Int32), i ≤ n → n - i < r → (∀ x, x < n → f x = nI (en (c x))) → (∀ j, j < k → f (n + j) = nI (en (rm_c g k c i j))) → wp_Wo_fillRepairs_L38 Fp Fl (nI n) (nI k) Wf post r f (nI (k - 1)) (nI i) := by
    intro r
    induction r with
    | zero => intro i f h1 h2; omega
    | succ r ih =>
      intro i f h1 h2 h3 h4
      refine pk_le n i (fun q => ?_) (fun q => ?_)
      · rw [show i = n by omega] at h4; exact h f h3 h4
      · refine ⟨vp_in_nI (by omega) (by decide), vp_in_nI (by omega) (by decide), ?_⟩
        refine nm_r (e' := nI (en (c i + rm_c g k c i 0))) ?_ ?_
        · have h40 := h4 0 (by omega)
          rw [Nat.add_zero] at h40
          rw [nI_clamp (show i < 2 ^ 31 by omega), nI_clamp (show n < 2 ^ 31 by omega), h3 i q, h40, nx_xor, ← gf_add G]
        · have inner : ∀ (u j : Nat) (f : Nat → Int32), j ≤ k - 1 → k - 1 - j < u → (∀ x, x < n → f x = nI (en (c x))) → (∀ x, x < j → f (n + x) = nI (en (rm_c g k c (i + 1) x))) → (∀ x, j ≤ x → x < k → f (n + x) = nI (en (rm_c g k c i x))) → wp_Wo_fillRepairs_L66 Fp Fl (nI n) (nI k) Wf post (wp_Wo_fillRepairs_L38 Fp Fl (nI n) (nI k) Wf post r) u f (nI (k - 1)) (nI i) (nI (en (c i + rm_c g k c i 0))) (nI j) := by
            intro u
            induction u with
            | zero => intro j f g1 g2; omega
            | succ u ihu =>
              intro j f g1 g2 g3 g4 g5
              refine pk_le (k - 1) j (fun q2 => ?_) (fun q2 => ?_)
              · have hj : j = k - 1 := by omega
                subst hj
                refine ⟨vp_in_nI (n := 0) (by decide) (by decide), ?_⟩
                rw [cl0, hf 0 (by decide), nI_add]
                refine sp_product G T _ _ ⟨vp_in_nI (by omega) (by decide), nm_r (nI_1 i) ?_⟩
                rw [nI_clamp (by omega)]
                refine ih (i + 1) _ (by omega) (by omega) (fun x hx => ?_) (fun x hx => ?_)
                · rw [pk_un (by omega)]; exact g3 x hx
                · by_cases e : x = k - 1
                  · subst e
                    rw [pk_us]
                    show nI (en ((c i + rm_c g k c i 0) * g 0)) = nI (en ((if k - 1 + 1 < k then rm_c g k c i (k - 1 + 1) else 0) + (c i + rm_c g k c i 0) * g (k - 1 - (k - 1))))
                    rw [if_neg (by omega), Nat.sub_self]
                    congr 2
                    grind
                  · rw [pk_un (by omega)]; exact g4 x (by omega)
              · have e1 : nI n + nI j + (1 : Int32) = nI (n + (j + 1)) := by rw [nI_add]; exact nI_1 (n + j)
                rw [e1, pk_sub (show j ≤ k - 1 by omega), nI_add, nI_clamp (show n + (j + 1) < 2 ^ 31 by omega), nI_clamp (show k - 1 - j < 2 ^ 31 by omega), nI_clamp (show n + j < 2 ^ 31 by omega), hf (k - 1 - j) (by omega), g5 (j + 1) (by omega) (by omega)]
                refine ⟨vp_in_nI (by omega) (by decide), vp_in_nI (by omega) (by decide), ?_⟩
                refine sp_product G T _ _ ⟨vp_in_nI (by omega) (by decide), nm_r (nI_1 j) ?_⟩
                rw [nx_xor, ← gf_add G]
                refine ihu (j + 1) _ (by omega) (by omega) (fun x hx => ?_) (fun x hx => ?_) (fun x hx hx2 => ?_)
                · rw [pk_un (by omega)]; exact g3 x hx
                · by_cases e : x = j
                  · subst e
                    rw [pk_us]
                    show _ = nI (en ((if x + 1 < k then rm_c g k c i (x + 1) else 0) + (c i + rm_c g k c i 0) * g (k - 1 - x)))
                    rw [if_pos (by omega)]
                  · rw [pk_un (by omega)]; exact g4 x (by omega)
                · rw [pk_un (by omega)]; exact g5 x (by omega) hx2
          exact ⟨k, inner k 0 f (by omega) (by omega) h3 (fun x hx => by omega) (fun x _ hx => h4 x hx)⟩
  refine ⟨n + 1, key (n + 1) 0 f0 (by omega) (by omega) (fun x hx => by rw [z1 x hx]; exact hb x hx) (fun j hj => ?_)⟩
  rw [z0 (n + j) (by omega) (by omega)]
  show (0 : Int32) = nI (en (0 : K))
  rw [gf_zero G]; rfl
theorem sp_shape {K : Type} [F : Lean.Grind.Field K] {en : K → Nat} {al : K} (G : gf_ok K F en al) {Fp Fl : Nat → Int32} (T : ft_ok Fp Fl) {k b : Nat} (hk : k ≤ 40) (hb : b < 255) {lc wd wr wf p1 : Int32} {Wb Wl Wf : Nat → Int32} {post : Int32 → Int32 → Int32 → Int32 → (Nat → Int32) → (Nat → Int32) → (Nat → Int32) → Prop} (h : ∀ fb fl ff : Nat → Int32, (∀ i, i < 240 → fb i = 0) → (∀ i, i < 240 → fl i = 0) → (∀ i, i < 41 → ff i = nI (en (gp_c al b k i))) → post 0 p1 (nI k) (nI b) fb fl ff) : wp_Wo_shape Fp Fl lc wd wr wf Wb Wl Wf p1 (nI k) (nI b) post :=
  sp_fill2 (by decide) (fun fb hfb => sp_findAll (fun fl hfl => sp_multiplyFactors G T hk hb (fun ff hff => h fb fl ff hfb hfl hff)))
end WO
