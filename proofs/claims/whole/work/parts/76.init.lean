/-! The start: the tables, the new objects. -/
theorem sp_Fi_init {post : (Nat → Int32) → (Nat → Int32) → Prop} (h : ∀ fp fl : Nat → Int32, ft_ok fp fl → post fp fl) : wp_Fi_init post := by
  have key : ∀ (r e : Nat) (fp fl : Nat → Int32), e ≤ 255 → 255 - e < r → (∀ i, i < e → fp i = nI (g_exp i) ∧ fp (i + 255) = nI (g_exp i)) → (∀ a, a < 256 → a ≠ 0 → g_log a < e → fl a = nI (g_log a)) → wp_Fi_init_L26 post r fp fl (nI (g_exp (e % 255))) (nI e) := by
    intro r
    induction r with
    | zero => intro e fp fl g1 g2; omega
    | succ r ih =>
      intro e fp fl g1 g2 g3 g4
      refine pk_le 255 e (fun q => ?_) (fun q => ?_)
      · refine h fp fl ⟨fun i hi => ?_, fun a ha ha0 => ?_⟩
        · rcases Nat.lt_or_ge i 255 with q2 | q2
          · rw [Nat.mod_eq_of_lt q2]; exact (g3 i (by omega)).1
          · have := (g3 (i - 255) (by omega)).2
            rw [show i - 255 + 255 = i by omega] at this
            rw [this, show i % 255 = i - 255 by omega]
        · have := g_f2 ha ha0
          exact g4 a ha ha0 (by omega)
      · rw [Nat.mod_eq_of_lt q]
        have f1 := g_f1 q
        have f3 := g_f3 q
        rw [show nI e + (255 : Int32) = nI (e + 255) from nI_add e 255, and255 f1.1, nI_clamp (show e < 2 ^ 31 by omega), nI_clamp (show e + 255 < 2 ^ 31 by omega), nI_clamp (show g_exp e < 2 ^ 31 by omega)]
        refine ⟨vp_in_nI (by omega) (by decide), vp_in_nI (by omega) (by decide), vp_in_nI f1.1 (by decide), ?_⟩
        have tail : ∀ x1 : Int32, x1 = nI (g_xt (g_exp e)) → wp_Fi_init_b79 post (wp_Fi_init_L26 post r) (upd (upd fp e (nI (g_exp e))) (e + 255) (nI (g_exp e))) (upd fl (g_exp e) (nI e)) x1 (nI e) := fun x1 hx1 => by
          rw [hx1, ← f3]
          refine nm_r (nI_1 e) (ih (e + 1) _ _ (by omega) (by omega) (fun i hi => ?_) (fun a ha ha0 hal => ?_))
          · by_cases e1 : i = e
            · subst e1
              rw [pk_us, pk_un (by omega), pk_us]; exact ⟨rfl, rfl⟩
            · rw [pk_un (by omega), pk_un (by omega), pk_un (by omega), pk_un (by omega)]
              exact g3 i (by omega)
          · by_cases e1 : a = g_exp e
            · subst e1
              rw [pk_us, f1.2.2]
            · rw [pk_un e1]
              refine g4 a ha ha0 ?_
              have : g_log a ≠ e := fun q2 => e1 (by rw [← q2]; exact (g_f2 ha ha0).2.symm)
              omega
        refine nm_r (e' := nI (g_exp e * 2)) (pk_shlN _ 1 (by decide) (by omega)) ?_
        refine pk_lt (g_exp e * 2) 256 (fun q2 => tail _ ?_) (fun q2 => nm_e (tail _ ?_))
        · unfold g_xt
          rw [if_pos (by omega), Nat.mul_comm]
        · unfold g_xt
          rw [if_neg (by omega), show (285 : Int32) = nI 285 from rfl, nx_xor, Nat.mul_comm]
  have := key 256 0 (fun _ => 0) (fun _ => 0) (by omega) (by omega) (fun i hi => by omega) (fun a _ _ q => by omega)
  exact ⟨_, this⟩
theorem sp_start1 {a b c : Int32} {f : Nat → Int32} {post : Int32 → Int32 → Int32 → (Nat → Int32) → Prop} (h : ∀ g : Nat → Int32, (∀ i, i < 256 → g i = 0) → post 1 1 0 g) : wp_Sh_start a b c f 1 1 post := by
  have key : ∀ (r i : Nat) (f : Nat → Int32), i ≤ 256 → 256 - i < r → (∀ z, z < i → f z = 0) → wp_Sh_start_L17 post r 1 1 0 f (nI i) := by
    intro r
    induction r with
    | zero => intro i f g1 g2; omega
    | succ r ih =>
      intro i f g1 g2 g3
      refine pk_le 256 i (fun q => ?_) (fun q => ?_)
      · exact h f (fun z hz => g3 z (by omega))
      · rw [nI_clamp (by omega)]
        refine ⟨vp_in_nI q (by decide), nm_r (nI_1 i) (ih (i + 1) _ (by omega) (by omega) (fun z hz => ?_))⟩
        by_cases e : z = i
        · subst e; rw [pk_us]
        · rw [pk_un e]; exact g3 z (by omega)
  exact ⟨_, key 257 0 f (by omega) (by omega) (fun z hz => by omega)⟩
theorem sp_RS_init {K : Type} [F : Lean.Grind.Field K] {en : K → Nat} {al : K} (G : gf_ok K F en al) {post : (Nat → Int32) → (Nat → Int32) → Int32 → Int32 → Int32 → Int32 → (Nat → Int32) → (Nat → Int32) → (Nat → Int32) → Int32 → (Nat → Int32) → (Nat → Int32) → (Nat → Int32) → (Nat → Int32) → (Nat → Int32) → (Nat → Int32) → (Nat → Int32) → Int32 → (Nat → Int32) → (Nat → Int32) → Int32 → Int32 → Int32 → (Nat → Int32) → (Nat → Int32) → (Nat → Int32) → (Nat → Int32) → Int32 → Int32 → Int32 → Int32 → (Nat → Int32) → (Nat → Int32) → (Nat → Int32) → Int32 → Int32 → Int32 → Int32 → (Nat → Int32) → (Nat → Int32) → (Nat → Int32) → (Nat → Int32) → (Nat → Int32) → Prop}
    (h : ∀ (Fp Fl Wb Wl Wfa Vb Vl Vfa Ht : Nat → Int32), ft_ok Fp Fl → (∀ i, i < 240 → Wb i = 0) → (∀ i, i < 240 → Wl i = 0) → (∀ i, i < 41 → Wfa i = nI (en (gp_c al 0 0 i))) → (∀ i, i < 256 → Ht i = 0) → post Fp Fl 0 1 0 0 Wb Wl Wfa 0 (fun _ => 0) (fun _ => 0) (fun _ => 0) (fun _ => 0) (fun _ => 0) (fun _ => 0) (fun _ => 0) 0 (fun _ => 0) (fun _ => 0) 0 0 0 (fun _ => 0) (fun _ => 0) (fun _ => 0) (fun _ => 0) 0 1 0 0 Vb Vl Vfa 0 1 1 0 (fun _ => 0) (fun _ => 0) (fun _ => 0) (fun _ => 0) Ht) : wp_RS_init post :=
  by
  refine sp_Fi_init (fun Fp Fl T => ?_)
  refine sp_shape G T (k := 0) (b := 0) (by decide) (by decide) (fun fb fl ff hfb hfl hff => ?_)
  unfold wp_So_init wp_Ch_init wp_St_init
  refine sp_shape G T (k := 0) (b := 0) (by decide) (by decide) (fun vb vl vf _ _ _ => ?_)
  unfold wp_Sh_init
  exact sp_start1 (fun g hg => h Fp Fl fb fl ff vb vl vf g T hfb hfl hff hg)
