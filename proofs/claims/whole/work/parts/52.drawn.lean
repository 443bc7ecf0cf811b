/-! drawn -/
theorem pu_fX (c d : Int32) : ∃ f : Int32 → Int32, ∀ z, z * c + d = f z := ⟨fun z => z * c + d, fun _ => rfl⟩
theorem pu_qX (s h : Int32) : ∃ f : Int32 → Int32, ∀ z : Int32, (z.toUInt32 >>> (s.toUInt32 &&& Int32.toUInt32 31)).toInt32 - (z.toUInt32 >>> (s.toUInt32 &&& Int32.toUInt32 31)).toInt32 / h * h = f z := ⟨fun z => (z.toUInt32 >>> (s.toUInt32 &&& Int32.toUInt32 31)).toInt32 - (z.toUInt32 >>> (s.toUInt32 &&& Int32.toUInt32 31)).toInt32 / h * h, fun _ => rfl⟩
theorem pu_drawG {β : Type} (c d s h : Int32) (f g : Int32 → Int32) (hf : ∀ z, z * c + d = f z) (hg : ∀ z : Int32, (z.toUInt32 >>> (s.toUInt32 &&& Int32.toUInt32 31)).toInt32 - (z.toUInt32 >>> (s.toUInt32 &&& Int32.toUInt32 31)).toInt32 / h * h = g z) (z : Int32) (K : Int32 → Int32 → Option β) : (sm_b (z * c) fun v2 => sm_b (v2 + d) fun v3 => sm_b ((v3.toUInt32 >>> (s.toUInt32 &&& Int32.toUInt32 31)).toInt32) fun v4 => sm_g (!decide ((100 : Int32) = 0)) <| sm_b (v4 - v4 / h * h) fun v5 => K v3 v5) = K (f z) (g (f z)) := by
  rw [← hg, ← hf]
  rfl
theorem nt_fX : ∃ f g : Int32 → Int32, ∀ (β : Type) (z : Int32) (K : Int32 → Int32 → Option β), (sm_b (z * (1103515245 : Int32)) fun v2 => sm_b (v2 + (12345 : Int32)) fun v3 => sm_b ((v3.toUInt32 >>> ((9 : Int32).toUInt32 &&& Int32.toUInt32 31)).toInt32) fun v4 => sm_g (!decide ((100 : Int32) = 0)) <| sm_b (v4 - v4 / (100 : Int32) * (100 : Int32)) fun v5 => K v3 v5) = K (f z) (g (f z)) := by
  obtain ⟨f, hf⟩ := pu_fX 1103515245 12345
  obtain ⟨g, hg⟩ := pu_qX 9 100
  exact ⟨f, g, fun β z K => pu_drawG 1103515245 12345 9 100 f g hf hg z K⟩
/-- the step of the drawing, that nothing unfolds -/
noncomputable def nt_f : Int32 → Int32 := Classical.choose nt_fX
theorem nt_gX : ∃ g : Int32 → Int32, ∀ (β : Type) (z : Int32) (K : Int32 → Int32 → Option β), (sm_b (z * (1103515245 : Int32)) fun v2 => sm_b (v2 + (12345 : Int32)) fun v3 => sm_b ((v3.toUInt32 >>> ((9 : Int32).toUInt32 &&& Int32.toUInt32 31)).toInt32) fun v4 => sm_g (!decide ((100 : Int32) = 0)) <| sm_b (v4 - v4 / (100 : Int32) * (100 : Int32)) fun v5 => K v3 v5) = K (nt_f z) (g (nt_f z)) := Classical.choose_spec nt_fX
noncomputable def nt_q : Int32 → Int32 := Classical.choose nt_gX
/-- both draw so -/
theorem pu_draw {β : Type} (z : Int32) (K : Int32 → Int32 → Option β) : (sm_b (z * (1103515245 : Int32)) fun v2 => sm_b (v2 + (12345 : Int32)) fun v3 => sm_b ((v3.toUInt32 >>> ((9 : Int32).toUInt32 &&& Int32.toUInt32 31)).toInt32) fun v4 => sm_g (!decide ((100 : Int32) = 0)) <| sm_b (v4 - v4 / (100 : Int32) * (100 : Int32)) fun v5 => K v3 v5) = K (nt_f z) (nt_q (nt_f z)) := Classical.choose_spec nt_gX β z K
noncomputable def nt_z (seed : Int32) : Nat → Int32
  | 0 => seed
  | n + 1 => nt_f (nt_z seed n)
noncomputable def nt_dw (l r z : Int32) : Int32 := if l ≤ nt_q z then (if l + r ≤ nt_q z then 0 else 1) else -1
theorem nt_dwR (l r z : Int32) : -1 ≤ nt_dw l r z ∧ nt_dw l r z ≤ 1 := by
  unfold nt_dw
  (repeat' split) <;> decide
theorem xf_drawS {seed l r z : Int32} {i N : Nat} {y : sm_St} (hi : i < 10) (h9 : y.1 43 9 = nI 10) : xf_X2_drawWinds_p12 seed l r (N + 1) y z (nI i) = xf_X2_drawWinds_p12 seed l r N (sm_sI y 46 i (nt_dw l r (nt_f z))) (nt_f z) (nI (i + 1)) := by
  have nl : ¬ nI 10 ≤ nI i := nI_ge hi (by decide)
  rw [xf_X2_drawWinds_p12, pu_draw]
  generalize nt_f z = u
  unfold nt_dw
  generalize nt_q u = q
  simp only [sm_bS, h9, nl, if_false, xf_X2_drawWinds_p71, sm_gIn (show i < 40 by omega) (by decide : 40 < 2 ^ 31), nI_cl (show i < 2 ^ 31 by omega), nI_inc]
  by_cases c1 : l ≤ q
  · by_cases c2 : l + r ≤ q
    · simp only [c1, c2, if_true]
    · simp only [c1, c2, if_true, if_false]
  · simp only [c1, if_false]
theorem xf_drawL {seed l r : Int32} : ∀ (d i N : Nat) (y : sm_St), i + d = 10 → d < N → y.1 43 9 = nI 10 → sm_ok (xf_X2_drawWinds_p12 seed l r N y (nt_z seed i) (nI i)) (fun _ t => (∀ m, i ≤ m → m < 10 → t.1 46 m = nt_dw l r (nt_z seed (m + 1))) ∧ (∀ m, m < i → t.1 46 m = y.1 46 m) ∧ ∀ c, c ≠ 46 → t.1 c = y.1 c) := by
  intro d
  induction d with
  | zero =>
    intro i N y h1 h2 h9
    obtain ⟨N, rfl⟩ : ∃ n', N = n' + 1 := ⟨N - 1, by omega⟩
    have : i = 10 := by omega
    subst this
    rw [xf_X2_drawWinds_p12, pu_draw]
    simp only [sm_bS, h9]
    rw [if_pos (nI_le (Nat.le_refl 10) (by decide))]
    exact ok_some.mpr ⟨fun m a b => by omega, fun _ _ => rfl, fun _ _ => rfl⟩
  | succ d ih =>
    intro i N y h1 h2 h9
    obtain ⟨N, rfl⟩ : ∃ n', N = n' + 1 := ⟨N - 1, by omega⟩
    rw [xf_drawS (by omega) h9]
    refine ok_mono (ih (i + 1) N _ (by omega) (by omega) (by rw [sm_rI 43 (by decide)]; exact h9)) (fun _ t ⟨a1, a2, a3⟩ => ⟨fun m m1 m2 => ?_, fun m hm => ?_, fun c hc => ?_⟩)
    · by_cases e : m = i
      · subst e
        rw [a2 m (by omega), sm_rE]
        rfl
      · exact a1 m (by omega) m2
    · rw [a2 m (by omega), sm_rI1 46 m (Or.inr (by omega))]
    · rw [a3 c hc, sm_rI c hc]
theorem xf_drawWindsE {seed l r : Int32} {σ : sm_St} : sm_ok (xf_X2_drawWinds seed l r σ) (fun _ t => t.1 43 9 = nI 10 ∧ (∀ m, m < 10 → t.1 46 m = nt_dw l r (nt_z seed (m + 1))) ∧ (∀ c, c ≠ 43 → c ≠ 46 → t.1 c = σ.1 c)) := by
  unfold xf_X2_drawWinds
  simp only [sm_bS]
  refine ok_mono (xf_drawL (seed := seed) (l := l) (r := r) 10 0 sm_F (sm_sI σ 43 9 10) (by decide) (by have := sm_Fge; omega) sm_rE) (fun _ t ⟨a1, _, a3⟩ => ⟨?_, fun m hm => a1 m (by omega) hm, fun c c43 c46 => ?_⟩)
  · rw [a3 43 (by decide), sm_rE]
    rfl
  · rw [a3 c c46, sm_rI c c43]
/-- what the reference's drawn night rests on -/
def nt_D (cmp : (Nat → Int32) → Nat → (Nat → Int32) → (Nat → Int32) → Prop) (k t N : Nat) (code ends kn nb pl : Nat → Int32) (sk te ed l r : Int32) (σ : sm_St) : Prop := σ.1 0 15 = nI k ∧ (∀ x, x < k → σ.1 4 x = kn x ∧ σ.1 5 x = nb x ∧ σ.1 6 x = pl x) ∧ σ.1 0 7 = sk ∧ σ.1 0 10 = te ∧ σ.1 0 11 = ed ∧ σ.1 0 4 = nI t ∧ σ.1 2 t = nI N ∧ cmp (fun i => σ.1 1 (160 * t + i)) N code ends ∧ σ.1 0 8 = l ∧ σ.1 0 9 = r
section
variable {cmp : (Nat → Int32) → Nat → (Nat → Int32) → (Nat → Int32) → Prop} {V : (Nat → Int32) → (Nat → Int32) → Int32 → (Nat → Int32) → Int32} {σx σm σ σ' : sm_St} {k tc t N : Nat} {code ends kn nb pl : Nat → Int32} {sk te ed l r : Int32}
theorem nt_D.am (h : nt_D cmp k t N code ends kn nb pl sk te ed l r σ) (a : pr_am σ σ') : nt_D cmp k t N code ends kn nb pl sk te ed l r σ' := by
  unfold nt_D at h ⊢
  rw [pr_cm a 4 (pr_pmc 4 (by decide) (by decide)), pr_cm a 5 (pr_pmc 5 (by decide) (by decide)), pr_cm a 6 (pr_pmc 6 (by decide) (by decide)), pr_cm a 2 (pr_pmc 2 (by decide) (by decide)), pr_cm a 1 (pr_pmc 1 (by decide) (by decide)), a 0 15 rfl, a 0 7 rfl, a 0 10 rfl, a 0 11 rfl, a 0 4 rfl, a 0 8 rfl, a 0 9 rfl]
  exact h
theorem mf_drawsS {seed z : Int32} {i F : Nat} {u v : sm_St} (hi : i < 10) (u8 : u.1 0 8 = l) (u9 : u.1 0 9 = r) (hv : mf_X8_passes (nI i) (nt_dw l r (nt_f z)) u = some ((), v)) : mf_X8_draws_p12 seed (F + 1) u z (nI i) = mf_X8_draws_p12 seed F v (nt_f z) (nI (i + 1)) := by
  have nl : ¬ (10 : Int32) ≤ nI i := nI_ge (b := 10) hi (by decide)
  rw [mf_X8_draws_p12, pu_draw]
  generalize nt_f z = w at hv ⊢
  unfold nt_dw at hv
  generalize nt_q w = q at hv ⊢
  simp only [nl, if_false, sm_bS, u8, u9, mf_X8_draws_p71, nI_inc]
  by_cases c1 : l ≤ q
  · by_cases c2 : l + r ≤ q
    · simp only [c1, c2, if_true] at hv ⊢
      simp only [hv, sm_cS]
    · simp only [c1, c2, if_true, if_false] at hv ⊢
      simp only [hv, sm_cS]
  · simp only [c1, if_false] at hv ⊢
    simp only [hv, sm_cS]
theorem mf_drawsE {seed : Int32} (hI : nt_I cmp V) (h5 : k ≤ 5) (ht : t < 6) (hN : N ≤ 160) (he1 : ed = 0 ∨ ed = 1) (hg : nt_good k 0 (nt_S0 sk pl)) (h : nt_D cmp k t N code ends kn nb pl sk te ed l r σ) : sm_ok (mf_X8_draws seed σ) (fun a v => a = nt_sum (nt_run true k kn nb te ed (nt_P V code ends nb) (fun m => nt_dw l r (nt_z seed (m + 1))) (nt_S0 sk pl) 10 3) k ∧ nt_sum (v.1 11) k = nt_sum (nt_run true k kn nb te ed (nt_P V code ends nb) (fun m => nt_dw l r (nt_z seed (m + 1))) (nt_S0 sk pl) 10 6) k ∧ pr_am σ v) := by
  obtain ⟨h15, hk, hsk, hte, hed, h4, h2, hc, hl, hr⟩ := h
  obtain ⟨_, s3, e1, a1, a2, z⟩ := @mf_asideE σ
  have hp : nt_MP k (nt_P V code ends nb) s3 := mf_saysE hI h5 ht hN (by rw [z 0 (by decide), h4]) (by rw [z 2 (by decide), h2]) (by rw [z 1 (by decide)]; exact hc) (fun x hx => by rw [z 5 (by decide)]; exact (hk x hx).2.1)
  obtain ⟨_, s4, e2, b1, b2, b3, b4, b5⟩ := @mf_beginsE s3
  have ft : nt_MF s3 s4 := by
    intro c j hc
    by_cases c0 : c = 0
    · subst c0
      exact b4 j (fun e => by subst e; simp [nt_fm] at hc) (fun e => by subst e; simp [nt_fm] at hc)
    · rw [b5 c c0 (by
        by_cases z : c < 7
        · exact Or.inl z
        · by_cases z2 : 11 < c
          · exact Or.inr z2
          · rcases (by omega : c = 7 ∨ c = 8 ∨ c = 9 ∨ c = 10 ∨ c = 11) with e | e | e | e | e <;> subst e <;> simp [nt_fm] at hc)]
  have S : nt_M k (nt_S0 sk pl) s4 := by
    refine ⟨?_, b3, Or.inl ⟨rfl, b2⟩, fun x hx => ?_⟩
    · rw [b4 7 (by decide) (by decide), z 0 (by decide)]; exact hsk
    · obtain ⟨z1, z2, z3, z4, z5⟩ := b1 x (by omega)
      refine ⟨?_, z1, z2, z3, z4, z5⟩
      rw [b5 6 (by decide) (by decide), z 6 (by decide)]
      exact (hk x hx).2.2
  have t15 : s3.1 0 15 = nI k := by rw [z 0 (by decide), h15]
  have L : ∀ (d i F : Nat) (u : sm_St), i + d = 10 → d < F → nt_MF s3 u → nt_M k (nt_run true k (s3.1 4) (s3.1 5) te ed (nt_P V code ends nb) (fun m => nt_dw l r (nt_z seed (m + 1))) (nt_S0 sk pl) i) u → ∃ f w, mf_X8_draws_p12 seed F u (nt_z seed i) (nI i) = mf_X8_draws_p12 seed (f + 1) w (nt_z seed 10) (nI 10) ∧ nt_MF s3 w ∧ nt_M k (nt_run true k (s3.1 4) (s3.1 5) te ed (nt_P V code ends nb) (fun m => nt_dw l r (nt_z seed (m + 1))) (nt_S0 sk pl) 10) w := by
    intro d
    induction d with
    | zero =>
      intro i F u h1 h2 h3 h4
      obtain ⟨F, rfl⟩ : ∃ n', F = n' + 1 := ⟨F - 1, by omega⟩
      have : i = 10 := by omega
      subst this
      exact ⟨F, u, rfl, h3, h4⟩
    | succ d ih =>
      intro i F u h1 h2 g1 g2
      obtain ⟨F, rfl⟩ : ∃ n', F = n' + 1 := ⟨F - 1, by omega⟩
      have u8 : u.1 0 8 = l := by rw [g1 0 8 (by simp [nt_fm]), z 0 (by decide), hl]
      have u9 : u.1 0 9 = r := by rw [g1 0 9 (by simp [nt_fm]), z 0 (by decide), hr]
      have G := @nt_goodR true k (s3.1 4) (s3.1 5) te ed (nt_P V code ends nb) (fun m => nt_dw l r (nt_z seed (m + 1))) (nt_S0 sk pl) h5 hg i (by omega)
      obtain ⟨_, v, v1, v2, v3⟩ := mf_passesE (mi := nI i) (w := nt_dw l r (nt_f (nt_z seed i))) h5 hp t15 g1 g2 G (by omega) (nt_dwR l r _) (by rw [z 0 (by decide), hed]) he1
      rw [z 0 (by decide), hte] at v3
      obtain ⟨f, w, w1, w2, w3⟩ := ih (i + 1) F v (by omega) (by omega) v2 v3
      exact ⟨f, w, (mf_drawsS (by omega) u8 u9 v1).trans w1, w2, w3⟩
  obtain ⟨f, w, w1, w2, w3⟩ := L 10 0 sm_F s4 (by decide) (by have := sm_Fge; omega) ft S
  obtain ⟨_, v, e3, v1, v2, v3, v4, v5⟩ := @mf_backE w
  have w15 : w.1 0 15 = nI k := by rw [w2 0 15 (by simp [nt_fm]), t15]
  have v15 : v.1 0 15 = nI k := by rw [v4 15 (by decide), w15]
  have b8 := mf_sumE (a := 8) (k := k) (σ := v) rfl h5 v15
  have w3 := w3.eq ((nt_runC (p := true) (q := true) (kn := s3.1 4) (kn' := kn) (nb := s3.1 5) (nb' := nb) (te := te) (ed := ed) (P := nt_P V code ends nb) (W := fun m => nt_dw l r (nt_z seed (m + 1))) (W' := fun m => nt_dw l r (nt_z seed (m + 1))) h5 (fun x hx => by rw [z 4 (by decide)]; exact (hk x hx).1) (fun x hx => by rw [z 5 (by decide)]; exact (hk x hx).2.1) (nt_eq.np ⟨fun _ _ => rfl, fun _ _ _ _ _ => rfl⟩) hg 10 (by decide) (fun _ _ => rfl)).2 rfl ⟨fun _ _ => rfl, fun _ _ _ _ _ => rfl⟩)
  rw [v5 8 (by decide) (by decide), (nt_sumM w3).1] at b8
  have e0 : mf_X8_draws seed σ = some (nt_sum (nt_run true k kn nb te ed (nt_P V code ends nb) (fun m => nt_dw l r (nt_z seed (m + 1))) (nt_S0 sk pl) 10 3) k, v) := by
    unfold mf_X8_draws
    simp only [e1, e2, sm_cS]
    have w1 : mf_X8_draws_p12 seed sm_F s4 seed 0 = mf_X8_draws_p12 seed (f + 1) w (nt_z seed 10) (nI 10) := w1
    rw [w1, mf_X8_draws_p12, pu_draw]
    have nl : (10 : Int32) ≤ nI 10 := by decide
    rw [if_pos nl]
    simp only [e3, sm_cS, b8]
  rw [e0]
  refine ok_some.mpr ⟨rfl, ?_, fun c j hcj => ?_⟩
  · rw [v5 11 (by decide) (by decide), (nt_sumM w3).2]
  have u13 : ∀ i, w.1 13 i = s3.1 13 i := fun i => w2 13 i (by simp [nt_fm])
  rcases pr_pmE c j hcj with g | ⟨g1, g2⟩ | ⟨g1, g2⟩
  · by_cases c0 : c = 0
    · subst c0
      rw [v4 j (fun e => by subst e; simp [nt_fm] at g), w2 0 j g, z 0 (by decide)]
    · by_cases c6 : c = 6
      · subst c6
        have j5 : 5 ≤ j := by
          simp [nt_fm] at g
          exact g
        rw [v2 j j5, w2 6 j g, z 6 (by decide)]
      · have c13 : c ≠ 13 := fun e => by subst e; simp [pr_pm] at hcj
        rw [v5 c c0 c6, w2 c j g, z c c13]
  · subst g1; subst g2
    rw [v3, u13, a2]
  · subst g1
    rw [v1 j g2, u13, a1 j g2]
theorem pr_drawn (hI : nt_I cmp V) (h : pr_R cmp σx σm) (a1 : Int32) : pr_sim cmp (xf_X7_drawn a1 σx) (mf_X8_drawn a1 σm) := by
  have h0 := h
  obtain ⟨k, tc, t, N, h5, ht, hN, hF, hR, et, em, e2, hc⟩ := pr_rule h
  obtain ⟨f1, f2, f3, f4, f5, f6, f7, f8⟩ := hF
  obtain ⟨_, ux, e1, w1, w2, w3⟩ := @xf_drawWindsE a1 (σx.1 1 1) (σx.1 1 2) σx
  have c1 := w3 1 (by decide) (by decide)
  have c4 := w3 4 (by decide) (by decide)
  have c7 := w3 7 (by decide) (by decide)
  have c10 := w3 10 (by decide) (by decide)
  have c22 := w3 (22 + t) (by omega) (by omega)
  have c28 := w3 (28 + t) (by omega) (by omega)
  obtain ⟨_, wx, e3, y1, y2⟩ := xf_asIs (σ := ux) (W := fun m => nt_dw (σx.1 1 1) (σx.1 1 2) (nt_z a1 (m + 1))) hI h5 (by rw [c1, c4, c7, c10]; exact hR) ht (by rw [c1, et]) (by rw [c22, c28]; exact hc) (by decide : 10 ≤ 40) w1 w2
  rw [c1, c4, c7, c10, c22, c28] at y2
  obtain ⟨r1, v, m1, m2, -, m3⟩ := mf_drawsE (seed := a1) (kn := σx.1 4) (nb := σx.1 7) (pl := σx.1 10) (sk := σx.1 1 0) (te := σx.1 1 3) (ed := σx.1 1 4) (l := σx.1 1 1) (r := σx.1 1 2) hI h5 ht hN hR.2.2.2.1 (nt_good0 h5 hR) ⟨f1, f8, f2, f5, f6, em, e2, hc, f3, f4⟩
  have s44 := xf_sumE (a := 44) (σ := wx) rfl
  rw [(nt_sumX h5 y2).1, ← m2] at s44
  unfold xf_X7_drawn mf_X8_drawn xf_X2_costOfAll
  simp only [sm_bS, e1, e3, s44, m1, sm_cS]
  refine ⟨_, _, _, rfl, rfl, h0.keep (fun c j hcj => ?_) m3⟩
  obtain ⟨d3, d6, d9, d12, d43⟩ := pr_pxE c j hcj
  rw [y1 c d3 d6 d9 d12 d43, w3 c (by omega) (by omega)]
end
