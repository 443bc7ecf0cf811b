/-! costs, were it otherwise: eddies -/
/-- the class, its winds taken: all but its thought as it was -/
def nt_G (σ0 σ : sm_St) (M : Nat) (W : Nat → Int32) : Prop := (∀ c, c ≠ 3 → c ≠ 6 → c ≠ 9 → c ≠ 12 → c < 43 → σ.1 c = σ0.1 c) ∧ σ.1 43 9 = nI M ∧ ∀ m, m < M → σ.1 46 m = W m
/-- what the reference's night from now rests on -/
def nt_H (cmp : (Nat → Int32) → Nat → (Nat → Int32) → (Nat → Int32) → Prop) (k t N s n : Nat) (code ends W kn nb pl : Nat → Int32) (sk te ed : Int32) (σ : sm_St) : Prop := σ.1 22 s = nI n ∧ σ.1 0 15 = nI k ∧ (∀ x, x < k → σ.1 4 x = kn x ∧ σ.1 5 x = nb x ∧ σ.1 6 x = pl x) ∧ σ.1 0 7 = sk ∧ σ.1 0 10 = te ∧ σ.1 0 11 = ed ∧ (∀ m, m < n → nt_wind (σ.1 23 (40 * s + m)) = W m) ∧ σ.1 0 4 = nI t ∧ σ.1 2 t = nI N ∧ cmp (fun i => σ.1 1 (160 * t + i)) N code ends
section
variable {cmp : (Nat → Int32) → Nat → (Nat → Int32) → (Nat → Int32) → Prop} {V : (Nat → Int32) → (Nat → Int32) → Int32 → (Nat → Int32) → Int32} {σx σm σ σ' : sm_St} {k tc t N s n M : Nat} {code ends W kn nb pl : Nat → Int32} {sk te ed : Int32}
theorem nt_H.am (h : nt_H cmp k t N s n code ends W kn nb pl sk te ed σ) (a : pr_am σ σ') : nt_H cmp k t N s n code ends W kn nb pl sk te ed σ' := by
  unfold nt_H at h ⊢
  rw [pr_cm a 22 (pr_pmc 22 (by decide) (by decide)), pr_cm a 23 (pr_pmc 23 (by decide) (by decide)), pr_cm a 4 (pr_pmc 4 (by decide) (by decide)), pr_cm a 5 (pr_pmc 5 (by decide) (by decide)), pr_cm a 6 (pr_pmc 6 (by decide) (by decide)), pr_cm a 2 (pr_pmc 2 (by decide) (by decide)), pr_cm a 1 (pr_pmc 1 (by decide) (by decide)), a 0 15 rfl, a 0 7 rfl, a 0 10 rfl, a 0 11 rfl, a 0 4 rfl]
  exact h
theorem mf_costOfE (hI : nt_I cmp V) (hs : s < 4) (hn : n ≤ 40) (h5 : k ≤ 5) (ht : t < 6) (hN : N ≤ 160) (he1 : ed = 0 ∨ ed = 1) (hg : nt_good k 0 (nt_S0 sk pl)) (h : nt_H cmp k t N s n code ends W kn nb pl sk te ed σ) : sm_ok (mf_X8_costOf (nI s) σ) (fun r v => r = nt_sum (nt_run true k kn nb te ed (nt_P V code ends nb) W (nt_S0 sk pl) n 3) k ∧ (∀ x, x < k → v.1 8 x = nt_run true k kn nb te ed (nt_P V code ends nb) W (nt_S0 sk pl) n 3 x ∧ v.1 9 x = nt_run true k kn nb te ed (nt_P V code ends nb) W (nt_S0 sk pl) n 4 x) ∧ pr_am σ v) := by
  obtain ⟨h1, h2, h3, h4, h6, h7, h8, h9, h10, h11⟩ := h
  obtain ⟨s3, u, v, g1, g2, g3, g4, g5, g6, g7, g8⟩ := mf_asideN (kn := kn) (nb := nb) (pl := pl) (W := W) hI hs hn h1 h5 h2 h3 h4 h6 h7 he1 h8 hg ht hN h9 h10 h11
  unfold mf_X8_costOf
  have b8 := mf_sumE (a := 8) (k := k) (σ := v) rfl h5 g6
  rw [g7 8 (by decide) (by decide), (nt_sumM g4).1] at b8
  simp only [g1, g2, g3, sm_cS, b8]
  refine ok_some.mpr ⟨rfl, fun x hx => ?_, g8⟩
  rw [g7 8 (by decide) (by decide), g7 9 (by decide) (by decide)]
  exact ⟨(g4.2.2.2 x hx).2.2.1, (g4.2.2.2 x hx).2.2.2.1⟩
/-- the class's thought, from a beginning that is changed somehow -/
theorem xf_runT {v : sm_St} {b : Nat → Int32} (hI : nt_I cmp V) (h5 : k ≤ 5) (ht : t < 6) (hc : cmp b N (σx.1 (22 + t)) (σx.1 (28 + t))) (hM : M ≤ 40) (hG : nt_G σx v M W) (h6 : v.1 3 6 = nI k) (hk : ∀ x, x < k → v.1 6 x = kn x ∧ v.1 9 x = nb x ∧ v.1 12 x = pl x) (hsk : v.1 3 0 = sk) (hte : v.1 3 3 = te) (hed : v.1 3 4 = ed) (hz : ∀ x, x < 5 → v.1 44 x = 0 ∧ v.1 45 x = 0 ∧ v.1 47 x = 0 ∧ v.1 48 x = 0 ∧ v.1 49 x = 0) (h10 : v.1 43 10 = 0) (h11 : v.1 43 11 = -1) (h12 : v.1 43 12 = -1) (hg : nt_good k 0 (nt_S0 sk pl)) : sm_ok (xf_X2_run (some (16 + t)) v) (fun _ w => nt_G σx w M W ∧ nt_X k (nt_run true k kn nb te ed (nt_P V (σx.1 (22 + t)) (σx.1 (28 + t)) nb) W (nt_S0 sk pl) M) w) := by
  obtain ⟨G1, G2, G3⟩ := hG
  have v22 : v.1 (22 + t) = σx.1 (22 + t) := G1 _ (by omega) (by omega) (by omega) (by omega) (by omega)
  have v28 : v.1 (28 + t) = σx.1 (28 + t) := G1 _ (by omega) (by omega) (by omega) (by omega) (by omega)
  have hp : nt_XP true k (nt_P V (σx.1 (22 + t)) (σx.1 (28 + t)) nb) (sm_sR v 43 13 (some (16 + t))) := by
    have := xf_priceE (σ0 := sm_sR v 43 13 (some (16 + t))) (k := k) (b := b) (n := N) hI h5 ht (by show cmp b N (v.1 (22 + t)) (v.1 (28 + t)); rw [v22, v28]; exact hc) (by simp [sm_sR, va_up, upd])
    have := nt_XPb (nb := nb) this (fun x hx => (hk x hx).2.1)
    have e1 : (sm_sR v 43 13 (some (16 + t))).1 (22 + t) = σx.1 (22 + t) := v22
    have e2 : (sm_sR v 43 13 (some (16 + t))).1 (28 + t) = σx.1 (28 + t) := v28
    rw [e1, e2] at this
    exact this
  refine ok_mono (xf_thinkE (kn := kn) (nb := nb) (pl := pl) (W := W) (sk := sk) (te := te) (ed := ed) h5 hM G2 h6 hk hsk hte hed G3 hz h10 h11 h12 hg hp) (fun _ w ⟨w1, w2⟩ => ⟨⟨fun c c3 c6 c9 c12 c43 => ?_, ?_, fun m hm => ?_⟩, w2⟩)
  · rw [← G1 c c3 c6 c9 c12 c43]
    exact funext fun j => w1 c j (nt_fx0 c c3 c12 c43 j)
  · rw [w1 43 9 (by simp [nt_fx])]; exact G2
  · rw [w1 46 m (by simp [nt_fx])]; exact G3 m hm
theorem xf_costIfEddyE {b : Nat → Int32} {e : Int32} (hI : nt_I cmp V) (h5 : k ≤ 5) (hR : pr_I (σx.1 1) (σx.1 4) (σx.1 7) (σx.1 10) k tc) (ht : t < 6) (h15 : σx.1 1 5 = nI t) (hc : cmp b N (σx.1 (22 + t)) (σx.1 (28 + t))) (hM : M ≤ 40) (hG : nt_G σx σ M W) : sm_ok (xf_X7_costIfEddy e σ) (fun r w => r = nt_sum (nt_run true k (σx.1 4) (σx.1 7) (σx.1 1 3) e (nt_P V (σx.1 (22 + t)) (σx.1 (28 + t)) (σx.1 7)) W (nt_S0 (σx.1 1 0) (σx.1 10)) M 3) k ∧ nt_G σx w M W) := by
  have hg := nt_good0 h5 hR
  obtain ⟨i1, i2, i3, i4, i5, i6, i7, i8⟩ := hR
  obtain ⟨G1, G2, G3⟩ := hG
  have z1 := G1 1 (by decide) (by decide) (by decide) (by decide) (by decide)
  have z4 := G1 4 (by decide) (by decide) (by decide) (by decide) (by decide)
  have z7 := G1 7 (by decide) (by decide) (by decide) (by decide) (by decide)
  have z10 := G1 10 (by decide) (by decide) (by decide) (by decide) (by decide)
  unfold xf_X7_costIfEddy
  refine ok_c (@xf_beginE σ) (fun _ v ⟨b1, b2, b3, b4, b5, b6, b7⟩ => ?_)
  have v1 : v.1 1 = σ.1 1 := b7 1 (by decide) (by decide) (by decide) (by decide) (by decide) (by decide) (by decide) (by decide) (by decide) (by decide)
  simp only [sm_bS, sm_rI 1 (by decide : 1 ≠ 3), v1, z1, h15, sm_gIn ht (by decide : 6 < 2 ^ 31), nI_cl (show t < 2 ^ 31 by omega)]
  rw [z1] at b1
  rw [z4, z7, z10] at b2
  refine ok_c (xf_runT (W := W) (v := sm_sI v 3 4 e) (kn := σx.1 4) (nb := σx.1 7) (pl := σx.1 10) (sk := σx.1 1 0) (te := σx.1 1 3) (ed := e) (b := b) hI h5 ht hc hM ⟨fun c c3 c6 c9 c12 c43 => ?_, ?_, fun m hm => ?_⟩ ?_ (fun x hx => ?_) ?_ ?_ sm_rE (fun x hx => ?_) ?_ ?_ ?_ hg) (fun _ w ⟨w1, w2⟩ => ?_)
  · rw [sm_rI c c3, b7 c c3 c6 c9 c12 (by omega) (by omega) (by omega) (by omega) (by omega) (by omega)]
    exact G1 c c3 c6 c9 c12 c43
  · rw [sm_rI 43 (by decide), b6]; exact G2
  · rw [sm_rI 46 (by decide), b7 46 (by decide) (by decide) (by decide) (by decide) (by decide) (by decide) (by decide) (by decide) (by decide) (by decide)]; exact G3 m hm
  · rw [sm_rI1 3 6 (by decide), b1 6 (by decide)]; exact i6
  · rw [sm_rI 6 (by decide), sm_rI 9 (by decide), sm_rI 12 (by decide)]
    obtain ⟨y1, y2, y3, -⟩ := b2 x (by omega)
    exact ⟨y1, y2, y3⟩
  · rw [sm_rI1 3 0 (by decide), b1 0 (by decide)]
  · rw [sm_rI1 3 3 (by decide), b1 3 (by decide)]
  · rw [sm_rI 44 (by decide), sm_rI 45 (by decide), sm_rI 47 (by decide), sm_rI 48 (by decide), sm_rI 49 (by decide)]
    obtain ⟨-, -, -, y⟩ := b2 x hx
    exact y
  · rw [sm_rI 43 (by decide)]; exact b3
  · rw [sm_rI 43 (by decide)]; exact b4
  · rw [sm_rI 43 (by decide)]; exact b5
  · unfold xf_X2_costOfAll
    simp only [xf_sumE (a := 44) (σ := w) rfl, sm_cS]
    exact ok_some.mpr ⟨(nt_sumX h5 w2).1, w1⟩
theorem pr_eddies (hI : nt_I cmp V) (h : pr_R cmp σx σm) (a1 : Int32) : pr_sim cmp (xf_X7_eddies a1 σx) (mf_X8_eddies a1 σm) := by
  have h0 := h
  obtain ⟨k, tc, t, N, h5, ht, hN, hF, hR, et, em, e2, hc⟩ := pr_rule h
  obtain ⟨-, -, -, -, -, -, hS, -, -⟩ := h
  obtain ⟨f1, f2, f3, f4, f5, f6, f7, f8⟩ := hF
  unfold xf_X7_eddies mf_X8_eddies
  by_cases c : 0 ≤ a1 ∧ a1 ≤ 3
  · obtain ⟨s, hs, rfl⟩ := nI_ofR (x := a1) (n := 4) (by decide) c.1 (by have e : nI 4 = 4 := rfl; rw [e]; grind)
    simp only [mf_isSheet, sm_cS, c, and_self, if_true, i10, if_false, xf_refusal hs, sm_gIn hs (by decide : 4 < 2 ^ 31), nI_cl (show s < 2 ^ 31 by omega), sm_bS]
    rcases hS s hs with ⟨z1, z2⟩ | ⟨ty, n, z1, z2, z3, z4, z5, z6, z7, z8⟩
    · have n11 : ¬ (-11 : Int32) = 0 := by decide
      simp only [z1, z2, if_true, n11, if_false]
      exact pr_same h0
    · have n1 : ¬ nI ty = -1 := nI_ne1 (by omega)
      simp only [z3, z4, n1, if_false, if_true, i10]
      obtain ⟨_, ux, e1, w1, w2, w3, w4⟩ := xf_takeWindsE hs z2 z6
      have G0 : nt_G σx ux n (fun m => nt_wind (σx.1 (39 + s) m)) := ⟨fun c _ _ _ _ c43 => w3 c (by omega) (by omega), w1, w2⟩
      obtain ⟨r1, y1, x1, x2, x3⟩ := xf_costIfEddyE (e := 1) hI h5 hR ht et hc z2 G0
      obtain ⟨r0, y0, x4, x5, x6⟩ := xf_costIfEddyE (e := 0) hI h5 hR ht et hc z2 x3
      have hg := nt_good0 h5 hR
      have H : ∀ e, nt_H cmp k t N s n (σx.1 (22 + t)) (σx.1 (28 + t)) (fun m => nt_wind (σx.1 (39 + s) m)) (σx.1 4) (σx.1 7) (σx.1 10) (σx.1 1 0) (σx.1 1 3) e (sm_sI σm 0 11 e) := by
        intro e
        unfold nt_H
        simp (config := { decide := true }) only [sm_rI1, ne_eq, not_false_eq_true, true_or, or_true, sm_rE, sm_rI]
        exact ⟨z7, f1, f8, f2, f5, trivial, fun m hm => by rw [z8 m hm], em, e2, hc⟩
      obtain ⟨q1, v1, m1, m2, -, m3⟩ := mf_costOfE hI hs z2 h5 ht hN (Or.inr rfl) hg (H 1)
      have am : pr_am (sm_sI σm 0 11 0) (sm_sI v1 0 11 0) := by
        intro c j hcj
        by_cases e : c = 0 ∧ j = 11
        · rw [e.1, e.2, sm_rE, sm_rE]
        · rw [sm_rI1 c j (by omega), sm_rI1 c j (by omega), m3 c j hcj, sm_rI1 c j (by omega)]
      obtain ⟨q0, v0, m4, m5, -, m6⟩ := mf_costOfE hI hs z2 h5 ht hN (Or.inl rfl) hg ((H 0).am am)
      simp only [e1, x1, x4, m1, m4, sm_cS]
      refine ⟨_, _, _, rfl, by rw [x2, x5, m2, m5], h0.keep (fun c j hcj => ?_) (fun c j hcj => ?_)⟩
      · obtain ⟨d3, d6, d9, d12, d43⟩ := pr_pxE c j hcj
        rw [x6.1 c d3 d6 d9 d12 d43]
      · by_cases e : c = 0 ∧ j = 11
        · rw [e.1, e.2, sm_rE]
        · rw [sm_rI1 c j (by omega), m6 c j hcj, sm_rI1 c j (by omega), m3 c j hcj, sm_rI1 c j (by omega)]
  · have n2 : ¬ (-2 : Int32) = 0 := by decide
    simp only [mf_isSheet, xf_refusal0 c, sm_cS, c, if_true, if_false, n2]
    exact pr_same h0
end
