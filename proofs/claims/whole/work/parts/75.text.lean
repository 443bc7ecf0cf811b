/-! text -/
theorem tx_cmpC {b b' code ends : Nat → Int32} {n : Nat} (h : tx_cmp b n code ends) (e : ∀ i, i < n → b' i = b i) : tx_cmp b' n code ends := by
  obtain ⟨h1, β, h2, h3⟩ := h
  exact ⟨h1, β, fun i hi => ⟨by rw [e i hi]; exact (h2 i hi).1, (h2 i hi).2⟩, h3⟩
theorem pr_I.up {a kn nb pl : Nat → Int32} {k tc : Nat} (ht : tc ≤ 5) (h : pr_I a kn nb pl k tc) : pr_I a kn nb pl k (tc + 1) := by
  obtain ⟨i1, i2, i3, i4, i5, i6⟩ := h
  exact ⟨i1, i2, i3, i4, ⟨i5.1, Int32.lt_of_lt_of_le i5.2 (nI_le (by omega) (by omega))⟩, i6⟩
theorem pr_K.up {σx σm : sm_St} {k tc : Nat} (ht : tc ≤ 5) (h : pr_K σx σm k tc) : pr_K σx σm k (tc + 1) := by
  rcases h with h | ⟨h1, q, h2, h3, h4, h5, h6, h7, h8, h9, h10, h11⟩
  · exact Or.inl h
  · exact Or.inr ⟨h1, q, h2, h3, h4, h5, h6, h7, h8, h9, h10, h11.up ht⟩
section
variable {σx σm σ : sm_St}
theorem mf_textL {n tc : Nat} (hn : n ≤ 160) (ht : tc < 6) (h6 : σm.1 0 6 = nI n) (h3 : σm.1 0 3 = nI tc) : ∃ v f, mf_X8_text_p14 sm_F σm 0 = mf_X8_text_p14 (f + 1) v (nI n) ∧ (∀ i, i < n → v.1 1 (160 * tc + i) = σm.1 3 i) ∧ (∀ j, j < 160 * tc ∨ 160 * tc + n ≤ j → v.1 1 j = σm.1 1 j) ∧ ∀ c, c ≠ 1 → v.1 c = σm.1 c := by
  obtain ⟨v, f, e1, e2, e3, e4⟩ := lp_c mf_X8_text_p14 (fun i v => (∀ j, j < i → v.1 1 (160 * tc + j) = σm.1 3 j) ∧ (∀ j, j < 160 * tc ∨ 160 * tc + n ≤ j → v.1 1 j = σm.1 1 j) ∧ ∀ c, c ≠ 1 → v.1 c = σm.1 c) n σm (by omega) ⟨fun j hj => absurd hj (by omega), fun _ _ => rfl, fun _ _ => rfl⟩ (by
    intro i v f hi ⟨g1, g2, g3⟩
    have nl : ¬ nI n ≤ nI i := nI_ge hi (by omega)
    have v6 : v.1 0 6 = nI n := by rw [g3 0 (by decide), h6]
    have v3 : v.1 0 3 = nI tc := by rw [g3 0 (by decide), h3]
    have em : (160 : Int32) * nI tc = nI (160 * tc) := pk_mul 160 tc
    refine ⟨sm_sI v 1 (160 * tc + i) (v.1 3 i), ?_, fun j hj => ?_, fun j hj => ?_, fun c hc => ?_⟩
    · rw [mf_X8_text_p14]
      simp only [sm_bN, v6, v3, em, nI_add, nI_inc]
      rw [if_neg nl, sm_gIn (show i < 160 by omega) (by decide : 160 < 2 ^ 31), nI_cl (show i < 2 ^ 31 by omega), sm_gIn (show 160 * tc + i < 960 by omega) (by decide : 960 < 2 ^ 31), nI_cl (show 160 * tc + i < 2 ^ 31 by omega)]
    · by_cases e : j = i
      · subst e
        rw [sm_rE, g3 3 (by decide)]
      · rw [sm_rI1 1 _ (Or.inr (by omega))]
        exact g1 j (by omega)
    · rw [sm_rI1 1 _ (Or.inr (by omega))]
      exact g2 j hj
    · rw [sm_rI c hc]
      exact g3 c hc)
  exact ⟨v, f, e1, e2, e3, e4⟩
theorem pr_text (h : pr_R tx_cmp σx σm) : pr_sim tx_cmp (xf_X7_text σx) (mf_X8_text σm) := by
  have h0 := h
  obtain ⟨k, tc, h5, hF, hI, hK, hS, hP, hT⟩ := h
  obtain ⟨n, p1, p2, p3, p4⟩ := hP
  obtain ⟨T1, T2, T3, T4, T5⟩ := hT
  unfold xf_X7_text mf_X8_text
  simp only [sm_bN, T3, T4]
  by_cases c6 : tc = 6
  · subst c6
    rw [if_neg (by decide), if_pos (by rfl)]
    exact pr_same h0
  · have ht : tc < 6 := by omega
    have q1 : nI tc < 6 := nI_lt (b := 6) ht (by decide)
    have q2 : ¬ nI tc = 6 := mt (nI_eq (b := 6) (by omega) (by decide)).mp c6
    rw [if_pos q1, if_neg q2, sm_gIn ht (by decide : 6 < 2 ^ 31), nI_cl (show tc < 2 ^ 31 by omega)]
    obtain ⟨β, hβ⟩ : ∃ β : Nat → Nat, ∀ i, i < n → σx.1 14 i = nI (β i) ∧ β i < 256 := by
      refine ⟨fun i => (σx.1 14 i).toNatClampNeg, fun i hi => ?_⟩
      obtain ⟨-, b1, b2⟩ := p4 i hi
      obtain ⟨j, hj, e⟩ := nI_ofR (x := σx.1 14 i) (n := 256) (by decide) b1 (by have e : nI 256 = 256 := rfl; rw [e]; grind)
      show σx.1 14 i = nI (σx.1 14 i).toNatClampNeg ∧ (σx.1 14 i).toNatClampNeg < 256
      rw [e, nI_cl (by omega)]
      exact ⟨rfl, hj⟩
    have hβ2 : ∀ i, i < n → β i < 256 := fun i hi => (hβ i hi).2
    obtain ⟨r, s, s1, s2, s3⟩ := xt_read (t := tc) (σ := σx) p1 hβ2 ht ⟨p2, fun i hi => (hβ i hi).1⟩
    obtain ⟨v, f, v1, v2, v3, v4⟩ := mf_textL p1 ht p3 T4
    have w2 : (sm_sI (sm_sI v 2 tc (nI n)) 0 6 0).1 2 tc = nI n := by rw [sm_rI 2 (by decide), sm_rE]
    obtain ⟨z, u, u1, u2, u3⟩ := mt_read (pt := 0) (t := tc) (σ := sm_sI (sm_sI v 2 tc (nI n)) 0 6 0) p1 hβ2 ht w2 (fun i hi => by
      rw [sm_rI 1 (by decide), sm_rI 1 (by decide), v2 i hi, (p4 i hi).1, (hβ i hi).1])
    have nle : nI n ≤ nI n := nI_le (Nat.le_refl _) (by omega)
    rw [s1, v1, mf_X8_text_p14]
    simp only [sm_cS, sm_bN, v4 0 (show 0 ≠ 1 by decide), p3]
    rw [if_pos nle]
    simp only [T4]
    rw [sm_gIn ht (by decide : 6 < 2 ^ 31), nI_cl (show tc < 2 ^ 31 by omega)]
    have b3 : (sm_sI (sm_sI v 2 tc (nI n)) 0 6 0).1 0 3 = nI tc := by rw [sm_rI1 0 3 (by decide), sm_rI 0 (by decide), v4 0 (by decide)]; exact T4
    rw [b3, u1]
    simp only [sm_cS, xf_X4_empty, sm_bN]
    -- what stands
    have X : ∀ c j, ¬ (c = 13 ∧ (j = 0 ∨ (2 ≤ j ∧ j ≤ 5))) → ¬ (c = 16 + tc ∧ j = 2) → c ≠ 22 + tc → c ≠ 28 + tc → (sm_sI s 13 0 0).1 c j = σx.1 c j := fun c j g1 g2 g3 g4 => by
      have g : c ≠ 13 ∨ j ≠ 0 := by omega
      rw [sm_rI1 c j g]
      exact s2 c j (by omega) g2 g3 g4
    have M0 : ∀ j, ¬ (22 ≤ j ∧ j ≤ 30) → j ≠ 6 → u.1 0 j = σm.1 0 j := fun j g1 g2 => by
      rw [u2 0 j (by omega), sm_rI1 0 j (Or.inr g2), sm_rI 0 (by decide), v4 0 (by decide)]
    have M : ∀ c, c ≠ 0 → c ≠ 1 → c ≠ 2 → u.1 c = σm.1 c := fun c g0 g1 g2 => funext fun j => by
      rw [u2 c j (by omega), sm_rI c g0, sm_rI c g2, v4 c g1]
    have M6 : u.1 0 6 = 0 := by rw [u2 0 6 (by decide), sm_rE]
    have M1 : ∀ t i, t < tc → i < 160 → u.1 1 (160 * t + i) = σm.1 1 (160 * t + i) := fun t i g1 g2 => by
      rw [u2 1 _ (by omega), sm_rI 1 (by decide), sm_rI 1 (by decide), v3 _ (by omega)]
    have M2 : ∀ t, t ≠ tc → u.1 2 t = σm.1 2 t := fun t g => by
      rw [u2 2 t (by omega), sm_rI 2 (by decide), sm_rI1 2 t (Or.inr g), v4 2 (by decide)]
    have Xc : ∀ c, c ≠ 13 → ¬ (16 ≤ c ∧ c < 34) → (sm_sI s 13 0 0).1 c = σx.1 c := fun c g1 g2 => funext fun j => X c j (by omega) (by omega) (by omega) (by omega)
    have Xo : ∀ t, t < tc → (sm_sI s 13 0 0).1 (22 + t) = σx.1 (22 + t) ∧ (sm_sI s 13 0 0).1 (28 + t) = σx.1 (28 + t) := fun t g => ⟨funext fun j => X _ j (by omega) (by omega) (by omega) (by omega), funext fun j => X _ j (by omega) (by omega) (by omega) (by omega)⟩
    have old : ∀ t, t < tc → ∃ n, n ≤ 160 ∧ u.1 2 t = nI n ∧ tx_cmp (fun i => u.1 1 (160 * t + i)) n ((sm_sI s 13 0 0).1 (22 + t)) ((sm_sI s 13 0 0).1 (28 + t)) := fun t g => by
      obtain ⟨n', a1, a2, a3⟩ := T5 t g
      refine ⟨n', a1, by rw [M2 t (by omega)]; exact a2, ?_⟩
      rw [(Xo t g).1, (Xo t g).2]
      exact tx_cmpC a3 (fun i hi => M1 t i g (by omega))
    have F : pr_F (sm_sI s 13 0 0) u k := by
      unfold pr_F at hF ⊢
      rw [M0 15 (by decide) (by decide), M0 7 (by decide) (by decide), M0 8 (by decide) (by decide), M0 9 (by decide) (by decide), M0 10 (by decide) (by decide), M0 11 (by decide) (by decide), M0 4 (by decide) (by decide), M 4 (by decide) (by decide) (by decide), M 5 (by decide) (by decide) (by decide), M 6 (by decide) (by decide) (by decide), Xc 1 (by decide) (by decide), Xc 4 (by decide) (by decide), Xc 7 (by decide) (by decide), Xc 10 (by decide) (by decide)]
      exact hF
    have I : pr_I ((sm_sI s 13 0 0).1 1) ((sm_sI s 13 0 0).1 4) ((sm_sI s 13 0 0).1 7) ((sm_sI s 13 0 0).1 10) k tc := by
      rw [Xc 1 (by decide) (by decide), Xc 4 (by decide) (by decide), Xc 7 (by decide) (by decide), Xc 10 (by decide) (by decide)]
      exact hI
    have K : pr_K (sm_sI s 13 0 0) u k tc := hK.cong (by rw [Xc 0 (by decide) (by decide)]) (Xc 2 (by decide) (by decide)) (Xc 4 (by decide) (by decide)) (Xc 5 (by decide) (by decide)) (Xc 8 (by decide) (by decide)) (Xc 11 (by decide) (by decide)) (M0 51 (by decide) (by decide)) (M0 52 (by decide) (by decide)) (M 19 (by decide) (by decide) (by decide))
    have Sh : pr_S (sm_sI s 13 0 0) u := hS.cong (fun c h1 h2 => Xc c (by omega) (by omega)) (fun c h1 h2 => M c (by omega) (by omega) (by omega))
    have P : pr_P (sm_sI s 13 0 0) u := ⟨0, by decide, sm_rE, M6, fun i hi => absurd hi (by omega)⟩
    have x05 : (sm_sI s 13 0 0).1 0 5 = nI tc := by rw [Xc 0 (by decide) (by decide)]; exact T3
    have m03 : u.1 0 3 = nI tc := by rw [M0 3 (by decide) (by decide)]; exact T4
    cases e : ps_tx β n with
    | inl q =>
      rw [e] at s3 u3
      obtain ⟨y1, y2⟩ := s3
      have nq : ¬ r = -1 := by rw [y2]; exact nI_ne1 (by omega)
      rw [if_neg nq, if_neg u3.1, y2, u3.2]
      exact pr_same ⟨k, tc, h5, F, I, K, Sh, P, T1, T2, x05, m03, old⟩
    | inr m =>
      rw [e] at s3 u3
      obtain ⟨y1, y2, y3, y4, y5, y6⟩ := s3
      have ea : nI tc + 1 = nI (tc + 1) := nI_1 tc
      rw [if_pos y1, if_pos u3.1]
      simp only [sm_bN, x05, m03, ea, sm_rE]
      refine pr_same ⟨k, tc + 1, h5, ?_, ?_, ?_, ?_, ?_, by omega, by omega, sm_rE, sm_rE, fun t htt => ?_⟩
      · unfold pr_F at F ⊢
        simp (config := { decide := true }) only [sm_rI1 0 15, sm_rI1 0 7, sm_rI1 0 8, sm_rI1 0 9, sm_rI1 0 10, sm_rI1 0 11, sm_rI1 0 4, ne_eq, not_false_eq_true, true_or, or_true, sm_rI]
        simp (config := { decide := true }) only [ne_eq, not_false_eq_true, true_or, or_true, sm_rI] at F
        exact F
      · have := I.up (by omega)
        rw [sm_rI 1 (by decide), sm_rI 4 (by decide), sm_rI 7 (by decide), sm_rI 10 (by decide)]
        exact this
      · exact (K.up (by omega)).cong (by rw [sm_rI1 0 2 (by decide)]) (by rw [sm_rI 2 (by decide)]) (by rw [sm_rI 4 (by decide)]) (by rw [sm_rI 5 (by decide)]) (by rw [sm_rI 8 (by decide)]) (by rw [sm_rI 11 (by decide)]) (by rw [sm_rI1 0 51 (by decide)]) (by rw [sm_rI1 0 52 (by decide)]) (by rw [sm_rI 19 (by decide)])
      · exact Sh.cong (fun c h1 h2 => by rw [sm_rI c (by omega)]) (fun c h1 h2 => by rw [sm_rI c (by omega)])
      · exact P.cong (by rw [sm_rI 13 (by decide)]) (by rw [sm_rI 14 (by decide)]) (by rw [sm_rI1 0 6 (by decide)]) (by rw [sm_rI 3 (by decide)])
      · rw [sm_rI (22 + t) (by omega), sm_rI (28 + t) (by omega), sm_rI 2 (by decide), sm_rI 1 (by decide)]
        by_cases et : t = tc
        · subst et
          refine ⟨n, p1, by rw [u2 2 t (by omega)]; exact w2, p1, β, fun i hi => ⟨?_, hβ2 i hi⟩, m, e, y2, fun i hi => ?_, ?_, ?_, ?_⟩
          · show u.1 1 (160 * t + i) = nI (β i)
            rw [u2 1 _ (by omega), sm_rI 1 (by decide), sm_rI 1 (by decide), v2 i hi, (p4 i hi).1, (hβ i hi).1]
          · rw [sm_rI (22 + t) (by omega)]
            exact y3 i hi
          · rw [sm_rI (28 + t) (by omega)]
            exact y4
          · rw [sm_rI (28 + t) (by omega)]
            exact y5
          · rw [sm_rI (28 + t) (by omega)]
            exact y6
        · exact old t (by omega)
end
