/-! back, sheet, cell -/
theorem mf_back {σ : sm_St} (h : ¬ σ.1 0 51 = -1) : sm_ok (mf_X8_back σ) (fun r s => r = σ.1 0 51 ∧ (∀ x, x < 5 → s.1 5 x = σ.1 19 x ∧ s.1 6 x = σ.1 19 (5 + x)) ∧ s.1 0 7 = σ.1 19 10 ∧ s.1 0 8 = σ.1 19 11 ∧ s.1 0 9 = σ.1 19 12 ∧ s.1 0 10 = σ.1 19 13 ∧ s.1 0 11 = σ.1 19 14 ∧ s.1 0 15 = σ.1 0 51 ∧ s.1 0 4 = σ.1 0 52 ∧ (∀ c, c ≠ 0 → c ≠ 5 → c ≠ 6 → s.1 c = σ.1 c) ∧ ∀ j, j ≠ 7 → j ≠ 8 → j ≠ 9 → j ≠ 10 → j ≠ 11 → j ≠ 15 → j ≠ 4 → s.1 0 j = σ.1 0 j) := by
  obtain ⟨s1, m, e1, e3, e4⟩ := lp_c mf_X8_back_p13 (fun i s => (∀ x, x < i → s.1 5 x = σ.1 19 x ∧ s.1 6 x = σ.1 19 (5 + x)) ∧ ∀ c, c ≠ 5 → c ≠ 6 → s.1 c = σ.1 c) 5 σ (by decide) ⟨fun x hx => absurd hx (by omega), fun c _ _ => rfl⟩ (by
    intro i s n hi ⟨h2, h3⟩
    have nl : ¬ (5 : Int32) ≤ nI i := nI_ge (b := 5) hi (by decide)
    refine ⟨sm_sI (sm_sI s 5 i (s.1 19 i)) 6 i (s.1 19 (5 + i)), ?_, fun x hx => ?_, fun c hc hc6 => ?_⟩
    · rw [mf_X8_back_p13]
      simp only [nl, if_false, sm_bS, sm_gIn hi (by decide : 5 < 2 ^ 31), sm_gIn (show i < 15 by omega) (by decide : 15 < 2 ^ 31), nI_5a, sm_gIn (show 5 + i < 15 by omega) (by decide : 15 < 2 ^ 31), nI_cl (show i < 2 ^ 31 by omega), nI_cl (show 5 + i < 2 ^ 31 by omega), nI_inc, sm_rI 19 (by decide : 19 ≠ 5)]
    · by_cases e : x = i
      · subst e
        rw [sm_rI 5 (by decide), sm_rE, sm_rE, h3 19 (by decide) (by decide)]
        exact ⟨rfl, rfl⟩
      · rw [sm_rI1 5 x (Or.inl (by omega)), sm_rI1 5 x (Or.inr (by omega)), sm_rI1 6 x (Or.inr (by omega)), sm_rI1 6 x (Or.inl (by omega))]
        exact h2 x (by omega)
    · rw [sm_rI c hc6, sm_rI c hc]
      exact h3 c hc hc6)
  unfold mf_X8_back
  simp only [sm_bS, h, if_false]
  rw [e1, mf_X8_back_p13]
  have nl : (5 : Int32) ≤ nI 5 := by decide
  simp only [nl, if_true, sm_bS, g15, c15]
  have e0 := e4 0 (by decide) (by decide)
  have e19 := e4 19 (by decide) (by decide)
  refine ok_some.mpr ⟨?_, fun x hx => ?_, ?_, ?_, ?_, ?_, ?_, ?_, ?_, fun c c0 c5 c6 => ?_, fun j h7 h8 h9 h10 h11 h15 h4 => ?_⟩
  · simp (config := { decide := true }) only [sm_rI1, ne_eq, not_false_eq_true, true_or, or_true, sm_rE, e0]
  · simp (config := { decide := true }) only [sm_rI, ne_eq, not_false_eq_true]
    exact e3 x hx
  · simp (config := { decide := true }) only [sm_rI1, ne_eq, not_false_eq_true, true_or, or_true, sm_rE, e19]
  · simp (config := { decide := true }) only [sm_rI1, ne_eq, not_false_eq_true, true_or, or_true, sm_rE, e19]
  · simp (config := { decide := true }) only [sm_rI1, ne_eq, not_false_eq_true, true_or, or_true, sm_rE, e19]
  · simp (config := { decide := true }) only [sm_rI1, ne_eq, not_false_eq_true, true_or, or_true, sm_rE, e19]
  · simp (config := { decide := true }) only [sm_rI1, ne_eq, not_false_eq_true, true_or, or_true, sm_rE, e19]
  · simp (config := { decide := true }) only [sm_rI1, ne_eq, not_false_eq_true, true_or, or_true, sm_rE, e0]
  · simp (config := { decide := true }) only [sm_rI1, ne_eq, not_false_eq_true, true_or, or_true, sm_rE, e0]
  · rw [sm_rI c c0, sm_rI c c0, sm_rI c c0, sm_rI c c0, sm_rI c c0, sm_rI c c0, sm_rI c c0]
    exact e4 c c5 c6
  · rw [sm_rI1 0 j (Or.inr h4), sm_rI1 0 j (Or.inr h15), sm_rI1 0 j (Or.inr h11), sm_rI1 0 j (Or.inr h10), sm_rI1 0 j (Or.inr h9), sm_rI1 0 j (Or.inr h8), sm_rI1 0 j (Or.inr h7), e0]
/-- a sheet's numbers: the reference's rows lie one behind the other -/
theorem nI_40 {s i : Nat} : (40 : Int32) * nI s + nI i = nI (40 * s + i) := by
  rw [show (40 : Int32) = nI 40 from rfl, pk_mul, nI_add]
section
variable {cmp : (Nat → Int32) → Nat → (Nat → Int32) → (Nat → Int32) → Prop} {σx σm σx' σm' : sm_St} {k tc : Nat}
theorem pr_back (h : pr_R cmp σx σm) : pr_sim cmp (xf_X7_back σx) (mf_X8_back σm) := by
  have h0 := h
  obtain ⟨k, tc, h5, hF, hI, hK, hS, hP, hT⟩ := h
  obtain ⟨f1, f2, f3, f4, f5, f6, f7, f8⟩ := hF
  unfold xf_X7_back
  simp only [sm_bS]
  rcases hK with ⟨u1, u2⟩ | ⟨u1, q, u2, u3, u4, u5, u6, u7, u8, u9, u10, u11⟩
  · unfold mf_X8_back
    simp only [sm_bS, u1, u2, if_true]
    exact pr_same h0
  · obtain ⟨u, s, e1, x1, x2, x3, x4⟩ := @xf_become σx 1 2 (by decide)
    have nm : ¬ σm.1 0 51 = -1 := by rw [u3]; exact nI_ne1 (by omega)
    obtain ⟨r, t, e2, m1, m2, m3, m4, m5, m6, m7, m8, m9, m10, m11⟩ := mf_back nm
    obtain ⟨i1, i2, i3, i4, i5, i6, i7, i8⟩ := u11
    simp only [u1, i10, if_false, e1, sm_cS, sm_bS]
    rw [e2]
    refine ⟨r, s, t, by rw [m1, u3, x1 6 (by decide), i6], rfl, q, tc, by omega, ?_, ?_, ?_, ?_, ?_, ?_⟩
    · unfold pr_F
      rw [m8, m3, m4, m5, m6, m7, m9, x1 0 (by decide), x1 1 (by decide), x1 2 (by decide), x1 3 (by decide), x1 4 (by decide), x1 5 (by decide), m10 4 (by decide) (by decide) (by decide)]
      refine ⟨u3, u4, u5, u6, u7, u8, u9, fun x hx => ⟨?_, ?_, ?_⟩⟩
      · rw [(f8 x (by omega)).1]; exact (u10 x hx).2.2.symm.trans (x2 x (by omega)).1.symm
      · rw [(m2 x (by omega)).1]; exact (u10 x hx).1.trans (x2 x (by omega)).2.1.symm
      · rw [(m2 x (by omega)).2]; exact (u10 x hx).2.1.trans (x2 x (by omega)).2.2.symm
    · unfold pr_I
      rw [x1 0 (by decide), x1 1 (by decide), x1 2 (by decide), x1 3 (by decide), x1 4 (by decide), x1 5 (by decide), x1 6 (by decide)]
      refine ⟨i1, i2, i3, i4, i5, i6, fun x hx => ?_, fun a b ha hb => ?_⟩
      · have z := x2 x (by omega)
        have z1 : s.1 4 x = σx.1 5 x := z.1
        have z2 : s.1 7 x = σx.1 8 x := z.2.1
        have z3 : s.1 10 x = σx.1 11 x := z.2.2
        rw [z1, z2, z3]
        exact i7 x hx
      · have z3 : s.1 10 a = σx.1 11 a := (x2 a (by omega)).2.2
        have z4 : s.1 10 b = σx.1 11 b := (x2 b (by omega)).2.2
        rw [z3, z4]
        exact i8 a b ha hb
    · refine Or.inr ⟨by rw [x3 0 (by decide) (by decide) (by decide) (by decide)]; exact u1, q, Nat.le_refl _, ?_⟩
      rw [x3 2 (by decide) (by decide) (by decide) (by decide), x3 5 (by decide) (by decide) (by decide) (by decide), x3 8 (by decide) (by decide) (by decide) (by decide), x3 11 (by decide) (by decide) (by decide) (by decide), m10 19 (by decide) (by decide) (by decide), m11 51 (by decide) (by decide) (by decide) (by decide) (by decide) (by decide) (by decide), m11 52 (by decide) (by decide) (by decide) (by decide) (by decide) (by decide) (by decide)]
      refine ⟨u3, u4, u5, u6, u7, u8, u9, fun x hx => ⟨(u10 x hx).1, (u10 x hx).2.1, (x2 x (by omega)).1.symm⟩, i1, i2, i3, i4, i5, i6, i7, i8⟩
    · exact hS.cong (fun c h1 h2 => x3 c (by omega) (by omega) (by omega) (by omega)) (fun c h1 h2 => m10 c (by omega) (by omega) (by omega))
    · exact hP.cong (by rw [x3 13 (by decide) (by decide) (by decide) (by decide)]) (x3 14 (by decide) (by decide) (by decide) (by decide)) (m11 6 (by decide) (by decide) (by decide) (by decide) (by decide) (by decide) (by decide)) (m10 3 (by decide) (by decide) (by decide))
    · exact hT.cong (by rw [x3 0 (by decide) (by decide) (by decide) (by decide)]) (fun c h1 h2 => x3 c (by omega) (by omega) (by omega) (by omega)) (m11 3 (by decide) (by decide) (by decide) (by decide) (by decide) (by decide) (by decide)) (m10 1 (by decide) (by decide) (by decide)) (m10 2 (by decide) (by decide) (by decide))
theorem pr_cell (h : pr_R cmp σx σm) (a1 a2 a3 : Int32) : pr_sim cmp (xf_X7_cell a1 a2 a3 σx) (mf_X8_cell a1 a2 a3 σm) := by
  have h0 := h
  obtain ⟨k, tc, h5, hF, hI, hK, hS, hP, hT⟩ := h
  unfold xf_X7_cell mf_X8_cell xf_X7_refusal xf_X5_isMissing
  simp only [sm_bS, mf_isSheet, xf_isSheet, sm_cS]
  by_cases c : 0 ≤ a1 ∧ a1 ≤ 3
  · obtain ⟨s, hs, rfl⟩ := nI_ofR (n := 4) (by decide) c.1 (by have := c.2; have e : nI 4 = 4 := rfl; rw [e]; grind)
    have g1 : ∀ {β : Type} {x : Option β}, sm_g (sm_in (nI s) 4) x = x := sm_gIn hs (by decide)
    simp only [c, and_self, if_true, i10, if_false, g1, nI_cl (show s < 2 ^ 31 by omega)]
    rcases hS s hs with ⟨u1, u2⟩ | ⟨t, n, ht, hn, u1, u2, u3, u4, u5, u6⟩
    · simp only [u1, u2, if_true, sm_cS, i10, if_false, (by decide : ¬ (-11 : Int32) = 0)]
      exact pr_same h0
    · have nt : ¬ nI t = -1 := nI_ne1 (by omega)
      simp only [u1, u2, u3, u4, u5, nt, if_true, sm_cS, i10, if_false, mf_inV]
      by_cases c2 : 0 ≤ a2 ∧ a2 < nI n
      · obtain ⟨i, hi, rfl⟩ := nI_ofR (n := n) (by omega) c2.1 c2.2
        have n1 : ¬ nI i < 0 := by grind
        have n2 : 0 ≤ nI i ∧ nI i ≤ nI n - 1 := by
          have h1 : nI n ≤ nI 40 := nI_le hn (by omega)
          have h3 : nI 40 = 40 := rfl
          rw [h3] at h1
          grind
        have g2 : ∀ {β : Type} {x : Option β}, sm_g (sm_in (nI (40 * s + i)) 160) x = x := sm_gIn (by omega) (by decide)
        have g3 : ∀ {β : Type} {x : Option β}, sm_g (sm_in (nI i) 40) x = x := sm_gIn (by omega) (by decide)
        simp only [n1, n2, c2.2, and_self, if_true, if_false, i10, nI_40, g2, g3, nI_cl (show 40 * s + i < 2 ^ 31 by omega), nI_cl (show i < 2 ^ 31 by omega), sm_cS, xf_X5_put, sm_bS, u1, u4]
        have fin : ∀ v : Int32, pr_R cmp (sm_sI σx (35 + s + 4) i v) (sm_sI σm 23 (40 * s + i) v) := by
          intro v
          refine ⟨k, tc, h5, ?_, ?_, ?_, ?_, ?_, ?_⟩
          · unfold pr_F at hF ⊢
            rw [sm_rI 0 (by decide), sm_rI 4 (by decide), sm_rI 5 (by decide), sm_rI 6 (by decide), sm_rI 1 (by omega), sm_rI 4 (by omega), sm_rI 7 (by omega), sm_rI 10 (by omega)]
            exact hF
          · rw [sm_rI 1 (by omega), sm_rI 4 (by omega), sm_rI 7 (by omega), sm_rI 10 (by omega)]
            exact hI
          · exact hK.cong (by rw [sm_rI 0 (by omega)]) (sm_rI 2 (by omega)) (sm_rI 4 (by omega)) (sm_rI 5 (by omega)) (sm_rI 8 (by omega)) (sm_rI 11 (by omega)) (by rw [sm_rI 0 (by omega)]) (by rw [sm_rI 0 (by omega)]) (sm_rI 19 (by omega))
          · intro s' hs'
            have q := hS s' hs'
            unfold pr_S1 at q ⊢
            rw [sm_rI (35 + s') (by omega), sm_rI 20 (by decide), sm_rI 21 (by decide), sm_rI 22 (by decide)]
            rcases q with q | ⟨t', n', q1, q2, q3, q4, q5, q6, q7, q8⟩
            · exact Or.inl q
            · refine Or.inr ⟨t', n', q1, q2, q3, q4, q5, q6, q7, fun j hj => ?_⟩
              by_cases e : s' = s
              · subst e
                by_cases e2 : j = i
                · subst e2
                  rw [show 35 + s' + 4 = 39 + s' by omega, sm_rE, sm_rE]
                · rw [sm_rI1 23 _ (Or.inr (by omega)), sm_rI1 (39 + s') _ (Or.inr e2)]
                  exact q8 j hj
              · rw [sm_rI1 23 _ (Or.inr (by omega)), sm_rI (39 + s') (by omega)]
                exact q8 j hj
          · exact hP.cong (by rw [sm_rI 13 (by omega)]) (sm_rI 14 (by omega)) (by rw [sm_rI 0 (by omega)]) (sm_rI 3 (by omega))
          · exact hT.cong (by rw [sm_rI 0 (by omega)]) (fun c h1 h2 => sm_rI c (by omega)) (by rw [sm_rI 0 (by omega)]) (sm_rI 1 (by omega)) (sm_rI 2 (by omega))
        (repeat' split) <;> first | exact pr_same (fin _) | (exfalso; simp_all)
      · have n2 : ¬ (0 ≤ a2 ∧ a2 ≤ nI n - 1) := by
          have h1 : nI n ≤ nI 40 := nI_le hn (by omega)
          have h2 : 0 ≤ nI n := nI_pos' (by omega)
          have h3 : nI 40 = 40 := rfl
          rw [h3] at h1
          grind
        simp only [n2, if_true, if_false]
        (repeat' split) <;> first | exact pr_same h0 | (clear h0; exfalso; grind)
  · simp only [c, if_true, if_false, (by decide : ¬ (-2 : Int32) = 0), sm_cS]
    exact pr_same h0
end
