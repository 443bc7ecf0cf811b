/-! feed, image, back; loops that count -/
theorem lp_run {S ρ : Type} (L : Nat → S → Option ρ) (I : Nat → S → Prop) (e : Nat) (hs : ∀ i s n, i < e → I i s → ∃ s', L (n + 1) s = L n s' ∧ I (i + 1) s') : ∀ d i s n, i + d = e → d < n → I i s → ∃ s' m, L n s = L (m + 1) s' ∧ I e s' := by
  intro d
  induction d with
  | zero =>
    intro i s n h1 h2 h3
    obtain ⟨m, rfl⟩ : ∃ m, n = m + 1 := ⟨n - 1, by omega⟩
    have : i = e := by omega
    subst this
    exact ⟨s, m, rfl, h3⟩
  | succ d ih =>
    intro i s n h1 h2 h3
    obtain ⟨m, rfl⟩ : ∃ m, n = m + 1 := ⟨n - 1, by omega⟩
    obtain ⟨s1, g1, g2⟩ := hs i s m (by omega) h3
    obtain ⟨s2, m2, g3, g4⟩ := ih (i + 1) s1 m (by omega) (by omega) g2
    exact ⟨s2, m2, g1.trans g3, g4⟩
theorem lp_ex {S ρ : Type} (L : Nat → S → Option ρ) (I : Nat → S → Prop) (e : Nat) (s : S) (he : e < 1000000) (h0 : I 0 s) (hs : ∀ i s n, i < e → I i s → ∃ s', L (n + 1) s = L n s' ∧ I (i + 1) s') : ∃ s' m, L sm_F s = L (m + 1) s' ∧ I e s' := lp_run L I e hs e 0 s sm_F (by omega) (by have := sm_Fge; omega) h0
theorem lp_c {ρ : Type} (L : Nat → sm_St → Int32 → Option ρ) (I : Nat → sm_St → Prop) (e : Nat) (σ : sm_St) (he : e < 1000000) (h0 : I 0 σ) (hs : ∀ i s n, i < e → I i s → ∃ s', L (n + 1) s (nI i) = L n s' (nI (i + 1)) ∧ I (i + 1) s') : ∃ s' m, L sm_F σ 0 = L (m + 1) s' (nI e) ∧ I e s' := by
  obtain ⟨⟨s', l⟩, m, h1, h2, h3⟩ := lp_ex (fun n (p : sm_St × Int32) => L n p.1 p.2) (fun i p => p.2 = nI i ∧ I i p.1) e (σ, 0) he ⟨rfl, h0⟩ (fun i p n hi hp => by
    obtain ⟨s, l⟩ := p
    obtain ⟨h1, h2⟩ := hp
    have h1 : l = nI i := h1
    subst h1
    obtain ⟨s', g1, g2⟩ := hs i s n hi h2
    exact ⟨(s', nI (i + 1)), g1, rfl, g2⟩)
  have h2 : l = nI e := h2
  subst h2
  exact ⟨s', m, h1, h3⟩
theorem sm_rc {σ : sm_St} {k k1 n : Nat} (j : Nat) (h : j < n) : (sm_cI σ k k1 0 0 n).1 k1 j = σ.1 k j := by
  rw [sm_cIk.1, pk_cpy_in (Nat.zero_le _) (by omega)]
  simp
theorem sm_rcn {σ : sm_St} {k k1 a b n : Nat} (c : Nat) (h : c ≠ k1) : (sm_cI σ k k1 a b n).1 c = σ.1 c := (sm_cIo c h).1
theorem xf_become {σ : sm_St} {k a : Nat} (h : (k = 1 ∨ k = 2 ∨ k = 3) ∧ (a = 1 ∨ a = 2 ∨ a = 3) ∧ k ≠ a) : sm_ok (xf_X0_become k a σ) (fun _ s => (∀ j, j < 7 → s.1 k j = σ.1 a j) ∧ (∀ j, j < 5 → s.1 (k + 3) j = σ.1 (a + 3) j ∧ s.1 (k + 6) j = σ.1 (a + 6) j ∧ s.1 (k + 9) j = σ.1 (a + 9) j) ∧ (∀ c, c ≠ k → c ≠ k + 3 → c ≠ k + 6 → c ≠ k + 9 → s.1 c = σ.1 c) ∧ (∀ j, 7 ≤ j → s.1 k j = σ.1 k j)) := by
  obtain ⟨h1, h2, h3⟩ := h
  have g0 : sm_cpyok (0 : Int32) (0 : Int32) (5 : Int32) 5 5 = true := by decide
  have z0 : (0 : Int32).toNatClampNeg = 0 := by decide
  have z5 : (5 : Int32).toNatClampNeg = 5 := by decide
  unfold xf_X0_become
  simp only [sm_bS, g0, sm_gT, z0, z5]
  refine ok_some.mpr ⟨fun j hj => ?_, fun j hj => ⟨?_, ?_, ?_⟩, fun c c0 c3 c6 c9 => ?_, fun j hj => ?_⟩
  · rw [sm_rcn k (by omega), sm_rcn k (by omega), sm_rcn k (by omega)]
    rcases (by omega : j = 0 ∨ j = 1 ∨ j = 2 ∨ j = 3 ∨ j = 4 ∨ j = 5 ∨ j = 6) with rfl | rfl | rfl | rfl | rfl | rfl | rfl <;> simp [sm_sI, va_up, upd, Ne.symm h3]
  · rw [sm_rcn (k + 3) (by omega), sm_rcn (k + 3) (by omega), sm_rc j hj, sm_rI _ (by omega), sm_rI _ (by omega), sm_rI _ (by omega), sm_rI _ (by omega), sm_rI _ (by omega), sm_rI _ (by omega), sm_rI _ (by omega)]
  · rw [sm_rcn (k + 6) (by omega), sm_rc j hj, sm_rcn _ (by omega), sm_rI _ (by omega), sm_rI _ (by omega), sm_rI _ (by omega), sm_rI _ (by omega), sm_rI _ (by omega), sm_rI _ (by omega), sm_rI _ (by omega)]
  · rw [sm_rc j hj, sm_rcn _ (by omega), sm_rcn _ (by omega), sm_rI _ (by omega), sm_rI _ (by omega), sm_rI _ (by omega), sm_rI _ (by omega), sm_rI _ (by omega), sm_rI _ (by omega), sm_rI _ (by omega)]
  · rw [sm_rcn c c9, sm_rcn c c6, sm_rcn c c3, sm_rI c c0, sm_rI c c0, sm_rI c c0, sm_rI c c0, sm_rI c c0, sm_rI c c0, sm_rI c c0]
  · rw [sm_rcn k (by omega), sm_rcn k (by omega), sm_rcn k (by omega), sm_rI1 k j (by omega), sm_rI1 k j (by omega), sm_rI1 k j (by omega), sm_rI1 k j (by omega), sm_rI1 k j (by omega), sm_rI1 k j (by omega), sm_rI1 k j (by omega)]
theorem g15 {β : Type} {x : Option β} : sm_g (sm_in 10 15) x = x ∧ sm_g (sm_in 11 15) x = x ∧ sm_g (sm_in 12 15) x = x ∧ sm_g (sm_in 13 15) x = x ∧ sm_g (sm_in 14 15) x = x := ⟨rfl, rfl, rfl, rfl, rfl⟩
theorem c15 : (10 : Int32).toNatClampNeg = 10 ∧ (11 : Int32).toNatClampNeg = 11 ∧ (12 : Int32).toNatClampNeg = 12 ∧ (13 : Int32).toNatClampNeg = 13 ∧ (14 : Int32).toNatClampNeg = 14 := by decide
theorem nI_5a (i : Nat) : (5 : Int32) + nI i = nI (5 + i) := nI_add 5 i
theorem mf_image (σ : sm_St) : sm_ok (mf_X8_image σ) (fun r s => r = σ.1 0 15 ∧ (∀ x, x < 5 → s.1 19 x = σ.1 5 x ∧ s.1 19 (5 + x) = σ.1 6 x) ∧ s.1 19 10 = σ.1 0 7 ∧ s.1 19 11 = σ.1 0 8 ∧ s.1 19 12 = σ.1 0 9 ∧ s.1 19 13 = σ.1 0 10 ∧ s.1 19 14 = σ.1 0 11 ∧ s.1 0 51 = σ.1 0 15 ∧ s.1 0 52 = σ.1 0 4 ∧ (∀ c, c ≠ 0 → c ≠ 19 → s.1 c = σ.1 c) ∧ ∀ j, j ≠ 51 → j ≠ 52 → s.1 0 j = σ.1 0 j) := by
  obtain ⟨s1, m, e1, e3, e4⟩ := lp_c mf_X8_image_p2 (fun i s => (∀ x, x < i → s.1 19 x = σ.1 5 x ∧ s.1 19 (5 + x) = σ.1 6 x) ∧ ∀ c, c ≠ 19 → s.1 c = σ.1 c) 5 σ (by decide) ⟨fun x hx => absurd hx (by omega), fun c _ => rfl⟩ (by
    intro i s n hi ⟨h2, h3⟩
    have nl : ¬ (5 : Int32) ≤ nI i := nI_ge (b := 5) hi (by decide)
    refine ⟨sm_sI (sm_sI s 19 i (s.1 5 i)) 19 (5 + i) (s.1 6 i), ?_, fun x hx => ?_, fun c hc => ?_⟩
    · rw [mf_X8_image_p2]
      simp only [nl, if_false, sm_bS, sm_gIn hi (by decide : 5 < 2 ^ 31), sm_gIn (show i < 15 by omega) (by decide : 15 < 2 ^ 31), nI_5a, sm_gIn (show 5 + i < 15 by omega) (by decide : 15 < 2 ^ 31), nI_cl (show i < 2 ^ 31 by omega), nI_cl (show 5 + i < 2 ^ 31 by omega), nI_inc, sm_rI 6 (by decide : 6 ≠ 19)]
    · by_cases e : x = i
      · subst e
        rw [sm_rI1 19 x (Or.inr (by omega)), sm_rE, sm_rE, h3 5 (by decide), h3 6 (by decide)]
        exact ⟨rfl, rfl⟩
      · rw [sm_rI1 19 x (Or.inr (by omega)), sm_rI1 19 x (Or.inr (by omega)), sm_rI1 19 (5 + x) (Or.inr (by omega)), sm_rI1 19 (5 + x) (Or.inr (by omega))]
        exact h2 x (by omega)
    · rw [sm_rI c hc, sm_rI c hc]
      exact h3 c hc)
  unfold mf_X8_image
  rw [e1, mf_X8_image_p2]
  have nl : (5 : Int32) ≤ nI 5 := by decide
  simp only [nl, if_true, sm_bS, g15, c15]
  have e0 := e4 0 (by decide)
  refine ok_some.mpr ⟨?_, fun x hx => ?_, ?_, ?_, ?_, ?_, ?_, ?_, ?_, fun c c0 c19 => ?_, fun j h51 h52 => ?_⟩
  · simp (config := { decide := true }) only [sm_rI1, ne_eq, not_false_eq_true, true_or, or_true, sm_rE, e0]
  · simp only [sm_rI1 19 x (Or.inl (by decide : 19 ≠ 0)), sm_rI1 19 (5 + x) (Or.inl (by decide : 19 ≠ 0))]
    rw [sm_rI1 19 x (by omega), sm_rI1 19 x (by omega), sm_rI1 19 x (by omega), sm_rI1 19 x (by omega), sm_rI1 19 x (by omega), sm_rI1 19 (5 + x) (by omega), sm_rI1 19 (5 + x) (by omega), sm_rI1 19 (5 + x) (by omega), sm_rI1 19 (5 + x) (by omega), sm_rI1 19 (5 + x) (by omega)]
    exact e3 x hx
  · simp (config := { decide := true }) only [sm_rI1, ne_eq, not_false_eq_true, true_or, or_true, sm_rE, e0]
  · simp (config := { decide := true }) only [sm_rI1, ne_eq, not_false_eq_true, true_or, or_true, sm_rE, e0]
  · simp (config := { decide := true }) only [sm_rI1, ne_eq, not_false_eq_true, true_or, or_true, sm_rE, e0]
  · simp (config := { decide := true }) only [sm_rI1, ne_eq, not_false_eq_true, true_or, or_true, sm_rE, e0]
  · simp (config := { decide := true }) only [sm_rI1, ne_eq, not_false_eq_true, true_or, or_true, sm_rE, e0]
  · simp (config := { decide := true }) only [sm_rI1, ne_eq, not_false_eq_true, true_or, or_true, sm_rE, e0]
  · simp (config := { decide := true }) only [sm_rI1, ne_eq, not_false_eq_true, true_or, or_true, sm_rE, e0]
  · rw [sm_rI c c0, sm_rI c c0, sm_rI c c19, sm_rI c c19, sm_rI c c19, sm_rI c c19, sm_rI c c19]
    exact e4 c c19
  · rw [sm_rI1 0 j (Or.inr h52), sm_rI1 0 j (Or.inr h51)]
    simp (config := { decide := true }) only [sm_rI1, ne_eq, not_false_eq_true, true_or, or_true, sm_rE, e0]
section
variable {cmp : (Nat → Int32) → Nat → (Nat → Int32) → (Nat → Int32) → Prop} {σx σm σx' σm' : sm_St} {k tc : Nat}
theorem pr_image (h : pr_R cmp σx σm) : pr_sim cmp (xf_X7_image σx) (mf_X8_image σm) := by
  obtain ⟨k, tc, h5, hF, hI, hK, hS, hP, hT⟩ := h
  obtain ⟨f1, f2, f3, f4, f5, f6, f7, f8⟩ := hF
  have hI0 := hI
  obtain ⟨i1, i2, i3, i4, i5, i6, i7, i8⟩ := hI
  obtain ⟨u, s, e1, x1, x2, x3, x4⟩ := @xf_become σx 2 1 (by decide)
  obtain ⟨r, t, e2, m1, m2, m3, m4, m5, m6, m7, m8, m9, m10, m11⟩ := mf_image σm
  unfold xf_X7_image
  simp only [e1, sm_cS, sm_bS]
  rw [e2]
  have y : ∀ c, c ≠ 0 → c ≠ 2 → c ≠ 5 → c ≠ 8 → c ≠ 11 → (sm_sI s 0 2 1).1 c = σx.1 c := fun c c0 c2 c5 c8 c11 => by rw [sm_rI c c0]; exact x3 c c2 c5 c8 c11
  refine ⟨r, sm_sI s 0 2 1, t, by rw [m1, f1, y 1 (by decide) (by decide) (by decide) (by decide) (by decide), i6], rfl, k, tc, h5, ?_, ?_, ?_, ?_, ?_, ?_⟩
  · unfold pr_F
    rw [m11 15 (by decide) (by decide), m11 7 (by decide) (by decide), m11 8 (by decide) (by decide), m11 9 (by decide) (by decide), m11 10 (by decide) (by decide), m11 11 (by decide) (by decide), m11 4 (by decide) (by decide), m10 4 (by decide) (by decide), m10 5 (by decide) (by decide), m10 6 (by decide) (by decide), y 1 (by decide) (by decide) (by decide) (by decide) (by decide), y 4 (by decide) (by decide) (by decide) (by decide) (by decide), y 7 (by decide) (by decide) (by decide) (by decide) (by decide), y 10 (by decide) (by decide) (by decide) (by decide) (by decide)]
    exact ⟨f1, f2, f3, f4, f5, f6, f7, f8⟩
  · rw [y 1 (by decide) (by decide) (by decide) (by decide) (by decide), y 4 (by decide) (by decide) (by decide) (by decide) (by decide), y 7 (by decide) (by decide) (by decide) (by decide) (by decide), y 10 (by decide) (by decide) (by decide) (by decide) (by decide)]
    exact hI0
  · refine Or.inr ⟨sm_rE, k, Nat.le_refl _, ?_⟩
    rw [sm_rI 2 (by decide), sm_rI 5 (by decide), sm_rI 8 (by decide), sm_rI 11 (by decide), y 4 (by decide) (by decide) (by decide) (by decide) (by decide), x1 0 (by decide), x1 1 (by decide), x1 2 (by decide), x1 3 (by decide), x1 4 (by decide), x1 5 (by decide), m3, m4, m5, m6, m7, m8, m9]
    refine ⟨f1, f2, f3, f4, f5, f6, f7, fun x hx => ⟨?_, ?_, (x2 x (by omega)).1⟩, ?_⟩
    · rw [(m2 x (by omega)).1, (f8 x hx).2.1]; exact (x2 x (by omega)).2.1.symm
    · rw [(m2 x (by omega)).2, (f8 x hx).2.2]; exact (x2 x (by omega)).2.2.symm
    · unfold pr_I
      rw [x1 0 (by decide), x1 1 (by decide), x1 2 (by decide), x1 3 (by decide), x1 4 (by decide), x1 5 (by decide), x1 6 (by decide)]
      refine ⟨i1, i2, i3, i4, i5, i6, fun x hx => ?_, fun a b ha hb => ?_⟩
      · rw [(x2 x (by omega)).1, (x2 x (by omega)).2.1, (x2 x (by omega)).2.2]
        exact i7 x hx
      · rw [(x2 a (by omega)).2.2, (x2 b (by omega)).2.2]
        exact i8 a b ha hb
  · exact hS.cong (fun c h1 h2 => y c (by omega) (by omega) (by omega) (by omega) (by omega)) (fun c h1 h2 => m10 c (by omega) (by omega))
  · exact hP.cong (by rw [y 13 (by decide) (by decide) (by decide) (by decide) (by decide)]) (y 14 (by decide) (by decide) (by decide) (by decide) (by decide)) (m11 6 (by decide) (by decide)) (m10 3 (by decide) (by decide))
  · exact hT.cong (by rw [sm_rI1 0 5 (by decide), x3 0 (by decide) (by decide) (by decide) (by decide)]) (fun c h1 h2 => y c (by omega) (by omega) (by omega) (by omega) (by omega)) (m11 3 (by decide) (by decide)) (m10 1 (by decide) (by decide)) (m10 2 (by decide) (by decide))
theorem pr_feed (h : pr_R cmp σx σm) (a : Int32) : pr_sim cmp (xf_X7_feed a σx) (mf_X8_feed a σm) := by
  have h0 := h
  obtain ⟨k, tc, h5, hF, hI, hK, hS, hP, hT⟩ := h
  obtain ⟨n, p1, p2, p3, p4⟩ := hP
  unfold xf_X7_feed mf_X8_feed xf_X4_add
  simp only [sm_bS, mf_in255, sm_cS, p2, p3]
  by_cases c : 0 ≤ a ∧ a ≤ 255
  · have n1 : ¬ a < 0 := by grind
    simp only [c, n1, and_self, if_true, i10, if_false]
    by_cases c2 : n < 160
    · have g1 : nI n < 160 := nI_lt (b := 160) c2 (by decide)
      have g2 : ¬ nI n = 160 := by grind
      simp only [g1, g2, if_true, if_false, sm_gIn c2 (by decide : 160 < 2 ^ 31), nI_cl (show n < 2 ^ 31 by omega)]
      simp (config := { decide := true }) only [sm_rI1, ne_eq, not_false_eq_true, true_or, or_true, p2, p3, sm_rE, nI_1, sm_cS, if_false]
      refine pr_same ⟨k, tc, h5, ?_, ?_, ?_, ?_, ?_, ?_⟩
      · unfold pr_F at hF ⊢
        simp (config := { decide := true }) only [sm_rI1, ne_eq, not_false_eq_true, true_or, or_true, sm_rI]
        exact hF
      · simp (config := { decide := true }) only [sm_rI1, ne_eq, not_false_eq_true, true_or, or_true, sm_rI]
        exact hI
      · refine hK.cong ?_ ?_ ?_ ?_ ?_ ?_ ?_ ?_ ?_ <;> simp (config := { decide := true }) only [sm_rI1, ne_eq, not_false_eq_true, true_or, or_true, sm_rI]
      · refine hS.cong (fun c h1 h2 => ?_) (fun c h1 h2 => ?_)
        · rw [sm_rI c (by omega), sm_rI c (by omega)]
        · rw [sm_rI c (by omega), sm_rI c (by omega)]
      · refine ⟨n + 1, by omega, sm_rE, sm_rE, fun i hi => ?_⟩
        rw [sm_rI 3 (by decide), sm_rI 14 (by decide), sm_sIk.1, sm_sIk.1]
        unfold upd
        by_cases e : i = n
        · simp only [e, if_true]
          exact ⟨trivial, c.1, c.2⟩
        · simp only [e, if_false]
          exact p4 i (by omega)
      · refine hT.cong ?_ (fun c h1 h2 => ?_) ?_ ?_ ?_
        · simp (config := { decide := true }) only [sm_rI1, ne_eq, not_false_eq_true, true_or, or_true, sm_rI]
        · rw [sm_rI c (by omega), sm_rI c (by omega)]
        · simp (config := { decide := true }) only [sm_rI1, ne_eq, not_false_eq_true, true_or, or_true, sm_rI]
        · simp (config := { decide := true }) only [sm_rI1, ne_eq, not_false_eq_true, true_or, or_true, sm_rI]
        · simp (config := { decide := true }) only [sm_rI1, ne_eq, not_false_eq_true, true_or, or_true, sm_rI]
    · have en : n = 160 := by omega
      subst en
      have g1 : ¬ nI 160 < 160 := by decide
      have g2 : nI 160 = 160 := by decide
      simp only [g1, g2, if_true, if_false, sm_cS]
      exact pr_same h0
  · simp only [c, if_true, if_false]
    (repeat' split) <;> first | exact pr_same h0 | (clear h0; exfalso; grind)
end
