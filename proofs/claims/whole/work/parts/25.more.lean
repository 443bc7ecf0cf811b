/-! sitter, taken, feed, image, back -/
theorem xf_isUnder (c a2 : Int32) (σ : sm_St) (hc : 0 ≤ c ∧ c ≤ 5) (ha : 0 ≤ a2 ∧ a2 ≤ 5) : xf_X1_isUnder c a2 σ = some (if c = a2 ∨ a2 = 0 ∨ (c = 3 ∧ a2 = 1) ∨ (c = 4 ∧ a2 = 2) then 1 else 0, σ) := by
  have e : c = 0 ∨ c = 1 ∨ c = 2 ∨ c = 3 ∨ c = 4 ∨ c = 5 := by grind
  have f : a2 = 0 ∨ a2 = 1 ∨ a2 = 2 ∨ a2 = 3 ∨ a2 = 4 ∨ a2 = 5 := by grind
  obtain ⟨F, hF⟩ := sm_Fs 20 (by decide)
  unfold xf_X1_isUnder
  rw [hF]
  rcases e with rfl | rfl | rfl | rfl | rfl | rfl <;> rcases f with rfl | rfl | rfl | rfl | rfl | rfl <;> rfl
theorem mf_takenL (a1 c a2 : Int32) (σ : sm_St) (hc : 0 ≤ c ∧ c ≤ 5) (ha : 0 ≤ a2 ∧ a2 ≤ 5) : mf_X8_taken_p33 a1 a2 sm_F σ c = if c = a2 ∨ a2 = 0 ∨ (c = 3 ∧ a2 = 1) ∨ (c = 4 ∧ a2 = 2) then mf_X8_taken_p51 a1 a2 σ a2 else some (-13, σ) := by
  have e : c = 0 ∨ c = 1 ∨ c = 2 ∨ c = 3 ∨ c = 4 ∨ c = 5 := by grind
  have f : a2 = 0 ∨ a2 = 1 ∨ a2 = 2 ∨ a2 = 3 ∨ a2 = 4 ∨ a2 = 5 := by grind
  obtain ⟨F, hF⟩ := sm_Fs 20 (by decide)
  rw [hF]
  rcases e with rfl | rfl | rfl | rfl | rfl | rfl <;> rcases f with rfl | rfl | rfl | rfl | rfl | rfl <;> rfl
theorem sm_f0 {σ : sm_St} {k j : Nat} {v : Int32} (i : Nat) (h : i ≠ k) : ∀ a, (sm_sI σ k j v).1 i a = σ.1 i a := fun a => by rw [sm_rI i h]
section
variable {cmp : (Nat → Int32) → Nat → (Nat → Int32) → (Nat → Int32) → Prop} {σx σm σx' σm' : sm_St} {k tc : Nat}
theorem pr_taken (h : pr_R cmp σx σm) (a1 a2 : Int32) : pr_sim cmp (xf_X7_taken a1 a2 σx) (mf_X8_taken a1 a2 σm) := by
  have h0 := h
  obtain ⟨k, tc, h5, hF, hI, -, -, -, -⟩ := h
  obtain ⟨f1, f2, f3, f4, f5, f6, f7, f8⟩ := hF
  obtain ⟨i1, i2, i3, i4, i5, i6, i7, i8⟩ := hI
  unfold mf_X8_taken xf_X7_taken
  simp only [sm_bS, mf_in5, sm_cS, xf_has, mf_isSitter f1 h5, i6, xf_exists]
  by_cases cv : 0 ≤ a2 ∧ a2 ≤ 5
  · simp only [cv, and_self, if_true, i10, if_false]
    by_cases c : 0 ≤ a1 ∧ a1 < nI k
    · obtain ⟨x, hx, rfl⟩ := nI_ofR (n := k) (by omega) c.1 c.2
      have hx5 : x < 5 := by omega
      obtain ⟨j1, j2, j3⟩ := i7 x hx
      obtain ⟨e1, e2, e3⟩ := f8 x hx
      simp only [c, and_self, if_true, i10, if_false, sm_gIn hx5 (by decide : 5 < 2 ^ 31), nI_cl (show x < 2 ^ 31 by omega), xf_isUnder _ _ _ j1 cv, sm_cS, e1, mf_takenL _ _ _ _ j1 cv, mf_X8_taken_p51, sm_bS, e2]
      (repeat' split) <;> first | exact pr_same h0 | (clear h0; exfalso; grind)
    · simp only [c, if_false, if_true]
      exact pr_same h0
  · simp only [cv, if_false, if_true]
    exact pr_same h0
theorem pr_sitter (h : pr_R cmp σx σm) (a1 a2 a3 : Int32) : pr_sim cmp (xf_X7_sitter a1 a2 a3 σx) (mf_X8_sitter a1 a2 a3 σm) := by
  have h0 := h
  obtain ⟨k, tc, h5, hF, hI, hK, hS, hP, hT⟩ := h
  obtain ⟨f1, f2, f3, f4, f5, f6, f7, f8⟩ := hF
  obtain ⟨i1, i2, i3, i4, i5, i6, i7, i8⟩ := hI
  unfold mf_X8_sitter xf_X7_sitter xf_X0_come
  simp only [sm_bS, mf_in5, mf_in9, mf_isPlace, sm_cS, xf_exists, xf_isPlace, xf_who i6 h5, mf_onPlace f1 h5, i6, f1, Nat.reduceAdd]
  have eq : pu_find (fun x => decide (¬ nI x = -1) && decide (σm.1 6 x = a3)) k 0 = pu_find (fun x => decide (σx.1 10 x = a3)) k 0 := by
    refine pu_find_congr k 0 (fun j _ hj => ?_)
    rw [(f8 j (by omega)).2.2, decide_eq_true (nI_ne1 (show j < 2 ^ 31 by omega)), Bool.true_and]
  rw [eq]
  by_cases c1 : 0 ≤ a1 ∧ a1 ≤ 5
  · by_cases c2 : 0 ≤ a2 ∧ a2 ≤ 9
    · have n1 : ¬ a2 < 0 := by grind
      have n2 : ¬ 9 < a2 := by grind
      by_cases c3 : 0 ≤ a3 ∧ a3 ≤ 7
      · simp only [c1, c2, c3, n1, n2, and_self, if_true, i10, if_false]
        by_cases c4 : pu_find (fun x => decide (σx.1 10 x = a3)) k 0 = -1
        · simp only [c4, if_true]
          have g := (pu_find_none k 0 (by omega)).mp c4
          have free : ∀ j, j < k → σx.1 10 j ≠ a3 := fun j hj => of_decide_eq_false (g j (by omega) (by omega))
          by_cases c5 : k < 5
          · have n3 : nI k < 5 := nI_lt (b := 5) c5 (by decide)
            have n4 : ¬ nI k = 5 := by grind
            simp only [n3, n4, if_true, if_false, sm_gIn c5 (by decide : 5 < 2 ^ 31), nI_cl (show k < 2 ^ 31 by omega)]
            simp (config := { decide := true }) only [sm_rI1, ne_eq, not_false_eq_true, true_or, or_true, i6, f1, sm_gIn c5 (by decide : 5 < 2 ^ 31), nI_cl (show k < 2 ^ 31 by omega), sm_rE, nI_1, if_true, sm_cS]
            refine pr_same ⟨k + 1, tc, by omega, ?_, ?_, ?_, ?_, ?_, ?_⟩
            · unfold pr_F
              simp (config := { decide := true }) only [sm_rI1, ne_eq, not_false_eq_true, true_or, or_true, sm_rE, f2, f3, f4, f5, f6, f7, true_and, sm_rI]
              intro x hx
              simp only [sm_sIk.1, upd]
              by_cases e : x = k
              · simp only [e, if_true, and_self]
              · simp only [e, if_false]
                exact f8 x (by omega)
            · unfold pr_I
              simp (config := { decide := true }) only [sm_rI1, ne_eq, not_false_eq_true, true_or, or_true, sm_rE, true_and, sm_rI]
              refine ⟨i1, i2, i3, i4, i5, ?_, ?_⟩
              · intro x hx
                simp only [sm_sIk.1, upd]
                by_cases e : x = k
                · simp only [e, if_true]
                  exact ⟨c1, c2, c3⟩
                · simp only [e, if_false]
                  exact i7 x (by omega)
              · intro x y hx hy
                simp only [sm_sIk.1, upd]
                by_cases e : x = k <;> by_cases e2 : y = k
                · intro _; rw [e, e2]
                · simp only [e, e2, if_true, if_false]
                  intro z; exact absurd z.symm (free y (by omega))
                · simp only [e, e2, if_true, if_false]
                  intro z; exact absurd z (free x (by omega))
                · simp only [e, e2, if_false]
                  exact i8 x y (by omega) (by omega)
            · unfold pr_K at hK ⊢
              simp (config := { decide := true }) only [sm_rI1, ne_eq, not_false_eq_true, true_or, or_true, sm_rE, true_and, sm_rI]
              rcases hK with hK | ⟨u1, q, u2, u3, u4, u5, u6, u7, u8, u9, u10, u11⟩
              · exact Or.inl hK
              · refine Or.inr ⟨u1, q, by omega, u3, u4, u5, u6, u7, u8, u9, fun x hx => ?_, u11⟩
                rw [sm_sIk.1, pk_un (show x ≠ k by omega)]
                exact u10 x hx
            · refine hS.cong (fun c h1 h2 => ?_) (fun c h1 h2 => ?_)
              · rw [sm_rI c (by omega), sm_rI c (by omega), sm_rI c (by omega), sm_rI c (by omega)]
              · rw [sm_rI c (by omega), sm_rI c (by omega), sm_rI c (by omega), sm_rI c (by omega)]
            · refine hP.cong ?_ ?_ ?_ ?_ <;> simp (config := { decide := true }) only [sm_rI1, ne_eq, not_false_eq_true, true_or, or_true, sm_rI]
            · refine hT.cong ?_ (fun c h1 h2 => ?_) ?_ ?_ ?_
              · simp (config := { decide := true }) only [sm_rI1, ne_eq, not_false_eq_true, true_or, or_true, sm_rI]
              · rw [sm_rI c (by omega), sm_rI c (by omega), sm_rI c (by omega), sm_rI c (by omega)]
              · simp (config := { decide := true }) only [sm_rI1, ne_eq, not_false_eq_true, true_or, or_true, sm_rI]
              · simp (config := { decide := true }) only [sm_rI1, ne_eq, not_false_eq_true, true_or, or_true, sm_rI]
              · simp (config := { decide := true }) only [sm_rI1, ne_eq, not_false_eq_true, true_or, or_true, sm_rI]
          · have ek : k = 5 := by omega
            subst ek
            have n3 : ¬ nI 5 < 5 := by decide
            have n4 : nI 5 = 5 := by decide
            simp only [n3, n4, if_true, if_false, sm_cS]
            exact pr_same h0
        · simp only [c4, if_false, sm_cS]
          exact pr_same h0
      · simp only [c1, c2, c3, n1, n2, and_self, if_true, i10, if_false, sm_cS]
        exact pr_same h0
    · simp only [c1, c2, and_self, if_true, i10, if_false, sm_cS]
      (repeat' split) <;> first | exact pr_same h0 | (clear h0; exfalso; grind)
  · simp only [c1, and_self, if_true, if_false, sm_cS]
    exact pr_same h0
end
