/-! AT THE BEGINNING the two objects stand in the relation -/
theorem cz_R : ∃ σx σm, xf_X7_init co_sx = some ((), σx) ∧ mf_X8_init co_sm = some ((), σm) ∧ pr_R tx_cmp σx σm := by
  obtain ⟨σx, m, ex, hm, hl, hc, h0, h1, h2, x5, x13, ox⟩ := cz_x
  obtain ⟨σm, em, hb, m2, m3, om⟩ := cz_m
  refine ⟨σx, σm, ex, em, ?_⟩
  have X : ∀ c j, c ≠ 13 → c ≠ 14 → c ≠ 16 → c ≠ 22 → c ≠ 28 → c ≠ 0 → σx.1 c j = co_sx.1 c j := fun c j z1 z2 z3 z4 z5 z6 => ox c j z1 z2 z3 z4 z5 (fun h => z6 h.1)
  have M0 : ∀ j, j ≠ 3 → σm.1 0 j = co_sm.1 0 j := fun j h => om 0 j (by decide) (by decide) (fun q => h q.2)
  have M : ∀ c j, c ≠ 0 → c ≠ 1 → c ≠ 2 → σm.1 c j = co_sm.1 c j := fun c j a b d => om c j b d (fun q => a q.1)
  have X1 : ∀ j, σx.1 1 j = co_sx.1 1 j := fun j => X 1 j (by decide) (by decide) (by decide) (by decide) (by decide) (by decide)
  refine ⟨0, 1, by decide, ?_, ?_, ?_, ?_, ?_, ?_⟩
  · unfold pr_F
    rw [M0 15 (by decide), M0 7 (by decide), M0 8 (by decide), M0 9 (by decide), M0 10 (by decide), M0 11 (by decide), M0 4 (by decide), X1 0, X1 1, X1 2, X1 3, X1 4, X1 5]
    exact ⟨rfl, rfl, rfl, rfl, rfl, rfl, rfl, fun x hx => absurd hx (Nat.not_lt_zero x)⟩
  · unfold pr_I
    rw [X1 0, X1 1, X1 2, X1 3, X1 4, X1 5, X1 6]
    exact ⟨by decide, by decide, by decide, by decide, by decide, by decide, fun x hx => absurd hx (Nat.not_lt_zero x), fun x _ hx => absurd hx (Nat.not_lt_zero x)⟩
  · refine Or.inl ⟨?_, ?_⟩
    · rw [ox 0 2 (by decide) (by decide) (by decide) (by decide) (by decide) (by decide)]
      rfl
    · rw [M0 51 (by decide)]
      rfl
  · intro s hs
    refine Or.inl ⟨?_, ?_⟩
    · rw [X (35 + s) 0 (by omega) (by omega) (by omega) (by omega) (by omega) (by omega)]
      rcases (show s = 0 ∨ s = 1 ∨ s = 2 ∨ s = 3 by omega) with rfl | rfl | rfl | rfl <;> rfl
    · rw [M 20 s (by decide) (by decide) (by decide)]
      rfl
  · refine ⟨0, by decide, ?_, ?_, fun i hi => absurd hi (Nat.not_lt_zero i)⟩
    · rw [x13]
      rfl
    · rw [M0 6 (by decide)]
      rfl
  · refine ⟨by decide, by decide, ?_, ?_, fun t ht => ?_⟩
    · rw [x5]
      rfl
    · rw [m3]
      rfl
    · have ht0 : t = 0 := by omega
      subst ht0
      refine ⟨40, by decide, m2, by decide, tz_c, fun i hi => ⟨?_, tz_cB i hi⟩, m, ?_, by omega, hc, h0, h1, h2⟩
      · show σm.1 1 (160 * 0 + i) = _
        rw [show 160 * 0 + i = i by omega]
        exact hb i hi
      · rw [← tz_eq]
        exact hm
