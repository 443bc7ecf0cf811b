/-! the class's step -/
def tx_At (β : Nat → Nat) (n p : Nat) (σ : sm_St) : Prop := σ.1 13 2 = nI (tx_c β n p) ∧ σ.1 13 3 = nI (tx_s β n p) ∧ σ.1 13 4 = nI (tx_e β n p) ∧ (tx_c β n p = 2 → σ.1 13 5 = nI (tx_v β n p))
section
variable {β : Nat → Nat} {n p s e : Nat} {σ : sm_St}
theorem xf_isWordE {w : Nat} (hn : n ≤ 160) (hβ : ∀ i, i < n → β i < 256) (hw : w < 12) (hse : s ≤ e) (he : e ≤ n) (hX : tx_X β n σ) (h3 : σ.1 13 3 = nI s) (h4 : σ.1 13 4 = nI e) : xf_X4_isWord (nI w) σ = some (if tx_wm β s e w = true then 1 else 0, σ) := by
  have L := xf_wordL (q := fun i => decide ((if s + i < e then β (s + i) else 32) = tx_w (6 * w + i))) (fun _ => rfl) hn hβ hw he (Nat.le_trans hse he) hX h3 h4 6 0 sm_F (by omega) (by have := sm_Fge; omega) rfl
  have L : xf_X4_isWord_p18 (nI w) sm_F σ 0 = _ := L
  have es : nI e - nI s = nI (e - s) := nI_subT hse
  have z : e - s < 2 ^ 31 := by omega
  unfold xf_X4_isWord
  simp only [sm_bN, h3, h4, es]
  by_cases c : e ≤ s + 6
  · have c1 : nI (e - s) ≤ 6 := nI_le (b := 6) (by omega) (by decide)
    have e0 : tx_wm β s e w = tx_al (fun i => decide ((if s + i < e then β (s + i) else 32) = tx_w (6 * w + i))) 6 := by
      unfold tx_wm
      rw [decide_eq_true c, Bool.true_and]
    rw [if_pos c1, L, e0]
  · have c1 : ¬ nI (e - s) ≤ 6 := nI_ge (a := 6) (by omega) z
    have e0 : tx_wm β s e w = false := by
      unfold tx_wm
      rw [decide_eq_false c, Bool.false_and]
    rw [if_neg c1, e0]
    rfl
theorem xf_wordsL (hn : n ≤ 160) (hβ : ∀ i, i < n → β i < 256) (hse : s ≤ e) (he : e ≤ n) : ∀ (d w F : Nat) (σ : sm_St), w + d = 12 → d < F → tx_X β n σ → σ.1 13 3 = nI s → σ.1 13 4 = nI e → σ.1 13 2 = nI (tx_wl (tx_wm β s e) w) → ∃ σ', xf_X4_stepWord_p46 F σ (nI w) = some ((), σ') ∧ tx_f σ σ' ∧ σ'.1 13 2 = nI (tx_wl (tx_wm β s e) 12) ∧ σ'.1 13 3 = nI s ∧ σ'.1 13 4 = nI e := by
  intro d
  induction d with
  | zero =>
    intro w F σ h1 h2 hX h3 h4 h5
    obtain ⟨F, rfl⟩ : ∃ n', F = n' + 1 := ⟨F - 1, by omega⟩
    have : w = 12 := by omega
    subst this
    rw [xf_X4_stepWord_p46, if_pos (by decide)]
    exact ⟨σ, rfl, tx_f.rf _, h5, h3, h4⟩
  | succ d ih =>
    intro w F σ h1 h2 hX h3 h4 h5
    obtain ⟨F, rfl⟩ : ∃ n', F = n' + 1 := ⟨F - 1, by omega⟩
    have nl : ¬ (12 : Int32) ≤ nI w := nI_ge (b := 12) (by omega) (by decide)
    have ew : tx_wl (tx_wm β s e) (w + 1) = if tx_wm β s e w = true then 256 + w else tx_wl (tx_wm β s e) w := rfl
    have ea : (256 : Int32) + nI w = nI (256 + w) := nI_add 256 w
    rw [xf_X4_stepWord_p46, if_neg nl, xf_isWordE hn hβ (by omega) hse he hX h3 h4]
    simp only [sm_cS, xf_X4_stepWord_p69, sm_bN, nI_inc, ea]
    by_cases c : tx_wm β s e w = true
    · rw [if_pos c] at ew ⊢
      rw [if_neg i10]
      have f1 : tx_f σ (sm_sI σ 13 2 (nI (256 + w))) := tx_f.st (by decide)
      obtain ⟨σ', q1, q2, q3⟩ := ih (w + 1) F _ (by omega) (by omega) (hX.f f1) (by rw [sm_rI1 13 3 (by decide)]; exact h3) (by rw [sm_rI1 13 4 (by decide)]; exact h4) (by rw [sm_rE, ew])
      exact ⟨σ', q1, f1.tr q2, q3⟩
    · rw [if_neg c] at ew ⊢
      rw [if_pos rfl]
      exact ih (w + 1) F σ (by omega) (by omega) hX h3 h4 (by rw [h5, ew])
theorem xf_step52 (hn : n ≤ 160) (hβ : ∀ i, i < n → β i < 256) (hp : p ≤ n) (hX : tx_X β n σ) (h4 : σ.1 13 4 = nI (tx_s β n p)) : ∃ σ', xf_X4_step_p52 σ = some ((), σ') ∧ tx_f σ σ' ∧ tx_At β n p σ' := by
  obtain ⟨sb1, sb2⟩ := tx_sB (β := β) hp
  obtain ⟨eb1, eb2, eb3⟩ := tx_eB (β := β) hp
  have f0 : tx_f σ (sm_sI σ 13 3 (nI (tx_s β n p))) := tx_f.st (by decide)
  have X0 := hX.f f0
  have v4 : (sm_sI σ 13 3 (nI (tx_s β n p))).1 13 4 = nI (tx_s β n p) := by rw [sm_rI1 13 4 (by decide)]; exact h4
  have v3 : (sm_sI σ 13 3 (nI (tx_s β n p))).1 13 3 = nI (tx_s β n p) := sm_rE
  unfold xf_X4_step_p52
  simp only [sm_bN, h4]
  generalize sm_sI σ 13 3 (nI (tx_s β n p)) = u at f0 X0 v4 v3 ⊢
  simp only [v4, X0.1]
  unfold tx_At
  by_cases c : tx_s β n p < n
  · have c1 : nI (tx_s β n p) < nI n := nI_lt c (by omega)
    have bs := hβ _ c
    rw [if_pos c1, sm_gIn (show tx_s β n p < 160 by omega) (by decide : 160 < 2 ^ 31), nI_cl (show tx_s β n p < 2 ^ 31 by omega), X0.2 _ c]
    simp only [xf_dg bs, xf_lt bs, sm_cS]
    by_cases cd : tx_dg (β (tx_s β n p)) = true
    · have e2 : tx_c β n p = if tx_e β n p - tx_s β n p ≤ 4 then 2 else 1 := by
        unfold tx_c
        rw [if_neg (by omega), if_pos cd]
      have e3 : tx_e β n p = tx_ru (fun i => tx_dg (β i)) (n - tx_s β n p) (tx_s β n p) := by
        unfold tx_e
        rw [if_neg (by omega), if_pos cd]
      rw [if_pos cd, if_neg i10]
      unfold xf_X4_stepNumber
      simp only [sm_bN]
      have f1 : tx_f u (sm_sI u 13 5 0) := tx_f.st (by decide)
      obtain ⟨w, q1, q2, q3, q4, q5⟩ := xf_dgL (s := tx_s β n p) hn hβ (n - tx_s β n p) (tx_s β n p) sm_F (sm_sI u 13 5 0) (by omega) (by have := sm_Fge; omega) (Nat.le_refl _) (X0.f f1) (by rw [sm_rI1 13 3 (by decide)]; exact v3) (by rw [sm_rI1 13 4 (by decide)]; exact v4) (by rw [sm_rE, Nat.sub_self]; rfl)
      rw [← e3] at q4 q5
      have es : nI (tx_e β n p) - nI (tx_s β n p) = nI (tx_e β n p - tx_s β n p) := nI_subT eb1
      have z : tx_e β n p - tx_s β n p < 2 ^ 31 := by omega
      rw [q1]
      unfold xf_X4_stepNumber_p81
      simp only [sm_bN, q3, q4, es]
      rw [e2]
      by_cases c4 : tx_e β n p - tx_s β n p ≤ 4
      · have c5 : nI (tx_e β n p - tx_s β n p) ≤ 4 := nI_le (b := 4) c4 (by decide)
        rw [if_pos c5, if_pos c4]
        simp only [sm_cS]
        refine ⟨_, rfl, (f0.tr f1).tr (q2.tr (tx_f.st (by decide))), sm_rE, ?_, ?_, fun _ => ?_⟩
        · rw [sm_rI1 13 3 (by decide)]; exact q3
        · rw [sm_rI1 13 4 (by decide)]; exact q4
        · rw [sm_rI1 13 5 (by decide)]; exact q5
      · have c5 : ¬ nI (tx_e β n p - tx_s β n p) ≤ 4 := nI_ge (a := 4) (by omega) z
        rw [if_neg c5, if_neg c4]
        simp only [sm_cS]
        refine ⟨_, rfl, (f0.tr f1).tr (q2.tr (tx_f.st (by decide))), sm_rE, ?_, ?_, fun h => by cases h⟩
        · rw [sm_rI1 13 3 (by decide)]; exact q3
        · rw [sm_rI1 13 4 (by decide)]; exact q4
    · rw [if_neg cd, if_pos rfl]
      simp only [sm_gIn (show tx_s β n p < 160 by omega) (by decide : 160 < 2 ^ 31), nI_cl (show tx_s β n p < 2 ^ 31 by omega), v4, X0.2 _ c, xf_lt bs, sm_cS]
      by_cases cl : tx_lt (β (tx_s β n p)) = true
      · have e3 : tx_e β n p = tx_ru (fun i => tx_lt (β i)) (n - tx_s β n p) (tx_s β n p) := by
          unfold tx_e
          rw [if_neg (by omega), if_neg cd, if_pos cl]
        have e2 : tx_c β n p = tx_wl (tx_wm β (tx_s β n p) (tx_e β n p)) 12 := by
          unfold tx_c
          rw [if_neg (by omega), if_neg cd, if_pos cl]
        have n2 : tx_c β n p ≠ 2 := by
          rw [e2]
          have := tx_wlB (tx_wm β (tx_s β n p) (tx_e β n p)) 12
          omega
        rw [if_pos cl, if_neg i10]
        unfold xf_X4_stepWord
        obtain ⟨w, q1, q2, q3, q4⟩ := xf_ltL (s := tx_s β n p) hn hβ (n - tx_s β n p) (tx_s β n p) sm_F u (by omega) (by have := sm_Fge; omega) X0 v3 v4
        rw [← e3] at q4
        rw [q1]
        unfold xf_X4_stepWord_p39
        simp only [sm_bN]
        have f1 : tx_f w (sm_sI w 13 2 1) := tx_f.st (by decide)
        obtain ⟨y, r1, r2, r3, r4, r5⟩ := xf_wordsL (s := tx_s β n p) (e := tx_e β n p) hn hβ eb1 eb2 12 0 sm_F (sm_sI w 13 2 1) (by omega) (by have := sm_Fge; omega) ((X0.f q2).f f1) (by rw [sm_rI1 13 3 (by decide)]; exact q3) (by rw [sm_rI1 13 4 (by decide)]; exact q4) sm_rE
        have r1 : xf_X4_stepWord_p46 sm_F (sm_sI w 13 2 1) 0 = _ := r1
        rw [r1]
        simp only [sm_cS]
        exact ⟨y, rfl, ((f0.tr q2).tr f1).tr r2, by rw [r3, e2], r4, r5, fun h => absurd h n2⟩
      · rw [if_neg cl, if_pos rfl]
        obtain ⟨s1, -, -, -⟩ := tx_sgI _ bs
        obtain ⟨r, r1, r2⟩ := xf_idx bs u
        have e3 : tx_e β n p = tx_s β n p + 1 := by
          unfold tx_e
          rw [if_neg (by omega), if_neg cd, if_neg cl]
        have e2 : tx_c β n p = if tx_sg (β (tx_s β n p)) = true then β (tx_s β n p) else 1 := by
          unfold tx_c
          rw [if_neg (by omega), if_neg cd, if_neg cl]
        have en : nI (tx_s β n p) + 1 = nI (tx_s β n p + 1) := nI_1 _
        simp only [sm_gIn (show tx_s β n p < 160 by omega) (by decide : 160 < 2 ^ 31), nI_cl (show tx_s β n p < 2 ^ 31 by omega), v4, X0.2 _ c, s1, r1, sm_cS, xf_X4_step_p155, sm_bN]
        have F0 : ∀ x : Nat, ∃ σ', (some ((), sm_sI (sm_sI u 13 2 (nI x)) 13 4 ((sm_sI u 13 2 (nI x)).1 13 4 + 1)) : Option (Unit × sm_St)) = some ((), σ') ∧ tx_f σ σ' ∧ σ'.1 13 2 = nI x ∧ σ'.1 13 3 = nI (tx_s β n p) ∧ σ'.1 13 4 = nI (tx_e β n p) := by
          intro x
          refine ⟨_, rfl, f0.tr (tx_f.tr (tx_f.st (by decide)) (tx_f.st (by decide))), ?_, ?_, ?_⟩
          · rw [sm_rI1 13 2 (by decide), sm_rE]
          · rw [sm_rI1 13 3 (by decide), sm_rI1 13 3 (by decide)]; exact v3
          · rw [sm_rE, sm_rI1 13 4 (by decide), v4, en, e3]
        rw [e2]
        by_cases cs : tx_sg (β (tx_s β n p)) = true
        · have nr : ¬ r < 0 := fun z => by rw [r2.mp z] at cs; cases cs
          have n2 : β (tx_s β n p) ≠ 2 := fun z => by rw [z] at cs; cases cs
          rw [if_neg nr, if_pos cs]
          obtain ⟨y, y1, y2, y3, y4, y5⟩ := F0 (β (tx_s β n p))
          exact ⟨y, y1, y2, y3, y4, y5, fun h => absurd h n2⟩
        · have nr : r < 0 := r2.mpr (by simpa using cs)
          rw [if_pos nr, if_neg cs]
          obtain ⟨y, y1, y2, y3, y4, y5⟩ := F0 1
          exact ⟨y, y1, y2, y3, y4, y5, fun h => by cases h⟩
  · have c1 : ¬ nI (tx_s β n p) < nI n := Int32.not_lt.mpr (nI_le (by omega) (by omega))
    have es : tx_s β n p = n := by omega
    have e3 : tx_e β n p = n := by
      unfold tx_e
      rw [if_pos (by omega)]
    have e2 : tx_c β n p = 0 := by
      unfold tx_c
      rw [if_pos (by omega)]
    rw [if_neg c1]
    refine ⟨_, rfl, f0.tr (tx_f.st (by decide)), ?_, ?_, ?_, fun h => by omega⟩
    · rw [sm_rE, e2]
      rfl
    · rw [sm_rI1 13 3 (by decide)]; exact v3
    · rw [sm_rI1 13 4 (by decide), v4, es, e3]
theorem xf_stepE (hn : n ≤ 160) (hβ : ∀ i, i < n → β i < 256) (hp : p ≤ n) (hX : tx_X β n σ) (h4 : σ.1 13 4 = nI p) : ∃ σ', xf_X4_step σ = some ((), σ') ∧ tx_f σ σ' ∧ tx_At β n p σ' := by
  obtain ⟨u, u1, u2, u3⟩ := xf_blL hn hβ (n - p) p sm_F σ (by omega) (by have := sm_Fge; omega) hX h4
  obtain ⟨w, w1, w2, w3⟩ := xf_step52 (p := p) hn hβ hp (hX.f u2) u3
  refine ⟨w, ?_, u2.tr w2, w3⟩
  unfold xf_X4_step
  rw [u1, w1]
end
