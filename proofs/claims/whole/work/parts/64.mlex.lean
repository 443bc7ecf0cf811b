/-! the reference's tokens -/
def tm_X (β : Nat → Nat) (n t : Nat) (σ : sm_St) : Prop := σ.1 0 22 = nI (160 * t) ∧ σ.1 0 23 = nI n ∧ ∀ i, i < n → σ.1 1 (160 * t + i) = nI (β i)
/-- what a step of the reference may write -/
def tm_f (σ σ' : sm_St) : Prop := ∀ c j, ¬ (c = 0 ∧ 24 ≤ j ∧ j ≤ 26) → σ'.1 c j = σ.1 c j
theorem tm_f.rf (σ : sm_St) : tm_f σ σ := fun _ _ _ => rfl
theorem tm_f.tr {a b c : sm_St} (h : tm_f a b) (g : tm_f b c) : tm_f a c := fun x y z => (g x y z).trans (h x y z)
theorem tm_f.st {σ : sm_St} {j : Nat} {v : Int32} (h : 24 ≤ j ∧ j ≤ 26) : tm_f σ (sm_sI σ 0 j v) := fun c i hc => sm_rI1 c i (by omega)
theorem tm_f.sL {σ : sm_St} {c j : Nat} {v : Int64} : tm_f σ (sm_sL σ c j v) := fun _ _ _ => rfl
theorem tm_X.f {β : Nat → Nat} {n t : Nat} {σ σ' : sm_St} (h : tm_X β n t σ) (g : tm_f σ σ') : tm_X β n t σ' := ⟨by rw [g 0 22 (by omega)]; exact h.1, by rw [g 0 23 (by omega)]; exact h.2.1, fun i hi => by rw [g 1 _ (by omega)]; exact h.2.2 i hi⟩
def tm_b (β : Nat → Nat) (n i : Nat) : Int32 := if i < n then nI (β i) else -1
def tm_At (β : Nat → Nat) (n p : Nat) (σ : sm_St) : Prop := σ.1 0 26 = nI (tx_s β n p) ∧ ((tx_c β n p = 0 ∧ σ.1 0 25 = 0) ∨ (tx_c β n p = 2 ∧ σ.1 0 25 = 2 ∧ σ.2.1 0 27 = lN (tx_v β n p) ∧ σ.1 0 24 = nI (tx_e β n p)) ∨ (σ.1 0 25 = 1 ∧ σ.1 0 24 = nI (tx_e β n p) ∧ tx_s β n p < n ∧ (∀ i, tx_s β n p ≤ i → i < tx_e β n p → tx_lt (β i) = true) ∧ tx_c β n p = tx_wl (tx_wm β (tx_s β n p) (tx_e β n p)) 12) ∨ (tx_sg (tx_c β n p) = true ∧ σ.1 0 25 = 3 ∧ σ.2.1 0 27 = lN (tx_c β n p) ∧ σ.1 0 24 = nI (tx_e β n p)) ∨ (tx_c β n p = 1 ∧ σ.1 0 25 = 4))
theorem mf_in97 (x : Int32) (σ : sm_St) : mf_X8_in x.toInt64 97 122 σ = some (if 97 ≤ x ∧ x ≤ 122 then 1 else 0, σ) := @mf_inI x 97 122 σ
theorem mf_in48 (x : Int32) (σ : sm_St) : mf_X8_in x.toInt64 48 57 σ = some (if 48 ≤ x ∧ x ≤ 57 then 1 else 0, σ) := @mf_inI x 48 57 σ
theorem tm_lt {x : Nat} (hx : x < 256) : (97 ≤ nI x ∧ nI x ≤ 122) ↔ tx_lt x = true := by
  have e1 : (97 : Int32) ≤ nI x ↔ 97 ≤ x := nI_leI (a := 97) (by decide) (by omega)
  have e2 : nI x ≤ (122 : Int32) ↔ x ≤ 122 := nI_leI (b := 122) (by omega) (by decide)
  unfold tx_lt
  rw [e1, e2, decide_eq_true_eq]
theorem tm_dg {x : Nat} (hx : x < 256) : (48 ≤ nI x ∧ nI x ≤ 57) ↔ tx_dg x = true := by
  have e1 : (48 : Int32) ≤ nI x ↔ 48 ≤ x := nI_leI (a := 48) (by decide) (by omega)
  have e2 : nI x ≤ (57 : Int32) ↔ x ≤ 57 := nI_leI (b := 57) (by omega) (by decide)
  unfold tx_dg
  rw [e1, e2, decide_eq_true_eq]
theorem tm_in {P : Prop} {d : Decidable P} {b : Bool} {σ : sm_St} (h : P ↔ b = true) : (some ((if P then (1 : Int32) else 0), σ) : Option (Int32 × sm_St)) = some (if b = true then 1 else 0, σ) := by
  by_cases c : P
  · rw [if_pos c, if_pos (h.mp c)]
  · rw [if_neg c, if_neg (mt h.mpr c)]
section
variable {β : Nat → Nat} {n p s e t : Nat} {σ : sm_St}
theorem mf_byteE (hn : n ≤ 160) (ht : t < 6) (hX : tm_X β n t σ) {i : Nat} (hi : i < 1000) : mf_X8_byteAt (nI i) σ = some (tm_b β n i, σ) := by
  have ea : nI (160 * t) + nI i = nI (160 * t + i) := nI_add _ _
  unfold mf_X8_byteAt tm_b
  simp only [sm_bN, hX.2.1, hX.1, ea]
  by_cases c : i < n
  · have c1 : ¬ nI n ≤ nI i := nI_ge c (by omega)
    rw [if_neg c1, if_pos c, sm_gIn (show 160 * t + i < 960 by omega) (by decide : 960 < 2 ^ 31), nI_cl (show 160 * t + i < 2 ^ 31 by omega), hX.2.2 i c]
  · have c1 : nI n ≤ nI i := nI_le (by omega) (by omega)
    rw [if_pos c1, if_neg c]
theorem mf_letE (hβ : ∀ i, i < n → β i < 256) {i : Nat} (σ : sm_St) : mf_X8_in (tm_b β n i).toInt64 97 122 σ = some (if (decide (i < n) && tx_lt (β i)) = true then 1 else 0, σ) := by
  rw [mf_in97]
  refine tm_in ?_
  unfold tm_b
  by_cases c : i < n
  · rw [if_pos c, tm_lt (hβ i c), decide_eq_true c, Bool.true_and]
  · rw [if_neg c, decide_eq_false c, Bool.false_and]
    exact ⟨fun e => absurd e (by decide), fun e => by cases e⟩
theorem mf_digE (hβ : ∀ i, i < n → β i < 256) {i : Nat} (σ : sm_St) : mf_X8_in (tm_b β n i).toInt64 48 57 σ = some (if (decide (i < n) && tx_dg (β i)) = true then 1 else 0, σ) := by
  rw [mf_in48]
  refine tm_in ?_
  unfold tm_b
  by_cases c : i < n
  · rw [if_pos c, tm_dg (hβ i c), decide_eq_true c, Bool.true_and]
  · rw [if_neg c, decide_eq_false c, Bool.false_and]
    exact ⟨fun e => absurd e (by decide), fun e => by cases e⟩
theorem mf_blL (hn : n ≤ 160) (ht : t < 6) (hβ : ∀ i, i < n → β i < 256) : ∀ (d i F : Nat) (σ : sm_St), i + d = n → d < F → tm_X β n t σ → σ.1 0 24 = nI i → ∃ f σ', mf_X8_next_p0 F σ = mf_X8_next_p0 (f + 1) σ' ∧ tm_f σ σ' ∧ σ'.1 0 24 = nI (tx_ru (fun i => tx_bl (β i)) d i) ∧ σ'.2 = σ.2 := by
  intro d
  induction d with
  | zero =>
    intro i F σ h1 h2 hX h4
    obtain ⟨F, rfl⟩ : ∃ n', F = n' + 1 := ⟨F - 1, by omega⟩
    exact ⟨F, σ, rfl, tm_f.rf _, h4, rfl⟩
  | succ d ih =>
    intro i F σ h1 h2 hX h4
    obtain ⟨F, rfl⟩ : ∃ n', F = n' + 1 := ⟨F - 1, by omega⟩
    have hi : i < n := by omega
    have bi := hβ i hi
    by_cases c : tx_bl (β i) = true
    · have er : tx_ru (fun i => tx_bl (β i)) (d + 1) i = tx_ru (fun i => tx_bl (β i)) d (i + 1) := if_pos c
      rw [er]
      have eb : tm_b β n i = nI (β i) := if_pos hi
      have en : nI i + 1 = nI (i + 1) := nI_1 i
      have f1 : tm_f σ (sm_sI σ 0 24 (nI (i + 1))) := tm_f.st (by decide)
      obtain ⟨f, σ', q1, q2, q3, q4⟩ := ih (i + 1) F (sm_sI σ 0 24 (nI (i + 1))) (by omega) (by omega) (hX.f f1) sm_rE
      refine ⟨f, σ', ?_, f1.tr q2, q3, q4⟩
      rw [← q1]
      unfold tx_bl at c
      have c := of_decide_eq_true c
      rw [mf_X8_next_p0]
      simp only [sm_bN, h4, mf_byteE hn ht hX (show i < 1000 by omega), sm_cS, eb, mf_X8_next_p26, en]
      rcases c with c | c
      · rw [if_pos (by rw [c]; rfl)]
      · rw [if_neg (by rw [c]; decide), if_pos (by rw [c]; rfl)]
    · have er : tx_ru (fun i => tx_bl (β i)) (d + 1) i = i := if_neg c
      rw [er]
      exact ⟨F, σ, rfl, tm_f.rf _, h4, rfl⟩
theorem mf_ltL (hn : n ≤ 160) (ht : t < 6) (hβ : ∀ i, i < n → β i < 256) : ∀ (d i F : Nat) (σ : sm_St), i + d = n → d < F → tm_X β n t σ → σ.1 0 24 = nI i → ∃ σ', mf_X8_next_p100 F σ = some ((), σ') ∧ (∀ c j, ¬ (c = 0 ∧ j = 24) → σ'.1 c j = σ.1 c j) ∧ σ'.1 0 24 = nI (tx_ru (fun i => tx_lt (β i)) d i) := by
  intro d
  induction d with
  | zero =>
    intro i F σ h1 h2 hX h4
    obtain ⟨F, rfl⟩ : ∃ n', F = n' + 1 := ⟨F - 1, by omega⟩
    rw [mf_X8_next_p100]
    simp only [sm_bN, h4, mf_byteE hn ht hX (show i < 1000 by omega), sm_cS, mf_letE hβ]
    rw [decide_eq_false (show ¬ i < n by omega), Bool.false_and]
    exact ⟨σ, rfl, fun _ _ _ => rfl, h4⟩
  | succ d ih =>
    intro i F σ h1 h2 hX h4
    obtain ⟨F, rfl⟩ : ∃ n', F = n' + 1 := ⟨F - 1, by omega⟩
    have en : nI i + 1 = nI (i + 1) := nI_1 i
    rw [mf_X8_next_p100]
    simp only [sm_bN, h4, mf_byteE hn ht hX (show i < 1000 by omega), sm_cS, mf_letE hβ, en]
    rw [decide_eq_true (show i < n by omega), Bool.true_and]
    by_cases c : tx_lt (β i) = true
    · have er : tx_ru (fun i => tx_lt (β i)) (d + 1) i = tx_ru (fun i => tx_lt (β i)) d (i + 1) := if_pos c
      rw [er, if_pos c, if_neg i10]
      have f1 : tm_f σ (sm_sI σ 0 24 (nI (i + 1))) := tm_f.st (by decide)
      obtain ⟨σ', q1, q2, q3⟩ := ih (i + 1) F (sm_sI σ 0 24 (nI (i + 1))) (by omega) (by omega) (hX.f f1) sm_rE
      exact ⟨σ', q1, fun c j hc => by rw [q2 c j hc, sm_rI1 c j (by omega)], q3⟩
    · have er : tx_ru (fun i => tx_lt (β i)) (d + 1) i = i := if_neg c
      rw [er, if_neg c, if_pos rfl]
      exact ⟨σ, rfl, fun _ _ _ => rfl, h4⟩
theorem tm_48 (v b : Nat) (h : 48 ≤ b) (hb : b < 256) : (10 : Int64) * lN v + (nI b).toInt64 - 48 = lN (v * 10 + b - 48) := by
  have e1 : (10 : Int64) = lN 10 := rfl
  have e2 : (48 : Int64) = lN 48 := rfl
  rw [e1, e2, nI_l (by omega), lN_mul, lN_add, lN_sub (by omega), Nat.mul_comm]
theorem mf_dgL (hn : n ≤ 160) (ht : t < 6) (hβ : ∀ i, i < n → β i < 256) : ∀ (d i F : Nat) (σ : sm_St), i + d = n → d < F → s ≤ i → tm_X β n t σ → σ.1 0 24 = nI i → σ.2.1 0 27 = lN (tx_va β s (i - s)) → ∃ σ', mf_X8_next_p160 F σ (nI (i - s)) = some ((), σ') ∧ (∀ c j, ¬ (c = 0 ∧ 24 ≤ j ∧ j ≤ 25) → σ'.1 c j = σ.1 c j) ∧ σ'.1 0 24 = nI (tx_ru (fun i => tx_dg (β i)) d i) ∧ σ'.1 0 25 = (if tx_ru (fun i => tx_dg (β i)) d i - s ≤ 4 then 2 else 4) ∧ σ'.2.1 0 27 = lN (tx_va β s (tx_ru (fun i => tx_dg (β i)) d i - s)) := by
  intro d
  have stop : ∀ (i F : Nat) (σ : sm_St), i ≤ n → s ≤ i → tm_X β n t σ → σ.1 0 24 = nI i → σ.2.1 0 27 = lN (tx_va β s (i - s)) → (decide (i < n) && tx_dg (β i)) = false → ∃ σ', mf_X8_next_p160 (F + 1) σ (nI (i - s)) = some ((), σ') ∧ (∀ c j, ¬ (c = 0 ∧ 24 ≤ j ∧ j ≤ 25) → σ'.1 c j = σ.1 c j) ∧ σ'.1 0 24 = nI i ∧ σ'.1 0 25 = (if i - s ≤ 4 then 2 else 4) ∧ σ'.2.1 0 27 = lN (tx_va β s (i - s)) := by
    intro i F σ h1 h2 hX h4 h5 h
    rw [mf_X8_next_p160]
    simp only [sm_bN, h4, mf_byteE hn ht hX (show i < 1000 by omega), sm_cS, mf_digE hβ, h, Bool.false_eq_true, if_false, if_true, mf_X8_next_p246]
    by_cases c : i - s ≤ 4
    · have c1 : nI (i - s) ≤ 4 := nI_le (b := 4) c (by decide)
      rw [if_pos c1, if_pos c]
      exact ⟨_, rfl, fun c j hc => by rw [sm_rI1 c j (by omega)], by rw [sm_rI1 0 24 (by decide)]; exact h4, sm_rE, h5⟩
    · have c1 : ¬ nI (i - s) ≤ 4 := nI_ge (a := 4) (by omega) (by omega)
      rw [if_neg c1, if_neg c]
      exact ⟨_, rfl, fun c j hc => by rw [sm_rI1 c j (by omega)], by rw [sm_rI1 0 24 (by decide)]; exact h4, sm_rE, h5⟩
  induction d with
  | zero =>
    intro i F σ h1 h2 h0 hX h4 h5
    obtain ⟨F, rfl⟩ : ∃ n', F = n' + 1 := ⟨F - 1, by omega⟩
    exact stop i F σ (by omega) h0 hX h4 h5 (by rw [decide_eq_false (show ¬ i < n by omega), Bool.false_and])
  | succ d ih =>
    intro i F σ h1 h2 h0 hX h4 h5
    obtain ⟨F, rfl⟩ : ∃ n', F = n' + 1 := ⟨F - 1, by omega⟩
    have hi : i < n := by omega
    have bi := hβ i hi
    by_cases c : tx_dg (β i) = true
    · have er : tx_ru (fun i => tx_dg (β i)) (d + 1) i = tx_ru (fun i => tx_dg (β i)) d (i + 1) := if_pos c
      rw [er]
      have en : nI i + 1 = nI (i + 1) := nI_1 i
      have eb : tm_b β n i = nI (β i) := if_pos hi
      have ec : nI (i - s) + Int32.ofInt 1 = nI (i + 1 - s) := by rw [nI_inc, show i - s + 1 = i + 1 - s by omega]
      have hd : (decide (i < n) && tx_dg (β i)) = true := by rw [decide_eq_true hi, Bool.true_and]; exact c
      have c' := c
      unfold tx_dg at c'
      have c' := of_decide_eq_true c'
      have ev : tx_va β s (i - s + 1) = if i - s < 4 then tx_va β s (i - s) * 10 + β (s + (i - s)) - 48 else tx_va β s (i - s) := rfl
      rw [show s + (i - s) = i by omega, show i - s + 1 = i + 1 - s by omega] at ev
      rw [mf_X8_next_p160]
      simp only [sm_bN, h4, mf_byteE hn ht hX (show i < 1000 by omega), sm_cS, mf_digE hβ, hd, if_true, i10, if_false, mf_X8_next_p216, ec, h5]
      by_cases c4 : 4 ≤ i - s
      · rw [if_neg (by omega)] at ev
        have c5 : (4 : Int32) ≤ nI (i - s) := nI_le (a := 4) c4 (by omega)
        rw [if_pos c5]
        have f1 : tm_f σ (sm_sI (sm_sL σ 0 27 (lN (tx_va β s (i - s)))) 0 24 (nI (i + 1))) := tm_f.tr tm_f.sL (tm_f.st (by decide))
        obtain ⟨σ', q1, q2, q3⟩ := ih (i + 1) F (sm_sI (sm_sL σ 0 27 (lN (tx_va β s (i - s)))) 0 24 (nI (i + 1))) (by omega) (by omega) (by omega) (hX.f f1) sm_rE (by rw [ev]; exact sm_rLE)
        refine ⟨σ', ?_, fun c j hc => by rw [q2 c j hc, sm_rI1 c j (by omega)]; rfl, q3⟩
        rw [← q1, sm_rLi, h4, en]
      · rw [if_pos (by omega)] at ev
        have c5 : ¬ (4 : Int32) ≤ nI (i - s) := nI_ge (b := 4) (by omega) (by decide)
        rw [if_neg c5, eb, tm_48 _ _ c'.1 bi]
        have f1 : tm_f σ (sm_sI (sm_sL σ 0 27 (lN (tx_va β s (i - s) * 10 + β i - 48))) 0 24 (nI (i + 1))) := tm_f.tr tm_f.sL (tm_f.st (by decide))
        obtain ⟨σ', q1, q2, q3⟩ := ih (i + 1) F (sm_sI (sm_sL σ 0 27 (lN (tx_va β s (i - s) * 10 + β i - 48))) 0 24 (nI (i + 1))) (by omega) (by omega) (by omega) (hX.f f1) sm_rE (by rw [ev]; exact sm_rLE)
        refine ⟨σ', ?_, fun c j hc => by rw [q2 c j hc, sm_rI1 c j (by omega)]; rfl, q3⟩
        rw [← q1, sm_rLi, h4, en]
    · have er : tx_ru (fun i => tx_dg (β i)) (d + 1) i = i := if_neg c
      rw [er]
      exact stop i F σ (by omega) h0 hX h4 h5 (by
        rw [decide_eq_true hi, Bool.true_and]
        simpa using c)
end
