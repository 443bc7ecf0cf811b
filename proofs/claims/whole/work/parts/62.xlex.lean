/-! the class's tokens -/
theorem tx_chr : ∀ i, i < 72 → (((sm_byt.getD 1 []).getD i 0 &&& 255).toUInt32 % 65536).toInt32 = nI (tx_w i) ∧ decide (narrow .char (.int (nI (tx_w i))) = .int (nI (tx_w i))) = true := by decide +kernel
theorem xf_charW {i : Nat} (hi : i < 72) (σ : sm_St) : xf_J0_charAt_5068e 1 (nI i) σ = some (nI (tx_w i), σ) := by
  obtain ⟨e1, e2⟩ := tx_chr i hi
  have n0 : ¬ nI i < 0 := Int32.not_lt.mpr (nI_pos' (by omega))
  have n1 : nI i < Int32.ofNat (sm_len.getD 1 0) := nI_lt (b := 72) hi (by decide)
  have n2 : sm_in (nI i) (sm_len.getD 1 0) = true := sm_inN (n := 72) hi (by decide)
  unfold xf_J0_charAt_5068e xf_J0_isLatin1_aae02 xf_J1_charAt_3b067 xf_J0_checkIndex_df160 xf_J3_checkIndex_8e157
  simp only [i10, if_false, if_true, sm_cS, sm_bS, n0, n1, n2, sm_gT, nI_cl (show i < 2 ^ 31 by omega), e1, e2]
theorem tx_sgI : ∀ x, x < 256 → ((nI x).toUInt32 % 65536).toInt32 = nI x ∧ ¬ nI x < 0 ∧ ¬ (255 : Int32) < nI x ∧ (pu_find (fun j => decide ((sm_byt.getD 2 []).getD j 0 = (nI x).toInt8.toInt32)) 8 0 < 0 ↔ tx_sg x = false) := by decide +kernel
theorem xf_idxL {l4 : Int32} {σ : sm_St} {a2 a3 : Int32} : ∀ (d i F : Nat), i + d = 8 → d < F → xf_J1_indexOfChar_4cfef_p7 2 a2 a3 8 F σ l4 (nI i) = some (pu_find (fun j => decide ((sm_byt.getD 2 []).getD j 0 = l4)) d i, σ) := by
  intro d
  induction d with
  | zero =>
    intro i F h1 h2
    obtain ⟨F, rfl⟩ : ∃ n', F = n' + 1 := ⟨F - 1, by omega⟩
    have : i = 8 := by omega
    subst this
    rw [xf_J1_indexOfChar_4cfef_p7, if_pos (by decide)]
    rfl
  | succ d ih =>
    intro i F h1 h2
    obtain ⟨F, rfl⟩ : ∃ n', F = n' + 1 := ⟨F - 1, by omega⟩
    have nl : ¬ (8 : Int32) ≤ nI i := nI_ge (b := 8) (by omega) (by decide)
    have g : sm_in (nI i) (sm_len.getD 2 0) = true := sm_inN (n := 8) (by omega) (by decide)
    rw [xf_J1_indexOfChar_4cfef_p7, if_neg nl, g]
    simp only [sm_gT, sm_bS, nI_cl (show i < 2 ^ 31 by omega), nI_inc, pu_find, decide_eq_true_eq]
    by_cases c : (sm_byt.getD 2 []).getD i 0 = l4
    · rw [if_pos c, if_pos c]
    · rw [if_neg c, if_neg c]
      exact ih (i + 1) F (by omega) (by omega)
theorem xf_idx {x : Nat} (hx : x < 256) (σ : sm_St) : ∃ r, xf_J0_indexOf_0f7a4 2 (nI x) σ = some (r, σ) ∧ (r < 0 ↔ tx_sg x = false) := by
  obtain ⟨-, n0, n1, e⟩ := tx_sgI x hx
  refine ⟨_, ?_, e⟩
  have z1 : decide (narrow .byte (.int (0 : Int32)) = .int (0 : Int32)) = true := by decide +kernel
  have z2 : (8 : Int32) >>> ((0 : Int32) &&& 31) = 8 := by decide
  have z3 : Int32.ofNat (sm_len.getD 2 0) = 8 := by decide
  have z4 : ¬ (0 : Int32) < 0 := by decide
  have z5 : ¬ (8 : Int32) < 8 := by decide
  have z6 : (0 : Int32) < 8 := by decide
  have L := xf_idxL (l4 := (nI x).toInt8.toInt32) (σ := σ) (a2 := nI x) (a3 := 0) 8 0 sm_F (by omega) (by have := sm_Fge; omega)
  have L : xf_J1_indexOfChar_4cfef_p7 2 (nI x) 0 8 sm_F σ (nI x).toInt8.toInt32 0 = _ := L
  unfold xf_J0_indexOf_0f7a4 xf_J0_indexOf_7cf53 xf_J0_isLatin1_aae02 xf_J0_length_8abf5 xf_J0_coder_7d493 xf_J1_indexOf_4cfef xf_J1_canEncode_9a6ad xf_J1_indexOfChar_4cfef
  simp only [i10, if_false, if_true, sm_cS, sm_bS, z1, sm_gT, z2, z3, z4, z5, z6, n0, n1, L]
theorem sm_bX {α β : Type} (a : α) (f : α → Option β) : ∃ x, sm_b a f = x ∧ f a = x := ⟨f a, rfl, rfl⟩
/-- no row that holds by itself: the kernel isn't to unfold what stands around it -/
theorem sm_bN {α β : Type} {a : α} {f : α → Option β} : sm_b a f = f a := by
  obtain ⟨x, h1, h2⟩ := sm_bX a f
  rw [h1, h2]
theorem nI_subT {a b : Nat} (h : b ≤ a) : nI a - nI b = nI (a - b) := by
  have e : nI (a - b) + nI b = nI a := by rw [nI_add, Nat.sub_add_cancel h]
  rw [← e]
  grind
theorem tx_wB : ∀ i, i < 72 → tx_w i < 256 := by decide +kernel
/-- the tape, as numbers -/
def tx_X (β : Nat → Nat) (n : Nat) (σ : sm_St) : Prop := σ.1 13 0 = nI n ∧ ∀ i, i < n → σ.1 14 i = nI (β i)
def tx_f (σ σ' : sm_St) : Prop := (∀ c j, ¬ (c = 13 ∧ 2 ≤ j ∧ j ≤ 5) → σ'.1 c j = σ.1 c j) ∧ σ'.2 = σ.2
theorem tx_f.rf (σ : sm_St) : tx_f σ σ := ⟨fun _ _ _ => rfl, rfl⟩
theorem tx_f.tr {a b c : sm_St} (h : tx_f a b) (g : tx_f b c) : tx_f a c := ⟨fun x y z => (g.1 x y z).trans (h.1 x y z), g.2.trans h.2⟩
theorem tx_f.st {σ : sm_St} {j : Nat} {v : Int32} (h : 2 ≤ j ∧ j ≤ 5) : tx_f σ (sm_sI σ 13 j v) := ⟨fun c i hc => sm_rI1 c i (by omega), rfl⟩
theorem tx_X.f {β : Nat → Nat} {n : Nat} {σ σ' : sm_St} (h : tx_X β n σ) (g : tx_f σ σ') : tx_X β n σ' := ⟨by rw [g.1 13 0 (by omega)]; exact h.1, fun i hi => by rw [g.1 14 i (by omega)]; exact h.2 i hi⟩
theorem nI_eqL {a b : Nat} (ha : a < 2 ^ 31) (hb : b < 2 ^ 31) : (nI a = nI b) = (a = b) := propext (nI_eq ha hb)
section
variable {β : Nat → Nat} {n p s : Nat} {σ : sm_St}
theorem xf_dg {x : Nat} (hx : x < 256) (σ : sm_St) : xf_X4_isDigit (nI x) σ = some (if tx_dg x = true then 1 else 0, σ) := by
  unfold xf_X4_isDigit tx_dg
  have e1 : nI x < 48 ↔ x < 48 := nI_ltI (b := 48) (by omega) (by decide)
  have e2 : (57 : Int32) < nI x ↔ 57 < x := nI_ltI (a := 57) (by decide) (by omega)
  simp only [e1, e2, decide_eq_true_eq]
  by_cases c1 : x < 48
  · rw [if_pos c1, if_neg (by omega)]
  · rw [if_neg c1]
    by_cases c2 : 57 < x
    · rw [if_pos c2, if_neg (by omega)]
    · rw [if_neg c2, if_pos (by omega)]
theorem xf_lt {x : Nat} (hx : x < 256) (σ : sm_St) : xf_X4_isLetter (nI x) σ = some (if tx_lt x = true then 1 else 0, σ) := by
  unfold xf_X4_isLetter tx_lt
  have e1 : nI x < 97 ↔ x < 97 := nI_ltI (b := 97) (by omega) (by decide)
  have e2 : (122 : Int32) < nI x ↔ 122 < x := nI_ltI (a := 122) (by decide) (by omega)
  simp only [e1, e2, decide_eq_true_eq]
  by_cases c1 : x < 97
  · rw [if_pos c1, if_neg (by omega)]
  · rw [if_neg c1]
    by_cases c2 : 122 < x
    · rw [if_pos c2, if_neg (by omega)]
    · rw [if_neg c2, if_pos (by omega)]
/-- blanks -/
theorem xf_blL (hn : n ≤ 160) (hβ : ∀ i, i < n → β i < 256) : ∀ (d i F : Nat) (σ : sm_St), i + d = n → d < F → tx_X β n σ → σ.1 13 4 = nI i → ∃ σ', xf_X4_step_p0 F σ = xf_X4_step_p52 σ' ∧ tx_f σ σ' ∧ σ'.1 13 4 = nI (tx_ru (fun i => tx_bl (β i)) d i) := by
  intro d
  induction d with
  | zero =>
    intro i F σ h1 h2 hX h4
    obtain ⟨F, rfl⟩ : ∃ n', F = n' + 1 := ⟨F - 1, by omega⟩
    have : i = n := by omega
    subst this
    rw [xf_X4_step_p0]
    simp only [sm_bS, h4, hX.1]
    rw [if_pos (nI_le (Nat.le_refl _) (by omega))]
    exact ⟨σ, rfl, tx_f.rf _, h4⟩
  | succ d ih =>
    intro i F σ h1 h2 hX h4
    obtain ⟨F, rfl⟩ : ∃ n', F = n' + 1 := ⟨F - 1, by omega⟩
    have hi : i < n := by omega
    have nl : ¬ nI n ≤ nI i := nI_ge hi (by omega)
    have bi := hβ i hi
    have e1 : (nI (β i) = 32) = (β i = 32) := nI_eqL (b := 32) (by omega) (by decide)
    have e2 : (nI (β i) = 10) = (β i = 10) := nI_eqL (b := 10) (by omega) (by decide)
    have en : nI i + 1 = nI (i + 1) := nI_1 i
    rw [xf_X4_step_p0]
    simp only [sm_bS, h4, hX.1, nl, if_false, sm_gIn (show i < 160 by omega) (by decide : 160 < 2 ^ 31), nI_cl (show i < 2 ^ 31 by omega), hX.2 i hi, e1, e2, xf_X4_step_p39, en]
    have f1 : tx_f σ (sm_sI σ 13 4 (nI (i + 1))) := tx_f.st (by decide)
    obtain ⟨σ', q1, q2, q3⟩ := ih (i + 1) F (sm_sI σ 13 4 (nI (i + 1))) (by omega) (by omega) (hX.f f1) sm_rE
    by_cases c : tx_bl (β i) = true
    · have er : tx_ru (fun i => tx_bl (β i)) (d + 1) i = tx_ru (fun i => tx_bl (β i)) d (i + 1) := if_pos c
      rw [er]
      unfold tx_bl at c
      have c := of_decide_eq_true c
      refine ⟨σ', ?_, f1.tr q2, q3⟩
      rcases c with c | c
      · rw [if_pos c]; exact q1
      · rw [if_neg (by omega), if_pos c]; exact q1
    · have er : tx_ru (fun i => tx_bl (β i)) (d + 1) i = i := if_neg c
      rw [er]
      unfold tx_bl at c
      have c : ¬ (β i = 32 ∨ β i = 10) := fun e => c (decide_eq_true e)
      refine ⟨σ, ?_, tx_f.rf _, h4⟩
      rw [if_neg (fun e => c (Or.inl e)), if_neg (fun e => c (Or.inr e))]
/-- digits -/
theorem xf_dgL (hn : n ≤ 160) (hβ : ∀ i, i < n → β i < 256) : ∀ (d i F : Nat) (σ : sm_St), i + d = n → d < F → s ≤ i → tx_X β n σ → σ.1 13 3 = nI s → σ.1 13 4 = nI i → σ.1 13 5 = nI (tx_va β s (i - s)) → ∃ σ', xf_X4_stepNumber_p5 F σ = xf_X4_stepNumber_p81 σ' ∧ tx_f σ σ' ∧ σ'.1 13 3 = nI s ∧ σ'.1 13 4 = nI (tx_ru (fun i => tx_dg (β i)) d i) ∧ σ'.1 13 5 = nI (tx_va β s (tx_ru (fun i => tx_dg (β i)) d i - s)) := by
  intro d
  induction d with
  | zero =>
    intro i F σ h1 h2 h0 hX h3 h4 h5
    obtain ⟨F, rfl⟩ : ∃ n', F = n' + 1 := ⟨F - 1, by omega⟩
    have : i = n := by omega
    subst this
    rw [xf_X4_stepNumber_p5]
    simp only [sm_bS, h4, hX.1]
    rw [if_pos (nI_le (Nat.le_refl _) (by omega))]
    exact ⟨σ, rfl, tx_f.rf _, h3, h4, h5⟩
  | succ d ih =>
    intro i F σ h1 h2 h0 hX h3 h4 h5
    obtain ⟨F, rfl⟩ : ∃ n', F = n' + 1 := ⟨F - 1, by omega⟩
    have hi : i < n := by omega
    have nl : ¬ nI n ≤ nI i := nI_ge hi (by omega)
    have bi := hβ i hi
    have en : nI i + 1 = nI (i + 1) := nI_1 i
    have es : nI i - nI s = nI (i - s) := nI_subT (by omega)
    have e4 : (4 : Int32) ≤ nI (i - s) ↔ 4 ≤ i - s := nI_leI (a := 4) (by decide) (by omega)
    rw [xf_X4_stepNumber_p5]
    simp only [sm_bS, h4, hX.1, nl, if_false, sm_gIn (show i < 160 by omega) (by decide : 160 < 2 ^ 31), nI_cl (show i < 2 ^ 31 by omega), hX.2 i hi, xf_dg bi, sm_cS, h3, h5, es, e4]
    by_cases c : tx_dg (β i) = true
    · have er : tx_ru (fun i => tx_dg (β i)) (d + 1) i = tx_ru (fun i => tx_dg (β i)) d (i + 1) := if_pos c
      rw [er, if_pos c, if_neg i10]
      have c' := c
      unfold tx_dg at c'
      have c' := of_decide_eq_true c'
      have ev : tx_va β s (i - s + 1) = if i - s < 4 then tx_va β s (i - s) * 10 + β (s + (i - s)) - 48 else tx_va β s (i - s) := rfl
      rw [show s + (i - s) = i by omega, show i - s + 1 = i + 1 - s by omega] at ev
      by_cases c4 : 4 ≤ i - s
      · rw [if_pos c4]
        rw [if_neg (by omega)] at ev
        simp only [xf_X4_stepNumber_p68, sm_bS, h4, en]
        have f1 : tx_f σ (sm_sI σ 13 4 (nI (i + 1))) := tx_f.st (by decide)
        obtain ⟨σ', q1, q2, q3, q4, q5⟩ := ih (i + 1) F (sm_sI σ 13 4 (nI (i + 1))) (by omega) (by omega) (by omega) (hX.f f1) (by rw [sm_rI1 13 3 (by decide)]; exact h3) sm_rE (by rw [sm_rI1 13 5 (by decide), h5, ev])
        exact ⟨σ', q1, f1.tr q2, q3, q4, q5⟩
      · rw [if_neg c4]
        rw [if_pos (by omega)] at ev
        have em : nI (tx_va β s (i - s)) * 10 = nI (tx_va β s (i - s) * 10) := pk_mul _ 10
        have e48 : nI (tx_va β s (i - s) * 10 + β i) - 48 = nI (tx_va β s (i - s) * 10 + β i - 48) := nI_subT (b := 48) (by omega)
        simp only [xf_X4_stepNumber_p68, sm_bS, em, nI_add, e48]
        have f1 : tx_f σ (sm_sI σ 13 5 (nI (tx_va β s (i - s) * 10 + β i - 48))) := tx_f.st (by decide)
        rw [sm_rI1 13 4 (by decide), h4, en]
        have f2 : tx_f (sm_sI σ 13 5 (nI (tx_va β s (i - s) * 10 + β i - 48))) (sm_sI (sm_sI σ 13 5 (nI (tx_va β s (i - s) * 10 + β i - 48))) 13 4 (nI (i + 1))) := tx_f.st (by decide)
        obtain ⟨σ', q1, q2, q3, q4, q5⟩ := ih (i + 1) F _ (by omega) (by omega) (by omega) ((hX.f f1).f f2) (by rw [sm_rI1 13 3 (by decide), sm_rI1 13 3 (by decide)]; exact h3) sm_rE (by rw [sm_rI1 13 5 (by decide), sm_rE, ev])
        exact ⟨σ', q1, (f1.tr f2).tr q2, q3, q4, q5⟩
    · have er : tx_ru (fun i => tx_dg (β i)) (d + 1) i = i := if_neg c
      rw [er, if_neg c, if_pos rfl]
      exact ⟨σ, rfl, tx_f.rf _, h3, h4, h5⟩
/-- letters -/
theorem xf_ltL (hn : n ≤ 160) (hβ : ∀ i, i < n → β i < 256) : ∀ (d i F : Nat) (σ : sm_St), i + d = n → d < F → tx_X β n σ → σ.1 13 3 = nI s → σ.1 13 4 = nI i → ∃ σ', xf_X4_stepWord_p0 F σ = xf_X4_stepWord_p39 σ' ∧ tx_f σ σ' ∧ σ'.1 13 3 = nI s ∧ σ'.1 13 4 = nI (tx_ru (fun i => tx_lt (β i)) d i) := by
  intro d
  induction d with
  | zero =>
    intro i F σ h1 h2 hX h3 h4
    obtain ⟨F, rfl⟩ : ∃ n', F = n' + 1 := ⟨F - 1, by omega⟩
    have : i = n := by omega
    subst this
    rw [xf_X4_stepWord_p0]
    simp only [sm_bS, h4, hX.1]
    rw [if_pos (nI_le (Nat.le_refl _) (by omega))]
    exact ⟨σ, rfl, tx_f.rf _, h3, h4⟩
  | succ d ih =>
    intro i F σ h1 h2 hX h3 h4
    obtain ⟨F, rfl⟩ : ∃ n', F = n' + 1 := ⟨F - 1, by omega⟩
    have hi : i < n := by omega
    have nl : ¬ nI n ≤ nI i := nI_ge hi (by omega)
    have bi := hβ i hi
    have en : nI i + 1 = nI (i + 1) := nI_1 i
    rw [xf_X4_stepWord_p0]
    simp only [sm_bS, h4, hX.1, nl, if_false, sm_gIn (show i < 160 by omega) (by decide : 160 < 2 ^ 31), nI_cl (show i < 2 ^ 31 by omega), hX.2 i hi, xf_lt bi, sm_cS, en]
    by_cases c : tx_lt (β i) = true
    · have er : tx_ru (fun i => tx_lt (β i)) (d + 1) i = tx_ru (fun i => tx_lt (β i)) d (i + 1) := if_pos c
      rw [er, if_pos c, if_neg i10]
      have f1 : tx_f σ (sm_sI σ 13 4 (nI (i + 1))) := tx_f.st (by decide)
      obtain ⟨σ', q1, q2, q3, q4⟩ := ih (i + 1) F (sm_sI σ 13 4 (nI (i + 1))) (by omega) (by omega) (hX.f f1) (by rw [sm_rI1 13 3 (by decide)]; exact h3) sm_rE
      exact ⟨σ', q1, f1.tr q2, q3, q4⟩
    · have er : tx_ru (fun i => tx_lt (β i)) (d + 1) i = i := if_neg c
      rw [er, if_neg c, if_pos rfl]
      exact ⟨σ, rfl, tx_f.rf _, h3, h4⟩
theorem xf_word53 {w i x : Nat} {K : sm_St → Int32 → Option (Int32 × sm_St)} (h : 6 * w + i < 72) (hx : x < 256) : xf_X4_isWord_p53 (nI w) K σ (nI i) (nI x) = if tx_w (6 * w + i) = x then K σ (nI (i + 1)) else some (0, σ) := by
  have em : nI w * 6 = nI (6 * w) := by rw [Nat.mul_comm]; exact pk_mul w 6
  have wx := tx_wB (6 * w + i) h
  have eq : nI (tx_w (6 * w + i)) = nI x ↔ tx_w (6 * w + i) = x := nI_eq (by omega) (by omega)
  unfold xf_X4_isWord_p53
  simp only [sm_bS, em, nI_add, xf_charW h, sm_cS, nI_inc]
  by_cases c : tx_w (6 * w + i) = x
  · rw [if_pos c, if_pos (eq.mpr c)]
  · rw [if_neg c, if_neg (mt eq.mp c)]
theorem xf_wordS {e w i F x : Nat} (hn : n ≤ 160) (hβ : ∀ i, i < n → β i < 256) (hw : w < 12) (hi : i < 6) (he : e ≤ n) (hs : s ≤ n) (hX : tx_X β n σ) (h3 : σ.1 13 3 = nI s) (h4 : σ.1 13 4 = nI e) (hx : (s + i < e → x = β (s + i)) ∧ (¬ s + i < e → x = 32)) : xf_X4_isWord_p18 (nI w) (F + 1) σ (nI i) = if tx_w (6 * w + i) = x then xf_X4_isWord_p18 (nI w) F σ (nI (i + 1)) else some (0, σ) := by
  have nl : ¬ (6 : Int32) ≤ nI i := nI_ge (b := 6) hi (by decide)
  have z1 : e < 2 ^ 31 := by omega
  have z2 : s + i < 2 ^ 31 := by omega
  have xb : x < 256 := by
    by_cases c : s + i < e
    · rw [hx.1 c]; exact hβ _ (by omega)
    · rw [hx.2 c]; decide
  rw [← xf_word53 (K := xf_X4_isWord_p18 (nI w) F) (σ := σ) (show 6 * w + i < 72 by omega) xb]
  have E : xf_X4_isWord_p18 (nI w) (F + 1) σ (nI i) = if (6 : Int32) ≤ nI i then some (1, σ) else if σ.1 13 4 ≤ σ.1 13 3 + nI i then xf_X4_isWord_p53 (nI w) (xf_X4_isWord_p18 (nI w) F) σ (nI i) 32 else sm_g (sm_in (σ.1 13 3 + nI i) 160) (xf_X4_isWord_p53 (nI w) (xf_X4_isWord_p18 (nI w) F) σ (nI i) (σ.1 14 (σ.1 13 3 + nI i).toNatClampNeg)) := by
    rw [xf_X4_isWord_p18]
    simp only [sm_bN]
  rw [E, if_neg nl, h3, h4]
  have ea : nI s + nI i = nI (s + i) := nI_add s i
  by_cases c : s + i < e
  · have c0 : ¬ e ≤ s + i := by omega
    have c2 : s + i < 160 := by omega
    have ex : σ.1 14 (s + i) = nI x := by rw [hx.1 c]; exact hX.2 (s + i) (by omega)
    have c1 : ¬ nI e ≤ nI s + nI i := by rw [ea]; exact mt (nI_leI z1 z2).mp c0
    rw [if_neg c1, ea, sm_gIn c2 (by decide : 160 < 2 ^ 31), nI_cl z2, ex]
  · have c0 : e ≤ s + i := by omega
    have c1 : nI e ≤ nI s + nI i := by rw [ea]; exact (nI_leI z1 z2).mpr c0
    rw [if_pos c1, hx.2 c]
    rfl
theorem xf_wordL {e w : Nat} {q : Nat → Bool} (hq : ∀ i, q i = decide ((if s + i < e then β (s + i) else 32) = tx_w (6 * w + i))) (hn : n ≤ 160) (hβ : ∀ i, i < n → β i < 256) (hw : w < 12) (he : e ≤ n) (hs : s ≤ n) (hX : tx_X β n σ) (h3 : σ.1 13 3 = nI s) (h4 : σ.1 13 4 = nI e) : ∀ (d i F : Nat), i + d = 6 → d < F → tx_al q i = true → xf_X4_isWord_p18 (nI w) F σ (nI i) = some (if tx_al q 6 = true then 1 else 0, σ) := by
  intro d
  induction d with
  | zero =>
    intro i F h1 h2 h
    obtain ⟨F, rfl⟩ : ∃ n', F = n' + 1 := ⟨F - 1, by omega⟩
    have : i = 6 := by omega
    subst this
    rw [xf_X4_isWord_p18, if_pos (by decide), if_pos h]
  | succ d ih =>
    intro i F h1 h2 h
    obtain ⟨F, rfl⟩ : ∃ n', F = n' + 1 := ⟨F - 1, by omega⟩
    have hi : i < 6 := by omega
    obtain ⟨x, ex⟩ : ∃ x, x = (if s + i < e then β (s + i) else 32) := ⟨_, rfl⟩
    have hqi : q i = decide (x = tx_w (6 * w + i)) := by rw [hq i, ← ex]
    rw [xf_wordS (x := x) hn hβ hw hi he hs hX h3 h4 ⟨fun z => by rw [ex, if_pos z], fun z => by rw [ex, if_neg z]⟩]
    by_cases c : tx_w (6 * w + i) = x
    · rw [if_pos c]
      refine ih (i + 1) F (by omega) (by omega) ?_
      have e2 : tx_al q (i + 1) = (tx_al q i && q i) := rfl
      rw [e2, h, hqi, c]
      simp
    · rw [if_neg c, if_neg (fun z => ?_)]
      have z := ((tx_alE q 6).mp z) i hi
      rw [hqi] at z
      exact c (of_decide_eq_true z).symm
end
