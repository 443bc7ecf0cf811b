/-! the reference's step; what it asks of a token -/
theorem tm_sgE : ∀ x, x < 256 → (tx_sg x = true ↔ (nI x = 40 ∨ nI x = 41 ∨ nI x = 59 ∨ nI x = 43 ∨ nI x = 45 ∨ nI x = 42 ∨ nI x = 60 ∨ nI x = 61)) ∧ (0 ≤ nI x) ∧ (tx_bl x = false → ¬ nI x = 32 ∧ ¬ nI x = 10) := by decide +kernel
section
variable {β : Nat → Nat} {n p s e t : Nat} {σ : sm_St}
theorem mf_nextE (hn : n ≤ 160) (ht : t < 6) (hβ : ∀ i, i < n → β i < 256) (hp : p ≤ n) (hX : tm_X β n t σ) (h4 : σ.1 0 24 = nI p) : ∃ σ', mf_X8_next σ = some ((), σ') ∧ tm_f σ σ' ∧ tm_At β n p σ' := by
  obtain ⟨sb1, sb2⟩ := tx_sB (β := β) hp
  obtain ⟨eb1, eb2, eb3⟩ := tx_eB (β := β) hp
  obtain ⟨f, u, u1, u2, u3, -⟩ := mf_blL hn ht hβ (n - p) p sm_F σ (by omega) (by have := sm_Fge; omega) hX h4
  have u3 : u.1 0 24 = nI (tx_s β n p) := u3
  have uX := hX.f u2
  have f1 : tm_f u (sm_sI u 0 26 (nI (tx_s β n p))) := tm_f.st (by decide)
  have f2 : tm_f (sm_sI u 0 26 (nI (tx_s β n p))) (sm_sI (sm_sI u 0 26 (nI (tx_s β n p))) 0 25 4) := tm_f.st (by decide)
  have X1 := uX.f f1
  have X2 := X1.f f2
  have a4 : (sm_sI u 0 26 (nI (tx_s β n p))).1 0 24 = nI (tx_s β n p) := by rw [sm_rI1 0 24 (by decide)]; exact u3
  have b4 : (sm_sI (sm_sI u 0 26 (nI (tx_s β n p))) 0 25 4).1 0 24 = nI (tx_s β n p) := by rw [sm_rI1 0 24 (by decide)]; exact a4
  have b6 : (sm_sI (sm_sI u 0 26 (nI (tx_s β n p))) 0 25 4).1 0 26 = nI (tx_s β n p) := by rw [sm_rI1 0 26 (by decide)]; exact sm_rE
  have b5 : (sm_sI (sm_sI u 0 26 (nI (tx_s β n p))) 0 25 4).1 0 25 = 4 := sm_rE
  have nb : ¬ tm_b β n (tx_s β n p) = 32 ∧ ¬ tm_b β n (tx_s β n p) = 10 := by
    unfold tm_b
    by_cases c : tx_s β n p < n
    · rw [if_pos c]
      exact (tm_sgE _ (hβ _ c)).2.2 (tx_ruE (fun i => tx_bl (β i)) (n - p) p (by
        have : tx_ru (fun i => tx_bl (β i)) (n - p) p = tx_s β n p := rfl
        omega))
    · rw [if_neg c]
      decide
  unfold mf_X8_next
  rw [u1, mf_X8_next_p0]
  have z : tx_s β n p < 1000 := by omega
  simp only [sm_bN, u3, mf_byteE hn ht uX z, sm_cS, nb.1, nb.2, if_false, a4, mf_byteE hn ht X1 z, mf_letE hβ, mf_digE hβ]
  generalize sm_sI (sm_sI u 0 26 (nI (tx_s β n p))) 0 25 4 = v at f2 X2 b4 b6 b5 ⊢
  have fv : tm_f σ v := (u2.tr f1).tr f2
  unfold tm_At
  by_cases c : tx_s β n p < n
  · have bs := hβ _ c
    obtain ⟨g1, g2, -⟩ := tm_sgE _ bs
    have eb : tm_b β n (tx_s β n p) = nI (β (tx_s β n p)) := if_pos c
    rw [eb, if_pos g2, decide_eq_true c, Bool.true_and, Bool.true_and]
    by_cases cl : tx_lt (β (tx_s β n p)) = true
    · have cd : ¬ tx_dg (β (tx_s β n p)) = true := by
        intro z
        unfold tx_dg at z
        unfold tx_lt at cl
        have z := of_decide_eq_true z
        have cl := of_decide_eq_true cl
        omega
      have e3 : tx_e β n p = tx_ru (fun i => tx_lt (β i)) (n - tx_s β n p) (tx_s β n p) := by
        unfold tx_e
        rw [if_neg (by omega), if_neg cd, if_pos cl]
      have e2 : tx_c β n p = tx_wl (tx_wm β (tx_s β n p) (tx_e β n p)) 12 := by
        unfold tx_c
        rw [if_neg (by omega), if_neg cd, if_pos cl]
      rw [if_pos cl, if_neg i10]
      have f3 : tm_f v (sm_sI v 0 25 1) := tm_f.st (by decide)
      obtain ⟨w, w1, w2, w3⟩ := mf_ltL hn ht hβ (n - tx_s β n p) (tx_s β n p) sm_F (sm_sI v 0 25 1) (by omega) (by have := sm_Fge; omega) (X2.f f3) (by rw [sm_rI1 0 24 (by decide)]; exact b4)
      rw [← e3] at w3
      refine ⟨w, w1, (fv.tr f3).tr (fun c j hc => w2 c j (by omega)), by rw [w2 0 26 (by decide), sm_rI1 0 26 (by decide)]; exact b6, Or.inr (Or.inr (Or.inl ⟨by rw [w2 0 25 (by decide), sm_rE], w3, c, fun i h1 h2 => ?_, e2⟩))⟩
      rw [e3] at h2
      exact tx_ruQ (fun i => tx_lt (β i)) (n - tx_s β n p) (tx_s β n p) i h1 h2
    · rw [if_neg cl, if_pos rfl]
      by_cases cd : tx_dg (β (tx_s β n p)) = true
      · have e3 : tx_e β n p = tx_ru (fun i => tx_dg (β i)) (n - tx_s β n p) (tx_s β n p) := by
          unfold tx_e
          rw [if_neg (by omega), if_pos cd]
        have e2 : tx_c β n p = if tx_e β n p - tx_s β n p ≤ 4 then 2 else 1 := by
          unfold tx_c
          rw [if_neg (by omega), if_pos cd]
        rw [if_pos cd, if_neg i10]
        have f3 : tm_f v (sm_sL (sm_sI v 0 25 2) 0 27 0) := tm_f.tr (tm_f.st (by decide)) tm_f.sL
        obtain ⟨w, w1, w2, w3, w4, w5⟩ := mf_dgL (s := tx_s β n p) hn ht hβ (n - tx_s β n p) (tx_s β n p) sm_F (sm_sL (sm_sI v 0 25 2) 0 27 0) (by omega) (by have := sm_Fge; omega) (Nat.le_refl _) (X2.f f3) (by rw [sm_rLi, sm_rI1 0 24 (by decide)]; exact b4) (by rw [Nat.sub_self]; exact sm_rLE)
        rw [Nat.sub_self] at w1
        rw [← e3] at w3 w4 w5
        refine ⟨w, w1, (fv.tr f3).tr (fun c j hc => w2 c j (by omega)), by rw [w2 0 26 (by decide), sm_rLi, sm_rI1 0 26 (by decide)]; exact b6, ?_⟩
        by_cases c4 : tx_e β n p - tx_s β n p ≤ 4
        · rw [if_pos c4] at e2 w4
          exact Or.inr (Or.inl ⟨e2, w4, w5, w3⟩)
        · rw [if_neg c4] at e2 w4
          exact Or.inr (Or.inr (Or.inr (Or.inr ⟨e2, w4⟩)))
      · rw [if_neg cd, if_pos rfl]
        have e3 : tx_e β n p = tx_s β n p + 1 := by
          unfold tx_e
          rw [if_neg (by omega), if_neg cd, if_neg cl]
        have e2 : tx_c β n p = if tx_sg (β (tx_s β n p)) = true then β (tx_s β n p) else 1 := by
          unfold tx_c
          rw [if_neg (by omega), if_neg cd, if_neg cl]
        have en : nI (tx_s β n p) + 1 = nI (tx_s β n p + 1) := nI_1 _
        by_cases cs : tx_sg (β (tx_s β n p)) = true
        · rw [if_pos cs] at e2
          have P : ∃ σ', mf_X8_next_p300 v (nI (β (tx_s β n p))) = some ((), σ') ∧ tm_f σ σ' ∧ σ'.1 0 26 = nI (tx_s β n p) ∧ ((tx_c β n p = 0 ∧ σ'.1 0 25 = 0) ∨ (tx_c β n p = 2 ∧ σ'.1 0 25 = 2 ∧ σ'.2.1 0 27 = lN (tx_v β n p) ∧ σ'.1 0 24 = nI (tx_e β n p)) ∨ (σ'.1 0 25 = 1 ∧ σ'.1 0 24 = nI (tx_e β n p) ∧ tx_s β n p < n ∧ (∀ i, tx_s β n p ≤ i → i < tx_e β n p → tx_lt (β i) = true) ∧ tx_c β n p = tx_wl (tx_wm β (tx_s β n p) (tx_e β n p)) 12) ∨ (tx_sg (tx_c β n p) = true ∧ σ'.1 0 25 = 3 ∧ σ'.2.1 0 27 = lN (tx_c β n p) ∧ σ'.1 0 24 = nI (tx_e β n p)) ∨ (tx_c β n p = 1 ∧ σ'.1 0 25 = 4)) := by
            unfold mf_X8_next_p300
            simp only [sm_bN, sm_rLi, sm_rI1 0 24 (show (0 : Nat) ≠ 0 ∨ 24 ≠ 25 by decide), b4, en]
            refine ⟨_, rfl, fv.tr (tm_f.tr (tm_f.tr (tm_f.st (by decide)) tm_f.sL) (tm_f.st (by decide))), ?_, Or.inr (Or.inr (Or.inr (Or.inl ⟨by rw [e2]; exact cs, ?_, ?_, by rw [sm_rE, e3]⟩)))⟩
            · rw [sm_rI1 0 26 (by decide), sm_rLi, sm_rI1 0 26 (by decide)]; exact b6
            · rw [sm_rI1 0 25 (by decide), sm_rLi, sm_rE]
            · rw [e2, ← nI_l (show β (tx_s β n p) < 2 ^ 31 by omega)]
              exact sm_rLE
          have g := g1.mp cs
          generalize nI (β (tx_s β n p)) = y at g P ⊢
          rcases g with rfl | rfl | rfl | rfl | rfl | rfl | rfl | rfl
          · rw [if_pos rfl]; exact P
          · rw [if_neg (by decide), if_pos rfl]; exact P
          · rw [if_neg (by decide), if_neg (by decide), if_pos rfl]; exact P
          · rw [if_neg (by decide), if_neg (by decide), if_neg (by decide), if_pos rfl]; exact P
          · rw [if_neg (by decide), if_neg (by decide), if_neg (by decide), if_neg (by decide), if_pos rfl]; exact P
          · rw [if_neg (by decide), if_neg (by decide), if_neg (by decide), if_neg (by decide), if_neg (by decide), if_pos rfl]; exact P
          · rw [if_neg (by decide), if_neg (by decide), if_neg (by decide), if_neg (by decide), if_neg (by decide), if_neg (by decide), if_pos rfl]; exact P
          · rw [if_neg (by decide), if_neg (by decide), if_neg (by decide), if_neg (by decide), if_neg (by decide), if_neg (by decide), if_neg (by decide), if_pos rfl]; exact P
        · rw [if_neg cs] at e2
          have g := mt g1.mpr cs
          simp only [not_or] at g
          rw [if_neg g.1, if_neg g.2.1, if_neg g.2.2.1, if_neg g.2.2.2.1, if_neg g.2.2.2.2.1, if_neg g.2.2.2.2.2.1, if_neg g.2.2.2.2.2.2.1, if_neg g.2.2.2.2.2.2.2]
          exact ⟨v, rfl, fv, b6, Or.inr (Or.inr (Or.inr (Or.inr ⟨e2, b5⟩)))⟩
  · have eb : tm_b β n (tx_s β n p) = -1 := if_neg c
    have e2 : tx_c β n p = 0 := by
      unfold tx_c
      rw [if_pos (by omega)]
    rw [eb, if_neg (by decide)]
    have v23 : (sm_sI v 0 25 0).1 0 23 = nI n := by rw [sm_rI1 0 23 (by decide)]; exact X2.2.1
    rw [v23]
    exact ⟨_, rfl, fv.tr (tm_f.tr (tm_f.st (by decide)) (tm_f.st (by decide))), by rw [sm_rE]; exact congrArg nI (by omega), Or.inl ⟨e2, by rw [sm_rI1 0 25 (by decide), sm_rE]⟩⟩
theorem lg_ceq {a b : Nat} (ha : a < 2 ^ 63) (hb : b < 2 ^ 63) : (lg_cmp (lN a) (lN b) = 0) ↔ a = b := by
  have q := pk_lEQ ha hb
  rw [← q]
  unfold lg_cmp
  grind
/-- whether the token is that sign -/
theorem mf_signE {k : Nat} (hk : tx_sg k = true) (hb : σ.1 0 29 = 0) (h : tm_At β n p σ) : mf_X8_isSign (nI k) σ = some (if tx_c β n p = k then 1 else 0, σ) := by
  have k1 : 40 ≤ k ∧ k ≤ 61 := by
    unfold tx_sg at hk
    have hk := of_decide_eq_true hk
    omega
  have cB := @tx_cB β n p
  unfold mf_X8_isSign
  simp only [sm_bN, hb, if_true]
  rcases h.2 with ⟨h1, h2⟩ | ⟨h1, h2, -⟩ | ⟨h2, -, -, -, h1⟩ | ⟨h1, h2, h3, -⟩ | ⟨h1, h2⟩
  · rw [h2, if_neg (by decide), if_neg (by omega)]
  · rw [h2, if_neg (by decide), if_neg (by omega)]
  · have := tx_wlB (tx_wm β (tx_s β n p) (tx_e β n p)) 12
    rw [h2, if_neg (by decide), if_neg (by omega)]
  · have q := lg_ceq (a := tx_c β n p) (b := k) (by omega) (by omega)
    rw [h2, if_pos rfl, h3, nI_l (by omega)]
    by_cases c : tx_c β n p = k
    · rw [if_pos (q.mpr c), if_pos c]
    · rw [if_neg (mt q.mp c), if_neg c]
  · rw [h2, if_neg (by decide), if_neg (by omega)]
theorem mf_signB {k : Int32} (hb : ¬ σ.1 0 29 = 0) : mf_X8_isSign k σ = some (0, σ) := by
  unfold mf_X8_isSign
  simp only [sm_bN, hb, if_false]
theorem mf_wordB {a b c d e f g h : Int32} (hb : ¬ σ.1 0 29 = 0) : mf_X8_isWord a b c d e f g h σ = some (0, σ) := by
  unfold mf_X8_isWord
  simp only [sm_bN, hb, if_false]
def tm_l (β : Nat → Nat) (s e i a : Nat) : Bool := if s + i < e then decide (β (s + i) = a) else decide (a = 0)
theorem mf_letterE {a i : Nat} (hn : n ≤ 160) (ht : t < 6) (hβ : ∀ i, i < n → β i < 256) (hX : tm_X β n t σ) (hs : s ≤ n) (he : e ≤ n) (hi : i < 8) (ha : a < 256) (h26 : σ.1 0 26 = nI s) (h24 : σ.1 0 24 = nI e) : mf_X8_isLetter (nI i) (nI a) σ = some (if tm_l β s e i a = true then 1 else 0, σ) := by
  have ea : nI s + nI i = nI (s + i) := nI_add s i
  have z1 : e < 2 ^ 31 := by omega
  have z2 : s + i < 2 ^ 31 := by omega
  have z3 : s + i < 1000 := by omega
  unfold mf_X8_isLetter tm_l
  simp only [sm_bN, h26, h24, ea]
  by_cases c : s + i < e
  · have c1 : ¬ nI e ≤ nI (s + i) := nI_ge c z1
    rw [if_neg c1, if_pos c, mf_byteE hn ht hX z3]
    have eb : tm_b β n (s + i) = nI (β (s + i)) := if_pos (by omega)
    have bb := hβ (s + i) (by omega)
    have q : nI (β (s + i)) = nI a ↔ β (s + i) = a := nI_eq (by omega) (by omega)
    simp only [sm_cS, eb]
    by_cases c2 : β (s + i) = a
    · rw [if_pos (q.mpr c2), decide_eq_true c2, if_pos rfl]
    · rw [if_neg (mt q.mp c2), decide_eq_false c2, if_neg (by decide)]
  · have c1 : nI e ≤ nI (s + i) := nI_le (by omega) z2
    have q : nI a = 0 ↔ a = 0 := nI_eq (b := 0) (by omega) (by decide)
    rw [if_pos c1, if_neg c]
    by_cases c2 : a = 0
    · rw [if_pos (q.mpr c2), decide_eq_true c2, if_pos rfl]
    · rw [if_neg (mt q.mp c2), decide_eq_false c2, if_neg (by decide)]
theorem tm_word {A : Nat → Nat} {w : Nat} (hw : w < 12) (hA : ∀ i, i < 8 → A i = if i < 6 ∧ tx_w (6 * w + i) ≠ 32 then tx_w (6 * w + i) else 0) (hl : ∀ i, s ≤ i → i < e → tx_lt (β i) = true) : (e ≤ s + 8 ∧ ∀ i, i < 8 → tm_l β s e i (A i) = true) ↔ tx_wm β s e w = true := by
  unfold tx_wm
  rw [Bool.and_eq_true, decide_eq_true_eq, tx_alE]
  have L : ∀ i, s + i < e → 97 ≤ β (s + i) := fun i hi => by
    have := hl (s + i) (by omega) hi
    unfold tx_lt at this
    have := of_decide_eq_true this
    omega
  constructor
  · intro ⟨h1, h2⟩
    refine ⟨?_, fun i hi => ?_⟩
    · by_cases c : s + 6 < e
      · exfalso
        have q := h2 6 (by decide)
        unfold tm_l at q
        rw [if_pos c] at q
        have q := of_decide_eq_true q
        rw [hA 6 (by decide), if_neg (by omega)] at q
        have := L 6 c
        omega
      · omega
    · refine decide_eq_true ?_
      have q := h2 i (by omega)
      unfold tm_l at q
      by_cases c : s + i < e
      · rw [if_pos c] at q ⊢
        have q := of_decide_eq_true q
        have := L i c
        rw [hA i (by omega)] at q
        split at q
        · exact q
        · omega
      · rw [if_neg c] at q ⊢
        have q := of_decide_eq_true q
        rw [hA i (by omega)] at q
        by_cases c2 : tx_w (6 * w + i) = 32
        · exact c2.symm
        · rw [if_pos ⟨hi, c2⟩] at q
          exfalso
          have nz : ∀ i, i < 72 → tx_w i ≠ 0 := by decide +kernel
          exact nz (6 * w + i) (by omega) q
  · intro ⟨h1, h2⟩
    refine ⟨by omega, fun i hi => ?_⟩
    unfold tm_l
    by_cases c : s + i < e
    · have q := of_decide_eq_true (h2 i (by omega))
      rw [if_pos c] at q ⊢
      have := L i c
      have n32 : tx_lt (β (s + i)) = true := hl _ (by omega) c
      have n32 : tx_w (6 * w + i) ≠ 32 := by
        rw [← q]
        omega
      rw [hA i hi, if_pos ⟨by omega, n32⟩]
      exact decide_eq_true q
    · rw [if_neg c, hA i hi]
      by_cases c2 : i < 6
      · have q := of_decide_eq_true (h2 i c2)
        rw [if_neg c] at q
        rw [if_neg (fun z => z.2 q.symm)]
        rfl
      · rw [if_neg (fun z => c2 z.1)]
        rfl
/-- whether the token is that word -/
theorem mf_wordE {A : Nat → Nat} {w : Nat} (hn : n ≤ 160) (ht : t < 6) (hβ : ∀ i, i < n → β i < 256) (hp : p ≤ n) (hX : tm_X β n t σ) (hw : w < 12) (hA : ∀ i, i < 8 → A i = if i < 6 ∧ tx_w (6 * w + i) ≠ 32 then tx_w (6 * w + i) else 0) (hb : σ.1 0 29 = 0) (h : tm_At β n p σ) : mf_X8_isWord (nI (A 0)) (nI (A 1)) (nI (A 2)) (nI (A 3)) (nI (A 4)) (nI (A 5)) (nI (A 6)) (nI (A 7)) σ = some (if tx_c β n p = 256 + w then 1 else 0, σ) := by
  obtain ⟨sb1, sb2⟩ := tx_sB (β := β) hp
  obtain ⟨eb1, eb2, eb3⟩ := tx_eB (β := β) hp
  have sgB : tx_sg (tx_c β n p) = true → tx_c β n p ≠ 256 + w := by
    intro z
    unfold tx_sg at z
    have z := of_decide_eq_true z
    omega
  unfold mf_X8_isWord
  simp only [sm_bN, hb, if_true]
  rcases h with ⟨h26, ⟨h1, h2⟩ | ⟨h1, h2, -⟩ | ⟨h2, h24, h3, hl, h1⟩ | ⟨h1, h2, h3, -⟩ | ⟨h1, h2⟩⟩
  · rw [h2, if_neg (by decide), if_neg (by omega)]
  · rw [h2, if_neg (by decide), if_neg (by omega)]
  · have wE : tx_c β n p = 256 + w ↔ tx_wm β (tx_s β n p) (tx_e β n p) w = true := by
      rw [h1]
      exact tx_wlE (fun a b ha hb => tx_wm1 ha hb) 12 (Nat.le_refl _) w hw
    have tw := tm_word (β := β) (s := tx_s β n p) (e := tx_e β n p) hw hA hl
    have aB : ∀ i, i < 8 → A i < 256 := fun i hi => by
      rw [hA i hi]
      split
      · exact tx_wB _ (by omega)
      · omega
    have L : ∀ i, i < 8 → mf_X8_isLetter (nI i) (nI (A i)) σ = some (if tm_l β (tx_s β n p) (tx_e β n p) i (A i) = true then 1 else 0, σ) := fun i hi => mf_letterE hn ht hβ hX sb2 eb2 hi (aB i hi) h26 h24
    have L0 : mf_X8_isLetter 0 (nI (A 0)) σ = _ := L 0 (by decide)
    have L1 : mf_X8_isLetter 1 (nI (A 1)) σ = _ := L 1 (by decide)
    have L2 : mf_X8_isLetter 2 (nI (A 2)) σ = _ := L 2 (by decide)
    have L3 : mf_X8_isLetter 3 (nI (A 3)) σ = _ := L 3 (by decide)
    have L4 : mf_X8_isLetter 4 (nI (A 4)) σ = _ := L 4 (by decide)
    have L5 : mf_X8_isLetter 5 (nI (A 5)) σ = _ := L 5 (by decide)
    have L6 : mf_X8_isLetter 6 (nI (A 6)) σ = _ := L 6 (by decide)
    have L7 : mf_X8_isLetter 7 (nI (A 7)) σ = _ := L 7 (by decide)
    have ea : nI (tx_s β n p) + 8 = nI (tx_s β n p + 8) := nI_add _ 8
    have el : ¬ nI (tx_s β n p) + 8 < nI (tx_e β n p) ↔ tx_e β n p ≤ tx_s β n p + 8 := by
      rw [ea, Int32.not_lt]
      exact nI_leI (by omega) (by omega)
    rw [h2, if_pos rfl, h24, h26]
    by_cases c8 : tx_e β n p ≤ tx_s β n p + 8
    · rw [if_neg (el.mpr c8), L0]
      have F : ∀ i, i < 8 → tm_l β (tx_s β n p) (tx_e β n p) i (A i) = false → ¬ tx_c β n p = 256 + w := fun i hi z y => by
        have := (tw.mpr (wE.mp y)).2 i hi
        rw [z] at this
        cases this
      cases b0 : tm_l β (tx_s β n p) (tx_e β n p) 0 (A 0) with
      | false => simp only [Bool.false_eq_true, if_false, sm_cS, if_true, F 0 (by decide) b0]
      | true =>
        simp only [if_true, sm_cS, i10, if_false, L1]
        cases b1 : tm_l β (tx_s β n p) (tx_e β n p) 1 (A 1) with
        | false => simp only [Bool.false_eq_true, if_false, sm_cS, if_true, F 1 (by decide) b1]
        | true =>
          simp only [if_true, sm_cS, i10, if_false, L2]
          cases b2 : tm_l β (tx_s β n p) (tx_e β n p) 2 (A 2) with
          | false => simp only [Bool.false_eq_true, if_false, sm_cS, if_true, F 2 (by decide) b2]
          | true =>
            simp only [if_true, sm_cS, i10, if_false, L3]
            cases b3 : tm_l β (tx_s β n p) (tx_e β n p) 3 (A 3) with
            | false => simp only [Bool.false_eq_true, if_false, sm_cS, if_true, F 3 (by decide) b3]
            | true =>
              simp only [if_true, sm_cS, i10, if_false, L4]
              cases b4 : tm_l β (tx_s β n p) (tx_e β n p) 4 (A 4) with
              | false => simp only [Bool.false_eq_true, if_false, sm_cS, if_true, F 4 (by decide) b4]
              | true =>
                simp only [if_true, sm_cS, i10, if_false, L5]
                cases b5 : tm_l β (tx_s β n p) (tx_e β n p) 5 (A 5) with
                | false => simp only [Bool.false_eq_true, if_false, sm_cS, if_true, F 5 (by decide) b5]
                | true =>
                  simp only [if_true, sm_cS, i10, if_false, L6]
                  cases b6 : tm_l β (tx_s β n p) (tx_e β n p) 6 (A 6) with
                  | false => simp only [Bool.false_eq_true, if_false, sm_cS, if_true, F 6 (by decide) b6]
                  | true =>
                    simp only [if_true, sm_cS, i10, if_false, L7]
                    cases b7 : tm_l β (tx_s β n p) (tx_e β n p) 7 (A 7) with
                    | false => simp only [Bool.false_eq_true, if_false, sm_cS, if_true, F 7 (by decide) b7]
                    | true =>
                      have y : tx_c β n p = 256 + w := wE.mpr (tw.mp ⟨c8, fun i hi => by
                        rcases (by omega : i = 0 ∨ i = 1 ∨ i = 2 ∨ i = 3 ∨ i = 4 ∨ i = 5 ∨ i = 6 ∨ i = 7) with z | z | z | z | z | z | z | z <;> subst z <;> assumption⟩)
                      simp only [if_true, sm_cS, i10, if_false, y]
    · have c9 : nI (tx_s β n p) + 8 < nI (tx_e β n p) := by
        by_cases z : nI (tx_s β n p) + 8 < nI (tx_e β n p)
        · exact z
        · exact absurd (el.mp z) c8
      have nw : ¬ tx_c β n p = 256 + w := fun y => c8 (tw.mpr (wE.mp y)).1
      rw [if_pos c9, if_neg nw]
  · rw [h2, if_neg (by decide), if_neg (sgB h1)]
  · rw [h2, if_neg (by decide), if_neg (by omega)]
end
