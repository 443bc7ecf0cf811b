/-! the class's productions -/
section
variable {β : Nat → Nat} {n p t o : Nat} {σ : sm_St} {l : List Int32}
theorem xs_acc {a : Nat} (ha : a < 300) (hn : n ≤ 160) (hβ : ∀ i, i < n → β i < 256) (ht : t < 6) (hp : p ≤ n) (hS : cx_S β n t l σ) (hA : tx_At β n p σ) : (tx_c β n p = a → ∃ u, xf_X4_accept (nI a) σ = some (1, u) ∧ cx_F t σ u ∧ cx_S β n t l u ∧ tx_At β n (tx_e β n p) u) ∧ (tx_c β n p ≠ a → xf_X4_accept (nI a) σ = some (0, σ)) := by
  have cB := @tx_cB β n p
  have q : nI (tx_c β n p) = nI a ↔ tx_c β n p = a := nI_eq (by omega) (by omega)
  refine ⟨fun h => ?_, fun h => ?_⟩
  · obtain ⟨u, u1, u2⟩ := xs_step hn hβ ht hp hS hA
    refine ⟨u, ?_, u2⟩
    unfold xf_X4_accept
    simp only [sm_bN, hA.1]
    rw [if_pos (q.mpr h), u1]
    rfl
  · unfold xf_X4_accept
    simp only [sm_bN, hA.1]
    rw [if_neg (mt q.mp h)]
theorem xs_one {f : Nat} (hn : n ≤ 160) (hβ : ∀ i, i < n → β i < 256) (ht : t < 6) (ho : o ≤ 5) (hf : (5 - o) * 6 < f + 1) (ih : ∀ w o p σ l, w ≤ 5 → o ≤ 5 → (5 - o) * 6 + w < f → p ≤ n → cx_S β n t l σ → tx_At β n p σ → l.length ≤ tx_s β n p → ∃ r σ', xg_read f w (nI o) σ = some (r, σ') ∧ cx_F t σ σ' ∧ cx_Q β n t l p r σ' (ps_rd β n f w o p)) (hp : p ≤ n) (hS : cx_S β n t l σ) (hA : tx_At β n p σ) (hl : l.length ≤ tx_s β n p) : ∃ r σ', xf_X4_readOne (xg_read f) (nI o) σ = some (r, σ') ∧ cx_F t σ σ' ∧ cx_Q β n t l p r σ' (ps_one β n (ps_rd β n f) o p) := by
  have cB := @tx_cB β n p
  have sn := (tx_sB (β := β) hp).2
  have q2 : nI (tx_c β n p) = 2 ↔ tx_c β n p = 2 := nI_eq (b := 2) (by omega) (by decide)
  have q3 : nI (tx_c β n p) < 256 ↔ tx_c β n p < 256 := nI_ltI (b := 256) (by omega) (by decide)
  have q4 : (262 : Int32) ≤ nI (tx_c β n p) ↔ 262 ≤ tx_c β n p := nI_leI (a := 262) (by decide) (by omega)
  have q5 : nI (tx_c β n p) = 45 ↔ tx_c β n p = 45 := nI_eq (b := 45) (by omega) (by decide)
  have q6 : nI o < 5 ↔ o < 5 := nI_ltI (b := 5) (by omega) (by decide)
  have L1 : ∀ x : Int32, ([x] : List Int32).length = 1 := fun _ => rfl
  -- what is one
  have single : ∀ v : Int32, tx_c β n p ≠ 0 → ∃ r σ', (sm_c (xf_X6_addNumber (16 + t) v σ) fun _ s => sm_c (xf_X4_step s) fun _ s' => some ((1 : Int32), s')) = some (r, σ') ∧ cx_F t σ σ' ∧ cx_Q β n t l p r σ' (.inr ([v], tx_e β n p)) := by
    intro v hc
    obtain ⟨p1, p2, p3⟩ := tx_pos hp hc
    obtain ⟨u, u1, u2, u3, u4⟩ := xf_addE (v := v) ht hS (by omega)
    obtain ⟨w, w1, w2, w3, w4⟩ := xs_step hn hβ ht hp u2 (hA.c u4)
    rw [u1]
    simp only [sm_cS, w1]
    exact ⟨1, w, rfl, u3.tr w2, rfl, w3, w4, p2, by show ([v] : List Int32).length + tx_s β n p ≤ tx_s β n (tx_e β n p); rw [L1]; omega, p1⟩
  -- what isn't
  have rest : ¬ tx_c β n p = 2 → ¬ (256 ≤ tx_c β n p ∧ tx_c β n p < 262) → ∃ r σ', xf_X4_readOne_p66 (xg_read f) (nI o) σ = some (r, σ') ∧ cx_F t σ σ' ∧ cx_Q β n t l p r σ' (ps_one β n (ps_rd β n f) o p) := by
    intro h2 hw
    unfold xf_X4_readOne_p66 ps_one
    rw [if_neg h2, if_neg hw]
    simp only [sm_bN, hA.1]
    by_cases c5 : 5 ≤ o
    · rw [if_pos c5, if_neg (mt q6.mp (by omega))]
      exact ⟨0, σ, rfl, cx_F.rf _ _, rfl, hA.2.1⟩
    · have en : nI o + 1 = nI (o + 1) := nI_1 o
      rw [if_neg c5, if_pos (q6.mpr (by omega))]
      by_cases cm : tx_c β n p = 45
      · obtain ⟨p1, p2, p3⟩ := tx_pos (β := β) hp (by omega)
        obtain ⟨u, u1, u2, u3, u4⟩ := xs_step hn hβ ht hp hS hA
        obtain ⟨r, w, w1, w2, w3⟩ := ih 0 (o + 1) (tx_e β n p) u l (by omega) (by omega) (by omega) p2 u3 u4 (by omega)
        rw [if_pos cm, if_pos (q5.mpr cm), u1]
        simp only [sm_cS, en, w1]
        cases e : ps_rd β n f 0 (o + 1) (tx_e β n p) with
        | inl g =>
          rw [e] at w3
          obtain ⟨w4, w5⟩ := w3
          rw [if_pos w4]
          exact ⟨0, w, rfl, u2.tr w2, rfl, w5⟩
        | inr x =>
          rw [e] at w3
          obtain ⟨w4, w5, w6, w7, w8, w9⟩ := w3
          have nz : ¬ r = 0 := by rw [w4]; exact i10
          have sn2 := (tx_sB (β := β) w7).2
          obtain ⟨y, y1, y2, y3, y4⟩ := xf_opE (c := 128) ht w5 (by rw [List.length_append]; omega)
          rw [if_neg nz, w5.2.1]
          show ∃ r σ', sm_g (decide (xo_tag (16 + t) = 3)) (sm_c (xf_X6_addOperator (16 + t) (nI 128) w) fun _ s => some ((1 : Int32), s)) = some (r, σ') ∧ _
          rw [xo_tag3 ht, y1]
          refine ⟨1, y, rfl, (u2.tr w2).tr y3, rfl, ?_, w6.c y4, w7, ?_, by show tx_s β n p < tx_s β n x.2; omega⟩
          · rw [List.append_assoc] at y2
            exact y2
          · show (x.1 ++ [-128]).length + tx_s β n p ≤ tx_s β n x.2
            rw [List.length_append, L1]
            omega
      · rw [if_neg cm, if_neg (mt q5.mp cm)]
        obtain ⟨a1, a2⟩ := xs_acc (a := 40) (by decide) hn hβ ht hp hS hA
        by_cases cp : tx_c β n p = 40
        · obtain ⟨p1, p2, p3⟩ := tx_pos (β := β) hp (by omega)
          obtain ⟨u, u1, u2, u3, u4⟩ := a1 cp
          have u1 : xf_X4_accept 40 σ = some (1, u) := u1
          obtain ⟨r, w, w1, w2, w3⟩ := ih 5 (o + 1) (tx_e β n p) u l (by omega) (by omega) (by omega) p2 u3 u4 (by omega)
          rw [if_pos cp, u1]
          simp only [sm_cS, i10, if_false, en, w1]
          cases e : ps_rd β n f 5 (o + 1) (tx_e β n p) with
          | inl g =>
            rw [e] at w3
            obtain ⟨w4, w5⟩ := w3
            rw [if_pos w4]
            exact ⟨0, w, rfl, u2.tr w2, rfl, w5⟩
          | inr x =>
            rw [e] at w3
            obtain ⟨w4, w5, w6, w7, w8, w9⟩ := w3
            have nz : ¬ r = 0 := by rw [w4]; exact i10
            obtain ⟨b1, b2⟩ := xs_acc (a := 41) (by decide) hn hβ ht w7 w5 w6
            rw [if_neg nz]
            by_cases c1 : tx_c β n x.2 = 41
            · obtain ⟨r1, r2, r3⟩ := tx_pos (β := β) w7 (by omega)
              obtain ⟨y, y1, y2, y3, y4⟩ := b1 c1
              have y1 : xf_X4_accept 41 w = some (1, y) := y1
              rw [y1]
              simp only [sm_cS, i10, if_false]
              refine ⟨1, y, rfl, (u2.tr w2).tr y2, ?_⟩
              show cx_Q β n t l p 1 y (if tx_c β n x.2 = 41 then .inr (x.1, tx_e β n x.2) else .inl (tx_s β n x.2))
              rw [if_pos c1]
              exact ⟨rfl, y3, y4, r2, by show x.1.length + tx_s β n p ≤ tx_s β n (tx_e β n x.2); omega, by show tx_s β n p < tx_s β n (tx_e β n x.2); omega⟩
            · have y1 : xf_X4_accept 41 w = some (0, w) := b2 c1
              rw [y1]
              simp only [sm_cS, if_true]
              refine ⟨0, w, rfl, u2.tr w2, ?_⟩
              show cx_Q β n t l p 0 w (if tx_c β n x.2 = 41 then .inr (x.1, tx_e β n x.2) else .inl (tx_s β n x.2))
              rw [if_neg c1]
              exact ⟨rfl, w6.2.1⟩
        · have u1 : xf_X4_accept 40 σ = some (0, σ) := a2 cp
          rw [if_neg cp, u1]
          simp only [sm_cS, if_true]
          exact ⟨0, σ, rfl, cx_F.rf _ _, rfl, hA.2.1⟩
  unfold xf_X4_readOne
  simp only [sm_bN, hA.1]
  by_cases c2 : tx_c β n p = 2
  · rw [if_pos (q2.mpr c2), hS.2.1]
    show ∃ r σ', sm_g (decide (xo_tag (16 + t) = 3)) (sm_c (xf_X6_addNumber (16 + t) (σ.1 13 5) σ) fun _ s16 => sm_c (xf_X4_step s16) fun _ s18 => some ((1 : Int32), s18)) = some (r, σ') ∧ _
    rw [xo_tag3 ht, hA.2.2.2 c2]
    unfold ps_one
    rw [if_pos c2]
    exact single _ (by omega)
  · rw [if_neg (mt q2.mp c2)]
    by_cases c3 : tx_c β n p < 256
    · rw [if_pos (q3.mpr c3)]
      exact rest c2 (by omega)
    · rw [if_neg (mt q3.mp c3)]
      by_cases c4 : 262 ≤ tx_c β n p
      · rw [if_pos (q4.mpr c4)]
        exact rest c2 (by omega)
      · rw [if_neg (mt q4.mp c4), hS.2.1]
        have es : nI (tx_c β n p) - 256 = nI (tx_c β n p - 256) := nI_subT (b := 256) (by omega)
        show ∃ r σ', sm_g (decide (xo_tag (16 + t) = 3)) (sm_c (xf_X6_addName (16 + t) (nI (tx_c β n p) - 256) σ) fun _ s16 => sm_c (xf_X4_step s16) fun _ s18 => some ((1 : Int32), s18)) = some (r, σ') ∧ _
        obtain ⟨r, w, w1, w2⟩ := single (-1 - nI (tx_c β n p - 256)) (by omega)
        unfold ps_one
        rw [xo_tag3 ht, es, if_neg c2, if_pos (show 256 ≤ tx_c β n p ∧ tx_c β n p < 262 by omega)]
        refine ⟨r, w, ?_, w2⟩
        rw [← w1]
        unfold xf_X6_addName
        simp only [sm_bN, sm_gT]
        cases xf_X6_addNumber (16 + t) (-1 - nI (tx_c β n p - 256)) σ <;> rfl
/-- not, and the comparisons -/
theorem xs_not {f : Nat} (hn : n ≤ 160) (hβ : ∀ i, i < n → β i < 256) (ht : t < 6) (ho : o ≤ 5) (hf : (5 - o) * 6 + 3 < f + 1) (ih : ∀ w o p σ l, w ≤ 5 → o ≤ 5 → (5 - o) * 6 + w < f → p ≤ n → cx_S β n t l σ → tx_At β n p σ → l.length ≤ tx_s β n p → ∃ r σ', xg_read f w (nI o) σ = some (r, σ') ∧ cx_F t σ σ' ∧ cx_Q β n t l p r σ' (ps_rd β n f w o p)) (hp : p ≤ n) (hS : cx_S β n t l σ) (hA : tx_At β n p σ) (hl : l.length ≤ tx_s β n p) : ∃ r σ', xf_X4_readNot (xg_read f) (nI o) σ = some (r, σ') ∧ cx_F t σ σ' ∧ cx_Q β n t l p r σ' (ps_not β n (ps_rd β n f) o p) := by
  have cB := @tx_cB β n p
  have q2 : nI (tx_c β n p) = 267 ↔ tx_c β n p = 267 := nI_eq (b := 267) (by omega) (by decide)
  have q6 : nI o < 5 ↔ o < 5 := nI_ltI (b := 5) (by omega) (by decide)
  have en : nI o + 1 = nI (o + 1) := nI_1 o
  have L1 : ∀ x : Int32, ([x] : List Int32).length = 1 := fun _ => rfl
  unfold xf_X4_readNot ps_not
  simp only [sm_bN, hA.1]
  by_cases c : tx_c β n p = 267
  · rw [if_pos (q2.mpr c), if_pos c]
    by_cases c5 : 5 ≤ o
    · rw [if_pos c5, if_neg (mt q6.mp (by omega))]
      exact ⟨0, σ, rfl, cx_F.rf _ _, rfl, hA.2.1⟩
    · rw [if_neg c5, if_pos (q6.mpr (by omega))]
      obtain ⟨p1, p2, p3⟩ := tx_pos (β := β) hp (by omega)
      obtain ⟨u, u1, u2, u3, u4⟩ := xs_step hn hβ ht hp hS hA
      obtain ⟨r, w, w1, w2, w3⟩ := ih 3 (o + 1) (tx_e β n p) u l (by omega) (by omega) (by omega) p2 u3 u4 (by omega)
      rw [u1]
      simp only [sm_cS, en, w1]
      cases e : ps_rd β n f 3 (o + 1) (tx_e β n p) with
      | inl g =>
        rw [e] at w3
        obtain ⟨w4, w5⟩ := w3
        rw [if_pos w4]
        exact ⟨0, w, rfl, u2.tr w2, rfl, w5⟩
      | inr x =>
        rw [e] at w3
        obtain ⟨w4, w5, w6, w7, w8, w9⟩ := w3
        have nz : ¬ r = 0 := by rw [w4]; exact i10
        have sn2 := (tx_sB (β := β) w7).2
        obtain ⟨y, y1, y2, y3, y4⟩ := xf_opE (c := 267) ht w5 (by rw [List.length_append]; omega)
        rw [if_neg nz, w5.2.1]
        show ∃ r σ', sm_g (decide (xo_tag (16 + t) = 3)) (sm_c (xf_X6_addOperator (16 + t) (nI 267) w) fun _ s => some ((1 : Int32), s)) = some (r, σ') ∧ _
        rw [xo_tag3 ht, y1]
        refine ⟨1, y, rfl, (u2.tr w2).tr y3, rfl, ?_, w6.c y4, w7, ?_, by show tx_s β n p < tx_s β n x.2; omega⟩
        · rw [List.append_assoc] at y2
          exact y2
        · show (x.1 ++ [-267]).length + tx_s β n p ≤ tx_s β n x.2
          rw [List.length_append, L1]
          omega
  · rw [if_neg (mt q2.mp c), if_neg c]
    obtain ⟨r, w, w1, w2, w3⟩ := ih 2 o p σ l (by omega) ho (by omega) hp hS hA hl
    rw [w1]
    simp only [sm_cS]
    cases e : ps_rd β n f 2 o p with
    | inl g =>
      rw [e] at w3
      obtain ⟨w4, w5⟩ := w3
      rw [if_pos w4]
      exact ⟨0, w, rfl, w2, rfl, w5⟩
    | inr x =>
      rw [e] at w3
      have Q := w3
      obtain ⟨w4, w5, w6, w7, w8, w9⟩ := w3
      have nz : ¬ r = 0 := by rw [w4]; exact i10
      have cB2 := @tx_cB β n x.2
      have q60 : nI (tx_c β n x.2) = 60 ↔ tx_c β n x.2 = 60 := nI_eq (b := 60) (by omega) (by decide)
      have q61 : nI (tx_c β n x.2) = 61 ↔ tx_c β n x.2 = 61 := nI_eq (b := 61) (by omega) (by decide)
      rw [if_neg nz]
      unfold ps_cmp
      have P : (tx_c β n x.2 = 60 ∨ tx_c β n x.2 = 61) → ∃ r σ', xf_X4_readNot_p75 (xg_read f) (nI o) w = some (r, σ') ∧ cx_F t σ σ' ∧ cx_Q β n t l p r σ' (if tx_c β n x.2 = 60 ∨ tx_c β n x.2 = 61 then (match ps_rd β n f 2 o (tx_e β n x.2) with
          | .inl f => .inl f
          | .inr m => .inr (x.1 ++ m.1 ++ [-(nI (tx_c β n x.2))], m.2)) else .inr x) := by
        intro hc
        rw [if_pos hc]
        obtain ⟨p1, p2, p3⟩ := tx_pos (β := β) w7 (by omega)
        obtain ⟨u, u1, u2, u3, u4⟩ := xs_step hn hβ ht w7 w5 w6
        obtain ⟨r2, v, v1, v2, v3⟩ := ih 2 o (tx_e β n x.2) u (l ++ x.1) (by omega) ho (by omega) p2 u3 u4 (by rw [List.length_append]; omega)
        unfold xf_X4_readNot_p75
        simp only [sm_bN, w6.1, u1, sm_cS, v1]
        cases e : ps_rd β n f 2 o (tx_e β n x.2) with
        | inl g =>
          rw [e] at v3
          obtain ⟨v4, v5⟩ := v3
          rw [if_pos v4]
          exact ⟨0, v, rfl, (w2.tr u2).tr v2, rfl, v5⟩
        | inr m =>
          rw [e] at v3
          obtain ⟨v4, v5, v6, v7, v8, v9⟩ := v3
          have nz2 : ¬ r2 = 0 := by rw [v4]; exact i10
          have sn2 := (tx_sB (β := β) v7).2
          obtain ⟨y, y1, y2, y3, y4⟩ := xf_opE (c := tx_c β n x.2) ht v5 (by rw [List.length_append, List.length_append]; omega)
          rw [if_neg nz2, v5.2.1]
          show ∃ r σ', sm_g (decide (xo_tag (16 + t) = 3)) (sm_c (xf_X6_addOperator (16 + t) (nI (tx_c β n x.2)) v) fun _ s => some ((1 : Int32), s)) = some (r, σ') ∧ _
          rw [xo_tag3 ht, y1]
          refine ⟨1, y, rfl, ((w2.tr u2).tr v2).tr y3, rfl, ?_, v6.c y4, v7, ?_, ?_⟩
          · rw [List.append_assoc l, List.append_assoc l] at y2
            exact y2
          · show (x.1 ++ m.1 ++ [-(nI (tx_c β n x.2))]).length + tx_s β n p ≤ tx_s β n m.2
            rw [List.length_append, List.length_append, L1]
            omega
          · show tx_s β n p < tx_s β n m.2
            omega
      simp only [w6.1]
      by_cases c60 : tx_c β n x.2 = 60
      · rw [if_pos (q60.mpr c60)]
        exact P (Or.inl c60)
      · rw [if_neg (mt q60.mp c60)]
        by_cases c61 : tx_c β n x.2 = 61
        · rw [if_pos (q61.mpr c61)]
          exact P (Or.inr c61)
        · rw [if_neg (mt q61.mp c61), if_neg (by omega)]
          exact ⟨1, w, rfl, w2, rfl, w5, w6, w7, w8, w9⟩
theorem xs_ch {f w : Nat} {L : Nat → sm_St → Int32 → Option (Int32 × sm_St)} {M : sm_St → Option (Int32 × sm_St)} (hn : n ≤ 160) (hβ : ∀ i, i < n → β i < 256) (ht : t < 6) (ho : o ≤ 5) (hw : w = 1 ∨ w = 2 ∨ w = 4 ∨ w = 5) (hf : (5 - o) * 6 + w < f + 1) (ih : ∀ w o p σ l, w ≤ 5 → o ≤ 5 → (5 - o) * 6 + w < f → p ≤ n → cx_S β n t l σ → tx_At β n p σ → l.length ≤ tx_s β n p → ∃ r σ', xg_read f w (nI o) σ = some (r, σ') ∧ cx_F t σ σ' ∧ cx_Q β n t l p r σ' (ps_rd β n f w o p)) (hM : M σ = sm_c (xg_read f (w - 1) (nI o) σ) fun v1 s2 => if v1 = 0 then some ((0 : Int32), s2) else L sm_F s2 0) (hstop : ∀ F y k p, tx_At β n p y → ps_q w (tx_c β n p) = false → L (F + 1) y (nI k) = some (1, y)) (hgo : ∀ F y k p, k < 160 → tx_At β n p y → ps_q w (tx_c β n p) = true → L (F + 1) y (nI k) = sm_c (xf_X4_step y) fun _ s3 => sm_c (xg_read f (w - 1) (nI o) s3) fun v4 s5 => if v4 = 0 then some (0, s5) else sm_o (s5.2.2 13 6) fun c7 => sm_g (decide (xo_tag c7 = 3)) <| sm_c (xf_X6_addOperator c7 (nI (tx_c β n p)) s5) fun _ s9 => L F s9 (nI (k + 1))) (hp : p ≤ n) (hS : cx_S β n t l σ) (hA : tx_At β n p σ) (hl : l.length ≤ tx_s β n p) : ∃ r σ', M σ = some (r, σ') ∧ cx_F t σ σ' ∧ cx_Q β n t l p r σ' (ps_ch β n (ps_rd β n f) w o p) := by
  obtain ⟨r, u, u1, u2, u3⟩ := ih (w - 1) o p σ l (by omega) ho (by omega) hp hS hA hl
  rw [hM, u1]
  simp only [sm_cS]
  unfold ps_ch
  cases e : ps_rd β n f (w - 1) o p with
  | inl g =>
    rw [e] at u3
    obtain ⟨w4, w5⟩ := u3
    rw [if_pos w4]
    exact ⟨0, u, rfl, u2, rfl, w5⟩
  | inr x =>
    rw [e] at u3
    obtain ⟨w4, w5, w6, w7, w8, w9⟩ := u3
    have nz : ¬ r = 0 := by rw [w4]; exact i10
    rw [if_neg nz]
    obtain ⟨r', v, v1, v2, v3⟩ := xs_loop (L := L) (S := xg_read f (w - 1) (nI o)) (q := ps_q w) (sub := ps_rd β n f (w - 1) o) hn hβ ht (by rcases hw with rfl | rfl | rfl | rfl <;> rfl) hstop hgo (fun p σ l h1 h2 h3 h4 => ih (w - 1) o p σ l (by omega) ho (by omega) h1 h2 h3 h4) hl 161 sm_F 0 x.2 x.1 u (by omega) (by have := sm_Fge; omega) (Nat.zero_le _) w7 w5 w6 w8 w9
    exact ⟨r', v, v1, u2.tr v2, v3⟩
end
