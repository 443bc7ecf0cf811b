/-! the reference's productions -/
section
variable {β : Nat → Nat} {n p t o : Nat} {σ : sm_St} {env : Nat → Int32}
theorem ms_one {f : Nat} (hn : n ≤ 160) (hβ : ∀ i, i < n → β i < 256) (ht : t < 6) (ho : o ≤ 5) (hf : (5 - o) * 6 < f + 1) (ih : ∀ w o p σ, w ≤ 5 → o ≤ 5 → (5 - o) * 6 + w < f → p ≤ n → cm_S β n t o env σ → tm_At β n p σ → ∃ v σ', mg_parse f w σ = some (v, σ') ∧ cm_F σ σ' ∧ cm_Q β n t o env p v σ' (ps_rd β n f w o p)) (hp : p ≤ n) (hS : cm_S β n t o env σ) (hA : tm_At β n p σ) : ∃ v σ', mf_X8_atom (mg_parse f) σ = some (v, σ') ∧ cm_F σ σ' ∧ cm_Q β n t o env p v σ' (ps_one β n (ps_rd β n f) o p) := by
  have S45 : mf_X8_isSign 45 σ = some (if tx_c β n p = 45 then 1 else 0, σ) := mf_signE (k := 45) rfl hS.2.2.1 hA
  have S40 : mf_X8_isSign 40 σ = some (if tx_c β n p = 40 then 1 else 0, σ) := mf_signE (k := 40) rfl hS.2.2.1 hA
  have em : nI (o + 1) - 1 = nI o := by rw [nI_succ]; grind
  have noW : ∀ x : Nat, (x = 45 ∨ x = 40) → ¬ x = 2 ∧ ¬ (256 ≤ x ∧ x < 262) := fun x h => by omega
  unfold mf_X8_atom ps_one
  rw [S45]
  by_cases cm : tx_c β n p = 45
  · obtain ⟨n1, n2⟩ := noW _ (Or.inl cm)
    obtain ⟨o1, o2⟩ := mf_openE hn ht hβ ho hp hS hA (by omega) (by omega)
    rw [if_pos cm, if_neg n1, if_neg n2]
    simp only [sm_cS, i10, if_false]
    by_cases c5 : 5 ≤ o
    · obtain ⟨u, u1, u2, u3⟩ := o1 c5
      rw [if_pos c5, u1]
      simp only [sm_cS, if_true]
      exact ⟨0, u, rfl, u2, u3⟩
    · obtain ⟨u, u1, u2, u3, u4, u5, u6⟩ := o2 c5
      obtain ⟨v, w, w1, w2, w3⟩ := ih 0 (o + 1) (tx_e β n p) u (by omega) (by omega) (by omega) u6 u3 u4
      rw [if_neg c5, u1, if_pos cm]
      simp only [sm_cS, i10, if_false, w1, sm_bN]
      refine ⟨-v, _, rfl, (u2.tr w2).tr (cm_F.st (by decide)), ?_⟩
      cases e : ps_rd β n f 0 (o + 1) (tx_e β n p) with
      | inl g =>
        rw [e] at w3
        exact ⟨by rw [sm_rI1 0 29 (by decide)]; exact w3.1, by rw [sm_rI1 0 30 (by decide)]; exact w3.2⟩
      | inr x =>
        rw [e] at w3
        obtain ⟨w4, w5, w6, w7, w8⟩ := w3
        rw [w4.2.1, em]
        exact ⟨w4.o, w5.o, w6, tx_okM w7, by show tx_s β n p < tx_s β n x.2; omega⟩
  · rw [if_neg cm]
    simp only [sm_cS, if_true]
    rw [S40]
    by_cases cp : tx_c β n p = 40
    · obtain ⟨n1, n2⟩ := noW _ (Or.inr cp)
      obtain ⟨o1, o2⟩ := mf_openE hn ht hβ ho hp hS hA (by omega) (by omega)
      rw [if_pos cp, if_neg n1, if_neg n2]
      simp only [sm_cS, i10, if_false]
      by_cases c5 : 5 ≤ o
      · obtain ⟨u, u1, u2, u3⟩ := o1 c5
        rw [if_pos c5, u1]
        simp only [sm_cS, if_true]
        exact ⟨0, u, rfl, u2, u3⟩
      · obtain ⟨u, u1, u2, u3, u4, u5, u6⟩ := o2 c5
        obtain ⟨v, w, w1, w2, w3⟩ := ih 5 (o + 1) (tx_e β n p) u (by omega) (by omega) (by omega) u6 u3 u4
        rw [if_neg c5, u1, if_neg cm, if_pos cp]
        simp only [sm_cS, i10, if_false, w1]
        cases e : ps_rd β n f 5 (o + 1) (tx_e β n p) with
        | inl g =>
          rw [e] at w3
          rw [mf_signB w3.1]
          simp only [sm_cS, if_true, mf_failB w3.1, mf_X8_atom_p71, sm_bN]
          have b29 : ¬ (sm_sI w 0 28 (w.1 0 28 - 1)).1 0 29 = 0 := by rw [sm_rI1 0 29 (by decide)]; exact w3.1
          rw [if_neg b29]
          exact ⟨v, _, rfl, (u2.tr w2).tr (cm_F.st (by decide)), b29, by rw [sm_rI1 0 30 (by decide)]; exact w3.2⟩
        | inr x =>
          rw [e] at w3
          obtain ⟨w4, w5, w6, w7, w8⟩ := w3
          have S41 : mf_X8_isSign 41 w = some (if tx_c β n x.2 = 41 then 1 else 0, w) := mf_signE (k := 41) rfl w4.2.2.1 w5
          rw [S41]
          by_cases c1 : tx_c β n x.2 = 41
          · rw [if_pos c1]
            simp only [sm_cS, i10, if_false, mf_X8_atom_p71, sm_bN, w4.2.1, em]
            obtain ⟨y, y1, y2, y3, y4, y5, y6⟩ := ms_step hn ht hβ w6 (w4.o (o' := o)) w5.o (by omega) (by omega)
            have b29 : (sm_sI w 0 28 (nI o)).1 0 29 = 0 := by rw [sm_rI1 0 29 (by decide)]; exact w4.2.2.1
            rw [if_pos b29, y1]
            simp only [sm_cS]
            refine ⟨v, y, rfl, ((u2.tr w2).tr (cm_F.st (by decide))).tr y2, ?_⟩
            show cm_Q β n t o env p v y (if tx_c β n x.2 = 41 then .inr (x.1, tx_e β n x.2) else .inl (tx_s β n x.2))
            rw [if_pos c1]
            exact ⟨y3, y4, y6, w7, by show tx_s β n p < tx_s β n (tx_e β n x.2); omega⟩
          · rw [if_neg c1]
            simp only [sm_cS, if_true]
            obtain ⟨y, y1, y2, y3, y4⟩ := mf_failE w4.2.2.1
            rw [y1]
            simp only [sm_cS, mf_X8_atom_p71, sm_bN]
            have b29 : ¬ (sm_sI y 0 28 (y.1 0 28 - 1)).1 0 29 = 0 := by rw [sm_rI1 0 29 (by decide)]; exact y3
            rw [if_neg b29]
            refine ⟨v, _, rfl, ((u2.tr w2).tr y2).tr (cm_F.st (by decide)), ?_⟩
            show cm_Q β n t o env p v _ (if tx_c β n x.2 = 41 then .inr (x.1, tx_e β n x.2) else .inl (tx_s β n x.2))
            rw [if_neg c1]
            exact ⟨b29, by rw [sm_rI1 0 30 (by decide), y4]; exact w5.1⟩
    · rw [if_neg cp]
      simp only [sm_cS, if_true, sm_bN]
      rw [if_pos hS.2.2.1]
      have fail : ∀ v, ∃ v' σ', mf_X8_atom_p157 (mg_parse f) σ v = some (v', σ') ∧ cm_F σ σ' ∧ ¬ σ'.1 0 29 = 0 ∧ σ'.1 0 30 = nI (tx_s β n p) := by
        intro v
        obtain ⟨y, y1, y2, y3, y4⟩ := mf_failE hS.2.2.1
        refine ⟨v, y, ?_, y2, y3, by rw [y4]; exact hA.1⟩
        unfold mf_X8_atom_p157
        rw [y1]
        rfl
      have spec : ¬ tx_c β n p = 2 → ¬ (256 ≤ tx_c β n p ∧ tx_c β n p < 262) → ps_one β n (ps_rd β n f) o p = .inl (tx_s β n p) := by
        intro h2 hw
        unfold ps_one
        rw [if_neg h2, if_neg hw, if_neg cm, if_neg cp]
        split <;> rfl
      rcases hA.2 with ⟨g1, g2⟩ | ⟨g1, g2, g3, g4⟩ | ⟨g2, g3, g4, g5, g1⟩ | ⟨g1, g2, -, -⟩ | ⟨g1, g2⟩
      · change ∃ v σ', _ ∧ cm_F σ σ' ∧ cm_Q β n t o env p v σ' (ps_one β n (ps_rd β n f) o p)
        rw [spec (by omega) (by omega), g2, if_neg (by decide)]
        unfold mf_X8_atom_p123
        simp only [sm_bN, hS.2.2.1, if_true, g2, i01, if_false]
        exact fail 0
      · obtain ⟨y, y1, y2, y3, y4, y5, y6⟩ := ms_step hn ht hβ hp hS hA (by omega) (by omega)
        rw [g2, if_pos rfl, if_pos g1, g3, lN_i, y1]
        simp only [sm_cS]
        exact ⟨_, y, rfl, y2, y3, y4, y6, tx_okN (tx_vB hp g1), y5⟩
      · have n2 : ¬ tx_c β n p = 2 := by
          have := tx_wlB (tx_wm β (tx_s β n p) (tx_e β n p)) 12
          omega
        rw [g2, if_neg (by decide)]
        unfold mf_X8_atom_p123
        simp only [sm_bN, hS.2.2.1, if_true, g2]
        obtain ⟨a1, a2⟩ := mf_nameE hn ht hβ hp hS hA
        by_cases cw : 256 ≤ tx_c β n p ∧ tx_c β n p < 262
        · obtain ⟨y, y1, y2, y3, y4, y5, y6⟩ := ms_step hn ht hβ hp hS hA (by omega) (by omega)
          rw [a1 cw, if_neg n2, if_pos cw]
          simp only [sm_cS, hS.2.2.1, if_true, y1]
          exact ⟨_, y, rfl, y2, y3, y4, y6, tx_okW (by omega), y5⟩
        · obtain ⟨y, y1, y2, y3, y4⟩ := a2 cw
          change ∃ v σ', _ ∧ cm_F σ σ' ∧ cm_Q β n t o env p v σ' (ps_one β n (ps_rd β n f) o p)
          rw [spec n2 cw, y1]
          simp only [sm_cS, y3, if_false]
          exact ⟨0, y, rfl, y2, y3, y4⟩
      · have z : tx_c β n p ≠ 2 ∧ ¬ (256 ≤ tx_c β n p ∧ tx_c β n p < 262) := by
          unfold tx_sg at g1
          have g1 := of_decide_eq_true g1
          omega
        have n3 : ¬ (3 : Int32) = 1 := by decide
        change ∃ v σ', _ ∧ cm_F σ σ' ∧ cm_Q β n t o env p v σ' (ps_one β n (ps_rd β n f) o p)
        rw [spec z.1 z.2, g2, if_neg (by decide)]
        unfold mf_X8_atom_p123
        simp only [sm_bN, hS.2.2.1, if_true, g2, n3, if_false]
        exact fail 0
      · have n3 : ¬ (4 : Int32) = 1 := by decide
        change ∃ v σ', _ ∧ cm_F σ σ' ∧ cm_Q β n t o env p v σ' (ps_one β n (ps_rd β n f) o p)
        rw [spec (by omega) (by omega), g2, if_neg (by decide)]
        unfold mf_X8_atom_p123
        simp only [sm_bN, hS.2.2.1, if_true, g2, n3, if_false]
        exact fail 0
theorem ms_not {f : Nat} (hn : n ≤ 160) (hβ : ∀ i, i < n → β i < 256) (ht : t < 6) (ho : o ≤ 5) (hf : (5 - o) * 6 + 3 < f + 1) (ih : ∀ w o p σ, w ≤ 5 → o ≤ 5 → (5 - o) * 6 + w < f → p ≤ n → cm_S β n t o env σ → tm_At β n p σ → ∃ v σ', mg_parse f w σ = some (v, σ') ∧ cm_F σ σ' ∧ cm_Q β n t o env p v σ' (ps_rd β n f w o p)) (hp : p ≤ n) (hS : cm_S β n t o env σ) (hA : tm_At β n p σ) : ∃ v σ', mf_X8_not (mg_parse f) σ = some (v, σ') ∧ cm_F σ σ' ∧ cm_Q β n t o env p v σ' (ps_not β n (ps_rd β n f) o p) := by
  have W : mf_X8_isWord 110 111 116 0 0 0 0 0 σ = some (if tx_c β n p = 256 + 11 then 1 else 0, σ) := mf_wordN [110, 111, 116, 0, 0, 0, 0, 0] 11 hn ht hβ hp hS hA (by decide) (by decide)
  have em : nI (o + 1) - 1 = nI o := by rw [nI_succ]; grind
  unfold mf_X8_not ps_not
  rw [W]
  by_cases c : tx_c β n p = 267
  · obtain ⟨o1, o2⟩ := mf_openE hn ht hβ ho hp hS hA (by omega) (by omega)
    rw [if_pos c, if_pos c]
    simp only [sm_cS, i10, if_false]
    by_cases c5 : 5 ≤ o
    · obtain ⟨u, u1, u2, u3⟩ := o1 c5
      rw [if_pos c5, u1]
      simp only [sm_cS, if_true]
      exact ⟨0, u, rfl, u2, u3⟩
    · obtain ⟨u, u1, u2, u3, u4, u5, u6⟩ := o2 c5
      obtain ⟨v, w, w1, w2, w3⟩ := ih 3 (o + 1) (tx_e β n p) u (by omega) (by omega) (by omega) u6 u3 u4
      rw [if_neg c5, u1]
      simp only [sm_cS, i10, if_false, w1, sm_bN]
      refine ⟨if v = 0 then 1 else 0, sm_sI w 0 28 (w.1 0 28 - 1), by split <;> rfl, (u2.tr w2).tr (cm_F.st (by decide)), ?_⟩
      cases e : ps_rd β n f 3 (o + 1) (tx_e β n p) with
      | inl g =>
        rw [e] at w3
        exact ⟨by rw [sm_rI1 0 29 (by decide)]; exact w3.1, by rw [sm_rI1 0 30 (by decide)]; exact w3.2⟩
      | inr x =>
        rw [e] at w3
        obtain ⟨w4, w5, w6, w7, w8⟩ := w3
        rw [w4.2.1, em]
        exact ⟨w4.o, w5.o, w6, tx_okX w7, by show tx_s β n p < tx_s β n x.2; omega⟩
  · obtain ⟨v, w, w1, w2, w3⟩ := ih 2 o p σ (by omega) ho (by omega) hp hS hA
    rw [if_neg c, if_neg c]
    simp only [sm_cS, if_true, w1]
    cases e : ps_rd β n f 2 o p with
    | inl g =>
      rw [e] at w3
      rw [mf_signB w3.1]
      simp only [sm_cS, if_true, mf_signB w3.1]
      exact ⟨v, w, rfl, w2, w3⟩
    | inr x =>
      rw [e] at w3
      have Q := w3
      obtain ⟨w4, w5, w6, w7, w8⟩ := w3
      have S60 : mf_X8_isSign 60 w = some (if tx_c β n x.2 = 60 then 1 else 0, w) := mf_signE (k := 60) rfl w4.2.2.1 w5
      have S61 : mf_X8_isSign 61 w = some (if tx_c β n x.2 = 61 then 1 else 0, w) := mf_signE (k := 61) rfl w4.2.2.1 w5
      unfold ps_cmp
      have P : (tx_c β n x.2 = 60 ∨ tx_c β n x.2 = 61) → ∃ r σ', mf_X8_not_p77 (mg_parse f) w v = some (r, σ') ∧ cm_F σ σ' ∧ cm_Q β n t o env p r σ' (if tx_c β n x.2 = 60 ∨ tx_c β n x.2 = 61 then (match ps_rd β n f 2 o (tx_e β n x.2) with
          | .inl f => .inl f
          | .inr m => .inr (x.1 ++ m.1 ++ [-(nI (tx_c β n x.2))], m.2)) else .inr x) := by
        intro hc
        rw [if_pos hc]
        obtain ⟨u, u1, u2, u3, u4, u5, u6⟩ := ms_step hn ht hβ w6 w4 w5 (by omega) (by omega)
        obtain ⟨r, y, y1, y2, y3⟩ := ih 2 o (tx_e β n x.2) u (by omega) ho (by omega) u6 u3 u4
        have h27 : w.2.1 0 27 = lN (tx_c β n x.2) := by
          rcases w5.2 with ⟨g, -⟩ | ⟨g, -⟩ | ⟨-, -, -, -, g⟩ | ⟨-, -, g, -⟩ | ⟨g, -⟩
          · omega
          · omega
          · have := tx_wlB (tx_wm β (tx_s β n x.2) (tx_e β n x.2)) 12
            omega
          · exact g
          · omega
        have T : ∀ b : Int32, (b = if tx_c β n x.2 = 60 then 1 else 0) → ∃ r' , mf_X8_not_p93 (mg_parse f) w v b = some (r', y) ∧ r' = tx_jn (nI (tx_c β n x.2)) v r := by
          intro b hb
          unfold mf_X8_not_p93 mf_X8_not_p120
          rw [u1]
          simp only [sm_cS, y1]
          rcases hc with hc | hc
          · rw [if_pos hc] at hb
            rw [hb, hc, if_neg i10]
            have ej : tx_jn (nI 60) v r = if r ≤ v then 0 else 1 := rfl
            rw [ej]
            by_cases z : r ≤ v
            · rw [if_pos z, if_pos z]
              exact ⟨0, rfl, rfl⟩
            · rw [if_neg z, if_neg z]
              exact ⟨1, rfl, rfl⟩
          · rw [if_neg (by omega)] at hb
            rw [hb, hc, if_pos rfl]
            have ej : tx_jn (nI 61) v r = if v = r then 1 else 0 := rfl
            rw [ej]
            by_cases z : v = r
            · rw [if_pos z, if_pos z]
              exact ⟨1, rfl, rfl⟩
            · rw [if_neg z, if_neg z]
              exact ⟨0, rfl, rfl⟩
        have R : mf_X8_not_p77 (mg_parse f) w v = some (tx_jn (nI (tx_c β n x.2)) v r, y) := by
          have cq := @lg_ceq (tx_c β n x.2) 60 (by have := @tx_cB β n x.2; omega) (by decide)
          have e60 : (60 : Int64) = lN 60 := rfl
          unfold mf_X8_not_p77
          simp only [sm_bN, h27, e60]
          by_cases z : tx_c β n x.2 = 60
          · rw [if_pos (cq.mpr z)]
            obtain ⟨r', t1, t2⟩ := T 1 (by rw [if_pos z])
            rw [t1, t2]
          · rw [if_neg (mt cq.mp z)]
            obtain ⟨r', t1, t2⟩ := T 0 (by rw [if_neg z])
            rw [t1, t2]
        refine ⟨_, y, R, (w2.tr u2).tr y2, ?_⟩
        have co : tx_op (tx_c β n x.2) = true := by
          unfold tx_op
          exact decide_eq_true (by omega)
        cases e : ps_rd β n f 2 o (tx_e β n x.2) with
        | inl g =>
          rw [e] at y3
          exact y3
        | inr m =>
          rw [e] at y3
          obtain ⟨z1, z2, z3, z4, z5⟩ := y3
          exact ⟨z1, z2, z3, tx_okB co w7 z4, by show tx_s β n p < tx_s β n m.2; omega⟩
      rw [S60]
      by_cases c60 : tx_c β n x.2 = 60
      · rw [if_pos c60]
        simp only [sm_cS, i10, if_false]
        exact P (Or.inl c60)
      · rw [if_neg c60]
        simp only [sm_cS, if_true]
        rw [S61]
        by_cases c61 : tx_c β n x.2 = 61
        · rw [if_pos c61]
          simp only [sm_cS, i10, if_false]
          exact P (Or.inr c61)
        · rw [if_neg c61, if_neg (by omega)]
          simp only [sm_cS, if_true]
          exact ⟨v, w, rfl, w2, Q⟩
theorem ms_ch {f w : Nat} {L : Nat → sm_St → Int32 → Option (Int32 × sm_St)} {M : sm_St → Option (Int32 × sm_St)} (hn : n ≤ 160) (hβ : ∀ i, i < n → β i < 256) (ht : t < 6) (ho : o ≤ 5) (hw : w = 1 ∨ w = 2 ∨ w = 4 ∨ w = 5) (hf : (5 - o) * 6 + w < f + 1) (ih : ∀ w o p σ, w ≤ 5 → o ≤ 5 → (5 - o) * 6 + w < f → p ≤ n → cm_S β n t o env σ → tm_At β n p σ → ∃ v σ', mg_parse f w σ = some (v, σ') ∧ cm_F σ σ' ∧ cm_Q β n t o env p v σ' (ps_rd β n f w o p)) (hM : M σ = sm_c (mg_parse f (w - 1) σ) fun v1 s2 => L sm_F s2 v1) (hbad : ∀ F y v, ¬ y.1 0 29 = 0 → L (F + 1) y v = some (v, y)) (hstop : ∀ F y v p, p ≤ n → cm_S β n t o env y → tm_At β n p y → ps_q w (tx_c β n p) = false → L (F + 1) y v = some (v, y)) (hgo : ∀ F y v p, p ≤ n → cm_S β n t o env y → tm_At β n p y → ps_q w (tx_c β n p) = true → L (F + 1) y v = sm_c (mf_X8_next y) fun _ s4 => sm_c (mg_parse f (w - 1) s4) fun v5 s6 => L F s6 (tx_jn (nI (tx_c β n p)) v v5)) (hp : p ≤ n) (hS : cm_S β n t o env σ) (hA : tm_At β n p σ) : ∃ v σ', M σ = some (v, σ') ∧ cm_F σ σ' ∧ cm_Q β n t o env p v σ' (ps_ch β n (ps_rd β n f) w o p) := by
  obtain ⟨r, u, u1, u2, u3⟩ := ih (w - 1) o p σ (by omega) ho (by omega) hp hS hA
  obtain ⟨F, hF⟩ := sm_Fs 1 (by decide)
  rw [hM, u1]
  simp only [sm_cS]
  unfold ps_ch
  cases e : ps_rd β n f (w - 1) o p with
  | inl g =>
    rw [e] at u3
    rw [hF, hbad F u r u3.1]
    exact ⟨r, u, rfl, u2, u3⟩
  | inr x =>
    rw [e] at u3
    obtain ⟨w4, w5, w6, w7, w8⟩ := u3
    obtain ⟨r', v, v1, v2, v3⟩ := ms_loop (L := L) (S := mg_parse f (w - 1)) (q := ps_q w) (sub := ps_rd β n f (w - 1) o) hn hβ ht (fun y hy => by
      unfold ps_q at hy
      have hy := of_decide_eq_true hy
      unfold tx_op
      exact decide_eq_true (by omega)) hbad hstop hgo (fun p σ h1 h2 h3 => ih (w - 1) o p σ (by omega) ho (by omega) h1 h2 h3) 161 sm_F x.2 x.1 r u (by omega) (by have := sm_Fge; omega) w6 w4 w5 w7 w8
    exact ⟨r', v, v1, u2.tr v2, v3⟩
theorem ms_all (hn : n ≤ 160) (hβ : ∀ i, i < n → β i < 256) (ht : t < 6) : ∀ f w o p σ, w ≤ 5 → o ≤ 5 → (5 - o) * 6 + w < f → p ≤ n → cm_S β n t o env σ → tm_At β n p σ → ∃ v σ', mg_parse f w σ = some (v, σ') ∧ cm_F σ σ' ∧ cm_Q β n t o env p v σ' (ps_rd β n f w o p) := by
  intro f
  induction f with
  | zero => intro w o p σ _ _ h; omega
  | succ f ih =>
    intro w o p σ hw ho hf hp hS hA
    rcases (by omega : w = 0 ∨ w = 3 ∨ w = 1 ∨ w = 2 ∨ w = 4 ∨ w = 5) with z | z | z | z | z | z <;> subst z
    · exact ms_one hn hβ ht ho (by omega) ih hp hS hA
    · exact ms_not hn hβ ht ho (by omega) ih hp hS hA
    · refine ms_ch (w := 1) (M := mf_X8_term (mg_parse f)) (L := mf_X8_term_p5 (mg_parse f)) hn hβ ht ho (by decide) hf ih rfl (fun F y v hb => ?_) (fun F y v p hp hS hA hq => ?_) (fun F y v p hp hS hA hq => ?_) hp hS hA
      · rw [mf_X8_term_p5, mf_signB hb]
        rfl
      · have h : ¬ tx_c β n p = 42 := fun e => by rw [e] at hq; cases hq
        have S : mf_X8_isSign 42 y = some (if tx_c β n p = 42 then 1 else 0, y) := mf_signE (k := 42) rfl hS.2.2.1 hA
        rw [mf_X8_term_p5, S, if_neg h]
        rfl
      · have h : tx_c β n p = 42 := by
          unfold ps_q at hq
          have hq := of_decide_eq_true hq
          omega
        have S : mf_X8_isSign 42 y = some (if tx_c β n p = 42 then 1 else 0, y) := mf_signE (k := 42) rfl hS.2.2.1 hA
        rw [mf_X8_term_p5, S, if_pos h, h]
        rfl
    · refine ms_ch (w := 2) (M := mf_X8_added (mg_parse f)) (L := mf_X8_added_p5 (mg_parse f)) hn hβ ht ho (by decide) hf ih rfl (fun F y v hb => ?_) (fun F y v p hp hS hA hq => ?_) (fun F y v p hp hS hA hq => ?_) hp hS hA
      · rw [mf_X8_added_p5, mf_signB hb]
        simp only [sm_cS, if_true, mf_signB hb]
      · have h : ¬ tx_c β n p = 43 := fun e => by rw [e] at hq; cases hq
        have h2 : ¬ tx_c β n p = 45 := fun e => by rw [e] at hq; cases hq
        have S : mf_X8_isSign 43 y = some (if tx_c β n p = 43 then 1 else 0, y) := mf_signE (k := 43) rfl hS.2.2.1 hA
        have S2 : mf_X8_isSign 45 y = some (if tx_c β n p = 45 then 1 else 0, y) := mf_signE (k := 45) rfl hS.2.2.1 hA
        rw [mf_X8_added_p5, S, if_neg h]
        simp only [sm_cS, if_true]
        rw [S2, if_neg h2]
        simp only [sm_cS, if_true]
      · have h : tx_c β n p = 43 ∨ tx_c β n p = 45 := by
          unfold ps_q at hq
          have hq := of_decide_eq_true hq
          omega
        have S : mf_X8_isSign 43 y = some (if tx_c β n p = 43 then 1 else 0, y) := mf_signE (k := 43) rfl hS.2.2.1 hA
        have S2 : mf_X8_isSign 45 y = some (if tx_c β n p = 45 then 1 else 0, y) := mf_signE (k := 45) rfl hS.2.2.1 hA
        have h27 : y.2.1 0 27 = lN (tx_c β n p) := by
          rcases hA.2 with ⟨g, -⟩ | ⟨g, -⟩ | ⟨-, -, -, -, g⟩ | ⟨-, -, g, -⟩ | ⟨g, -⟩
          · omega
          · omega
          · have := tx_wlB (tx_wm β (tx_s β n p) (tx_e β n p)) 12
            omega
          · exact g
          · omega
        have cq := @lg_ceq (tx_c β n p) 43 (by have := @tx_cB β n p; omega) (by decide)
        have e43 : (43 : Int64) = lN 43 := rfl
        rw [mf_X8_added_p5, S]
        by_cases c : tx_c β n p = 43
        · rw [if_pos c]
          simp only [sm_cS, i10, if_false, mf_X8_added_p23, sm_bN, h27, e43]
          rw [if_pos (cq.mpr c), c]
          simp only [mf_X8_added_p39, mf_X8_added_p62, i10, if_false, sm_bN]
          rfl
        · rw [if_neg c]
          simp only [sm_cS, if_true]
          rw [S2, if_pos (by omega)]
          simp only [sm_cS, i10, if_false, mf_X8_added_p23, sm_bN, h27, e43]
          rw [if_neg (mt cq.mp c), show tx_c β n p = 45 by omega]
          simp only [mf_X8_added_p39, mf_X8_added_p62, if_true, sm_bN]
          rfl
    · refine ms_ch (w := 4) (M := mf_X8_both (mg_parse f)) (L := mf_X8_both_p5 (mg_parse f)) hn hβ ht ho (by decide) hf ih rfl (fun F y v hb => ?_) (fun F y v p hp hS hA hq => ?_) (fun F y v p hp hS hA hq => ?_) hp hS hA
      · rw [mf_X8_both_p5, mf_wordB hb]
        rfl
      · have h : ¬ tx_c β n p = 266 := fun e => by rw [e] at hq; cases hq
        have S : mf_X8_isWord 97 110 100 0 0 0 0 0 y = some (if tx_c β n p = 256 + 10 then 1 else 0, y) := mf_wordN [97, 110, 100, 0, 0, 0, 0, 0] 10 hn ht hβ hp hS hA (by decide) (by decide)
        rw [mf_X8_both_p5, S, if_neg h]
        rfl
      · have h : tx_c β n p = 266 := by
          unfold ps_q at hq
          have hq := of_decide_eq_true hq
          omega
        have S : mf_X8_isWord 97 110 100 0 0 0 0 0 y = some (if tx_c β n p = 256 + 10 then 1 else 0, y) := mf_wordN [97, 110, 100, 0, 0, 0, 0, 0] 10 hn ht hβ hp hS hA (by decide) (by decide)
        rw [mf_X8_both_p5, S, if_pos h, h]
        simp only [sm_cS, i10, if_false, mf_X8_both_p44, mf_X8_both_p45]
        have ej : ∀ a b, tx_jn (nI 266) a b = if a = 0 then 0 else if b = 0 then 0 else 1 := fun _ _ => rfl
        refine congrArg _ (funext fun _ => funext fun s4 => congrArg _ (funext fun v5 => funext fun s6 => ?_))
        rw [ej]
        by_cases z : v = 0
        · rw [if_pos z, if_pos z]
        · rw [if_neg z, if_neg z]
          by_cases z2 : v5 = 0
          · rw [if_pos z2, if_pos z2]
          · rw [if_neg z2, if_neg z2]
    · refine ms_ch (w := 5) (M := mf_X8_either (mg_parse f)) (L := mf_X8_either_p5 (mg_parse f)) hn hβ ht ho (by decide) hf ih rfl (fun F y v hb => ?_) (fun F y v p hp hS hA hq => ?_) (fun F y v p hp hS hA hq => ?_) hp hS hA
      · rw [mf_X8_either_p5, mf_wordB hb]
        rfl
      · have h : ¬ tx_c β n p = 265 := fun e => by rw [e] at hq; cases hq
        have S : mf_X8_isWord 111 114 0 0 0 0 0 0 y = some (if tx_c β n p = 256 + 9 then 1 else 0, y) := mf_wordN [111, 114, 0, 0, 0, 0, 0, 0] 9 hn ht hβ hp hS hA (by decide) (by decide)
        rw [mf_X8_either_p5, S, if_neg h]
        rfl
      · have h : tx_c β n p = 265 := by
          unfold ps_q at hq
          have hq := of_decide_eq_true hq
          omega
        have S : mf_X8_isWord 111 114 0 0 0 0 0 0 y = some (if tx_c β n p = 256 + 9 then 1 else 0, y) := mf_wordN [111, 114, 0, 0, 0, 0, 0, 0] 9 hn ht hβ hp hS hA (by decide) (by decide)
        rw [mf_X8_either_p5, S, if_pos h, h]
        simp only [sm_cS, i10, if_false, mf_X8_either_p39, mf_X8_either_p44]
        have ej : ∀ a b, tx_jn (nI 265) a b = if a = 0 then (if b = 0 then 0 else 1) else 1 := fun _ _ => rfl
        refine congrArg _ (funext fun _ => funext fun s4 => congrArg _ (funext fun v5 => funext fun s6 => ?_))
        rw [ej]
        by_cases z : v = 0
        · rw [if_pos z, if_pos z]
          by_cases z2 : v5 = 0
          · rw [if_pos z2, if_pos z2]
          · rw [if_neg z2, if_neg z2]
        · rw [if_neg z, if_neg z]
end
