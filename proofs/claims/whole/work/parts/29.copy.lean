/-! copy, sitters -/
theorem sm_ceta {α : Type} {x : Option (α × sm_St)} : sm_c x (fun a s => some (a, s)) = x := by
  cases x <;> rfl
theorem xo_tag_items {s : Nat} (hs : s < 4) : xo_len (35 + s + 4) = 40 := xo_len_items hs
/-- the reference's copy: number by number, from below or from above -/
theorem mf_copyL {s o i j n : Nat} (hs : s < 4) (ho : o < 4) (hi : i + n ≤ 40) (hj : j + n ≤ 40) (σ : sm_St) (up : Int32) (hu : (up = 0 ∧ (s = o → j ≤ i)) ∨ (up = 1 ∧ s = o ∧ i < j)) : sm_ok (mf_X8_copy_p121 (nI s) (nI i) (nI o) (nI j) (nI n) sm_F σ up 0) (fun r u => r = nI n ∧ u.1 23 = va_cpy (σ.1 23) (σ.1 23) (40 * s + i) (40 * o + j) n ∧ ∀ c, c ≠ 23 → u.1 c = σ.1 c) := by
  obtain ⟨s1, m, e1, e2, e3⟩ := lp_c (fun n' u l => mf_X8_copy_p121 (nI s) (nI i) (nI o) (nI j) (nI n) n' u up l) (fun q u => (∀ p, u.1 23 p = (if up = 0 then (if 40 * o + j ≤ p ∧ p < 40 * o + j + q then σ.1 23 (40 * s + i + (p - (40 * o + j))) else σ.1 23 p) else (if 40 * o + j + (n - q) ≤ p ∧ p < 40 * o + j + n then σ.1 23 (40 * s + i + (p - (40 * o + j))) else σ.1 23 p))) ∧ ∀ c, c ≠ 23 → u.1 c = σ.1 c) n σ (by omega) ⟨fun p => by
      split
      · rw [if_neg (by omega)]
      · rw [if_neg (by omega)], fun c _ => rfl⟩ (by
    intro q u n' hq ⟨h1, h2⟩
    have nl : ¬ nI n ≤ nI q := nI_ge hq (by omega)
    rcases hu with ⟨rfl, hu⟩ | ⟨rfl, rfl, hu⟩
    · refine ⟨sm_sI u 23 (40 * o + j + q) (u.1 23 (40 * s + i + q)), ?_, fun p => ?_, fun c hc => ?_⟩
      · show mf_X8_copy_p121 (nI s) (nI i) (nI o) (nI j) (nI n) (n' + 1) u 0 (nI q) = mf_X8_copy_p121 (nI s) (nI i) (nI o) (nI j) (nI n) n' _ 0 (nI (q + 1))
        rw [mf_X8_copy_p121]
        simp only [nl, if_false, if_true, mf_X8_copy_p145, sm_bS, nI_40, nI_add, sm_gIn (show 40 * o + j + q < 160 by omega) (by decide : 160 < 2 ^ 31), sm_gIn (show 40 * s + i + q < 160 by omega) (by decide : 160 < 2 ^ 31), nI_cl (show 40 * o + j + q < 2 ^ 31 by omega), nI_cl (show 40 * s + i + q < 2 ^ 31 by omega), nI_inc]
      · simp only [if_true]
        by_cases e : p = 40 * o + j + q
        · subst e
          rw [sm_rE, if_pos (by omega), h1]
          simp only [if_true]
          rw [if_neg (by omega), show 40 * s + i + (40 * o + j + q - (40 * o + j)) = 40 * s + i + q by omega]
        · rw [sm_rI1 23 _ (Or.inr e), h1]
          simp only [if_true]
          by_cases e2 : 40 * o + j ≤ p ∧ p < 40 * o + j + q
          · rw [if_pos e2, if_pos (by omega)]
          · rw [if_neg e2, if_neg (by omega)]
      · rw [sm_rI c hc]; exact h2 c hc
    · refine ⟨sm_sI u 23 (40 * s + j + (n - 1 - q)) (u.1 23 (40 * s + i + (n - 1 - q))), ?_, fun p => ?_, fun c hc => ?_⟩
      · show mf_X8_copy_p121 (nI s) (nI i) (nI s) (nI j) (nI n) (n' + 1) u 1 (nI q) = mf_X8_copy_p121 (nI s) (nI i) (nI s) (nI j) (nI n) n' _ 1 (nI (q + 1))
        rw [mf_X8_copy_p121]
        have e1 : nI n - 1 = nI (n - 1) := pk_sub (b := 1) (by omega)
        simp only [nl, i10, if_false, mf_X8_copy_p145, sm_bS, nI_40, e1, pk_sub (show q ≤ n - 1 by omega), nI_add, sm_gIn (show 40 * s + j + (n - 1 - q) < 160 by omega) (by decide : 160 < 2 ^ 31), sm_gIn (show 40 * s + i + (n - 1 - q) < 160 by omega) (by decide : 160 < 2 ^ 31), nI_cl (show 40 * s + j + (n - 1 - q) < 2 ^ 31 by omega), nI_cl (show 40 * s + i + (n - 1 - q) < 2 ^ 31 by omega), nI_inc]
      · simp only [i10, if_false]
        by_cases e : p = 40 * s + j + (n - 1 - q)
        · subst e
          rw [sm_rE, if_pos (by omega), h1]
          simp only [i10, if_false]
          rw [if_neg (by omega), show 40 * s + i + (40 * s + j + (n - 1 - q) - (40 * s + j)) = 40 * s + i + (n - 1 - q) by omega]
        · rw [sm_rI1 23 _ (Or.inr e), h1]
          simp only [i10, if_false]
          by_cases e2 : 40 * s + j + (n - q) ≤ p ∧ p < 40 * s + j + n
          · rw [if_pos e2, if_pos (by omega)]
          · rw [if_neg e2, if_neg (by omega)]
      · rw [sm_rI c hc]; exact h2 c hc)
  have e1 : mf_X8_copy_p121 (nI s) (nI i) (nI o) (nI j) (nI n) sm_F σ up 0 = mf_X8_copy_p121 (nI s) (nI i) (nI o) (nI j) (nI n) (m + 1) s1 up (nI n) := e1
  rw [e1, mf_X8_copy_p121]
  simp only [nI_le (Nat.le_refl n) (show n < 2 ^ 31 by omega), if_true]
  refine ok_some.mpr ⟨rfl, funext fun p => ?_, e3⟩
  rw [e2 p]
  unfold va_cpy
  rcases hu with ⟨rfl, hu⟩ | ⟨rfl, rfl, hu⟩
  · simp only [if_true]
  · simp only [i10, if_false]
    rw [Nat.sub_self, Nat.add_zero]
section
variable {cmp : (Nat → Int32) → Nat → (Nat → Int32) → (Nat → Int32) → Prop} {σx σm σx' σm' : sm_St} {k tc : Nat}
theorem xf_holds {c n : Nat} {σ : sm_St} (hn : σ.1 c 1 = nI n) (h : n ≤ 40) (i m : Int32) : xf_X5_holds c i m σ = some (if 0 ≤ i ∧ 0 ≤ m ∧ m ≤ nI n ∧ i ≤ nI n - m then 1 else 0, σ) := by
  unfold xf_X5_holds
  simp only [sm_bS, hn]
  have h1 : nI n ≤ nI 40 := nI_le h (by omega)
  have h2 : 0 ≤ nI n := nI_pos' (by omega)
  have h3 : nI 40 = 40 := rfl
  rw [h3] at h1
  (repeat' split) <;> first | rfl | (exfalso; grind)
theorem pr_copy (h : pr_R cmp σx σm) (a1 a2 a3 a4 a5 : Int32) : pr_sim cmp (xf_X7_copy a1 a2 a3 a4 a5 σx) (mf_X8_copy a1 a2 a3 a4 a5 σm) := by
  have h0 := h
  obtain ⟨k, tc, h5, hF, hI, hK, hS, hP, hT⟩ := h
  unfold xf_X7_copy mf_X8_copy xf_X5_isMissing
  simp only [sm_bS, mf_isSheet, xf_isSheet, sm_cS]
  by_cases c : 0 ≤ a1 ∧ a1 ≤ 3
  · by_cases c2 : 0 ≤ a3 ∧ a3 ≤ 3
    · obtain ⟨s, hs, rfl⟩ := nI_ofR (n := 4) (by decide) c.1 (by have := c.2; have e : nI 4 = 4 := rfl; rw [e]; grind)
      obtain ⟨o, ho, rfl⟩ := nI_ofR (n := 4) (by decide) c2.1 (by have := c2.2; have e : nI 4 = 4 := rfl; rw [e]; grind)
      have g1 : ∀ {β : Type} {x : Option β}, sm_g (sm_in (nI s) 4) x = x := sm_gIn hs (by decide)
      have g2 : ∀ {β : Type} {x : Option β}, sm_g (sm_in (nI o) 4) x = x := sm_gIn ho (by decide)
      simp only [c, c2, and_self, if_true, i10, if_false, g1, g2, nI_cl (show s < 2 ^ 31 by omega), nI_cl (show o < 2 ^ 31 by omega)]
      rcases hS s hs with ⟨u1, u2⟩ | ⟨t, n, ht, hn, u1, u2, u3, u4, u5, u6⟩
      · simp only [u1, u2, if_true, sm_cS, i10, if_false]
        exact pr_same h0
      · have nt : ¬ nI t = -1 := nI_ne1 (by omega)
        simp only [u1, u2, u3, u5, nt, if_true, sm_cS, i10, if_false]
        rcases hS o ho with ⟨v1, v2⟩ | ⟨t2, n2, ht2, hn2, v1, v2, v3, v4, v5, v6⟩
        · simp only [v1, v2, if_true, sm_cS, i10, if_false]
          exact pr_same h0
        · have nt2 : ¬ nI t2 = -1 := nI_ne1 (by omega)
          simp only [v1, v2, v3, v5, nt2, if_true, sm_cS, i10, if_false, xf_holds u4 hn, xf_holds v4 hn2]
          by_cases ct : nI t = nI t2
          · simp only [u1, ct, if_true]
            have w1 : nI n ≤ nI 40 := nI_le hn (by omega)
            have w2 : 0 ≤ nI n := nI_pos' (by omega)
            have w3 : nI n2 ≤ nI 40 := nI_le hn2 (by omega)
            have w4 : 0 ≤ nI n2 := nI_pos' (by omega)
            have w5 : nI 40 = 40 := rfl
            rw [w5] at w1 w3
            by_cases ok : (0 ≤ a2 ∧ 0 ≤ a5 ∧ a5 ≤ nI n ∧ a2 ≤ nI n - a5) ∧ (0 ≤ a4 ∧ 0 ≤ a5 ∧ a5 ≤ nI n2 ∧ a4 ≤ nI n2 - a5)
            · have x1 : ¬ a5 < 0 := by grind
              have x2 : ¬ a2 < 0 := by grind
              have x3 : ¬ a4 < 0 := by grind
              have x4 : ¬ nI n - a5 < a2 := by grind
              have x5 : a4 ≤ nI n2 - a5 := ok.2.2.2.2
              simp only [ok.1, ok.2, x1, x2, x3, x4, x5, and_self, if_true, i10, if_false]
              obtain ⟨i, b1, rfl⟩ := nI_ofR (n := 2 ^ 31 - 1) (by decide) ok.1.1 (by have e : nI (2 ^ 31 - 1) = 2147483647 := rfl; rw [e]; grind)
              obtain ⟨j, b2, rfl⟩ := nI_ofR (n := 2 ^ 31 - 1) (by decide) ok.2.1 (by have e : nI (2 ^ 31 - 1) = 2147483647 := rfl; rw [e]; grind)
              obtain ⟨l, b3, rfl⟩ := nI_ofR (n := 2 ^ 31 - 1) (by decide) ok.1.2.1 (by have e : nI (2 ^ 31 - 1) = 2147483647 := rfl; rw [e]; grind)
              have y1 : l ≤ n := (nI_leI (by omega) (by omega)).mp ok.1.2.2.1
              have y2 : l ≤ n2 := (nI_leI (by omega) (by omega)).mp ok.2.2.2.1
              have y3 : i ≤ n - l := by
                have := ok.1.2.2.2
                rw [pk_sub y1] at this
                exact (nI_leI (by omega) (by omega)).mp this
              have y4 : j ≤ n2 - l := by
                have := ok.2.2.2.2
                rw [pk_sub y2] at this
                exact (nI_leI (by omega) (by omega)).mp this
              have cp : sm_cpyok (nI i) (nI j) (nI l) 40 40 = true := by
                unfold sm_cpyok
                rw [nI_cl (by omega), nI_cl (by omega), nI_cl (by omega)]
                exact decide_eq_true ⟨x2, x3, x1, by omega, by omega⟩
              simp only [cp, sm_gT, nI_cl (show i < 2 ^ 31 by omega), nI_cl (show j < 2 ^ 31 by omega), nI_cl (show l < 2 ^ 31 by omega)]
              have fin : ∀ (up : Int32) (hu : (up = 0 ∧ (s = o → j ≤ i)) ∨ (up = 1 ∧ s = o ∧ i < j)), pr_sim cmp (some (nI l, sm_cI σx (35 + s + 4) (35 + o + 4) i j l)) (mf_X8_copy_p121 (nI s) (nI i) (nI o) (nI j) (nI l) sm_F σm up 0) := by
                intro up hu
                obtain ⟨r, w, e1, e2, e3, e4⟩ := mf_copyL hs ho (show i + l ≤ 40 by omega) (show j + l ≤ 40 by omega) σm up hu
                rw [e1, e2]
                refine pr_same (pr_shR ho h0 (fun c h1 h2 h3 => sm_rcn c (by omega)) (fun c c0 c1 c2 c3 => e4 c c3) (fun s' hs' => ⟨by rw [e4 20 (by decide)], by rw [e4 21 (by decide)], by rw [e4 22 (by decide)], fun x hx => ?_⟩) ?_)
                · rw [e3]
                  exact pk_cpy_out (by omega)
                · refine Or.inr ⟨t2, n2, ht2, hn2, by rw [sm_rcn _ (by omega)]; exact v1, by rw [e4 20 (by decide)]; exact v2, by rw [e4 21 (by decide)]; exact v3, by rw [sm_rcn _ (by omega)]; exact v4, by rw [e4 22 (by decide)]; exact v5, fun x hx => ?_⟩
                  rw [e3, show 39 + o = 35 + o + 4 by omega, sm_cIk.1]
                  unfold va_cpy
                  by_cases q : j ≤ x ∧ x < j + l
                  · rw [if_pos q, if_pos (by omega), show 40 * s + i + (40 * o + x - (40 * o + j)) = 40 * s + (i + (x - j)) by omega, u6 _ (by omega), show 35 + s + 4 = 39 + s by omega]
                  · rw [if_neg q, if_neg (by omega), v6 x hx, show 35 + o + 4 = 39 + o by omega]
              simp only [mf_X8_copy_p115, mf_X8_copy_p116]
              by_cases es : s = o
              · subst es
                by_cases ei : nI j ≤ nI i
                · simp only [ei, if_true]
                  exact fin 0 (Or.inl ⟨rfl, fun _ => (nI_leI (by omega) (by omega)).mp ei⟩)
                · simp only [ei, if_true, if_false]
                  exact fin 1 (Or.inr ⟨rfl, rfl, Nat.lt_of_not_le fun z => ei (nI_le z (by omega))⟩)
              · have es' : ¬ nI s = nI o := fun z => es ((nI_eq (by omega) (by omega)).mp z)
                simp only [es', if_false]
                exact fin 0 (Or.inl ⟨rfl, fun z => absurd z es⟩)
            · clear hF hI hK hS hP hT u6 v6 g1 g2
              (repeat' split) <;> first | exact pr_same h0 | (clear h0; exfalso; grind)
          · simp only [u1, ct, if_false]
            exact pr_same h0
    · simp only [c, c2, if_true, if_false, and_self, i10]
      exact pr_same h0
  · simp only [c, if_true, if_false]
    exact pr_same h0
end
