/-! sheet -/
theorem xf_fill {a n : Nat} {v : Int32} {σ : sm_St} (hn : xo_len a = n) (h : n ≤ 160) : sm_ok (xf_J7_fill_53178 a v σ) (fun _ s => (∀ j, j < n → s.1 a j = v) ∧ (∀ c, c ≠ a → s.1 c = σ.1 c) ∧ (∀ j, n ≤ j → s.1 a j = σ.1 a j) ∧ s.2 = σ.2) := by
  unfold xf_J7_fill_53178
  simp only [sm_bS, hn]
  obtain ⟨s1, m, e1, e2, e3, e4, e5⟩ := lp_c (fun n' s l => xf_J7_fill_53178_p5 a v n' s l (nI n)) (fun i s => (∀ j, j < i → s.1 a j = v) ∧ (∀ c, c ≠ a → s.1 c = σ.1 c) ∧ (∀ j, i ≤ j → s.1 a j = σ.1 a j) ∧ s.2 = σ.2) n σ (by omega) ⟨fun x hx => absurd hx (by omega), fun c _ => rfl, fun _ _ => rfl, rfl⟩ (by
    intro i s n' hi ⟨h1, h2, h3, h4⟩
    have nl : ¬ nI n ≤ nI i := nI_ge hi (by omega)
    refine ⟨sm_sI s a i v, ?_, fun j hj => ?_, fun c hc => ?_, fun j hj => ?_, h4⟩
    · show xf_J7_fill_53178_p5 a v (n' + 1) s (nI i) (nI n) = xf_J7_fill_53178_p5 a v n' _ (nI (i + 1)) (nI n)
      rw [xf_J7_fill_53178_p5]
      simp only [nl, if_false, sm_bS, hn, sm_gIn hi (show n < 2 ^ 31 by omega), nI_cl (show i < 2 ^ 31 by omega), nI_inc]
    · by_cases e : j = i
      · subst e; rw [sm_rE]
      · rw [sm_rI1 a j (Or.inr e)]; exact h1 j (by omega)
    · rw [sm_rI c hc]; exact h2 c hc
    · rw [sm_rI1 a j (Or.inr (by omega))]; exact h3 j (by omega))
  have e1 : xf_J7_fill_53178_p5 a v sm_F σ 0 (nI n) = xf_J7_fill_53178_p5 a v (m + 1) s1 (nI n) (nI n) := e1
  show sm_ok (xf_J7_fill_53178_p5 a v sm_F σ 0 (nI n)) _
  rw [e1, xf_J7_fill_53178_p5]
  simp only [nI_le (Nat.le_refl n) (show n < 2 ^ 31 by omega), if_true]
  exact ok_some.mpr ⟨e2, e3, e4, e5⟩
theorem xo_len_items {s : Nat} (hs : s < 4) : xo_len (35 + s + 4) = 40 := by
  rcases (by omega : s = 0 ∨ s = 1 ∨ s = 2 ∨ s = 3) with rfl | rfl | rfl | rfl <;> rfl
theorem xf_shBecome {s : Nat} (hs : s < 4) (a b : Int32) (σ : sm_St) : sm_ok (xf_X5_become (35 + s) a b σ) (fun _ t => t.1 (35 + s) 0 = a ∧ t.1 (35 + s) 1 = b ∧ (∀ j, j < 40 → t.1 (39 + s) j = 0) ∧ ∀ c, c ≠ 35 + s → c ≠ 39 + s → t.1 c = σ.1 c) := by
  unfold xf_X5_become
  simp only [sm_bS]
  refine ok_c (xf_fill (xo_len_items hs) (by decide)) (fun _ t ⟨h1, h2, h3, h4⟩ => ok_some.mpr ⟨?_, ?_, fun j hj => ?_, fun c c1 c2 => ?_⟩)
  · rw [h2 _ (by omega), sm_rI1 _ _ (Or.inr (by decide)), sm_rE]
  · rw [h2 _ (by omega), sm_rE]
  · rw [show 39 + s = 35 + s + 4 by omega]; exact h1 j hj
  · rw [h2 c (by omega), sm_rI c c1, sm_rI c c1]
theorem mf_sheetSet {s n : Nat} (hs : s < 4) (hn : n ≤ 40) {t : Int32} (ht : 0 ≤ t ∧ t ≤ 2) (σ : sm_St) : sm_ok (mf_X8_sheet (nI s) t (nI n) σ) (fun r u => r = 1 ∧ u.1 20 s = 1 ∧ u.1 21 s = t ∧ u.1 22 s = nI n ∧ (∀ i, i < n → u.1 23 (40 * s + i) = 0) ∧ (∀ s', s' ≠ s → u.1 20 s' = σ.1 20 s' ∧ u.1 21 s' = σ.1 21 s' ∧ u.1 22 s' = σ.1 22 s' ∧ ∀ i, i < 40 → u.1 23 (40 * s' + i) = σ.1 23 (40 * s' + i)) ∧ ∀ c, c ≠ 20 → c ≠ 21 → c ≠ 22 → c ≠ 23 → u.1 c = σ.1 c) := by
  have g1 : ∀ {β : Type} {x : Option β}, sm_g (sm_in (nI s) 4) x = x := sm_gIn hs (by decide)
  have z0 : 0 ≤ nI s ∧ nI s ≤ 3 := ⟨nI_pos' (by omega), nI_le (b := 3) (by omega) (by decide)⟩
  have z1 : -1 ≤ t ∧ t ≤ 2 := by grind
  have z2 : ¬ t < 0 := by grind
  have z3 : nI n ≤ 40 := nI_le (b := 40) hn (by decide)
  have z4 : 0 ≤ nI n := nI_pos' (by omega)
  have z5 : vp_nar .boolean 1 = 1 := rfl
  unfold mf_X8_sheet
  simp only [sm_bS, mf_isSheet, sm_cS, z0, z1, z2, z3, z4, and_self, if_true, i10, if_false, mf_inm2, mf_X8_sheet_p34, mf_X8_sheet_p45, mf_X8_sheet_p59, g1, nI_cl (show s < 2 ^ 31 by omega), z5]
  obtain ⟨s1, m, e1, e2, e3, e4⟩ := lp_c (mf_X8_sheet_p77 (nI s) t (nI n)) (fun i u => (∀ j, j < i → u.1 23 (40 * s + j) = 0) ∧ (∀ j, j < 40 * s ∨ 40 * s + 40 ≤ j → u.1 23 j = σ.1 23 j) ∧ (∀ c, c ≠ 23 → u.1 c = (sm_sI (sm_sI (sm_sI σ 20 s 1) 21 s t) 22 s (nI n)).1 c)) n (sm_sI (sm_sI (sm_sI σ 20 s 1) 21 s t) 22 s (nI n)) (by omega) ⟨fun x hx => absurd hx (by omega), fun j _ => by rw [sm_rI 23 (by decide), sm_rI 23 (by decide), sm_rI 23 (by decide)], fun c _ => rfl⟩ (by
    intro i u n' hi ⟨h1, h2, h3⟩
    have nl : ¬ nI n ≤ nI i := nI_ge hi (by omega)
    refine ⟨sm_sI u 23 (40 * s + i) 0, ?_, fun j hj => ?_, fun j hj => ?_, fun c hc => ?_⟩
    · rw [mf_X8_sheet_p77]
      simp only [nl, z2, if_false, sm_bS, nI_40, sm_gIn (show 40 * s + i < 160 by omega) (by decide : 160 < 2 ^ 31), nI_cl (show 40 * s + i < 2 ^ 31 by omega), nI_inc]
    · by_cases e : j = i
      · subst e; rw [sm_rE]
      · rw [sm_rI1 23 _ (Or.inr (by omega))]; exact h1 j (by omega)
    · rw [sm_rI1 23 _ (Or.inr (by omega))]; exact h2 j hj
    · rw [sm_rI c hc]; exact h3 c hc)
  rw [e1, mf_X8_sheet_p77]
  simp only [nI_le (Nat.le_refl n) (show n < 2 ^ 31 by omega), if_true]
  refine ok_some.mpr ⟨rfl, ?_, ?_, ?_, e2, fun s' hs' => ⟨?_, ?_, ?_, fun i hi => e3 _ (by omega)⟩, fun c c0 c1 c2 c3 => ?_⟩
  · rw [e4 20 (by decide), sm_rI 20 (by decide), sm_rI 20 (by decide), sm_rE]
  · rw [e4 21 (by decide), sm_rI 21 (by decide), sm_rE]
  · rw [e4 22 (by decide), sm_rE]
  · rw [e4 20 (by decide), sm_rI 20 (by decide), sm_rI 20 (by decide), sm_rI1 20 _ (Or.inr hs')]
  · rw [e4 21 (by decide), sm_rI 21 (by decide), sm_rI1 21 _ (Or.inr hs'), sm_rI 21 (by decide)]
  · rw [e4 22 (by decide), sm_rI1 22 _ (Or.inr hs'), sm_rI 22 (by decide), sm_rI 22 (by decide)]
  · rw [e4 c c3, sm_rI c c2, sm_rI c c1, sm_rI c c0]
section
variable {cmp : (Nat → Int32) → Nat → (Nat → Int32) → (Nat → Int32) → Prop} {σx σm σx' σm' : sm_St} {k tc : Nat}
/-- one sheet is another; all else stands -/
theorem pr_shR {s : Nat} (hs : s < 4) (h : pr_R cmp σx σm) (hx : ∀ c, c < 43 → c ≠ 35 + s → c ≠ 39 + s → σx'.1 c = σx.1 c) (hm : ∀ c, c ≠ 20 → c ≠ 21 → c ≠ 22 → c ≠ 23 → σm'.1 c = σm.1 c) (ho : ∀ s', s' ≠ s → σm'.1 20 s' = σm.1 20 s' ∧ σm'.1 21 s' = σm.1 21 s' ∧ σm'.1 22 s' = σm.1 22 s' ∧ ∀ i, i < 40 → σm'.1 23 (40 * s' + i) = σm.1 23 (40 * s' + i)) (h1 : pr_S1 σx' σm' s) : pr_R cmp σx' σm' := by
  obtain ⟨k, tc, h5, hF, hI, hK, hS, hP, hT⟩ := h
  refine ⟨k, tc, h5, ?_, ?_, ?_, ?_, ?_, ?_⟩
  · unfold pr_F at hF ⊢
    rw [hm 0 (by decide) (by decide) (by decide) (by decide), hm 4 (by decide) (by decide) (by decide) (by decide), hm 5 (by decide) (by decide) (by decide) (by decide), hm 6 (by decide) (by decide) (by decide) (by decide), hx 1 (by decide) (by omega) (by omega), hx 4 (by decide) (by omega) (by omega), hx 7 (by decide) (by omega) (by omega), hx 10 (by decide) (by omega) (by omega)]
    exact hF
  · rw [hx 1 (by decide) (by omega) (by omega), hx 4 (by decide) (by omega) (by omega), hx 7 (by decide) (by omega) (by omega), hx 10 (by decide) (by omega) (by omega)]
    exact hI
  · exact hK.cong (by rw [hx 0 (by decide) (by omega) (by omega)]) (hx 2 (by decide) (by omega) (by omega)) (hx 4 (by decide) (by omega) (by omega)) (hx 5 (by decide) (by omega) (by omega)) (hx 8 (by decide) (by omega) (by omega)) (hx 11 (by decide) (by omega) (by omega)) (by rw [hm 0 (by decide) (by decide) (by decide) (by decide)]) (by rw [hm 0 (by decide) (by decide) (by decide) (by decide)]) (hm 19 (by decide) (by decide) (by decide) (by decide))
  · intro s' hs'
    by_cases e : s' = s
    · subst e; exact h1
    · have q := hS s' hs'
      obtain ⟨o1, o2, o3, o4⟩ := ho s' e
      unfold pr_S1 at q ⊢
      rw [hx (35 + s') (by omega) (by omega) (by omega), hx (39 + s') (by omega) (by omega) (by omega), o1, o2, o3]
      rcases q with q | ⟨t', n', q1, q2, q3, q4, q5, q6, q7, q8⟩
      · exact Or.inl q
      · exact Or.inr ⟨t', n', q1, q2, q3, q4, q5, q6, q7, fun j hj => by rw [o4 j (by omega)]; exact q8 j hj⟩
  · exact hP.cong (by rw [hx 13 (by decide) (by omega) (by omega)]) (hx 14 (by decide) (by omega) (by omega)) (by rw [hm 0 (by decide) (by decide) (by decide) (by decide)]) (hm 3 (by decide) (by decide) (by decide) (by decide))
  · exact hT.cong (by rw [hx 0 (by decide) (by omega) (by omega)]) (fun c h1 h2 => hx c (by omega) (by omega) (by omega)) (by rw [hm 0 (by decide) (by decide) (by decide) (by decide)]) (hm 1 (by decide) (by decide) (by decide) (by decide)) (hm 2 (by decide) (by decide) (by decide) (by decide))
theorem pr_sheet (h : pr_R cmp σx σm) (a1 a2 a3 : Int32) : pr_sim cmp (xf_X7_sheet a1 a2 a3 σx) (mf_X8_sheet a1 a2 a3 σm) := by
  unfold xf_X7_sheet
  simp only [xf_isSheet, sm_cS]
  by_cases c : 0 ≤ a1 ∧ a1 ≤ 3
  · obtain ⟨s, hs, rfl⟩ := nI_ofR (n := 4) (by decide) c.1 (by have := c.2; have e : nI 4 = 4 := rfl; rw [e]; grind)
    have g1 : ∀ {β : Type} {x : Option β}, sm_g (sm_in (nI s) 4) x = x := sm_gIn hs (by decide)
    simp only [c, and_self, if_true, i10, if_false, g1, nI_cl (show s < 2 ^ 31 by omega)]
    by_cases c2 : -1 ≤ a2 ∧ a2 ≤ 2
    · have n1 : ¬ a2 < -1 := by grind
      have n2 : a2 < 3 := by grind
      simp only [n1, n2, if_true, if_false]
      by_cases c3 : a2 = -1
      · subst c3
        obtain ⟨u, t, e1, x1, x2, x3, x4⟩ := xf_shBecome hs (-1) 0 σx
        simp only [if_true, e1, sm_cS]
        have z5 : vp_nar .boolean 0 = 0 := rfl
        have z6 : (-1 : Int32) < 0 := by decide
        have z7 : (-1 : Int32) ≤ -1 ∧ (-1 : Int32) ≤ 2 := by decide
        have z8 : mf_X8_sheet (nI s) (-1) a3 σm = some (1, sm_sI (sm_sI (sm_sI σm 20 s 0) 21 s (-1)) 22 s a3) := by
          unfold mf_X8_sheet
          simp only [sm_bS, mf_isSheet, sm_cS, c, z6, z7, and_self, if_true, i10, if_false, mf_inm2, mf_X8_sheet_p34, mf_X8_sheet_p45, mf_X8_sheet_p59, g1, nI_cl (show s < 2 ^ 31 by omega), z5]
          obtain ⟨F, hF⟩ := sm_Fs 1 (by decide)
          rw [hF, mf_X8_sheet_p77]
          simp only [z6, if_true]
          split <;> rfl
        rw [z8]
        refine pr_same (pr_shR hs h (fun c h1 h2 h3 => x4 c h2 h3) (fun c c0 c1 c2 c3 => by rw [sm_rI c c2, sm_rI c c1, sm_rI c c0]) (fun s' hs' => ⟨?_, ?_, ?_, fun i hi => ?_⟩) (Or.inl ⟨x1, ?_⟩))
        · rw [sm_rI 20 (by decide), sm_rI 20 (by decide), sm_rI1 20 _ (Or.inr hs')]
        · rw [sm_rI 21 (by decide), sm_rI1 21 _ (Or.inr hs'), sm_rI 21 (by decide)]
        · rw [sm_rI1 22 _ (Or.inr hs'), sm_rI 22 (by decide), sm_rI 22 (by decide)]
        · rw [sm_rI 23 (by decide), sm_rI 23 (by decide), sm_rI 23 (by decide)]
        · rw [sm_rI 20 (by decide), sm_rI 20 (by decide), sm_rE]
      · have n3 : 0 ≤ a2 ∧ a2 ≤ 2 := by grind
        have n4 : ¬ a2 < 0 := by grind
        simp only [c3, if_false]
        by_cases c4 : 0 ≤ a3 ∧ a3 ≤ 40
        · obtain ⟨n, hn, rfl⟩ := nI_ofR (n := 41) (by decide) c4.1 (by have := c4.2; have e : nI 41 = 41 := rfl; rw [e]; grind)
          obtain ⟨t, ht, rfl⟩ := nI_ofR (n := 3) (by decide) n3.1 n2
          obtain ⟨u, w, e1, x1, x2, x3, x4⟩ := xf_shBecome hs (nI t) (nI n) σx
          obtain ⟨r, v, e2, m1, m2, m3, m4, m5, m6, m7⟩ := mf_sheetSet hs (show n ≤ 40 by omega) n3 σm
          simp only [c4, if_true, e1, sm_cS]
          rw [e2, m1]
          exact pr_same (pr_shR hs h (fun c h1 h2 h3 => x4 c h2 h3) m7 m6 (Or.inr ⟨t, n, ht, by omega, x1, m2, m3, x2, m4, fun i hi => by rw [m5 i hi, x3 i (by omega)]⟩))
        · unfold mf_X8_sheet
          simp only [sm_bS, mf_isSheet, sm_cS, c, c2, n4, and_self, if_true, i10, if_false, mf_inm2, mf_X8_sheet_p34]
          (repeat' split) <;> first | exact pr_same h | (clear h; exfalso; grind)
    · unfold mf_X8_sheet
      simp only [sm_bS, mf_isSheet, sm_cS, c, c2, and_self, if_true, i10, if_false, mf_inm2]
      (repeat' split) <;> first | exact pr_same h | (clear h; exfalso; grind)
  · unfold mf_X8_sheet
    simp only [sm_bS, mf_isSheet, sm_cS, c, if_true, if_false]
    exact pr_same h
end
