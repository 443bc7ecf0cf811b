/-! sitters -/
section
variable {cmp : (Nat → Int32) → Nat → (Nat → Int32) → (Nat → Int32) → Prop} {σx σm σx' σm' : sm_St} {k tc : Nat}
theorem xf_comeE {a b p r : Int32} {s : sm_St} (hk : σx.1 1 6 = nI k) (h5 : k ≤ 5) (h : xf_X0_come 1 a b p σx = some (r, s)) : ∀ c, 35 ≤ c → s.1 c = σx.1 c := by
  unfold xf_X0_come at h
  simp only [sm_bS, xf_exists, xf_isPlace, xf_who hk h5, sm_cS] at h
  intro c hc
  (repeat' split at h) <;> first
    | (cases h; rfl)
    | (obtain ⟨_, h⟩ := sm_gE h
       obtain ⟨_, h⟩ := sm_gE h
       obtain ⟨_, h⟩ := sm_gE h
       cases h
       rw [sm_rI c (by omega), sm_rI c (by omega), sm_rI c (by omega), sm_rI c (by omega)])
theorem mf_sitterE {a b p r : Int32} {s : sm_St} (hk : σm.1 0 15 = nI k) (h5 : k ≤ 5) (h : mf_X8_sitter a b p σm = some (r, s)) : ∀ c, 20 ≤ c → s.1 c = σm.1 c := by
  unfold mf_X8_sitter at h
  simp only [sm_bS, mf_in5, mf_in9, mf_isPlace, mf_onPlace hk h5, sm_cS] at h
  intro c hc
  (repeat' split at h) <;> first
    | (cases h; rfl)
    | (obtain ⟨_, h⟩ := sm_gE h
       obtain ⟨_, h⟩ := sm_gE h
       obtain ⟨_, h⟩ := sm_gE h
       cases h
       rw [sm_rI c (by omega), sm_rI c (by omega), sm_rI c (by omega), sm_rI c (by omega)])
theorem xf_item {c n i : Nat} {σ : sm_St} (hn : σ.1 c 1 = nI n) (h : n ≤ 40) (hi : i < n) : xf_X5_item c (nI i) σ = some (σ.1 (c + 4) i, σ) := by
  unfold xf_X5_item
  simp only [sm_bS, hn, nI_pos (show i < 2 ^ 31 by omega), nI_ge hi (show n < 2 ^ 31 by omega), if_false, sm_gIn (show i < 40 by omega) (by decide : 40 < 2 ^ 31), nI_cl (show i < 2 ^ 31 by omega)]
theorem pr_sittersL {s n b : Nat} {a2 : Int32} (hs : s < 4) (hn : n ≤ 5) (hb : b < 2 ^ 31) : ∀ (d i : Nat) (came : Int32) (σx σm : sm_St) (nx nm : Nat), i + d = n → d < nx → d < nm → (i = 0 ∨ b + 3 * i ≤ 40) → pr_R cmp σx σm → ¬ σx.1 (35 + s) 0 = -1 →
    pr_sim cmp (xf_X7_sitters_p70 (nI s) a2 (nI b) (nI n) nx σx (35 + s) came (nI (b + 3 * i)) (nI i)) (mf_X8_sitters_p75 (nI s) a2 (nI b) (nI n) nm σm came (nI i)) := by
  intro d
  induction d with
  | zero =>
    intro i came σx σm nx nm h1 h2 h3 h4 h hs0
    obtain ⟨nx, rfl⟩ : ∃ m, nx = m + 1 := ⟨nx - 1, by omega⟩
    obtain ⟨nm, rfl⟩ : ∃ m, nm = m + 1 := ⟨nm - 1, by omega⟩
    rw [xf_X7_sitters_p70, mf_X8_sitters_p75]
    simp only [nI_le (show n ≤ i by omega) (show i < 2 ^ 31 by omega), if_true]
    exact pr_same h
  | succ d ih =>
    intro i came σx σm nx nm h1 h2 h3 h4 h hs0
    obtain ⟨nx, rfl⟩ : ∃ m, nx = m + 1 := ⟨nx - 1, by omega⟩
    obtain ⟨nm, rfl⟩ : ∃ m, nm = m + 1 := ⟨nm - 1, by omega⟩
    have h0 := h
    obtain ⟨k, tc, h5, hF, hI, hK, hS, hP, hT⟩ := h
    rcases hS s hs with ⟨u1, u2⟩ | ⟨t, m, ht, hm, u1, u2, u3, u4, u5, u6⟩
    · exact absurd u1 hs0
    · have g1 : ∀ {β : Type} {x : Option β}, sm_g (sm_in (nI s) 4) x = x := sm_gIn hs (by decide)
      rw [xf_X7_sitters_p70, mf_X8_sitters_p75]
      have z3 : (3 : Int32) * nI i = nI (3 * i) := pk_mul 3 i
      have w1 : nI m ≤ nI 40 := nI_le hm (by omega)
      have w2 : 0 ≤ nI m := nI_pos' (by omega)
      have w5 : nI 40 = 40 := rfl
      rw [w5] at w1
      have w6 : 0 ≤ nI b := nI_pos' (by omega)
      have w7 : nI (3 * i) ≤ nI 15 := nI_le (by omega) (by omega)
      have w8 : 0 ≤ nI (3 * i) := nI_pos' (by omega)
      have w9 : nI 15 = 15 := rfl
      rw [w9] at w7
      simp only [nI_ge (show i < n by omega) (show n < 2 ^ 31 by omega), nI_pos (show b < 2 ^ 31 by omega), if_false, g1, sm_bS, nI_cl (show s < 2 ^ 31 by omega), u5, z3, xf_holds u4 hm, sm_cS]
      by_cases ok : b + 3 * i + 3 ≤ m
      · have o1 : 0 ≤ nI (b + 3 * i) ∧ (0 : Int32) ≤ 3 ∧ 3 ≤ nI m ∧ nI (b + 3 * i) ≤ nI m - 3 := by
          refine ⟨nI_pos' (by omega), by decide, nI_le (a := 3) (by omega) (by omega), ?_⟩
          rw [show nI m - 3 = nI (m - 3) from pk_sub (b := 3) (by omega)]
          exact nI_le (by omega) (by omega)
        have o2 : nI b ≤ nI m - nI (3 * i) - 3 := by
          rw [pk_sub (show 3 * i ≤ m by omega), show nI (m - 3 * i) - 3 = nI (m - 3 * i - 3) from pk_sub (b := 3) (by omega)]
          exact nI_le (by omega) (by omega)
        have e1 : nI (b + 3 * i) + 1 = nI (b + 3 * i + 1) := nI_1 _
        have e2 : nI (b + 3 * i) + 2 = nI (b + 3 * i + 2) := nI_add _ 2
        have e3 : (40 : Int32) * nI s + nI b + nI (3 * i) = nI (40 * s + (b + 3 * i)) := by rw [nI_40, nI_add, Nat.add_assoc]
        have e4 : nI (40 * s + (b + 3 * i)) + 1 = nI (40 * s + (b + 3 * i + 1)) := nI_1 _
        have e5 : nI (40 * s + (b + 3 * i)) + 2 = nI (40 * s + (b + 3 * i + 2)) := nI_add _ 2
        simp only [o1, o2, and_self, if_true, i10, if_false, e1, e2, e3, e4, e5, xf_item u4 hm (show b + 3 * i < m by omega), xf_item u4 hm (show b + 3 * i + 1 < m by omega), xf_item u4 hm (show b + 3 * i + 2 < m by omega), sm_cS, sm_gIn (show 40 * s + (b + 3 * i) < 160 by omega) (by decide : 160 < 2 ^ 31), sm_gIn (show 40 * s + (b + 3 * i + 1) < 160 by omega) (by decide : 160 < 2 ^ 31), sm_gIn (show 40 * s + (b + 3 * i + 2) < 160 by omega) (by decide : 160 < 2 ^ 31), nI_cl (show 40 * s + (b + 3 * i) < 2 ^ 31 by omega), nI_cl (show 40 * s + (b + 3 * i + 1) < 2 ^ 31 by omega), nI_cl (show 40 * s + (b + 3 * i + 2) < 2 ^ 31 by omega), u6 (b + 3 * i) (by omega), u6 (b + 3 * i + 1) (by omega), u6 (b + 3 * i + 2) (by omega), show 35 + s + 4 = 39 + s by omega]
        obtain ⟨r, x', m', q1, q2, q3⟩ := pr_sitter h0 (σx.1 (39 + s) (b + 3 * i)) (σx.1 (39 + s) (b + 3 * i + 1)) (σx.1 (39 + s) (b + 3 * i + 2))
        unfold xf_X7_sitter at q1
        rw [sm_ceta] at q1
        have f1 := xf_comeE hI.2.2.2.2.2.1 h5 q1
        rw [q1, q2]
        simp only [sm_cS, xf_X7_sitters_p129, mf_X8_sitters_p158, sm_bS, nI_inc]
        have e6 : nI (b + 3 * i) + Int32.ofInt 3 = nI (b + 3 * (i + 1)) := by
          rw [show b + 3 * (i + 1) = b + 3 * i + 3 by omega]
          exact nI_add _ 3
        have e7 : came + Int32.ofInt 1 = came + 1 := rfl
        have e8 : came + 0 = came := by grind
        rw [e6, e7, e8]
        have n0 : ¬ x'.1 (35 + s) 0 = -1 := by rw [f1 _ (by omega)]; exact hs0
        split
        · exact ih (i + 1) came x' m' nx nm (by omega) (by omega) (by omega) (Or.inr (by omega)) q3 n0
        · exact ih (i + 1) (came + 1) x' m' nx nm (by omega) (by omega) (by omega) (Or.inr (by omega)) q3 n0
      · have o1 : ¬ (0 ≤ nI (b + 3 * i) ∧ (0 : Int32) ≤ 3 ∧ 3 ≤ nI m ∧ nI (b + 3 * i) ≤ nI m - 3) := by
          intro ⟨q1, q2, q3, q4⟩
          have q5 : 3 ≤ m := (nI_leI (a := 3) (by omega) (by omega)).mp q3
          rw [show nI m - 3 = nI (m - 3) from pk_sub (b := 3) (by omega)] at q4
          have := (nI_leI (by omega) (by omega)).mp q4
          omega
        have o2 : ¬ nI b ≤ nI m - nI (3 * i) - 3 := by
          intro q
          have hm0 : 3 * i ≤ m ∨ m < 3 * i := by omega
          have key : nI b + nI (3 * i) + 3 ≤ nI m := by
            rcases h4 with h4 | h4
            · subst h4
              have : nI (3 * 0) = 0 := rfl
              rw [this] at q ⊢
              grind
            · have : nI b ≤ nI 40 := nI_le (by omega) (by omega)
              rw [w5] at this
              grind
          have e : nI b + nI (3 * i) + 3 = nI (b + 3 * i + 3) := by rw [nI_add]; exact nI_add _ 3
          rw [e] at key
          rcases h4 with h4 | h4
          · subst h4
            by_cases hbb : b + 3 < 2 ^ 31
            · have := (nI_leI (by omega) (by omega)).mp key; omega
            · have h6 : nI b ≤ nI m - 0 - 3 := q
              have h7 : nI b ≤ 40 := by grind
              have := (nI_leI (b := 40) (by omega) (by omega)).mp h7
              omega
          · have := (nI_leI (by omega) (by omega)).mp key; omega
        simp only [o1, o2, if_true, if_false]
        exact pr_same h0
theorem pr_sitters (h : pr_R cmp σx σm) (a1 a2 a3 a4 : Int32) : pr_sim cmp (xf_X7_sitters a1 a2 a3 a4 σx) (mf_X8_sitters a1 a2 a3 a4 σm) := by
  have h0 := h
  obtain ⟨k, tc, h5, hF, hI, hK, hS, hP, hT⟩ := h
  unfold xf_X7_sitters mf_X8_sitters xf_X5_isMissing
  simp only [sm_bS, mf_isSheet, xf_isSheet, sm_cS, mf_in2, mf_in5]
  by_cases c : 0 ≤ a1 ∧ a1 ≤ 3
  · by_cases c2 : 0 ≤ a2 ∧ a2 ≤ 2
    · by_cases c3 : 0 ≤ a4 ∧ a4 ≤ 5
      · have n1 : ¬ a2 < 0 := by grind
        have n2 : ¬ 3 ≤ a2 := by grind
        have n3 : ¬ a4 < 0 := by grind
        obtain ⟨s, hs, rfl⟩ := nI_ofR (n := 4) (by decide) c.1 (by have := c.2; have e : nI 4 = 4 := rfl; rw [e]; grind)
        have g1 : ∀ {β : Type} {x : Option β}, sm_g (sm_in (nI s) 4) x = x := sm_gIn hs (by decide)
        simp only [c, c2, c3, n1, n2, n3, and_self, if_true, i10, if_false, g1, nI_cl (show s < 2 ^ 31 by omega), mf_X8_sitters_p57, sm_bS]
        rcases hS s hs with ⟨u1, u2⟩ | ⟨t, m, ht, hm, u1, u2, u3, u4, u5, u6⟩
        · simp only [u1, u2, if_true, sm_cS, i10, if_false]
          exact pr_same h0
        · have nt : ¬ nI t = -1 := nI_ne1 (by omega)
          have n0 : ¬ σx.1 (35 + s) 0 = -1 := by rw [u1]; exact nt
          simp only [u1, u2, u3, nt, if_true, sm_cS, i10, if_false]
          by_cases ct : nI t = a2
          · simp only [ct, if_true]
            obtain ⟨n, hn, rfl⟩ := nI_ofR (n := 6) (by decide) c3.1 (by have := c3.2; have e : nI 6 = 6 := rfl; rw [e]; grind)
            by_cases ca : 0 ≤ a3
            · obtain ⟨b, hb, rfl⟩ := nI_of (x := a3) (by grind)
              exact pr_sittersL hs (show n ≤ 5 by omega) hb n 0 0 σx σm sm_F sm_F (by omega) (by have := sm_Fge; omega) (by have := sm_Fge; omega) (Or.inl rfl) h0 n0
            · obtain ⟨F, hF⟩ := sm_Fs 1 (by decide)
              rw [hF, xf_X7_sitters_p70, mf_X8_sitters_p75]
              simp only [xf_holds u4 hm, sm_cS]
              clear hF hI hK hS hP hT u6 g1
              (repeat' split) <;> first | exact pr_same h0 | (clear h0; exfalso; grind)
          · simp only [ct, if_false]
            exact pr_same h0
      · simp only [c, c2, c3, and_self, if_true, i10, if_false]
        clear hF hI hK hS hP hT
        (repeat' split) <;> first | exact pr_same h0 | (clear h0; exfalso; grind)
    · simp only [c, c2, and_self, if_true, i10, if_false]
      clear hF hI hK hS hP hT
      (repeat' split) <;> first | exact pr_same h0 | (clear h0; exfalso; grind)
  · simp only [c, if_true, if_false]
    exact pr_same h0
end
