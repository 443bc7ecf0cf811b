/-! night -/
section
variable {cmp : (Nat → Int32) → Nat → (Nat → Int32) → (Nat → Int32) → Prop} {V : (Nat → Int32) → (Nat → Int32) → Int32 → (Nat → Int32) → Int32} {σx σm : sm_St}
theorem pr_rule (h : pr_R cmp σx σm) : ∃ k tc t N, k ≤ 5 ∧ t < 6 ∧ N ≤ 160 ∧ pr_F σx σm k ∧ pr_I (σx.1 1) (σx.1 4) (σx.1 7) (σx.1 10) k tc ∧ σx.1 1 5 = nI t ∧ σm.1 0 4 = nI t ∧ σm.1 2 t = nI N ∧ cmp (fun i => σm.1 1 (160 * t + i)) N (σx.1 (22 + t)) (σx.1 (28 + t)) := by
  obtain ⟨k, tc, h5, hF, hI, -, -, -, hT⟩ := h
  obtain ⟨t1, t2, -, -, t5⟩ := hT
  obtain ⟨t, ht, et⟩ := nI_ofR (show tc < 2 ^ 31 by omega) hI.2.2.2.2.1.1 hI.2.2.2.2.1.2
  obtain ⟨N, n1, n2, n3⟩ := t5 t ht
  exact ⟨k, tc, t, N, h5, by omega, n1, hF, hI, et, by rw [hF.2.2.2.2.2.2.1, et], n2, n3⟩
theorem pr_asIs {s n : Nat} (hI : nt_I cmp V) (h : pr_R cmp σx σm) (hs : s < 4) (hn : n ≤ 40) (x1 : σx.1 (35 + s) 1 = nI n) (m1 : σm.1 22 s = nI n) (it : ∀ i, i < n → σm.1 23 (40 * s + i) = σx.1 (39 + s) i) : ∃ k R ux wx s3 u v, k ≤ 5 ∧ σx.1 1 6 = nI k ∧ xf_X2_takeWinds (35 + s) σx = some ((), ux) ∧ xf_X7_thinkAsItIs ux = some ((), wx) ∧ mf_X8_layAside σm = some ((), s3) ∧ mf_X8_nights (nI s) s3 = some ((), u) ∧ mf_X8_takeBack u = some ((), v) ∧ nt_X k R wx ∧ nt_M k R u ∧ u.1 0 15 = nI k ∧ v.1 0 15 = nI k ∧ (∀ c, 7 ≤ c → c ≤ 11 → v.1 c = u.1 c) ∧ pr_R cmp wx v := by
  obtain ⟨k, tc, t, N, h5, ht, hN, hF, hR, et, em, e2, hc⟩ := pr_rule h
  obtain ⟨f1, f2, f3, f4, f5, f6, f7, f8⟩ := hF
  obtain ⟨_, ux, e1, w1, w2, w3, w4⟩ := xf_takeWindsE hs hn x1
  have c1 := w3 1 (by decide) (by decide)
  have c4 := w3 4 (by decide) (by decide)
  have c7 := w3 7 (by decide) (by decide)
  have c10 := w3 10 (by decide) (by decide)
  have c22 := w3 (22 + t) (by omega) (by omega)
  have c28 := w3 (28 + t) (by omega) (by omega)
  obtain ⟨_, wx, e3, y1, y2⟩ := xf_asIs (σ := ux) (W := fun m => nt_wind (σx.1 (39 + s) m)) hI h5 (by rw [c1, c4, c7, c10]; exact hR) ht (by rw [c1, et]) (by rw [c22, c28]; exact hc) hn w1 w2
  rw [c1, c4, c7, c10, c22, c28] at y2
  obtain ⟨s3, u, v, g1, g2, g3, g4, g5, g6, g7, g8⟩ := mf_asideN (σ := σm) (kn := σx.1 4) (nb := σx.1 7) (pl := σx.1 10) (W := fun m => nt_wind (σx.1 (39 + s) m)) hI hs hn m1 h5 f1 f8 f2 f5 f6 hR.2.2.2.1 (fun m hm => by rw [it m hm]) (nt_good0 h5 hR) ht hN em e2 hc
  refine ⟨k, _, ux, wx, s3, u, v, h5, hR.2.2.2.2.2.1, e1, e3, g1, g2, g3, y2, g4, g5, g6, g7, h.keep (fun c j hcj => ?_) g8⟩
  obtain ⟨d3, d6, d9, d12, d43⟩ := pr_pxE c j hcj
  rw [y1 c d3 d6 d9 d12 d43, w3 c (by omega) (by omega)]
theorem nI_60 : ∀ n, n < 60 → nI n / 10 = nI (n / 10) ∧ nI n - nI n / 10 * 10 = nI (n % 10) := by decide
theorem xf_missing {s : Nat} {σ : sm_St} : xf_X5_isMissing s σ = some (if σ.1 s 0 = -1 then 1 else 0, σ) := by
  unfold xf_X5_isMissing
  simp only [sm_bS]
  split <;> rfl
theorem nt_sumX {k : Nat} {R : Nat → Nat → Int32} {σ : sm_St} (h5 : k ≤ 5) (h : nt_X k R σ) : nt_sum (σ.1 44) 5 = nt_sum (R 3) k ∧ nt_sum (σ.1 48) 5 = nt_sum (R 6) k := by
  obtain ⟨q1, q2, q3, q4, q5, q6⟩ := h
  obtain ⟨d, e⟩ : ∃ d, k + d = 5 := ⟨5 - k, by omega⟩
  rw [← e]
  constructor
  · rw [nt_sumZ d (fun i a b => (q6 i a (by omega)).1)]
    exact nt_sumC k (fun i hi => (q5 i hi).2.2.1)
  · rw [nt_sumZ d (fun i a b => (q6 i a (by omega)).2)]
    exact nt_sumC k (fun i hi => (q5 i hi).2.2.2.2.2)
theorem nt_sumM {k : Nat} {R : Nat → Nat → Int32} {σ : sm_St} (h : nt_M k R σ) : nt_sum (σ.1 8) k = nt_sum (R 3) k ∧ nt_sum (σ.1 11) k = nt_sum (R 6) k := by
  obtain ⟨q1, q2, q3, q5⟩ := h
  exact ⟨nt_sumC k (fun i hi => (q5 i hi).2.2.1), nt_sumC k (fun i hi => (q5 i hi).2.2.2.2.2)⟩
theorem pr_night44 {s n : Nat} {a2 : Int32} (hI : nt_I cmp V) (h : pr_R cmp σx σm) (hs : s < 4) (hn : n ≤ 40) (x1 : σx.1 (35 + s) 1 = nI n) (m1 : σm.1 22 s = nI n) (m20 : σm.1 20 s = 1) (it : ∀ i, i < n → σm.1 23 (40 * s + i) = σx.1 (39 + s) i) (ha : (∃ q, q < 4 ∧ a2 = nI q) ∨ ∃ q r, 1 ≤ q ∧ q ≤ 5 ∧ r < 5 ∧ nI r < σx.1 1 6 ∧ a2 = nI (10 * q + r)) : ∃ r sx sm, (sm_c (xf_X2_takeWinds (35 + s) σx) fun _ s10 =>
  sm_c (xf_X7_thinkAsItIs s10) fun _ s12 =>
  if (10 : Int32) ≤ a2 then (
  sm_b (a2 / (10 : Int32)) fun v13 =>
  sm_b (a2 - a2 / (10 : Int32) * (10 : Int32)) fun v14 =>
  sm_c (xf_X2_ofOne v13 v14 s12) fun v15 s16 =>
  some (v15, s16))
  else (
  sm_c (xf_X2_ofAll a2 s12) fun v17 s18 =>
  some (v17, s18))) = some (r, sx) ∧ mf_X8_night_p44 (nI s) a2 σm = some (r, sm) ∧ pr_R cmp sx sm := by
  obtain ⟨k, R, ux, wx, s3, u, v, h5, k6, e1, e2, e3, e4, e5, hX, hM, u15, v15, vc, hR⟩ := pr_asIs hI h hs hn x1 m1 it
  obtain ⟨sx1, sx2⟩ := nt_sumX h5 hX
  obtain ⟨sm1, sm2⟩ := nt_sumM hM
  have b8 := mf_sumE (a := 8) (k := k) (σ := u) rfl h5 u15
  have b11 := mf_sumE (a := 11) (k := k) (σ := u) rfl h5 u15
  have a44 := xf_sumE (a := 44) (σ := wx) rfl
  have a48 := xf_sumE (a := 48) (σ := wx) rfl
  rw [sx1] at a44
  rw [sx2] at a48
  rw [sm1] at b8
  rw [sm2] at b11
  obtain ⟨q1, q2, q3, q4, q5, q6⟩ := hX
  obtain ⟨r1, r2, r3, r5⟩ := hM
  unfold mf_X8_night_p44
  simp only [sm_gIn hs (by decide : 4 < 2 ^ 31), nI_cl (show s < 2 ^ 31 by omega), sm_bS, m20, i10, if_false, e1, e2, e3, e4, sm_cS, g_10, b8, b11, mf_X8_night_p191, e5]
  rcases ha with ⟨q, hq, ea⟩ | ⟨q, r, hq1, hq5, hr5, hr, ea⟩
  · subst ea
    have n10 : ¬ (10 : Int32) ≤ nI q := nI_ge (b := 10) (by omega) (by decide)
    simp only [n10, if_false]
    unfold xf_X2_ofAll xf_X2_costOfAll xf_X2_upsOfAll
    rcases (by omega : q = 0 ∨ q = 1 ∨ q = 2 ∨ q = 3) with e | e | e | e <;> subst e
    · have c : nI 0 = 0 := rfl
      simp only [c, if_true, a44, sm_cS]
      exact ⟨_, _, _, rfl, rfl, hR⟩
    · have c : ¬ nI 1 = 0 := by decide
      have d : nI 1 = 1 := rfl
      simp only [c, if_false]
      simp only [d, if_true, sm_bS, sm_cS, q1, r1]
      exact ⟨_, _, _, rfl, rfl, hR⟩
    · have c : ¬ nI 2 = 0 := by decide
      have c1 : ¬ nI 2 = 1 := by decide
      have d : nI 2 = 2 := rfl
      simp only [c, c1, if_false]
      simp only [d, if_true, sm_cS, a48]
      exact ⟨_, _, _, rfl, rfl, hR⟩
    · have c : ¬ nI 3 = 0 := by decide
      have c1 : ¬ nI 3 = 1 := by decide
      have c2 : ¬ nI 3 = 2 := by decide
      have d : nI 3 = 3 := rfl
      simp only [c, c1, c2, if_false]
      simp only [d, if_true, sm_bS, sm_cS, q2, r2]
      exact ⟨_, _, _, rfl, rfl, hR⟩
  · subst ea
    have hrk : r < k := by
      rw [k6] at hr
      exact (nI_ltI (by omega) (by omega)).mp hr
    have n10 : (10 : Int32) ≤ nI (10 * q + r) := nI_le (a := 10) (by omega) (by omega)
    obtain ⟨d1, d2⟩ := nI_60 (10 * q + r) (by omega)
    rw [show (10 * q + r) / 10 = q by omega] at d1
    rw [show (10 * q + r) % 10 = r by omega] at d2
    have z : ∀ j, j < 4 → ¬ nI (10 * q + r) = nI j := fun j hj e => by
      have := (nI_eq (by omega) (by omega)).mp e
      omega
    have z0 : ¬ nI (10 * q + r) = 0 := z 0 (by decide)
    have z1 : ¬ nI (10 * q + r) = 1 := z 1 (by decide)
    have z2 : ¬ nI (10 * q + r) = 2 := z 2 (by decide)
    have z3 : ¬ nI (10 * q + r) = 3 := z 3 (by decide)
    simp only [n10, if_true, d2, z0, z1, z2, z3, if_false]
    simp only [d1]
    unfold xf_X2_ofOne
    obtain ⟨y1, y2, y3, y4, y5, y6⟩ := q5 r hrk
    obtain ⟨w1, w2, w3, w4, w5, w6⟩ := r5 r hrk
    have gi : sm_in (nI r) 5 = true := sm_inN hr5 (by decide)
    simp only [gi, sm_gT, nI_cl (show r < 2 ^ 31 by omega), sm_bS, y1, y3, y4, y5, y6, w1, w3, w4, w5, w6]
    have le : ∀ a : Nat, a < 100 → (nI a ≤ nI (10 * q + r) ↔ a ≤ 10 * q + r) := fun a ha => nI_leI (by omega) (by omega)
    have l20 : (20 : Int32) ≤ nI (10 * q + r) ↔ 20 ≤ 10 * q + r := le 20 (by decide)
    have l30 : (30 : Int32) ≤ nI (10 * q + r) ↔ 30 ≤ 10 * q + r := le 30 (by decide)
    have l40 : (40 : Int32) ≤ nI (10 * q + r) ↔ 40 ≤ 10 * q + r := le 40 (by decide)
    have l50 : (50 : Int32) ≤ nI (10 * q + r) ↔ 50 ≤ 10 * q + r := le 50 (by decide)
    simp only [l20, l30, l40, l50]
    rcases (by omega : q = 1 ∨ q = 2 ∨ q = 3 ∨ q = 4 ∨ q = 5) with e | e | e | e | e <;> subst e
    · rw [if_neg (show ¬ 20 ≤ 10 * 1 + r by omega), if_pos (by decide : nI 1 = 1)]
      exact ⟨_, _, _, rfl, rfl, hR⟩
    · rw [if_pos (show 20 ≤ 10 * 2 + r by omega), if_neg (show ¬ 30 ≤ 10 * 2 + r by omega), if_neg (by decide : ¬ nI 2 = 1), if_pos (by decide : nI 2 = 2)]
      exact ⟨_, _, _, rfl, rfl, hR⟩
    · rw [if_pos (show 20 ≤ 10 * 3 + r by omega), if_pos (show 30 ≤ 10 * 3 + r by omega), if_neg (show ¬ 40 ≤ 10 * 3 + r by omega), if_neg (by decide : ¬ nI 3 = 1), if_neg (by decide : ¬ nI 3 = 2), if_pos (by decide : nI 3 = 3)]
      exact ⟨_, _, _, rfl, rfl, hR⟩
    · rw [if_pos (show 20 ≤ 10 * 4 + r by omega), if_pos (show 30 ≤ 10 * 4 + r by omega), if_pos (show 40 ≤ 10 * 4 + r by omega), if_neg (show ¬ 50 ≤ 10 * 4 + r by omega), if_neg (by decide : ¬ nI 4 = 1), if_neg (by decide : ¬ nI 4 = 2), if_neg (by decide : ¬ nI 4 = 3), if_pos (by decide : nI 4 = 4)]
      exact ⟨_, _, _, rfl, rfl, hR⟩
    · rw [if_pos (show 20 ≤ 10 * 5 + r by omega), if_pos (show 30 ≤ 10 * 5 + r by omega), if_pos (show 40 ≤ 10 * 5 + r by omega), if_pos (show 50 ≤ 10 * 5 + r by omega), if_neg (by decide : ¬ nI 5 = 1), if_neg (by decide : ¬ nI 5 = 2), if_neg (by decide : ¬ nI 5 = 3), if_neg (by decide : ¬ nI 5 = 4)]
      exact ⟨_, _, _, rfl, rfl, hR⟩
theorem nt_what (a2 : Int32) : (∃ q, q < 4 ∧ a2 = nI q) ∨ (∃ q r, 1 ≤ q ∧ q ≤ 5 ∧ r < 10 ∧ a2 = nI (10 * q + r)) ∨ (¬ (0 ≤ a2 ∧ a2 ≤ 3) ∧ ¬ (10 ≤ a2 ∧ a2 ≤ 59)) := by
  by_cases b : 0 ≤ a2 ∧ a2 ≤ 3
  · left
    exact nI_ofR (n := 4) (by decide) b.1 (by have e : nI 4 = 4 := rfl; rw [e]; grind)
  · by_cases b2 : 10 ≤ a2 ∧ a2 ≤ 59
    · right; left
      obtain ⟨j, j1, j2⟩ := nI_ofR (x := a2) (n := 60) (by decide) (by grind) (by have e : nI 60 = 60 := rfl; rw [e]; grind)
      have : 10 ≤ j := by
        have := b2.1
        rw [j2] at this
        exact (nI_leI (a := 10) (by decide) (by omega)).mp this
      exact ⟨j / 10, j % 10, by omega, by omega, by omega, by rw [j2]; congr 1; omega⟩
    · exact Or.inr (Or.inr ⟨b, b2⟩)
theorem pr_nightK {s : Nat} {a2 : Int32} (hI : nt_I cmp V) (h0 : pr_R cmp σx σm) (hs : s < 4) (hS : pr_S σx σm) : ((∃ q, q < 4 ∧ a2 = nI q) ∨ ∃ q r, 1 ≤ q ∧ q ≤ 5 ∧ r < 5 ∧ nI r < σx.1 1 6 ∧ a2 = nI (10 * q + r)) → pr_sim cmp (sm_g (sm_in (nI s) 4) <|
  sm_c (xf_X5_isMissing (35 + (nI s).toNatClampNeg) σx) fun v6 s7 =>
  if v6 = 0 then (
  sm_g (sm_in (nI s) 4) <|
  sm_c (xf_X2_takeWinds (35 + (nI s).toNatClampNeg) s7) fun _ s10 =>
  sm_c (xf_X7_thinkAsItIs s10) fun _ s12 =>
  if (10 : Int32) ≤ a2 then (
  sm_b (a2 / (10 : Int32)) fun v13 =>
  sm_b (a2 - a2 / (10 : Int32) * (10 : Int32)) fun v14 =>
  sm_c (xf_X2_ofOne v13 v14 s12) fun v15 s16 =>
  some (v15, s16))
  else (
  sm_c (xf_X2_ofAll a2 s12) fun v17 s18 =>
  some (v17, s18)))
  else (
  some ((-100 : Int32), s7))) (mf_X8_night_p44 (nI s) a2 σm) := by
  intro ha
  simp only [sm_gIn hs (by decide : 4 < 2 ^ 31), nI_cl (show s < 2 ^ 31 by omega), xf_missing, sm_cS]
  rcases hS s hs with ⟨z1, z2⟩ | ⟨ty, n, z1, z2, z3, z4, z5, z6, z7, z8⟩
  · simp only [z1, if_true, i10, if_false]
    unfold mf_X8_night_p44
    simp only [sm_gIn hs (by decide : 4 < 2 ^ 31), nI_cl (show s < 2 ^ 31 by omega), sm_bS, z2, if_true]
    exact pr_same h0
  · have n1 : ¬ nI ty = -1 := nI_ne1 (by omega)
    simp only [z3, n1, if_false, if_true]
    exact pr_night44 hI h0 hs z2 z6 z7 z4 z8 ha
theorem pr_night (hI : nt_I cmp V) (h : pr_R cmp σx σm) (a1 a2 : Int32) : pr_sim cmp (xf_X7_night a1 a2 σx) (mf_X8_night a1 a2 σm) := by
  have h0 := h
  obtain ⟨k, tc, h5, hF, hI', hK, hS, hP, hT⟩ := h
  obtain ⟨f1, f2, f3, f4, f5, f6, f7, f8⟩ := hF
  have i6 := hI'.2.2.2.2.2.1
  unfold xf_X7_night mf_X8_night
  simp only [xf_isSheet, mf_isSheet, sm_cS, sm_bS, mf_in3, mf_in1059, g_10, mf_isSitter f1 h5]
  by_cases c : 0 ≤ a1 ∧ a1 ≤ 3
  · obtain ⟨s, hs, rfl⟩ := nI_ofR (x := a1) (n := 4) (by decide) c.1 (by have e : nI 4 = 4 := rfl; rw [e]; grind)
    simp only [c, and_self, if_true, i10, if_false]
    have key := pr_nightK (a2 := a2) hI h0 hs hS
    have e60 := nt_what a2
    unfold xf_X7_isNightWhat
    simp only [g_10, sm_bS, xf_has, i6, sm_cS]
    rcases e60 with ⟨q, hq, e⟩ | ⟨q, r, hq1, hq5, hr, e⟩ | ⟨b1, b2⟩
    · have k0 := key (Or.inl ⟨q, hq, e⟩)
      have l0 : 0 ≤ a2 := by rw [e]; exact nI_pos' (by omega)
      have l3 : a2 ≤ 3 := by rw [e]; exact nI_le (b := 3) (by omega) (by decide)
      have n10 : ¬ 10 ≤ a2 := by grind
      have n0 : ¬ a2 < 0 := by grind
      have n3 : ¬ 3 < a2 := by grind
      simp only [n10, n0, n3, l0, l3, if_false, and_self, if_true, i10, sm_cS] at k0 ⊢
      exact k0
    · have l10 : 10 ≤ a2 := by rw [e]; exact nI_le (a := 10) (by omega) (by omega)
      have l59 : a2 ≤ 59 := by rw [e]; exact nI_le (b := 59) (by omega) (by decide)
      have n60 : ¬ 60 ≤ a2 := by grind
      have n03 : ¬ (0 ≤ a2 ∧ a2 ≤ 3) := by grind
      have d2 := (nI_60 (10 * q + r) (by omega)).2
      rw [show (10 * q + r) % 10 = r by omega, ← e] at d2
      have pr : 0 ≤ nI r := nI_pos' (by omega)
      by_cases cr : r < k
      · have lr : nI r < nI k := nI_lt cr (by omega)
        have k0 := key (Or.inr ⟨q, r, hq1, hq5, by omega, by rw [i6]; exact lr, e⟩)
        simp only [l10, l59, n60, n03, and_self, if_true, i10, if_false, d2, pr, lr, sm_cS] at k0 ⊢
        exact k0
      · have lr : ¬ nI r < nI k := nI_nlt (by omega) (by omega)
        simp only [l10, l59, n60, n03, and_self, if_true, i10, if_false, d2, pr, lr, and_false, sm_cS]
        exact pr_same h0
    · simp only [b1, b2, if_false, if_true]
      by_cases l10 : 10 ≤ a2
      · have n60 : 60 ≤ a2 := by grind
        simp only [l10, n60, if_true, sm_cS]
        exact pr_same h0
      · by_cases n0 : a2 < 0
        · simp only [l10, n0, if_true, if_false, sm_cS]
          exact pr_same h0
        · have n3 : 3 < a2 := by grind
          simp only [l10, n0, n3, if_true, if_false, sm_cS]
          exact pr_same h0
  · simp only [c, if_true, if_false]
    exact pr_same h0
end
