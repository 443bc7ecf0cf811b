/-! sit -/
section
variable {cmp : (Nat → Int32) → Nat → (Nat → Int32) → (Nat → Int32) → Prop} {V : (Nat → Int32) → (Nat → Int32) → Int32 → (Nat → Int32) → Int32} {σx σm : sm_St}
theorem xf_refusal {s : Nat} {σ : sm_St} (hs : s < 4) : xf_X7_refusal (nI s) σ = some (if σ.1 (35 + s) 0 = -1 then -11 else 0, σ) := by
  unfold xf_X7_refusal
  have c : 0 ≤ nI s ∧ nI s ≤ 3 := ⟨nI_pos' (by omega), nI_le (b := 3) (by omega) (by decide)⟩
  simp only [xf_isSheet, sm_cS, c, and_self, if_true, i10, if_false, sm_gIn hs (by decide : 4 < 2 ^ 31), nI_cl (show s < 2 ^ 31 by omega), xf_missing]
  split <;> rfl
theorem xf_refusal0 {a : Int32} {σ : sm_St} (c : ¬ (0 ≤ a ∧ a ≤ 3)) : xf_X7_refusal a σ = some (-2, σ) := by
  unfold xf_X7_refusal
  simp only [xf_isSheet, sm_cS, c, if_true, if_false]
theorem pr_sit1 {s n : Nat} (hI : nt_I cmp V) (h : pr_R cmp σx σm) (hs : s < 4) (hn : n ≤ 40) (x1 : σx.1 (35 + s) 1 = nI n) (m1 : σm.1 22 s = nI n) (it : ∀ i, i < n → σm.1 23 (40 * s + i) = σx.1 (39 + s) i) : ∃ r ux wx u, xf_X2_takeWinds (35 + s) σx = some ((), ux) ∧ xf_X7_thinkAsItIs ux = some ((), wx) ∧ mf_X8_nights (nI s) σm = some ((), u) ∧ xf_X2_sum 44 (sm_cI (sm_sI wx 1 0 (wx.1 3 0)) 12 10 0 0 5) = some (r, sm_cI (sm_sI wx 1 0 (wx.1 3 0)) 12 10 0 0 5) ∧ mf_X8_sumOf 8 u = some (r, u) ∧ pr_R cmp (sm_cI (sm_sI wx 1 0 (wx.1 3 0)) 12 10 0 0 5) u := by
  obtain ⟨k0, tc0, hk5, -, -, hK, hS, hP, hT⟩ := id h
  obtain ⟨k, tc, t, N, h5, ht, hN, hF, hR, et, em, e2, hc⟩ := pr_rule h
  obtain ⟨f1, f2, f3, f4, f5, f6, f7, f8⟩ := hF
  obtain ⟨_, ux, e1, w1, w2, w3, w4⟩ := xf_takeWindsE hs hn x1
  have c1 := w3 1 (by decide) (by decide)
  have c4 := w3 4 (by decide) (by decide)
  have c7 := w3 7 (by decide) (by decide)
  have c10 := w3 10 (by decide) (by decide)
  have c22 := w3 (22 + t) (by omega) (by omega)
  have c28 := w3 (28 + t) (by omega) (by omega)
  obtain ⟨_, wx, e3, y1, y2⟩ := xf_asIs (σ := ux) (W := fun m => nt_wind (σx.1 (39 + s) m)) hI h5 (by rw [c1, c4, c7, c10]; exact hR) ht (by rw [c1, et]) (by rw [c22, c28]; exact hc) hn w1 w2
  rw [c1, c4, c7, c10, c22, c28] at y2
  have hg := nt_good0 h5 hR
  have hp : nt_MP k (nt_P V (σx.1 (22 + t)) (σx.1 (28 + t)) (σx.1 7)) σm := mf_saysE hI h5 ht hN em e2 hc (fun x hx => (f8 x hx).2.1)
  obtain ⟨_, u, e4, g1, g2⟩ := mf_thinkE (σ := σm) (kn := σx.1 4) (nb := σx.1 7) (pl := σx.1 10) (W := fun m => nt_wind (σx.1 (39 + s) m)) hs hn m1 h5 f1 f8 f2 f5 f6 hR.2.2.2.1 (fun m hm => by rw [it m hm]) hg hp
  have G := @nt_goodR true k (σx.1 4) (σx.1 7) (σx.1 1 3) (σx.1 1 4) (nt_P V (σx.1 (22 + t)) (σx.1 (28 + t)) (σx.1 7)) (fun m => nt_wind (σx.1 (39 + s) m)) (nt_S0 (σx.1 1 0) (σx.1 10)) h5 hg n (by omega)
  generalize nt_run true k (σx.1 4) (σx.1 7) (σx.1 1 3) (σx.1 1 4) (nt_P V (σx.1 (22 + t)) (σx.1 (28 + t)) (σx.1 7)) (fun m => nt_wind (σx.1 (39 + s) m)) (nt_S0 (σx.1 1 0) (σx.1 10)) n = R at y2 g2 G
  have u15 : u.1 0 15 = nI k := by rw [g1 0 15 (by simp [nt_fm]), f1]
  have a44 := xf_sumE (a := 44) (σ := sm_cI (sm_sI wx 1 0 (wx.1 3 0)) 12 10 0 0 5) rfl
  have b8 := mf_sumE (a := 8) (k := k) (σ := u) rfl h5 u15
  rw [sm_rcn 44 (by decide), sm_rI 44 (by decide), (nt_sumX h5 y2).1] at a44
  rw [(nt_sumM g2).1] at b8
  refine ⟨_, ux, wx, u, e1, e3, e4, a44, b8, ?_⟩
  obtain ⟨q1, q2, q3, q4, q5, q6⟩ := y2
  obtain ⟨r1, r2, r3, r5⟩ := g2
  have Z : ∀ c, c ≠ 1 → c ≠ 10 → c ≠ 3 → c ≠ 6 → c ≠ 9 → c ≠ 12 → c < 43 → (sm_cI (sm_sI wx 1 0 (wx.1 3 0)) 12 10 0 0 5).1 c = σx.1 c := fun c h1 h10 h3 h6 h9 h12 h43 => by
    rw [sm_rcn c h10, sm_rI c h1, y1 c h3 h6 h9 h12 h43, w3 c (by omega) (by omega)]
  have Z1 : ∀ j, j ≠ 0 → (sm_cI (sm_sI wx 1 0 (wx.1 3 0)) 12 10 0 0 5).1 1 j = σx.1 1 j := fun j hj => by
    rw [sm_rcn 1 (by decide), sm_rI1 1 j (Or.inr hj), y1 1 (by decide) (by decide) (by decide) (by decide) (by decide), c1]
  have Z0 : (sm_cI (sm_sI wx 1 0 (wx.1 3 0)) 12 10 0 0 5).1 1 0 = R 0 0 := by
    rw [sm_rcn 1 (by decide), sm_rE, q1]
  have Zp : ∀ x, x < k → (sm_cI (sm_sI wx 1 0 (wx.1 3 0)) 12 10 0 0 5).1 10 x = R 1 x := fun x hx => by
    rw [sm_rc x (by omega), sm_rI 12 (by decide), (q5 x hx).1]
  have Zc4 := Z 4 (by decide) (by decide) (by decide) (by decide) (by decide) (by decide) (by decide)
  have Zc7 := Z 7 (by decide) (by decide) (by decide) (by decide) (by decide) (by decide) (by decide)
  generalize sm_cI (sm_sI wx 1 0 (wx.1 3 0)) 12 10 0 0 5 = y at Z Z1 Z0 Zp Zc4 Zc7 ⊢
  have U : ∀ c, c ≠ 0 → c < 6 ∨ 12 < c → u.1 c = σm.1 c := fun c c0 hc => funext fun j => g1 c j (by
    simp [nt_fm, c0]
    omega)
  have rg : ∀ {v : Int32}, (∃ q, q < 8 ∧ v = nI q) → 0 ≤ v ∧ v ≤ 7 := fun ⟨q, h1, h2⟩ => by
    rw [h2]
    exact ⟨nI_pos' (by omega), nI_le (b := 7) (by omega) (by decide)⟩
  have ek : k = k0 ∧ tc = tc0 ∨ True := Or.inr trivial
  have hR0 := hR
  obtain ⟨kk, ttc, hkk, hFF, hRR, hK, -, -, hT⟩ := id h
  have kke : kk = k := by
    have a := hFF.1
    rw [f1] at a
    exact ((nI_eq (by omega) (by omega)).mp a).symm
  subst kke
  obtain ⟨i1, i2, i3, i4, i5, i6, i7, i8⟩ := hRR
  refine ⟨kk, ttc, h5, ?_, ?_, ?_, ?_, ?_, ?_⟩
  · refine ⟨u15, by rw [Z0, r1], ?_, ?_, ?_, ?_, ?_, fun x hx => ⟨?_, ?_, by rw [Zp x hx, (r5 x hx).1]⟩⟩
    · rw [g1 0 8 (by simp [nt_fm]), Z1 1 (by decide)]; exact f3
    · rw [g1 0 9 (by simp [nt_fm]), Z1 2 (by decide)]; exact f4
    · rw [g1 0 10 (by simp [nt_fm]), Z1 3 (by decide)]; exact f5
    · rw [g1 0 11 (by simp [nt_fm]), Z1 4 (by decide)]; exact f6
    · rw [g1 0 4 (by simp [nt_fm]), Z1 5 (by decide)]; exact f7
    · rw [U 4 (by decide) (by decide), Zc4]; exact (f8 x hx).1
    · rw [U 5 (by decide) (by decide), Zc7]; exact (f8 x hx).2.1
  · refine ⟨by rw [Z0]; exact rg G.1, ?_, ?_, ?_, ?_, ?_, fun x hx => ?_, fun a b ha hb => ?_⟩
    · rw [Z1 1 (by decide), Z1 2 (by decide)]; exact i2
    · rw [Z1 3 (by decide)]; exact i3
    · rw [Z1 4 (by decide)]; exact i4
    · rw [Z1 5 (by decide)]; exact i5
    · rw [Z1 6 (by decide)]; exact i6
    · rw [Zc4, Zc7, Zp x hx]
      exact ⟨(i7 x hx).1, (i7 x hx).2.1, rg (G.2.2.1 x hx).1⟩
    · rw [Zp a ha, Zp b hb]
      exact G.2.2.2 a b ha hb
  · exact hK.cong (by rw [Z 0 (by decide) (by decide) (by decide) (by decide) (by decide) (by decide) (by decide)]) (Z 2 (by decide) (by decide) (by decide) (by decide) (by decide) (by decide) (by decide)) Zc4 (Z 5 (by decide) (by decide) (by decide) (by decide) (by decide) (by decide) (by decide)) (Z 8 (by decide) (by decide) (by decide) (by decide) (by decide) (by decide) (by decide)) (Z 11 (by decide) (by decide) (by decide) (by decide) (by decide) (by decide) (by decide)) (g1 0 51 (by simp [nt_fm])) (g1 0 52 (by simp [nt_fm])) (U 19 (by decide) (by decide))
  · exact hS.cong (fun c h1 h2 => Z c (by omega) (by omega) (by omega) (by omega) (by omega) (by omega) (by omega)) (fun c h1 h2 => U c (by omega) (by omega))
  · exact hP.cong (by rw [Z 13 (by decide) (by decide) (by decide) (by decide) (by decide) (by decide) (by decide)]) (Z 14 (by decide) (by decide) (by decide) (by decide) (by decide) (by decide) (by decide)) (g1 0 6 (by simp [nt_fm])) (U 3 (by decide) (by decide))
  · exact hT.cong (by rw [Z 0 (by decide) (by decide) (by decide) (by decide) (by decide) (by decide) (by decide)]) (fun c h1 h2 => Z c (by omega) (by omega) (by omega) (by omega) (by omega) (by omega) (by omega)) (g1 0 3 (by simp [nt_fm])) (U 1 (by decide) (by decide)) (U 2 (by decide) (by decide))
theorem pr_sit (hI : nt_I cmp V) (h : pr_R cmp σx σm) (a1 : Int32) : pr_sim cmp (xf_X7_sit a1 σx) (mf_X8_sit a1 σm) := by
  have h0 := h
  obtain ⟨k, tc, h5, hF, hI', hK, hS, hP, hT⟩ := h
  unfold xf_X7_sit mf_X8_sit
  by_cases c : 0 ≤ a1 ∧ a1 ≤ 3
  · obtain ⟨s, hs, rfl⟩ := nI_ofR (x := a1) (n := 4) (by decide) c.1 (by have e : nI 4 = 4 := rfl; rw [e]; grind)
    simp only [mf_isSheet, sm_cS, c, and_self, if_true, i10, if_false, xf_refusal hs, sm_gIn hs (by decide : 4 < 2 ^ 31), nI_cl (show s < 2 ^ 31 by omega), sm_bS]
    rcases hS s hs with ⟨z1, z2⟩ | ⟨ty, n, z1, z2, z3, z4, z5, z6, z7, z8⟩
    · have n11 : ¬ (-11 : Int32) = 0 := by decide
      simp only [z1, z2, if_true, n11, if_false]
      exact pr_same h0
    · have n1 : ¬ nI ty = -1 := nI_ne1 (by omega)
      obtain ⟨r, ux, wx, u, e1, e2, e3, e4, e5, e6⟩ := pr_sit1 hI h0 hs z2 z6 z7 z8
      have g0 : sm_cpyok (0 : Int32) (0 : Int32) (5 : Int32) 5 5 = true := by decide
      have t0 : (0 : Int32).toNatClampNeg = 0 := by decide
      have t5 : (5 : Int32).toNatClampNeg = 5 := by decide
      simp only [z3, z4, n1, if_false, if_true, i10, e1, e2, e3, sm_cS, g0, sm_gT, t0, t5, xf_X2_costOfAll, e4, e5]
      exact ⟨_, _, _, rfl, rfl, e6⟩
  · have n2 : ¬ (-2 : Int32) = 0 := by decide
    simp only [mf_isSheet, xf_refusal0 c, sm_cS, c, if_true, if_false, n2]
    exact pr_same h0
end
