/-! stay -/
theorem pu_or00 (a b : Int32) : a ||| (0 : Int32) <<< b = a := by simp
theorem upd_self {f : Nat → Int32} {x : Nat} : upd f x (f x) = f := by
  funext j
  unfold upd
  split
  · rename_i e
    rw [e]
  · rfl
section
variable {cmp : (Nat → Int32) → Nat → (Nat → Int32) → (Nat → Int32) → Prop} {V : (Nat → Int32) → (Nat → Int32) → Int32 → (Nat → Int32) → Int32} {σx σm σ σ' : sm_St} {k tc t N s n M : Nat} {code ends W kn nb pl : Nat → Int32} {sk te ed : Int32}
theorem xf_costIfE {b : Nat → Int32} {x : Nat} {kd p : Int32} (hI : nt_I cmp V) (h5 : k ≤ 5) (hR : pr_I (σx.1 1) (σx.1 4) (σx.1 7) (σx.1 10) k tc) (ht : t < 6) (h15 : σx.1 1 5 = nI t) (hc : cmp b N (σx.1 (22 + t)) (σx.1 (28 + t))) (hM : M ≤ 40) (hG : nt_G σx σ M W) (hx : x < k) (hg : nt_good k 0 (nt_S0 (σx.1 1 0) (upd (σx.1 10) x p))) : sm_ok (xf_X7_costIf (nI x) kd p σ) (fun r w => r = nt_run true k (upd (σx.1 4) x kd) (σx.1 7) (σx.1 1 3) (σx.1 1 4) (nt_P V (σx.1 (22 + t)) (σx.1 (28 + t)) (σx.1 7)) W (nt_S0 (σx.1 1 0) (upd (σx.1 10) x p)) M 3 x ∧ nt_G σx w M W) := by
  obtain ⟨i1, i2, i3, i4, i5, i6, i7, i8⟩ := hR
  obtain ⟨G1, G2, G3⟩ := hG
  have g5 : x < 5 := by omega
  have z1 := G1 1 (by decide) (by decide) (by decide) (by decide) (by decide)
  have z4 := G1 4 (by decide) (by decide) (by decide) (by decide) (by decide)
  have z7 := G1 7 (by decide) (by decide) (by decide) (by decide) (by decide)
  have z10 := G1 10 (by decide) (by decide) (by decide) (by decide) (by decide)
  unfold xf_X7_costIf
  refine ok_c (@xf_beginE σ) (fun _ v ⟨b1, b2, b3, b4, b5, b6, b7⟩ => ?_)
  have v1 : v.1 1 = σ.1 1 := b7 1 (by decide) (by decide) (by decide) (by decide) (by decide) (by decide) (by decide) (by decide) (by decide) (by decide)
  simp only [sm_bS, sm_gIn g5 (by decide : 5 < 2 ^ 31), nI_cl (show x < 2 ^ 31 by omega), sm_rI 1 (by decide : 1 ≠ 12), sm_rI 1 (by decide : 1 ≠ 6), v1, z1, h15, sm_gIn ht (by decide : 6 < 2 ^ 31), nI_cl (show t < 2 ^ 31 by omega)]
  rw [z1] at b1
  rw [z4, z7, z10] at b2
  refine ok_c (xf_runT (W := W) (v := sm_sI (sm_sI v 6 x kd) 12 x p) (kn := upd (σx.1 4) x kd) (nb := σx.1 7) (pl := upd (σx.1 10) x p) (sk := σx.1 1 0) (te := σx.1 1 3) (ed := σx.1 1 4) (b := b) hI h5 ht hc hM ⟨fun c c3 c6 c9 c12 c43 => ?_, ?_, fun m hm => ?_⟩ ?_ (fun y hy => ⟨?_, ?_, ?_⟩) ?_ ?_ ?_ (fun y hy => ?_) ?_ ?_ ?_ hg) (fun _ w ⟨w1, w2⟩ => ?_)
  · rw [sm_rI c c12, sm_rI c c6, b7 c c3 c6 c9 c12 (by omega) (by omega) (by omega) (by omega) (by omega) (by omega)]
    exact G1 c c3 c6 c9 c12 c43
  · rw [sm_rI 43 (by decide), sm_rI 43 (by decide), b6]; exact G2
  · rw [sm_rI 46 (by decide), sm_rI 46 (by decide), b7 46 (by decide) (by decide) (by decide) (by decide) (by decide) (by decide) (by decide) (by decide) (by decide) (by decide)]; exact G3 m hm
  · rw [sm_rI 3 (by decide), sm_rI 3 (by decide), b1 6 (by decide)]; exact i6
  · rw [sm_rI 6 (by decide), sm_sIk.1]
    unfold upd
    rw [(b2 y (by omega)).1]
  · rw [sm_rI 9 (by decide), sm_rI 9 (by decide)]; exact (b2 y (by omega)).2.1
  · rw [sm_sIk.1, sm_rI 12 (by decide)]
    unfold upd
    rw [(b2 y (by omega)).2.2.1]
  · rw [sm_rI 3 (by decide), sm_rI 3 (by decide)]; exact b1 0 (by decide)
  · rw [sm_rI 3 (by decide), sm_rI 3 (by decide)]; exact b1 3 (by decide)
  · rw [sm_rI 3 (by decide), sm_rI 3 (by decide)]; exact b1 4 (by decide)
  · rw [sm_rI 44 (by decide), sm_rI 45 (by decide), sm_rI 47 (by decide), sm_rI 48 (by decide), sm_rI 49 (by decide), sm_rI 44 (by decide), sm_rI 45 (by decide), sm_rI 47 (by decide), sm_rI 48 (by decide), sm_rI 49 (by decide)]
    obtain ⟨-, -, -, z⟩ := b2 y hy
    exact z
  · rw [sm_rI 43 (by decide), sm_rI 43 (by decide)]; exact b3
  · rw [sm_rI 43 (by decide), sm_rI 43 (by decide)]; exact b4
  · rw [sm_rI 43 (by decide), sm_rI 43 (by decide)]; exact b5
  · exact ok_some.mpr ⟨(w2.2.2.2.2.1 x hx).2.2.1, w1⟩
theorem pr_stayL {b : Nat → Int32} {a1 a1' : Int32} (hI : nt_I cmp V) (h5 : k ≤ 5) (hs : s < 4) (hR : pr_I (σx.1 1) (σx.1 4) (σx.1 7) (σx.1 10) k tc) (ht : t < 6) (hN : N ≤ 160) (h15 : σx.1 1 5 = nI t) (hc : cmp b N (σx.1 (22 + t)) (σx.1 (28 + t))) (hM : n ≤ 40) (ha : a1' = nI s) (H : nt_H cmp k t N s n (σx.1 (22 + t)) (σx.1 (28 + t)) W (σx.1 4) (σx.1 7) (σx.1 10) (σx.1 1 0) (σx.1 1 3) (σx.1 1 4) σm) : ∀ (d i nx nm : Nat) (acc : Int32) (y v : sm_St), i + d = k → d < nx → d < nm → nt_G σx y n W → pr_am σm v → ∃ r y' v', xf_X7_stay_p30 a1 nx y acc (nI i) = some (r, y') ∧ mf_X8_stay_p26 a1' nm v acc (nI i) = some (r, v') ∧ nt_G σx y' n W ∧ pr_am σm v' := by
  subst ha
  have ek := hR.2.2.2.2.2.1
  have hg := nt_good0 h5 hR
  intro d
  induction d with
  | zero =>
    intro i nx nm acc y v h1 h2 h3 hG ha
    obtain ⟨nx, rfl⟩ : ∃ n', nx = n' + 1 := ⟨nx - 1, by omega⟩
    obtain ⟨nm, rfl⟩ : ∃ n', nm = n' + 1 := ⟨nm - 1, by omega⟩
    have : i = k := by omega
    subst this
    rw [xf_X7_stay_p30, mf_X8_stay_p26]
    have y6 : y.1 1 6 = nI i := by rw [hG.1 1 (by decide) (by decide) (by decide) (by decide) (by decide), ek]
    have v15 : v.1 0 15 = nI i := by rw [ha 0 15 rfl]; exact H.2.1
    have nl : nI i ≤ nI i := nI_le (Nat.le_refl _) (by omega)
    simp only [sm_bS, y6, v15, nl, if_true]
    exact ⟨_, _, _, rfl, rfl, hG, ha⟩
  | succ d ih =>
    intro i nx nm acc y v h1 h2 h3 hG ha
    obtain ⟨nx, rfl⟩ : ∃ n', nx = n' + 1 := ⟨nx - 1, by omega⟩
    obtain ⟨nm, rfl⟩ : ∃ n', nm = n' + 1 := ⟨nm - 1, by omega⟩
    have hi : i < k := by omega
    have g5 : i < 5 := by omega
    have y6 : y.1 1 6 = nI k := by rw [hG.1 1 (by decide) (by decide) (by decide) (by decide) (by decide), ek]
    have y10 : y.1 10 = σx.1 10 := hG.1 10 (by decide) (by decide) (by decide) (by decide) (by decide)
    have v15 : v.1 0 15 = nI k := by rw [ha 0 15 rfl]; exact H.2.1
    have nl : ¬ nI k ≤ nI i := nI_ge hi (by omega)
    have gs : nt_good k 0 (nt_S0 (σx.1 1 0) (upd (σx.1 10) i (σx.1 10 i))) := by rw [upd_self]; exact hg
    obtain ⟨r3, w1, e1, q1, G1⟩ := xf_costIfE (kd := 0) hI h5 hR ht h15 hc hM hG hi gs
    have w4 : w1.1 4 = σx.1 4 := G1.1 4 (by decide) (by decide) (by decide) (by decide) (by decide)
    obtain ⟨r6, w2, e2, q2, G2⟩ := xf_costIfE (kd := σx.1 4 i) hI h5 hR ht h15 hc hM G1 hi gs
    rw [upd_self] at q1 q2
    rw [upd_self] at q2
    obtain ⟨c1, v1, m1, -, m2, m3⟩ := mf_costOfE hI hs hM h5 ht hN hR.2.2.2.1 hg (H.am ha)
    have a1m := ha.tr m3
    have v4 : v1.1 4 i = σx.1 4 i := by rw [a1m 4 i rfl]; exact (H.2.2.1 i hi).1
    have H2 : nt_H cmp k t N s n (σx.1 (22 + t)) (σx.1 (28 + t)) W (upd (σx.1 4) i 0) (σx.1 7) (σx.1 10) (σx.1 1 0) (σx.1 1 3) (σx.1 1 4) (sm_sI v1 4 i 0) := by
      obtain ⟨k1, k2, k3, k4, k6, k7, k8, k9, k10, k11⟩ := H.am a1m
      unfold nt_H
      simp (config := { decide := true }) only [ne_eq, not_false_eq_true, true_or, or_true, sm_rI]
      refine ⟨k1, k2, fun x hx => ⟨?_, (k3 x hx).2⟩, k4, k6, k7, k8, k9, k10, k11⟩
      rw [sm_sIk.1]
      unfold upd
      rw [(k3 x hx).1]
    obtain ⟨c2, v2, m4, -, m5, m6⟩ := mf_costOfE hI hs hM h5 ht hN hR.2.2.2.1 hg H2
    have am : pr_am σm (sm_sI v2 4 i (σx.1 4 i)) := by
      intro c j hcj
      by_cases e : c = 4 ∧ j = i
      · rw [e.1, e.2, sm_rE, (H.2.2.1 i hi).1]
      · rw [sm_rI1 c j (by omega), m6 c j hcj, sm_rI1 c j (by omega), a1m c j hcj]
    rw [xf_X7_stay_p30, mf_X8_stay_p26]
    simp only [sm_bS, y6, v15, nl, if_false, sm_gIn g5 (by decide : 5 < 2 ^ 31), nI_cl (show i < 2 ^ 31 by omega), y10, e1, e2, w4, m1, v4, m4, sm_cS, sm_rI 8 (by decide : 8 ≠ 4), (m2 i hi).1, (m5 i hi).1, q1, q2, xf_X7_stay_p91, mf_X8_stay_p94, nI_inc]
    by_cases cc : nt_run true k (σx.1 4) (σx.1 7) (σx.1 1 3) (σx.1 1 4) (nt_P V (σx.1 (22 + t)) (σx.1 (28 + t)) (σx.1 7)) W (nt_S0 (σx.1 1 0) (σx.1 10)) n 3 i ≤ nt_run true k (upd (σx.1 4) i 0) (σx.1 7) (σx.1 1 3) (σx.1 1 4) (nt_P V (σx.1 (22 + t)) (σx.1 (28 + t)) (σx.1 7)) W (nt_S0 (σx.1 1 0) (σx.1 10)) n 3 i
    · simp only [cc, if_true, pu_or00]
      exact ih (i + 1) nx nm acc _ _ (by omega) (by omega) (by omega) G2 am
    · simp only [cc, if_false]
      exact ih (i + 1) nx nm _ _ _ (by omega) (by omega) (by omega) G2 am
theorem pr_stay (hI : nt_I cmp V) (h : pr_R cmp σx σm) (a1 : Int32) : pr_sim cmp (xf_X7_stay a1 σx) (mf_X8_stay a1 σm) := by
  have h0 := h
  obtain ⟨k, tc, t, N, h5, ht, hN, hF, hR, et, em, e2, hc⟩ := pr_rule h
  obtain ⟨-, -, -, -, -, -, hS, -, -⟩ := h
  obtain ⟨f1, f2, f3, f4, f5, f6, f7, f8⟩ := hF
  unfold xf_X7_stay mf_X8_stay
  by_cases c : 0 ≤ a1 ∧ a1 ≤ 3
  · obtain ⟨s, hs, rfl⟩ := nI_ofR (x := a1) (n := 4) (by decide) c.1 (by have e : nI 4 = 4 := rfl; rw [e]; grind)
    simp only [mf_isSheet, sm_cS, c, and_self, if_true, i10, if_false, xf_refusal hs, sm_gIn hs (by decide : 4 < 2 ^ 31), nI_cl (show s < 2 ^ 31 by omega), sm_bS]
    rcases hS s hs with ⟨z1, z2⟩ | ⟨ty, n, z1, z2, z3, z4, z5, z6, z7, z8⟩
    · have n11 : ¬ (-11 : Int32) = 0 := by decide
      simp only [z1, z2, if_true, n11, if_false]
      exact pr_same h0
    · have n1 : ¬ nI ty = -1 := nI_ne1 (by omega)
      simp only [z3, z4, n1, if_false, if_true, i10]
      obtain ⟨_, ux, e1, w1, w2, w3, w4⟩ := xf_takeWindsE hs z2 z6
      have G0 : nt_G σx ux n (fun m => nt_wind (σx.1 (39 + s) m)) := ⟨fun c _ _ _ _ c43 => w3 c (by omega) (by omega), w1, w2⟩
      have H : nt_H cmp k t N s n (σx.1 (22 + t)) (σx.1 (28 + t)) (fun m => nt_wind (σx.1 (39 + s) m)) (σx.1 4) (σx.1 7) (σx.1 10) (σx.1 1 0) (σx.1 1 3) (σx.1 1 4) σm := ⟨z7, f1, f8, f2, f5, f6, fun m hm => by rw [z8 m hm], em, e2, hc⟩
      obtain ⟨r, y, v, q1, q2, q3, q4⟩ := pr_stayL (a1 := nI s) hI h5 hs hR ht hN et hc z2 rfl H k 0 sm_F sm_F 0 ux σm (by omega) (by have := sm_Fge; omega) (by have := sm_Fge; omega) G0 (pr_am.rf _)
      simp only [e1, sm_cS]
      refine ⟨r, y, v, q1, q2, h0.keep (fun c j hcj => ?_) q4⟩
      obtain ⟨d3, d6, d9, d12, d43⟩ := pr_pxE c j hcj
      rw [q3.1 c d3 d6 d9 d12 d43]
  · have n2 : ¬ (-2 : Int32) = 0 := by decide
    simp only [mf_isSheet, xf_refusal0 c, sm_cS, c, if_true, if_false, n2]
    exact pr_same h0
end
