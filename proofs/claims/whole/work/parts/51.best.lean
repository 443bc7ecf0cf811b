/-! best -/
theorem nt_goodP {k x q : Nat} {sk : Int32} {pl : Nat → Int32} (hq : q < 8) (h : nt_good k 0 (nt_S0 sk pl)) (hf : ∀ i, i < k → i ≠ x → pl i ≠ nI q) : nt_good k 0 (nt_S0 sk (upd pl x (nI q))) := by
  obtain ⟨g1, g2, g3, g4⟩ := h
  refine ⟨g1, g2, fun y hy => ⟨?_, (g3 y hy).2.1, (g3 y hy).2.2⟩, fun a b ha hb => ?_⟩
  · show ∃ p, p < 8 ∧ upd pl x (nI q) y = nI p
    unfold upd
    split
    · exact ⟨q, hq, rfl⟩
    · exact (g3 y hy).1
  · show upd pl x (nI q) a = upd pl x (nI q) b → a = b
    unfold upd
    by_cases ea : a = x <;> by_cases eb : b = x
    · omega
    · simp only [ea, eb, if_true, if_false]
      exact fun e => absurd e.symm (hf b hb eb)
    · simp only [ea, eb, if_true, if_false]
      exact fun e => absurd e (hf a ha ea)
    · simp only [ea, eb, if_false]
      exact g4 a b ha hb
section
variable {cmp : (Nat → Int32) → Nat → (Nat → Int32) → (Nat → Int32) → Prop} {V : (Nat → Int32) → (Nat → Int32) → Int32 → (Nat → Int32) → Int32} {σx σm σ σ' : sm_St} {k tc t N s n M : Nat} {W : Nat → Int32}
theorem pr_bestL {b : Nat → Int32} {x : Nat} {a1 a3 : Int32} (hI : nt_I cmp V) (h5 : k ≤ 5) (hs : s < 4) (hR : pr_I (σx.1 1) (σx.1 4) (σx.1 7) (σx.1 10) k tc) (ht : t < 6) (hN : N ≤ 160) (h15 : σx.1 1 5 = nI t) (hc : cmp b N (σx.1 (22 + t)) (σx.1 (28 + t))) (hM : n ≤ 40) (hx : x < k) (H : nt_H cmp k t N s n (σx.1 (22 + t)) (σx.1 (28 + t)) W (σx.1 4) (σx.1 7) (σx.1 10) (σx.1 1 0) (σx.1 1 3) (σx.1 1 4) σm) : ∀ (d i nx nm : Nat) (fo le : Int32) (y v : sm_St), i + d = 8 → d < nx → d < nm → nt_G σx y n W → pr_am σm v → ∃ r y' v', xf_X7_best_p67 a1 (nI x) a3 nx y fo le (nI i) = some (r, y') ∧ mf_X8_best_p57 (nI s) (nI x) a3 nm v (σx.1 10 x) fo le (nI i) = some (r, v') ∧ nt_G σx y' n W ∧ pr_am σm v' := by
  have ek := hR.2.2.2.2.2.1
  have hg := nt_good0 h5 hR
  have g5 : x < 5 := by omega
  intro d
  induction d with
  | zero =>
    intro i nx nm fo le y v h1 h2 h3 hG ha
    obtain ⟨nx, rfl⟩ : ∃ n', nx = n' + 1 := ⟨nx - 1, by omega⟩
    obtain ⟨nm, rfl⟩ : ∃ n', nm = n' + 1 := ⟨nm - 1, by omega⟩
    have nl : (8 : Int32) ≤ nI i := nI_le (a := 8) (by omega) (by omega)
    rw [xf_X7_best_p67, mf_X8_best_p57]
    simp only [nl, if_true]
    by_cases c : a3 = 0
    · simp only [c, if_true]
      exact ⟨_, _, _, rfl, rfl, hG, ha⟩
    · simp only [c, if_false]
      exact ⟨_, _, _, rfl, rfl, hG, ha⟩
  | succ d ih =>
    intro i nx nm fo le y v h1 h2 h3 hG ha
    obtain ⟨nx, rfl⟩ : ∃ n', nx = n' + 1 := ⟨nx - 1, by omega⟩
    obtain ⟨nm, rfl⟩ : ∃ n', nm = n' + 1 := ⟨nm - 1, by omega⟩
    have nl : ¬ (8 : Int32) ≤ nI i := nI_ge (b := 8) (by omega) (by decide)
    have y6 : y.1 1 6 = nI k := by rw [hG.1 1 (by decide) (by decide) (by decide) (by decide) (by decide), ek]
    have y10 : y.1 10 = σx.1 10 := hG.1 10 (by decide) (by decide) (by decide) (by decide) (by decide)
    have y4 : y.1 4 = σx.1 4 := hG.1 4 (by decide) (by decide) (by decide) (by decide) (by decide)
    have v15 : v.1 0 15 = nI k := by rw [ha 0 15 rfl]; exact H.2.1
    have v6 : ∀ j, j < k → v.1 6 j = σx.1 10 j := fun j hj => by rw [ha 6 j rfl]; exact (H.2.2.1 j hj).2.2
    have fr := @pu_free (σx.1 10) (v.1 6) k x (nI i) h5 v6 hR.2.2.2.2.2.2.2
    rw [xf_X7_best_p67, mf_X8_best_p57]
    simp only [nl, if_false, xf_free y6 h5, Nat.reduceAdd, y10, mf_onPlace v15 h5, sm_cS, sm_bS]
    by_cases cf : pu_find (fun j => decide (¬ nI j = nI x) && decide (v.1 6 j = nI i)) k 0 = -1
    · have cg := fr.mp cf
      have gp : nt_good k 0 (nt_S0 (σx.1 1 0) (upd (σx.1 10) x (nI i))) := nt_goodP (by omega) hg (fun j hj hn e => by
        have := (pu_find_none k 0 (by omega)).mp cf j (by omega) (by omega)
        simp only [Bool.and_eq_false_iff, decide_eq_false_iff_not, Decidable.not_not] at this
        rcases this with z | z
        · exact hn ((nI_eq (by omega) (by omega)).mp z)
        · exact z ((v6 j hj).trans e))
      obtain ⟨r3, w1, e1, q1, G1⟩ := xf_costIfE (kd := σx.1 4 x) hI h5 hR ht h15 hc hM hG hx gp
      rw [upd_self] at q1
      have H2 : nt_H cmp k t N s n (σx.1 (22 + t)) (σx.1 (28 + t)) W (σx.1 4) (σx.1 7) (upd (σx.1 10) x (nI i)) (σx.1 1 0) (σx.1 1 3) (σx.1 1 4) (sm_sI v 6 x (nI i)) := by
        obtain ⟨k1, k2, k3, k4, k6, k7, k8, k9, k10, k11⟩ := H.am ha
        unfold nt_H
        simp (config := { decide := true }) only [ne_eq, not_false_eq_true, true_or, or_true, sm_rI]
        refine ⟨k1, k2, fun z hz => ⟨(k3 z hz).1, (k3 z hz).2.1, ?_⟩, k4, k6, k7, k8, k9, k10, k11⟩
        rw [sm_sIk.1]
        unfold upd
        rw [(k3 z hz).2.2]
      obtain ⟨c2, v2, m4, -, m5, m6⟩ := mf_costOfE hI hs hM h5 ht hN hR.2.2.2.1 gp H2
      have am : pr_am σm (sm_sI v2 6 x (σx.1 10 x)) := by
        intro c j hcj
        by_cases e : c = 6 ∧ j = x
        · rw [e.1, e.2, sm_rE, (H.2.2.1 x hx).2.2]
        · rw [sm_rI1 c j (by omega), m6 c j hcj, sm_rI1 c j (by omega), ha c j hcj]
      simp only [cf, cg, if_true, i10, if_false, sm_gIn g5 (by decide : 5 < 2 ^ 31), nI_cl (show x < 2 ^ 31 by omega), y4, e1, m4, sm_cS, sm_rI 8 (by decide : 8 ≠ 6), (m5 x hx).1, q1, xf_X7_best_p121, xf_X7_best_p129, mf_X8_best_p114, mf_X8_best_p126, sm_bS, nI_inc]
      have next := fun fo le => ih (i + 1) nx nm fo le _ _ (by omega) (by omega) (by omega) G1 am
      by_cases c1 : fo = -1
      · simp only [c1, if_true]
        exact next _ _
      · simp only [c1, if_false]
        split
        · exact next _ _
        · exact next _ _
    · have cg := mt fr.mpr cf
      simp only [cf, cg, if_true, if_false, xf_X7_best_p129, mf_X8_best_p126, sm_bS, nI_inc]
      exact ih (i + 1) nx nm fo le y v (by omega) (by omega) (by omega) hG ha
theorem pr_best (hI : nt_I cmp V) (h : pr_R cmp σx σm) (a1 a2 a3 : Int32) : pr_sim cmp (xf_X7_best a1 a2 a3 σx) (mf_X8_best a1 a2 a3 σm) := by
  have h0 := h
  obtain ⟨k, tc, t, N, h5, ht, hN, hF, hR, et, em, e2, hc⟩ := pr_rule h
  obtain ⟨-, -, -, -, -, -, hS, -, -⟩ := h
  obtain ⟨f1, f2, f3, f4, f5, f6, f7, f8⟩ := hF
  have i6 := hR.2.2.2.2.2.1
  unfold xf_X7_best mf_X8_best
  simp only [xf_isSheet, mf_isSheet, sm_cS, xf_has, mf_isSitter f1 h5, i6, mf_in1, sm_bS]
  by_cases c : 0 ≤ a1 ∧ a1 ≤ 3
  · by_cases c2 : 0 ≤ a2 ∧ a2 < nI k
    · obtain ⟨s, hs, rfl⟩ := nI_ofR (x := a1) (n := 4) (by decide) c.1 (by have e : nI 4 = 4 := rfl; rw [e]; grind)
      obtain ⟨x, hx, rfl⟩ := nI_ofR (x := a2) (n := k) (by omega) c2.1 c2.2
      simp only [c, c2, and_self, if_true, i10, if_false]
      by_cases c3 : 0 ≤ a3 ∧ a3 ≤ 1
      · have n0 : ¬ a3 < 0 := by
          have := c3.1
          exact Int32.not_lt.mpr this
        simp only [c3, n0, and_self, if_true, if_false, i10, sm_gIn hs (by decide : 4 < 2 ^ 31), nI_cl (show s < 2 ^ 31 by omega), xf_missing, sm_cS]
        rcases hS s hs with ⟨z1, z2⟩ | ⟨ty, n, z1, z2, z3, z4, z5, z6, z7, z8⟩
        · simp only [z1, z2, if_true, i10, if_false]
          exact pr_same h0
        · have n1 : ¬ nI ty = -1 := nI_ne1 (by omega)
          simp only [z3, z4, n1, if_false, if_true, i10, sm_gIn (show x < 5 by omega) (by decide : 5 < 2 ^ 31), nI_cl (show x < 2 ^ 31 by omega), (f8 x hx).2.2]
          obtain ⟨_, ux, e1, w1, w2, w3, w4⟩ := xf_takeWindsE hs z2 z6
          have G0 : nt_G σx ux n (fun m => nt_wind (σx.1 (39 + s) m)) := ⟨fun c _ _ _ _ c43 => w3 c (by omega) (by omega), w1, w2⟩
          have H : nt_H cmp k t N s n (σx.1 (22 + t)) (σx.1 (28 + t)) (fun m => nt_wind (σx.1 (39 + s) m)) (σx.1 4) (σx.1 7) (σx.1 10) (σx.1 1 0) (σx.1 1 3) (σx.1 1 4) σm := ⟨z7, f1, f8, f2, f5, f6, fun m hm => by rw [z8 m hm], em, e2, hc⟩
          obtain ⟨r, y, v, q1, q2, q3, q4⟩ := pr_bestL (a1 := nI s) (a3 := a3) hI h5 hs hR ht hN et hc z2 hx H 8 0 sm_F sm_F (-1) 0 ux σm (by omega) (by have := sm_Fge; omega) (by have := sm_Fge; omega) G0 (pr_am.rf _)
          simp only [e1, sm_cS]
          refine ⟨r, y, v, q1, q2, h0.keep (fun c j hcj => ?_) q4⟩
          obtain ⟨d3, d6, d9, d12, d43⟩ := pr_pxE c j hcj
          rw [q3.1 c d3 d6 d9 d12 d43]
      · simp only [c3, if_true, if_false]
        by_cases n0 : a3 < 0
        · simp only [n0, if_true]
          exact pr_same h0
        · have n1 : ¬ a3 ≤ 1 := fun e => c3 ⟨Int32.not_lt.mp n0, e⟩
          simp only [n0, n1, if_false]
          exact pr_same h0
    · simp only [c, c2, and_self, if_true, i10, if_false]
      exact pr_same h0
  · simp only [c, if_true, if_false]
    exact pr_same h0
end
