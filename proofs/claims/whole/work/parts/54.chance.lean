/-! chance -/
theorem lN_nI : ∀ j, j ≤ 20 → (nI j).toInt64 = lN j := by decide
theorem lN_z : (0 : Int64) = lN 0 := rfl
theorem lN_i1 : ∀ j, j ≤ 20 → lN j + 1 = lN (j + 1) := by decide
theorem lN_i0 : ∀ j, j ≤ 20 → lN j + 0 = lN j := by decide
section
variable {cmp : (Nat → Int32) → Nat → (Nat → Int32) → (Nat → Int32) → Prop} {V : (Nat → Int32) → (Nat → Int32) → Int32 → (Nat → Int32) → Int32} {σx σm σ σ' : sm_St} {k tc t N s n M : Nat} {code ends W kn nb pl : Nat → Int32} {sk te ed : Int32} {P : Int32 → Nat → Int32 → Int32 → Int32 → Int32 → Int32}
theorem pr_chanceL {a1 a3 : Int32} {b : Nat → Int32} (hI : nt_I cmp V) (h5 : k ≤ 5) (hR : pr_I (σx.1 1) (σx.1 4) (σx.1 7) (σx.1 10) k tc) (ht : t < 6) (hN : N ≤ 160) (hn : 1 ≤ n ∧ n ≤ 20) (H : nt_D cmp k t N (σx.1 (22 + t)) (σx.1 (28 + t)) (σx.1 4) (σx.1 7) (σx.1 10) (σx.1 1 0) (σx.1 1 3) (σx.1 1 4) (σx.1 1 1) (σx.1 1 2) σm) : ∀ (d i nx nm j : Nat) (y v : sm_St), i + d = n → d < nx → d < nm → j ≤ i → (∀ c, c ≠ 3 → c ≠ 6 → c ≠ 9 → c ≠ 12 → c < 43 → y.1 c = σx.1 c) → pr_am σm v → ∃ r y' v', xf_X7_chance_p28 a1 (nI n) a3 nx y (nI j) (nI i) = some (r, y') ∧ mf_X8_chance_p32 a1 (nI n) a3 nm v (lN j) (nI i) = some (r, v') ∧ (∀ c, c ≠ 3 → c ≠ 6 → c ≠ 9 → c ≠ 12 → c < 43 → y'.1 c = σx.1 c) ∧ pr_am σm v' := by
  have hg := nt_good0 h5 hR
  intro d
  induction d with
  | zero =>
    intro i nx nm j y v h1 h2 h3 hj hG ha
    obtain ⟨nx, rfl⟩ : ∃ n', nx = n' + 1 := ⟨nx - 1, by omega⟩
    obtain ⟨nm, rfl⟩ : ∃ n', nm = n' + 1 := ⟨nm - 1, by omega⟩
    have : i = n := by omega
    subst this
    rw [xf_X7_chance_p28, mf_X8_chance_p32]
    have nl : nI i ≤ nI i := nI_le (Nat.le_refl _) (by omega)
    simp only [nl, if_true, sm_bS, lN_nI j (by omega), lN_nI i (by omega), xf_low (a := j) (b := i) (by omega) (by omega) (by omega), mf_low (a := j) (b := i) (by omega) (by omega) (by omega), sm_cS]
    exact ⟨_, _, _, rfl, rfl, hG, ha⟩
  | succ d ih =>
    intro i nx nm j y v h1 h2 h3 hj hG ha
    obtain ⟨nx, rfl⟩ : ∃ n', nx = n' + 1 := ⟨nx - 1, by omega⟩
    obtain ⟨nm, rfl⟩ : ∃ n', nm = n' + 1 := ⟨nm - 1, by omega⟩
    have nl : ¬ nI n ≤ nI i := nI_ge (by omega) (by omega)
    have y1 : y.1 1 = σx.1 1 := hG 1 (by decide) (by decide) (by decide) (by decide) (by decide)
    obtain ⟨_, u, e1, w1, w2, w3⟩ := @xf_drawWindsE (a1 + nI i) (σx.1 1 1) (σx.1 1 2) y
    have G0 : nt_G σx u 10 (fun m => nt_dw (σx.1 1 1) (σx.1 1 2) (nt_z (a1 + nI i) (m + 1))) := ⟨fun c c3 c6 c9 c12 c43 => by rw [w3 c (by omega) (by omega)]; exact hG c c3 c6 c9 c12 c43, w1, w2⟩
    obtain ⟨p, w, x1, x2, G1, X1⟩ := xf_freeE (P := nt_P V (σx.1 (22 + t)) (σx.1 (28 + t)) (σx.1 7)) h5 hR (by decide : 10 ≤ 40) G0
    obtain ⟨r1, q, m1, -, m2, m3⟩ := mf_drawsE (seed := a1 + nI i) hI h5 ht hN hR.2.2.2.1 hg (H.am ha)
    have am := ha.tr m3
    have q15 : q.1 0 15 = nI k := by rw [am 0 15 rfl]; exact H.1
    have s48 := xf_sumE (a := 48) (σ := w) rfl
    have s11 := mf_sumE (a := 11) (k := k) (σ := q) rfl h5 q15
    have e3 := (nt_runC (p := false) (q := true) (kn := σx.1 4) (kn' := σx.1 4) (nb := σx.1 7) (nb' := σx.1 7) (te := σx.1 1 3) (ed := σx.1 1 4) (P := nt_P V (σx.1 (22 + t)) (σx.1 (28 + t)) (σx.1 7)) (W := fun m => nt_dw (σx.1 1 1) (σx.1 1 2) (nt_z (a1 + nI i) (m + 1))) (W' := fun m => nt_dw (σx.1 1 1) (σx.1 1 2) (nt_z (a1 + nI i) (m + 1))) h5 (fun _ _ => rfl) (fun _ _ => rfl) (nt_eq.np ⟨fun _ _ => rfl, fun _ _ _ _ _ => rfl⟩) hg 10 (by omega) (fun _ _ => rfl)).1.2 6
    rw [(nt_sumX h5 X1).2, nt_sumC k (fun x hx => e3 x (by decide) (by decide) (by decide) hx), ← m2] at s48
    rw [xf_X7_chance_p28, mf_X8_chance_p32]
    unfold xf_X2_upsOfAll
    generalize nt_sum (q.1 11) k = S at s48 s11
    simp only [nl, if_false, sm_bS, y1, e1, x1, x2, m1, s48, s11, sm_cS, xf_X7_chance_p91, mf_X8_chance_p65, nI_inc]
    by_cases c : S = 0
    · simp only [c, if_true, lN_i1 j (by omega)]
      exact ih (i + 1) nx nm (j + 1) _ _ (by omega) (by omega) (by omega) (by omega) G1.1 am
    · simp only [c, if_false, lN_i0 j (by omega)]
      exact ih (i + 1) nx nm j _ _ (by omega) (by omega) (by omega) (by omega) G1.1 am
theorem pr_chance (hI : nt_I cmp V) (h : pr_R cmp σx σm) (a1 a2 a3 : Int32) : pr_sim cmp (xf_X7_chance a1 a2 a3 σx) (mf_X8_chance a1 a2 a3 σm) := by
  have h0 := h
  obtain ⟨k, tc, t, N, h5, ht, hN, hF, hR, et, em, e2, hc⟩ := pr_rule h
  obtain ⟨f1, f2, f3, f4, f5, f6, f7, f8⟩ := hF
  unfold xf_X7_chance mf_X8_chance
  simp only [sm_bS, mf_in120, mf_in1, xf_isPart, sm_cS]
  by_cases c : 1 ≤ a2 ∧ a2 ≤ 20
  · obtain ⟨n, hn, rfl⟩ := nI_ofR (x := a2) (n := 21) (by decide) (by grind) (by have e : nI 21 = 21 := rfl; rw [e]; grind)
    have n1 : ¬ nI n < 1 := Int32.not_lt.mpr c.1
    have n2 : ¬ (20 : Int32) < nI n := Int32.not_lt.mpr c.2
    have hn1 : 1 ≤ n := by
      have : n ≠ 0 := fun e => by subst e; exact absurd c.1 (by decide)
      omega
    simp only [c, n1, n2, and_self, if_true, if_false, i10]
    by_cases c2 : 0 ≤ a3 ∧ a3 ≤ 1
    · simp only [c2, and_self, if_true, if_false, i10]
      obtain ⟨r, y, v, q1, q2, q3, q4⟩ := pr_chanceL (a1 := a1) (a3 := a3) (n := n) (b := fun i => σm.1 1 (160 * t + i)) hI h5 hR ht hN ⟨hn1, by omega⟩ ⟨f1, f8, f2, f5, f6, em, e2, hc, f3, f4⟩ n 0 sm_F sm_F 0 σx σm (by omega) (by have := sm_Fge; omega) (by have := sm_Fge; omega) (Nat.le_refl _) (fun _ _ _ _ _ _ => rfl) (pr_am.rf _)
      refine ⟨r, y, v, q1, q2, h0.keep (fun c j hcj => ?_) q4⟩
      obtain ⟨d3, d6, d9, d12, d43⟩ := pr_pxE c j hcj
      rw [q3 c d3 d6 d9 d12 d43]
    · simp only [c2, if_true, if_false]
      exact pr_same h0
  · simp only [c, if_true, if_false]
    (repeat' split) <;> first | exact pr_same h0 | (clear h0; exfalso; grind)
end
