/-! eyes: the call -/
section
variable {cmp : (Nat → Int32) → Nat → (Nat → Int32) → (Nat → Int32) → Prop} {V : (Nat → Int32) → (Nat → Int32) → Int32 → (Nat → Int32) → Int32} {σx σm σ σ' : sm_St} {k tc t N s n M : Nat} {code ends W kn nb pl : Nat → Int32} {sk te ed l r : Int32} {P : Int32 → Nat → Int32 → Int32 → Int32 → Int32 → Int32} {Q : Nat → Bool}
/-- how the class asks for a row -/
def nt_ask (σx : sm_St) (s n : Nat) (a4 kd : Int32) (Q : Nat → Bool) : Prop := ∀ (row : Nat) (y : sm_St), row < 243 → (∀ c, c ≠ 3 → c ≠ 6 → c ≠ 9 → c ≠ 12 → c < 43 → y.1 c = σx.1 c) → ∃ y', xf_X7_fits (35 + s) (nI n) (nI row) a4 kd y = some (if Q row = true then 1 else 0, y') ∧ nt_G σx y' n (nt_rw n row)
theorem xf_rowsL (hn : n ≤ 5) (H : nt_ask σx s n (-1) (-1) Q) : ∀ (d i F : Nat) (y : sm_St), i + d = nt_p3 n → d < F → (∀ c, c ≠ 3 → c ≠ 6 → c ≠ 9 → c ≠ 12 → c < 43 → y.1 c = σx.1 c) → ∃ y', xf_X7_rowsThatFit_p11 (35 + s) (nI n) F y (nI (nt_p3 n)) (nI (nt_cn Q i)) (nI i) = some (nI (nt_cn Q (nt_p3 n)), y') ∧ ∀ c, c ≠ 3 → c ≠ 6 → c ≠ 9 → c ≠ 12 → c < 43 → y'.1 c = σx.1 c := by
  have hp := nt_p3m n hn
  intro d
  induction d with
  | zero =>
    intro i F y h1 h2 h3
    obtain ⟨F, rfl⟩ : ∃ n', F = n' + 1 := ⟨F - 1, by omega⟩
    have : i = nt_p3 n := by omega
    rw [xf_X7_rowsThatFit_p11, this, if_pos (nI_le (Nat.le_refl _) (by omega))]
    exact ⟨y, rfl, h3⟩
  | succ d ih =>
    intro i F y h1 h2 h3
    obtain ⟨F, rfl⟩ : ∃ n', F = n' + 1 := ⟨F - 1, by omega⟩
    obtain ⟨y', e1, e2⟩ := H i y (by omega) h3
    have next := ih (i + 1) F y' (by omega) (by omega) e2.1
    have ec : nt_cn Q (i + 1) = if Q i = true then nt_cn Q i + 1 else nt_cn Q i := rfl
    rw [ec] at next
    rw [xf_X7_rowsThatFit_p11, if_neg (nI_ge (by omega) (by omega)), e1]
    simp only [sm_cS, xf_X7_rowsThatFit_p33, sm_bS, nI_inc]
    by_cases c : Q i = true
    · rw [if_pos c] at next ⊢
      simp only [i10, if_false]
      exact next
    · rw [if_neg c] at next ⊢
      simp only [if_true]
      exact next
theorem xf_firstL (hn : n ≤ 5) (H : nt_ask σx s n (-1) (-1) Q) : ∀ (d i F : Nat) (y : sm_St), i + d = nt_p3 n → d < F → nt_cn Q i = 0 → (∀ c, c ≠ 3 → c ≠ 6 → c ≠ 9 → c ≠ 12 → c < 43 → y.1 c = σx.1 c) → ∃ y', xf_X7_firstThatFits_p8 (35 + s) (nI n) F y (nI (nt_p3 n)) (nI i) = some (nt_fs Q (fun row => nt_dg n row n) (nt_p3 n), y') ∧ ∀ c, c ≠ 3 → c ≠ 6 → c ≠ 9 → c ≠ 12 → c < 43 → y'.1 c = σx.1 c := by
  have hp := nt_p3m n hn
  intro d
  induction d with
  | zero =>
    intro i F y h1 h2 h0 h3
    obtain ⟨F, rfl⟩ : ∃ n', F = n' + 1 := ⟨F - 1, by omega⟩
    have : i = nt_p3 n := by omega
    rw [this] at h0
    rw [xf_X7_firstThatFits_p8, this, if_pos (nI_le (Nat.le_refl _) (by omega)), nt_fs0 _ h0]
    exact ⟨y, rfl, h3⟩
  | succ d ih =>
    intro i F y h1 h2 h0 h3
    obtain ⟨F, rfl⟩ : ∃ n', F = n' + 1 := ⟨F - 1, by omega⟩
    obtain ⟨y', e1, e2⟩ := H i y (by omega) h3
    have ec : nt_cn Q (i + 1) = if Q i = true then nt_cn Q i + 1 else nt_cn Q i := rfl
    have ef : nt_fs Q (fun row => nt_dg n row n) (i + 1) = if Q i = true ∧ nt_cn Q i = 0 then nt_dg n i n else nt_fs Q (fun row => nt_dg n row n) i := rfl
    rw [xf_X7_firstThatFits_p8, if_neg (nI_ge (by omega) (by omega)), e1]
    simp only [sm_cS]
    by_cases c : Q i = true
    · rw [if_pos c] at ec ⊢
      rw [if_pos ⟨c, h0⟩] at ef
      have st := nt_fsM (q := Q) (g := fun row => nt_dg n row n) (i := i + 1) (by omega) d
      rw [show i + 1 + d = nt_p3 n by omega, ef] at st
      rw [if_neg i10, xf_digitsE hn e2.2.1 e2.2.2, sm_cS, st]
      exact ⟨y', rfl, e2.1⟩
    · rw [if_neg c] at ec ⊢
      rw [if_pos rfl]
      simp only [sm_bS, nI_inc]
      exact ih (i + 1) F y' (by omega) (by omega) (by omega) e2.1
theorem xf_kindL {kd : Nat} {a3 : Int32} {K : sm_St → Int32 → Int32 → Int32 → Option (Int32 × sm_St)} (hn : n ≤ 5) (hk : kd < 6) (H : nt_ask σx s n a3 (nI kd) Q) {b : Nat} (hb : b < 2 ^ kd) : ∀ (d i F : Nat) (y : sm_St), i + d = nt_p3 n → d < F → nt_cn Q i = 0 → (∀ c, c ≠ 3 → c ≠ 6 → c ≠ 9 → c ≠ 12 → c < 43 → y.1 c = σx.1 c) → ∃ y', xf_X7_kindsThatFit_p22 (35 + s) (nI n) a3 K F y (nI (nt_p3 n)) (nI b) (nI kd) (nI i) = K y' (nI (nt_p3 n)) (nI b ||| (if 0 < nt_cn Q (nt_p3 n) then 1 else 0) <<< (nI kd &&& 31)) (nI (kd + 1)) ∧ ∀ c, c ≠ 3 → c ≠ 6 → c ≠ 9 → c ≠ 12 → c < 43 → y'.1 c = σx.1 c := by
  have hp := nt_p3m n hn
  obtain ⟨k1, k2, k3, k4⟩ := pu_kb kd hk b hb
  intro d
  induction d with
  | zero =>
    intro i F y h1 h2 h0 h3
    obtain ⟨F, rfl⟩ : ∃ n', F = n' + 1 := ⟨F - 1, by omega⟩
    have : i = nt_p3 n := by omega
    rw [this] at h0
    rw [xf_X7_kindsThatFit_p22, this, if_pos (nI_le (Nat.le_refl _) (by omega)), if_neg (by omega), k4]
    simp only [xf_X7_kindsThatFit_p68, sm_bS, nI_inc]
    exact ⟨y, rfl, h3⟩
  | succ d ih =>
    intro i F y h1 h2 h0 h3
    obtain ⟨F, rfl⟩ : ∃ n', F = n' + 1 := ⟨F - 1, by omega⟩
    obtain ⟨y', e1, e2⟩ := H i y (by omega) h3
    have ec : nt_cn Q (i + 1) = if Q i = true then nt_cn Q i + 1 else nt_cn Q i := rfl
    rw [xf_X7_kindsThatFit_p22, if_neg (nI_ge (by omega) (by omega))]
    simp only [sm_bS, k1, if_true, e1, sm_cS, xf_X7_kindsThatFit_p62, nI_inc]
    by_cases c : Q i = true
    · rw [if_pos c] at ec ⊢
      have st := nt_cnM Q (i + 1) d
      rw [show i + 1 + d = nt_p3 n by omega] at st
      rw [if_neg i10, if_pos (show 0 < nt_cn Q (nt_p3 n) by omega)]
      obtain ⟨F, rfl⟩ : ∃ n', F = n' + 1 := ⟨F - 1, by omega⟩
      rw [xf_X7_kindsThatFit_p22]
      simp only [sm_bS, k2, i10, if_false, xf_X7_kindsThatFit_p68, nI_inc]
      refine ⟨y', ?_, e2.1⟩
      split <;> rfl
    · rw [if_neg c] at ec ⊢
      rw [if_pos rfl]
      exact ih (i + 1) F y' (by omega) (by omega) (by omega) e2.1
theorem xf_kindsL {a3 : Int32} {QQ : Nat → Nat → Bool} (hn : n ≤ 5) (H : ∀ kd, kd < 6 → nt_ask σx s n a3 (nI kd) (QQ kd)) : ∀ (d kd F : Nat) (y : sm_St), kd + d = 6 → d < F → (∀ c, c ≠ 3 → c ≠ 6 → c ≠ 9 → c ≠ 12 → c < 43 → y.1 c = σx.1 c) → ∃ y', xf_X7_kindsThatFit_p12 (35 + s) (nI n) a3 F y (nI (nt_p3 n)) (nt_kb (fun kd => nt_cn (QQ kd) (nt_p3 n)) kd) (nI kd) = some (nt_kb (fun kd => nt_cn (QQ kd) (nt_p3 n)) 6, y') ∧ ∀ c, c ≠ 3 → c ≠ 6 → c ≠ 9 → c ≠ 12 → c < 43 → y'.1 c = σx.1 c := by
  have hp := nt_p3m n hn
  intro d
  induction d with
  | zero =>
    intro kd F y h1 h2 h3
    obtain ⟨F, rfl⟩ : ∃ n', F = n' + 1 := ⟨F - 1, by omega⟩
    have : kd = 6 := by omega
    subst this
    rw [xf_X7_kindsThatFit_p12, if_pos (by decide)]
    exact ⟨y, rfl, h3⟩
  | succ d ih =>
    intro kd F y h1 h2 h3
    obtain ⟨F, rfl⟩ : ∃ n', F = n' + 1 := ⟨F - 1, by omega⟩
    obtain ⟨b, hb, eb⟩ := nt_kbN (fun kd => nt_cn (QQ kd) (nt_p3 n)) kd (by omega)
    obtain ⟨y', e1, e2⟩ := xf_kindL (K := xf_X7_kindsThatFit_p12 (35 + s) (nI n) a3 F) hn (by omega) (H kd (by omega)) hb (nt_p3 n) 0 sm_F y (by omega) (by have := sm_Fge; omega) rfl h3
    have nl : ¬ (6 : Int32) ≤ nI kd := nI_ge (b := 6) (by omega) (by decide)
    obtain ⟨y2, e3, e4⟩ := ih (kd + 1) F y' (by omega) (by omega) e2
    refine ⟨y2, ?_, e4⟩
    rw [← e3, xf_X7_kindsThatFit_p12, if_neg nl, eb]
    have e1 : xf_X7_kindsThatFit_p22 (35 + s) (nI n) a3 (xf_X7_kindsThatFit_p12 (35 + s) (nI n) a3 F) sm_F y (nI (nt_p3 n)) (nI b) (nI kd) 0 = _ := e1
    rw [e1]
    have eu : nt_kb (fun kd => nt_cn (QQ kd) (nt_p3 n)) (kd + 1) = nt_kb (fun kd => nt_cn (QQ kd) (nt_p3 n)) kd ||| (if 0 < nt_cn (QQ kd) (nt_p3 n) then 1 else 0) <<< (nI kd &&& 31) := rfl
    rw [eu, eb]
/-- the kinds, of the reference -/
theorem mf_kindsL {x : Nat} {red : Nat → Int32} (hI : nt_I cmp V) (h5 : k ≤ 5) (ht : t < 6) (hN : N ≤ 160) (he1 : ed = 0 ∨ ed = 1) (hn : n ≤ 5) (hs : s < 4) (hx : x < k) (hg : nt_good k 0 (nt_S0 sk pl)) (h : nt_D cmp k t N code ends kn nb pl sk te ed l r σ) (hr : ∀ x, x < k → σ.1 23 (40 * s + x) = red x) : ∀ (d kd F : Nat) (v : sm_St), kd + d = 6 → d < F → (∀ c j, pr_pm c j = true → ¬ (c = 4 ∧ j = x) → v.1 c j = σ.1 c j) → ∃ v', mf_X8_eyes_p107 (nI s) (nI n) (nI x) F v (kn x) (nt_kb (fun kd => nt_cn (nt_qq true k n (upd kn x (nI kd)) nb te ed (nt_P V code ends nb) sk pl red) (nt_p3 n)) kd) (nI kd) = some (nt_kb (fun kd => nt_cn (nt_qq true k n (upd kn x (nI kd)) nb te ed (nt_P V code ends nb) sk pl red) (nt_p3 n)) 6, v') ∧ pr_am σ v' := by
  have hp := nt_p3m n hn
  intro d
  induction d with
  | zero =>
    intro kd F v h1 h2 h3
    obtain ⟨F, rfl⟩ : ∃ n', F = n' + 1 := ⟨F - 1, by omega⟩
    have : kd = 6 := by omega
    subst this
    rw [mf_X8_eyes_p107, if_pos (by decide)]
    simp only [sm_gIn (show x < 5 by omega) (by decide : 5 < 2 ^ 31), nI_cl (show x < 2 ^ 31 by omega), sm_bS]
    refine ⟨_, rfl, fun c j hcj => ?_⟩
    by_cases e : c = 4 ∧ j = x
    · rw [e.1, e.2, sm_rE, (h.2.1 x hx).1]
    · rw [sm_rI1 c j (by omega)]
      exact h3 c j hcj e
  | succ d ih =>
    intro kd F v h1 h2 h3
    obtain ⟨F, rfl⟩ : ∃ n', F = n' + 1 := ⟨F - 1, by omega⟩
    have nl : ¬ (5 : Int32) < nI kd := Int32.not_lt.mpr (nI_le (b := 5) (by omega) (by decide))
    have v1 : ∀ j, v.1 1 j = σ.1 1 j := fun j => h3 1 j rfl (by omega)
    have v23 : ∀ j, v.1 23 j = σ.1 23 j := fun j => h3 23 j rfl (by omega)
    have H : nt_D cmp k t N code ends (upd kn x (nI kd)) nb pl sk te ed l r (sm_sI v 4 x (nI kd)) := by
      obtain ⟨d1, d2, d3, d4, d5, d6, d7, d8, d9, d10⟩ := h
      unfold nt_D
      simp (config := { decide := true }) only [ne_eq, not_false_eq_true, true_or, or_true, sm_rI]
      refine ⟨by rw [h3 0 15 rfl (by omega)]; exact d1, fun y hy => ⟨?_, by rw [h3 5 y rfl (by omega)]; exact (d2 y hy).2.1, by rw [h3 6 y rfl (by omega)]; exact (d2 y hy).2.2⟩, by rw [h3 0 7 rfl (by omega)]; exact d3, by rw [h3 0 10 rfl (by omega)]; exact d4, by rw [h3 0 11 rfl (by omega)]; exact d5, by rw [h3 0 4 rfl (by omega)]; exact d6, by rw [h3 2 t rfl (by omega)]; exact d7, ?_, by rw [h3 0 8 rfl (by omega)]; exact d9, by rw [h3 0 9 rfl (by omega)]; exact d10⟩
      · rw [sm_sIk.1]
        unfold upd
        by_cases e : y = x
        · rw [if_pos e, if_pos e]
        · rw [if_neg e, if_neg e, h3 4 y rfl (by omega)]
          exact (d2 y hy).1
      · rw [show (fun i => v.1 1 (160 * t + i)) = fun i => σ.1 1 (160 * t + i) from funext fun i => v1 _]
        exact d8
    obtain ⟨w, w1, w2, w3, -⟩ := mf_rowsE (red := red) hI h5 ht hN he1 hn hs hg H (fun y hy => by rw [sm_rI 23 (by decide), v23]; exact hr y hy)
    have cb := nt_cnL (nt_qq true k n (upd kn x (nI kd)) nb te ed (nt_P V code ends nb) sk pl red) (nt_p3 n)
    have next := ih (kd + 1) F w (by omega) (by omega) (fun c j hcj hn => by rw [w2 c j hcj, sm_rI1 c j (by omega)]; exact h3 c j hcj hn)
    have eu : nt_kb (fun kd => nt_cn (nt_qq true k n (upd kn x (nI kd)) nb te ed (nt_P V code ends nb) sk pl red) (nt_p3 n)) (kd + 1) = nt_kb (fun kd => nt_cn (nt_qq true k n (upd kn x (nI kd)) nb te ed (nt_P V code ends nb) sk pl red) (nt_p3 n)) kd ||| (if 0 < nt_cn (nt_qq true k n (upd kn x (nI kd)) nb te ed (nt_P V code ends nb) sk pl red) (nt_p3 n) then 1 else 0) <<< (nI kd &&& 31) := rfl
    rw [eu] at next
    rw [mf_X8_eyes_p107, if_neg nl]
    simp only [sm_gIn (show x < 5 by omega) (by decide : 5 < 2 ^ 31), nI_cl (show x < 2 ^ 31 by omega), sm_bS, w1, sm_cS, w3, mf_X8_eyes_p141, nI_inc]
    by_cases c : 0 < nt_cn (nt_qq true k n (upd kn x (nI kd)) nb te ed (nt_P V code ends nb) sk pl red) (nt_p3 n)
    · have c2 : ¬ nI (nt_cn (nt_qq true k n (upd kn x (nI kd)) nb te ed (nt_P V code ends nb) sk pl red) (nt_p3 n)) ≤ 0 := nI_ge (a := 0) c (by omega)
      rw [if_neg c2]
      rw [if_pos c] at next
      exact next
    · have c2 : nI (nt_cn (nt_qq true k n (upd kn x (nI kd)) nb te ed (nt_P V code ends nb) sk pl red) (nt_p3 n)) ≤ 0 := nI_le (b := 0) (by omega) (by decide)
      rw [if_pos c2]
      rw [if_neg c] at next
      exact next
theorem pr_eyes (hI : nt_I cmp V) (h : pr_R cmp σx σm) (a1 a2 a3 : Int32) : pr_sim cmp (xf_X7_eyes a1 a2 a3 σx) (mf_X8_eyes a1 a2 a3 σm) := by
  have h0 := h
  obtain ⟨k, tc, t, N, h5, ht, hN, hF, hR, et, em, e2, hc⟩ := pr_rule h
  obtain ⟨-, -, -, -, -, -, hS, -, -⟩ := h
  obtain ⟨f1, f2, f3, f4, f5, f6, f7, f8⟩ := hF
  have i6 := hR.2.2.2.2.2.1
  have hg := nt_good0 h5 hR
  have H : nt_D cmp k t N (σx.1 (22 + t)) (σx.1 (28 + t)) (σx.1 4) (σx.1 7) (σx.1 10) (σx.1 1 0) (σx.1 1 3) (σx.1 1 4) (σx.1 1 1) (σx.1 1 2) σm := ⟨f1, f8, f2, f5, f6, em, e2, hc, f3, f4⟩
  unfold xf_X7_eyes mf_X8_eyes
  simp only [sm_bS, xf_isSheet, mf_isSheet, mf_in5, mf_inmm, mf_isSitter f1 h5, sm_cS, i6]
  by_cases c : 0 ≤ a1 ∧ a1 ≤ 3
  · obtain ⟨s, hs, rfl⟩ := nI_ofR (x := a1) (n := 4) (by decide) c.1 (by have e : nI 4 = 4 := rfl; rw [e]; grind)
    simp only [c, and_self, if_true, i10, if_false]
    by_cases c2 : 0 ≤ a2 ∧ a2 ≤ 5
    · obtain ⟨n, hn, rfl⟩ := nI_ofR (x := a2) (n := 6) (by decide) c2.1 (by have e : nI 6 = 6 := rfl; rw [e]; grind)
      have hn5 : n ≤ 5 := by omega
      have n0 : ¬ nI n < 0 := Int32.not_lt.mpr c2.1
      simp only [c2, n0, and_self, if_true, i10, if_false]
      have back : ∀ {R : Int32} {y v : sm_St}, (∀ c, c ≠ 3 → c ≠ 6 → c ≠ 9 → c ≠ 12 → c < 43 → y.1 c = σx.1 c) → pr_am σm v → pr_sim cmp (some (R, y)) (some (R, v)) := fun {R y v} q1 q2 => pr_same (h0.keep (fun c j hcj => by
        obtain ⟨d3, d6, d9, d12, d43⟩ := pr_pxE c j hcj
        rw [q1 c d3 d6 d9 d12 d43]) q2)
      by_cases c3 : -2 ≤ a3 ∧ a3 < nI k
      · have n3 : ¬ a3 < -2 := Int32.not_lt.mpr c3.1
        have em41 : ∀ x : Option (Int32 × sm_St), pr_sim cmp x (mf_X8_eyes_p41 (nI s) (nI n) a3 σm) → pr_sim cmp x (if (if -2 ≤ a3 ∧ a3 ≤ -1 then (1 : Int32) else 0) = 0 then if (if 0 ≤ a3 ∧ a3 < nI k then (1 : Int32) else 0) = 0 then some (-100, σm) else mf_X8_eyes_p41 (nI s) (nI n) a3 σm else mf_X8_eyes_p41 (nI s) (nI n) a3 σm) := by
          intro x hx
          by_cases u1 : -2 ≤ a3 ∧ a3 ≤ -1
          · rw [if_pos u1, if_neg i10]
            exact hx
          · have u2 : 0 ≤ a3 ∧ a3 < nI k := by grind
            rw [if_neg u1, if_pos rfl, if_pos u2, if_neg i10]
            exact hx
        refine em41 _ ?_
        unfold mf_X8_eyes_p41
        simp only [n3, c3.2, if_true, if_false, xf_missing, sm_cS, i6, sm_gIn hs (by decide : 4 < 2 ^ 31), nI_cl (show s < 2 ^ 31 by omega), sm_bS, f1]
        rcases hS s hs with ⟨z1, z2⟩ | ⟨ty, q, z1, z2, z3, z4, z5, z6, z7, z8⟩
        · simp only [z1, z2, if_true, i10, if_false]
          exact pr_same h0
        · have n1 : ¬ nI ty = -1 := nI_ne1 (by omega)
          simp only [z3, z4, n1, if_false, if_true, i10, z6, z7]
          by_cases c4 : nI q = nI k
          · have eq : q = k := (nI_eq (by omega) (by omega)).mp c4
            subst eq
            simp only [if_true]
            have red : ∀ x, x < q → σm.1 23 (40 * s + x) = σx.1 (39 + s) x := z8
            have QE : ∀ kn, (fun row => nt_qq false q n kn (σx.1 7) (σx.1 1 3) (σx.1 1 4) (nt_P V (σx.1 (22 + t)) (σx.1 (28 + t)) (σx.1 7)) (σx.1 1 0) (σx.1 10) (σx.1 (39 + s)) row) = nt_qq true q n kn (σx.1 7) (σx.1 1 3) (σx.1 1 4) (nt_P V (σx.1 (22 + t)) (σx.1 (28 + t)) (σx.1 7)) (σx.1 1 0) (σx.1 10) (σx.1 (39 + s)) := fun kn => funext fun row => nt_qqC h5 hn5 hg (fun _ _ => rfl) row
            by_cases c5 : a3 = -1
            · subst c5
              have A : nt_ask σx s n (-1) (-1) (nt_qq true q n (σx.1 4) (σx.1 7) (σx.1 1 3) (σx.1 1 4) (nt_P V (σx.1 (22 + t)) (σx.1 (28 + t)) (σx.1 7)) (σx.1 1 0) (σx.1 10) (σx.1 (39 + s))) := by
                rw [← QE]
                exact fun row y hr hy => xf_fitsE h5 hR hn5 hr hs z6 hy (Or.inl ⟨rfl, rfl⟩)
              obtain ⟨y, q1, q2⟩ := xf_rowsL hn5 A (nt_p3 n) 0 sm_F σx (by omega) (by have := nt_p3m n hn5; have := sm_Fge; omega) (fun _ _ _ _ _ _ => rfl)
              obtain ⟨v, v1, v2, v3, -⟩ := mf_rowsE (red := σx.1 (39 + s)) hI h5 ht hN hR.2.2.2.1 hn5 hs hg H red
              have n5 : ¬ (0 : Int32) ≤ -1 := by decide
              unfold xf_X7_rowsThatFit
              have q1 : xf_X7_rowsThatFit_p11 (35 + s) (nI n) sm_F σx (nI (nt_p3 n)) 0 0 = _ := q1
              simp only [if_true, n5, if_false, xf_rowsOfE hn5, sm_cS, q1, v1, v3]
              exact back q2 v2
            · by_cases c6 : a3 = -2
              · subst c6
                have A : nt_ask σx s n (-1) (-1) (nt_qq true q n (σx.1 4) (σx.1 7) (σx.1 1 3) (σx.1 1 4) (nt_P V (σx.1 (22 + t)) (σx.1 (28 + t)) (σx.1 7)) (σx.1 1 0) (σx.1 10) (σx.1 (39 + s))) := by
                  rw [← QE]
                  exact fun row y hr hy => xf_fitsE h5 hR hn5 hr hs z6 hy (Or.inl ⟨rfl, rfl⟩)
                obtain ⟨y, q1, q2⟩ := xf_firstL hn5 A (nt_p3 n) 0 sm_F σx (by omega) (by have := nt_p3m n hn5; have := sm_Fge; omega) rfl (fun _ _ _ _ _ _ => rfl)
                obtain ⟨v, v1, v2, -, v3⟩ := mf_rowsE (red := σx.1 (39 + s)) hI h5 ht hN hR.2.2.2.1 hn5 hs hg H red
                have n5 : ¬ (0 : Int32) ≤ -2 := by decide
                have n6 : ¬ (-2 : Int32) = -1 := by decide
                unfold xf_X7_firstThatFits
                have q1 : xf_X7_firstThatFits_p8 (35 + s) (nI n) sm_F σx (nI (nt_p3 n)) 0 = _ := q1
                simp only [if_true, n5, n6, if_false, xf_rowsOfE hn5, sm_cS, q1, v1, v3]
                exact back q2 v2
              · have c7 : 0 ≤ a3 := by grind
                obtain ⟨x, hx, rfl⟩ := nI_ofR (x := a3) (n := q) (by omega) c7 c3.2
                have A : ∀ kd, kd < 6 → nt_ask σx s n (nI x) (nI kd) (nt_qq true q n (upd (σx.1 4) x (nI kd)) (σx.1 7) (σx.1 1 3) (σx.1 1 4) (nt_P V (σx.1 (22 + t)) (σx.1 (28 + t)) (σx.1 7)) (σx.1 1 0) (σx.1 10) (σx.1 (39 + s))) := by
                  intro kd hkd
                  rw [← QE]
                  exact fun row y hr hy => xf_fitsE h5 hR hn5 hr hs z6 hy (Or.inr ⟨x, hx, rfl, rfl⟩)
                obtain ⟨y, q1, q2⟩ := xf_kindsL (QQ := fun kd => nt_qq true q n (upd (σx.1 4) x (nI kd)) (σx.1 7) (σx.1 1 3) (σx.1 1 4) (nt_P V (σx.1 (22 + t)) (σx.1 (28 + t)) (σx.1 7)) (σx.1 1 0) (σx.1 10) (σx.1 (39 + s))) hn5 A 6 0 sm_F σx (by omega) (by have := sm_Fge; omega) (fun _ _ _ _ _ _ => rfl)
                obtain ⟨v, v1, v2⟩ := mf_kindsL (red := σx.1 (39 + s)) hI h5 ht hN hR.2.2.2.1 hn5 hs hx hg H red 6 0 sm_F σm (by omega) (by have := sm_Fge; omega) (fun _ _ _ _ => rfl)
                unfold xf_X7_kindsThatFit
                have q1 : xf_X7_kindsThatFit_p12 (35 + s) (nI n) (nI x) sm_F σx (nI (nt_p3 n)) 0 0 = _ := q1
                have v1 : mf_X8_eyes_p107 (nI s) (nI n) (nI x) sm_F σm (σx.1 4 x) 0 0 = _ := v1
                have n5 : ¬ nI x = -1 := c5
                have n6 : ¬ nI x = -2 := c6
                simp only [c7, if_true, n5, n6, if_false, xf_rowsOfE hn5, sm_cS, q1, sm_gIn (show x < 5 by omega) (by decide : 5 < 2 ^ 31), nI_cl (show x < 2 ^ 31 by omega), (f8 x hx).1, v1]
                exact back q2 v2
          · simp only [c4, if_false]
            exact pr_same h0
      · have u1 : ¬ (-2 ≤ a3 ∧ a3 ≤ -1) := fun e => by
          have hk0 : 0 ≤ nI k := nI_pos' (by omega)
          grind
        have u2 : ¬ (0 ≤ a3 ∧ a3 < nI k) := fun e => by grind
        simp only [u1, u2, if_true, if_false]
        (repeat' split) <;> first | exact pr_same h0 | (clear h0 back; exfalso; grind)
    · simp only [c2, if_true, if_false]
      (repeat' split) <;> first | exact pr_same h0 | (clear h0; exfalso; grind)
  · simp only [c, if_true, if_false]
    exact pr_same h0
end
