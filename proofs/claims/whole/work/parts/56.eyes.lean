/-! eyes -/
theorem nI_30 : ∀ n, n ≤ 5 → ∀ i, i < n → nI (nt_p3 (n - i)) / 3 = nI (nt_p3 (n - 1 - i)) ∧ ¬ nI (nt_p3 (n - 1 - i)) = 0 := by decide
/-- the bits of the kinds that fit -/
def nt_kb (Q : Nat → Nat) : Nat → Int32
  | 0 => 0
  | kd + 1 => nt_kb Q kd ||| (if 0 < Q kd then 1 else 0) <<< (nI kd &&& 31)
theorem pu_kb : ∀ kd, kd < 6 → ∀ b, b < 2 ^ kd → nI b >>> (nI kd &&& 31) &&& 1 = 0 ∧ (nI b ||| 1 <<< (nI kd &&& 31)) >>> (nI kd &&& 31) &&& 1 = 1 ∧ nI b ||| 1 <<< (nI kd &&& 31) = nI (b + 2 ^ kd) ∧ nI b ||| 0 <<< (nI kd &&& 31) = nI b := by decide +kernel
theorem nt_kbN (Q : Nat → Nat) : ∀ kd, kd ≤ 6 → ∃ b, b < 2 ^ kd ∧ nt_kb Q kd = nI b
  | 0, _ => ⟨0, by decide, rfl⟩
  | kd + 1, h => by
    obtain ⟨b, hb, e⟩ := nt_kbN Q kd (by omega)
    have q := pu_kb kd (by omega) b hb
    unfold nt_kb
    rw [e]
    by_cases c : 0 < Q kd
    · rw [if_pos c]
      exact ⟨b + 2 ^ kd, by rw [Nat.pow_succ]; omega, q.2.2.1⟩
    · rw [if_neg c]
      exact ⟨b, by rw [Nat.pow_succ]; omega, q.2.2.2⟩
section
variable {cmp : (Nat → Int32) → Nat → (Nat → Int32) → (Nat → Int32) → Prop} {V : (Nat → Int32) → (Nat → Int32) → Int32 → (Nat → Int32) → Int32} {σx σm σ σ' : sm_St} {k tc t N s n M : Nat} {code ends W kn nb pl : Nat → Int32} {sk te ed l r : Int32} {P : Int32 → Nat → Int32 → Int32 → Int32 → Int32 → Int32}
theorem nt_qqC {te ed : Int32} {red red' : Nat → Int32} (h5 : k ≤ 5) (hn : n ≤ 5) (hg : nt_good k 0 (nt_S0 sk pl)) (hr : ∀ x, x < k → red x = red' x) (row : Nat) : nt_qq false k n kn nb te ed P sk pl red row = nt_qq true k n kn nb te ed P sk pl red' row := by
  refine nt_ftC k (fun x hx => ⟨?_, hr x hx⟩)
  exact (nt_runC (p := false) (q := true) (kn := kn) (kn' := kn) (nb := nb) (nb' := nb) (te := te) (ed := ed) (P := P) (W := nt_rw n row) (W' := nt_rw n row) h5 (fun _ _ => rfl) (fun _ _ => rfl) (nt_eq.np ⟨fun _ _ => rfl, fun _ _ _ _ _ => rfl⟩) hg n (by omega) (fun _ _ => rfl)).1.2 4 x (by decide) (by decide) (by decide) hx
/-- one row of the reference -/
theorem mf_rowE {row A : Nat} {a1 : Int32} (hI : nt_I cmp V) (h5 : k ≤ 5) (ht : t < 6) (hN : N ≤ 160) (he1 : ed = 0 ∨ ed = 1) (hn : n ≤ 5) (hr : row < 243) (hg : nt_good k 0 (nt_S0 sk pl)) (h : nt_D cmp k t N code ends kn nb pl sk te ed l r σ) (K : sm_St → Int32 → Int32 → Option (Unit × sm_St)) : ∃ s2 s4 v, mf_X8_layAside σ = some ((), s2) ∧ mf_X8_begins s2 = some ((), s4) ∧ mf_X8_rowsOf_p57 a1 (nI n) K sm_F s4 (nI A) (nI row) 0 (nI (nt_p3 n)) 0 = mf_X8_rowsOf_p116 a1 (nI n) K sm_F v (nI A) (nI row) (nt_dg n row n) 1 0 ∧ (∀ x, x < k → v.1 9 x = nt_run true k kn nb te ed (nt_P V code ends nb) (nt_rw n row) (nt_S0 sk pl) n 4 x) ∧ pr_am σ v ∧ v.1 0 48 = σ.1 0 48 ∧ v.1 0 49 = σ.1 0 49 := by
  obtain ⟨h15, hk, hsk, hte, hed, h4, h2, hc, hl, hr0⟩ := h
  obtain ⟨_, s3, e1, a1', a2, z⟩ := @mf_asideE σ
  have hp : nt_MP k (nt_P V code ends nb) s3 := mf_saysE hI h5 ht hN (by rw [z 0 (by decide), h4]) (by rw [z 2 (by decide), h2]) (by rw [z 1 (by decide)]; exact hc) (fun x hx => by rw [z 5 (by decide)]; exact (hk x hx).2.1)
  obtain ⟨_, s4, e2, b1, b2, b3, b4, b5⟩ := @mf_beginsE s3
  have ft : nt_MF s3 s4 := by
    intro c j hc
    by_cases c0 : c = 0
    · subst c0
      exact b4 j (fun e => by subst e; simp [nt_fm] at hc) (fun e => by subst e; simp [nt_fm] at hc)
    · rw [b5 c c0 (by
        by_cases z : c < 7
        · exact Or.inl z
        · by_cases z2 : 11 < c
          · exact Or.inr z2
          · rcases (by omega : c = 7 ∨ c = 8 ∨ c = 9 ∨ c = 10 ∨ c = 11) with e | e | e | e | e <;> subst e <;> simp [nt_fm] at hc)]
  have S : nt_M k (nt_S0 sk pl) s4 := by
    refine ⟨?_, b3, Or.inl ⟨rfl, b2⟩, fun x hx => ?_⟩
    · rw [b4 7 (by decide) (by decide), z 0 (by decide)]; exact hsk
    · obtain ⟨z1, z2, z3, z4, z5⟩ := b1 x (by omega)
      refine ⟨?_, z1, z2, z3, z4, z5⟩
      rw [b5 6 (by decide) (by decide), z 6 (by decide)]
      exact (hk x hx).2.2
  have t15 : s3.1 0 15 = nI k := by rw [z 0 (by decide), h15]
  have L : ∀ (d i F : Nat) (u : sm_St), i + d = n → d < F → nt_MF s3 u → nt_M k (nt_run true k (s3.1 4) (s3.1 5) te ed (nt_P V code ends nb) (nt_rw n row) (nt_S0 sk pl) i) u → ∃ f w, mf_X8_rowsOf_p57 a1 (nI n) K F u (nI A) (nI row) (nt_dg n row i) (nI (nt_p3 (n - i))) (nI i) = mf_X8_rowsOf_p57 a1 (nI n) K (f + 1) w (nI A) (nI row) (nt_dg n row n) (nI (nt_p3 (n - n))) (nI n) ∧ nt_MF s3 w ∧ nt_M k (nt_run true k (s3.1 4) (s3.1 5) te ed (nt_P V code ends nb) (nt_rw n row) (nt_S0 sk pl) n) w := by
    intro d
    induction d with
    | zero =>
      intro i F u h1 h2 h3 h4
      obtain ⟨F, rfl⟩ : ∃ n', F = n' + 1 := ⟨F - 1, by omega⟩
      have : i = n := by omega
      subst this
      exact ⟨F, u, rfl, h3, h4⟩
    | succ d ih =>
      intro i F u h1 h2 g1 g2
      obtain ⟨F, rfl⟩ : ∃ n', F = n' + 1 := ⟨F - 1, by omega⟩
      have nl : ¬ nI n ≤ nI i := nI_ge (by omega) (by omega)
      obtain ⟨q1, q2⟩ := nI_30 n hn i (by omega)
      have q3 : nI row / nI (nt_p3 (n - 1 - i)) = nI (row / nt_p3 (n - 1 - i)) := by
        have := nt_p3m (n - 1 - i) (by omega)
        exact pk_div (by omega) (by omega) (by omega)
      have q4 := (pu_m3 (row / nt_p3 (n - 1 - i)) (Nat.lt_of_le_of_lt (Nat.div_le_self _ _) hr)).1
      have G := @nt_goodR true k (s3.1 4) (s3.1 5) te ed (nt_P V code ends nb) (nt_rw n row) (nt_S0 sk pl) h5 hg i (by omega)
      obtain ⟨_, v, v1, v2, v3⟩ := mf_passesE (mi := nI i) (w := nt_rw n row i) h5 hp t15 g1 g2 G (by omega) (nt_rwR n row i) (by rw [z 0 (by decide), hed]) he1
      rw [z 0 (by decide), hte] at v3
      obtain ⟨f, w, w1, w2, w3⟩ := ih (i + 1) F v (by omega) (by omega) v2 v3
      refine ⟨f, w, ?_, w2, w3⟩
      rw [← w1, mf_X8_rowsOf_p57, if_neg nl]
      have v1 : mf_X8_passes (nI i) (nI (row / nt_p3 (n - 1 - i) % 3) - 1) u = some ((), v) := v1
      have g0 : ∀ {x : Option (Unit × sm_St)}, sm_g (!decide (nI (nt_p3 (n - 1 - i)) = 0)) x = x := fun {x} => by rw [decide_eq_false q2]; rfl
      simp only [sm_bS, g_3, q1, g0, q3, q4, v1, sm_cS, nI_inc]
      rw [show n - (i + 1) = n - 1 - i by omega]
      rfl
  obtain ⟨f, w, w1, w2, w3⟩ := L n 0 sm_F s4 (by omega) (by have := sm_Fge; omega) ft S
  obtain ⟨_, v, e3, v1, v2, v3, v4, v5⟩ := @mf_backE w
  have w3 := w3.eq ((nt_runC (p := true) (q := true) (kn := s3.1 4) (kn' := kn) (nb := s3.1 5) (nb' := nb) (te := te) (ed := ed) (P := nt_P V code ends nb) (W := nt_rw n row) (W' := nt_rw n row) h5 (fun x hx => by rw [z 4 (by decide)]; exact (hk x hx).1) (fun x hx => by rw [z 5 (by decide)]; exact (hk x hx).2.1) (nt_eq.np ⟨fun _ _ => rfl, fun _ _ _ _ _ => rfl⟩) hg n (by omega) (fun _ _ => rfl)).2 rfl ⟨fun _ _ => rfl, fun _ _ _ _ _ => rfl⟩)
  refine ⟨s3, s4, v, e1, e2, ?_, fun x hx => ?_, fun c j hcj => ?_, ?_, ?_⟩
  · have w1 : mf_X8_rowsOf_p57 a1 (nI n) K sm_F s4 (nI A) (nI row) 0 (nI (nt_p3 n)) 0 = _ := w1
    rw [w1, mf_X8_rowsOf_p57, if_pos (nI_le (Nat.le_refl _) (by omega)), e3]
    rfl
  · rw [v5 9 (by decide) (by decide)]
    exact (w3.2.2.2 x hx).2.2.2.1
  · have u13 : ∀ i, w.1 13 i = s3.1 13 i := fun i => w2 13 i (by simp [nt_fm])
    rcases pr_pmE c j hcj with g | ⟨g1, g2⟩ | ⟨g1, g2⟩
    · by_cases c0 : c = 0
      · subst c0
        rw [v4 j (fun e => by subst e; simp [nt_fm] at g), w2 0 j g, z 0 (by decide)]
      · by_cases c6 : c = 6
        · subst c6
          have j5 : 5 ≤ j := by
            simp [nt_fm] at g
            exact g
          rw [v2 j j5, w2 6 j g, z 6 (by decide)]
        · have c13 : c ≠ 13 := fun e => by subst e; simp [pr_pm] at hcj
          rw [v5 c c0 c6, w2 c j g, z c c13]
    · subst g1; subst g2
      rw [v3, u13, a2]
    · subst g1
      rw [v1 j g2, u13, a1' j g2]
  · rw [v4 48 (by decide), w2 0 48 (by simp [nt_fm]), z 0 (by decide)]
  · rw [v4 49 (by decide), w2 0 49 (by simp [nt_fm]), z 0 (by decide)]
theorem mf_rowL {R red : Nat → Int32} {a2 l5 : Int32} {A row : Nat} {K : sm_St → Int32 → Int32 → Option (Unit × sm_St)} {v : sm_St} (h5 : k ≤ 5) (hs : s < 4) (h15 : v.1 0 15 = nI k) (hR : ∀ x, x < k → v.1 9 x = R x) (hr : ∀ x, x < k → v.1 23 (40 * s + x) = red x) : ∀ (d i F : Nat), i + d = k → d < F → ∃ v', mf_X8_rowsOf_p116 (nI s) a2 K F v (nI A) (nI row) l5 (if nt_ft R red i = true then 1 else 0) (nI i) = K v' (nI A) (nI (row + 1)) ∧ (∀ c j, ¬ (c = 0 ∧ (j = 48 ∨ j = 49)) → v'.1 c j = v.1 c j) ∧ v'.1 0 48 = (if nt_ft R red k = true then v.1 0 48 + 1 else v.1 0 48) ∧ v'.1 0 49 = (if nt_ft R red k = true ∧ v.1 0 48 + 1 = 1 then l5 else v.1 0 49) := by
  intro d
  induction d with
  | zero =>
    intro i F h1 h2
    obtain ⟨F, rfl⟩ : ∃ n', F = n' + 1 := ⟨F - 1, by omega⟩
    have : i = k := by omega
    subst this
    rw [mf_X8_rowsOf_p116]
    simp only [sm_bS, h15]
    rw [if_pos (nI_le (Nat.le_refl _) (by omega))]
    cases nt_ft R red i with
    | false =>
      refine ⟨v, ?_, fun _ _ _ => rfl, rfl, by simp⟩
      simp [mf_X8_rowsOf_p201, sm_bS, nI_inc]
      exact congrArg (K v (nI A)) (nI_inc row)
    | true =>
      by_cases c : v.1 0 48 + 1 = 1
      · refine ⟨sm_sI (sm_sI v 0 48 (v.1 0 48 + 1)) 0 49 l5, ?_, fun c' j hj => ?_, ?_, ?_⟩
        · simp only [if_true, i10, if_false, sm_rE, c, mf_X8_rowsOf_p198, mf_X8_rowsOf_p201, sm_bS, nI_inc]
        · rw [sm_rI1 c' j (by omega), sm_rI1 c' j (by omega)]
        · rw [sm_rI1 0 48 (by decide), sm_rE]
          rfl
        · rw [sm_rE, if_pos ⟨rfl, c⟩]
      · refine ⟨sm_sI (sm_sI v 0 48 (v.1 0 48 + 1)) 0 49 (v.1 0 49), ?_, fun c' j hj => ?_, ?_, ?_⟩
        · have q : (sm_sI v 0 48 (v.1 0 48 + 1)).1 0 49 = v.1 0 49 := sm_rI1 0 49 (by decide)
          simp only [if_true, i10, if_false, sm_rE, c, q, mf_X8_rowsOf_p198, mf_X8_rowsOf_p201, sm_bS, nI_inc]
        · rw [sm_rI1 c' j (by omega), sm_rI1 c' j (by omega)]
        · rw [sm_rI1 0 48 (by decide), sm_rE]
          rfl
        · rw [sm_rE, if_neg (fun e => c e.2)]
  | succ d ih =>
    intro i F h1 h2
    obtain ⟨F, rfl⟩ : ∃ n', F = n' + 1 := ⟨F - 1, by omega⟩
    have nl : ¬ nI k ≤ nI i := nI_ge (by omega) (by omega)
    have next := ih (i + 1) F (by omega) (by omega)
    have eF : nt_ft R red (i + 1) = (nt_ft R red i && decide (R i = red i)) := rfl
    rw [mf_X8_rowsOf_p116]
    simp only [sm_bS, h15, nl, if_false]
    cases e : nt_ft R red i with
    | false =>
      rw [eF, e] at next
      simp only [Bool.false_and, Bool.false_eq_true, if_false, if_true] at next ⊢
      simp only [mf_X8_rowsOf_p156, mf_X8_rowsOf_p157, sm_bS, nI_inc]
      exact next
    | true =>
      rw [eF, e] at next
      simp only [Bool.true_and, decide_eq_true_eq, if_true, i10, if_false, sm_gIn (show i < 5 by omega) (by decide : 5 < 2 ^ 31), nI_40, sm_gIn (show 40 * s + i < 160 by omega) (by decide : 160 < 2 ^ 31), nI_cl (show i < 2 ^ 31 by omega), nI_cl (show 40 * s + i < 2 ^ 31 by omega), hR i (by omega), hr i (by omega)] at next ⊢
      by_cases c : R i = red i
      · rw [if_pos c] at next ⊢
        simp only [mf_X8_rowsOf_p157, sm_bS, nI_inc]
        exact next
      · rw [if_neg c] at next ⊢
        simp only [mf_X8_rowsOf_p156, mf_X8_rowsOf_p157, sm_bS, nI_inc]
        exact next
/-- all rows of the reference -/
theorem mf_rowsE {red : Nat → Int32} (hI : nt_I cmp V) (h5 : k ≤ 5) (ht : t < 6) (hN : N ≤ 160) (he1 : ed = 0 ∨ ed = 1) (hn : n ≤ 5) (hs : s < 4) (hg : nt_good k 0 (nt_S0 sk pl)) (h : nt_D cmp k t N code ends kn nb pl sk te ed l r σ) (hr : ∀ x, x < k → σ.1 23 (40 * s + x) = red x) : ∃ v, mf_X8_rowsOf (nI s) (nI n) σ = some ((), v) ∧ pr_am σ v ∧ v.1 0 48 = nI (nt_cn (nt_qq true k n kn nb te ed (nt_P V code ends nb) sk pl red) (nt_p3 n)) ∧ v.1 0 49 = nt_fs (nt_qq true k n kn nb te ed (nt_P V code ends nb) sk pl red) (fun row => nt_dg n row n) (nt_p3 n) := by
  have hp := nt_p3m n hn
  have L : ∀ (d i F : Nat) (u : sm_St), i + d = nt_p3 n → d < F → pr_am σ u → u.1 0 48 = nI (nt_cn (nt_qq true k n kn nb te ed (nt_P V code ends nb) sk pl red) i) → u.1 0 49 = nt_fs (nt_qq true k n kn nb te ed (nt_P V code ends nb) sk pl red) (fun row => nt_dg n row n) i → ∃ v, mf_X8_rowsOf_p34 (nI s) (nI n) F u (nI (nt_p3 n)) (nI i) = some ((), v) ∧ pr_am σ v ∧ v.1 0 48 = nI (nt_cn (nt_qq true k n kn nb te ed (nt_P V code ends nb) sk pl red) (nt_p3 n)) ∧ v.1 0 49 = nt_fs (nt_qq true k n kn nb te ed (nt_P V code ends nb) sk pl red) (fun row => nt_dg n row n) (nt_p3 n) := by
    intro d
    induction d with
    | zero =>
      intro i F u h1 h2 h3 h4 h6
      obtain ⟨F, rfl⟩ : ∃ n', F = n' + 1 := ⟨F - 1, by omega⟩
      have : i = nt_p3 n := by omega
      rw [mf_X8_rowsOf_p34, this, if_pos (nI_le (Nat.le_refl _) (by omega))]
      rw [this] at h4 h6
      exact ⟨u, rfl, h3, h4, h6⟩
    | succ d ih =>
      intro i F u h1 h2 h3 h4 h6
      obtain ⟨F, rfl⟩ : ∃ n', F = n' + 1 := ⟨F - 1, by omega⟩
      have H := h.am h3
      obtain ⟨s2, s4, v, e1, e2, e3, v1, v2, v3, v4⟩ := mf_rowE (row := i) (A := nt_p3 n) (a1 := nI s) hI h5 ht hN he1 hn (by omega) hg H (mf_X8_rowsOf_p34 (nI s) (nI n) F)
      have am := h3.tr v2
      have v15 : v.1 0 15 = nI k := by rw [am 0 15 rfl]; exact h.1
      obtain ⟨w, w1, w2, w3, w4⟩ := mf_rowL (red := red) (a2 := nI n) (l5 := nt_dg n i n) (A := nt_p3 n) (row := i) (K := mf_X8_rowsOf_p34 (nI s) (nI n) F) h5 hs v15 v1 (fun x hx => by rw [pr_cm am 23 (pr_pmc 23 (by decide) (by decide))]; exact hr x hx) k 0 sm_F (by omega) (by have := sm_Fge; omega)
      have w1 : mf_X8_rowsOf_p116 (nI s) (nI n) (mf_X8_rowsOf_p34 (nI s) (nI n) F) sm_F v (nI (nt_p3 n)) (nI i) (nt_dg n i n) 1 0 = _ := w1
      have nl : ¬ nI (nt_p3 n) ≤ nI i := nI_ge (by omega) (by omega)
      rw [mf_X8_rowsOf_p34, if_neg nl, e1]
      simp only [sm_cS, e2]
      rw [e3, w1]
      rw [v3, h4] at w3 w4
      rw [v4, h6] at w4
      have cb := nt_cnL (nt_qq true k n kn nb te ed (nt_P V code ends nb) sk pl red) i
      refine ih (i + 1) F w (by omega) (by omega) (am.tr (fun c j hcj => w2 c j (fun e => by rcases e with ⟨rfl, rfl | rfl⟩ <;> simp [pr_pm] at hcj))) ?_ ?_
      · rw [w3]
        show _ = nI (if nt_qq true k n kn nb te ed (nt_P V code ends nb) sk pl red i = true then nt_cn (nt_qq true k n kn nb te ed (nt_P V code ends nb) sk pl red) i + 1 else nt_cn (nt_qq true k n kn nb te ed (nt_P V code ends nb) sk pl red) i)
        by_cases c : nt_qq true k n kn nb te ed (nt_P V code ends nb) sk pl red i = true
        · have c' := c
          unfold nt_qq at c'
          rw [if_pos c, if_pos c', nI_succ]
        · have c' := c
          unfold nt_qq at c'
          rw [if_neg c, if_neg c']
      · rw [w4]
        show _ = if nt_qq true k n kn nb te ed (nt_P V code ends nb) sk pl red i = true ∧ nt_cn (nt_qq true k n kn nb te ed (nt_P V code ends nb) sk pl red) i = 0 then nt_dg n i n else nt_fs (nt_qq true k n kn nb te ed (nt_P V code ends nb) sk pl red) (fun row => nt_dg n row n) i
        have e1 : nI (nt_cn (nt_qq true k n kn nb te ed (nt_P V code ends nb) sk pl red) i) + 1 = 1 ↔ nt_cn (nt_qq true k n kn nb te ed (nt_P V code ends nb) sk pl red) i = 0 := by
          rw [← nI_succ]
          have := @nI_eq (nt_cn (nt_qq true k n kn nb te ed (nt_P V code ends nb) sk pl red) i + 1) 1 (by omega) (by omega)
          rw [show (1 : Int32) = nI 1 from rfl, this]
          omega
        simp only [e1]
        rfl
  have L2 : ∀ (d i F : Nat), i + d = n → d < F → mf_X8_rowsOf_p5 (nI s) (nI n) F σ (nI (nt_p3 i)) (nI i) = mf_X8_rowsOf_p34 (nI s) (nI n) sm_F (sm_sI (sm_sI σ 0 48 0) 0 49 (-1)) (nI (nt_p3 n)) 0 := by
    intro d
    induction d with
    | zero =>
      intro i F h1 h2
      obtain ⟨F, rfl⟩ : ∃ n', F = n' + 1 := ⟨F - 1, by omega⟩
      have : i = n := by omega
      subst this
      rw [mf_X8_rowsOf_p5, if_pos (nI_le (Nat.le_refl _) (by omega))]
      rfl
    | succ d ih =>
      intro i F h1 h2
      obtain ⟨F, rfl⟩ : ∃ n', F = n' + 1 := ⟨F - 1, by omega⟩
      rw [mf_X8_rowsOf_p5, if_neg (nI_ge (by omega) (by omega))]
      simp only [sm_bS, (nt_p3m i (by omega)).2.2, nI_inc]
      exact ih (i + 1) F (by omega) (by omega)
  obtain ⟨v, q1, q2, q3, q4⟩ := L (nt_p3 n) 0 sm_F (sm_sI (sm_sI σ 0 48 0) 0 49 (-1)) (by omega) (by have := sm_Fge; omega) (fun c j hcj => by rw [sm_rI1 c j (by
    by_cases e : c = 0 ∧ j = 49
    · rw [e.1, e.2] at hcj; simp [pr_pm] at hcj
    · omega), sm_rI1 c j (by
    by_cases e : c = 0 ∧ j = 48
    · rw [e.1, e.2] at hcj; simp [pr_pm] at hcj
    · omega)]) (by rw [sm_rI1 0 48 (by decide), sm_rE]; rfl) (by rw [sm_rE]; rfl)
  refine ⟨v, ?_, q2, q3, q4⟩
  unfold mf_X8_rowsOf
  rw [show (1 : Int32) = nI (nt_p3 0) from rfl, show (0 : Int32) = nI 0 from rfl, L2 n 0 sm_F (by omega) (by have := sm_Fge; omega)]
  exact q1
end
