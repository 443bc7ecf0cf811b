/-! how likely: likely, mean -/
theorem sm_rL {σ : sm_St} {k j : Nat} {v : Int64} (c : Nat) (h : c ≠ k) : (sm_sL σ k j v).2.1 c = σ.2.1 c := (sm_sLo c h).2.1
theorem sm_rLE {σ : sm_St} {k j : Nat} {v : Int64} : (sm_sL σ k j v).2.1 k j = v := by rw [sm_sLk.2.1, pk_uLs]
theorem sm_rL1 {σ : sm_St} {k j : Nat} {v : Int64} (c i : Nat) (h : c ≠ k ∨ i ≠ j) : (sm_sL σ k j v).2.1 c i = σ.2.1 c i := by
  by_cases e : c = k
  · subst e
    have : i ≠ j := by rcases h with h | h; exact absurd rfl h; exact h
    rw [sm_sLk.2.1, pk_uLn this]
  · rw [sm_rL c e]
theorem sm_rLi {σ : sm_St} {k j : Nat} {v : Int64} : (sm_sL σ k j v).1 = σ.1 := rfl
theorem xf_fillL {a n : Nat} {v : Int64} {σ : sm_St} (hn : xo_len a = n) (h : n ≤ 160) : sm_ok (xf_J7_fill_d0a16 a v σ) (fun _ s => (∀ j, j < n → s.2.1 a j = v) ∧ (∀ c, c ≠ a → s.2.1 c = σ.2.1 c) ∧ s.1 = σ.1) := by
  unfold xf_J7_fill_d0a16
  simp only [sm_bS, hn]
  obtain ⟨s1, m, e1, e2, e3, e5⟩ := lp_c (fun n' s l => xf_J7_fill_d0a16_p6 a v n' s l (nI n)) (fun i s => (∀ j, j < i → s.2.1 a j = v) ∧ (∀ c, c ≠ a → s.2.1 c = σ.2.1 c) ∧ s.1 = σ.1) n σ (by omega) ⟨fun x hx => absurd hx (by omega), fun c _ => rfl, rfl⟩ (by
    intro i s n' hi ⟨h1, h2, h4⟩
    have nl : ¬ nI n ≤ nI i := nI_ge hi (by omega)
    refine ⟨sm_sL s a i v, ?_, fun j hj => ?_, fun c hc => ?_, h4⟩
    · show xf_J7_fill_d0a16_p6 a v (n' + 1) s (nI i) (nI n) = xf_J7_fill_d0a16_p6 a v n' _ (nI (i + 1)) (nI n)
      rw [xf_J7_fill_d0a16_p6]
      simp only [nl, if_false, sm_bS, hn, sm_gIn hi (show n < 2 ^ 31 by omega), nI_cl (show i < 2 ^ 31 by omega), nI_inc]
    · by_cases e : j = i
      · subst e; rw [sm_rLE]
      · rw [sm_rL1 a j (Or.inr e)]; exact h1 j (by omega)
    · rw [sm_rL c hc]; exact h2 c hc)
  have e1 : xf_J7_fill_d0a16_p6 a v sm_F σ 0 (nI n) = xf_J7_fill_d0a16_p6 a v (m + 1) s1 (nI n) (nI n) := e1
  show sm_ok (xf_J7_fill_d0a16_p6 a v sm_F σ 0 (nI n)) _
  rw [e1, xf_J7_fill_d0a16_p6]
  simp only [nI_le (Nat.le_refl n) (show n < 2 ^ 31 by omega), if_true]
  exact ok_some.mpr ⟨e2, e3, e5⟩
/-- above the line, by plain numbers: where the smoke is after m minutes; all together; below it -/
def od_at (z l r : Nat) : Nat → Nat → Nat
  | 0, p => if p = z then 1 else 0
  | m + 1, p => od_at z l r m p * (100 - l - r) + od_at z l r m ((p + 1) % 8) * l + od_at z l r m ((p + 7) % 8) * r
def od_to (z l r : Nat) : Nat → Nat → Nat
  | 0, _ => 0
  | m + 1, p => od_to z l r m p * 100 + od_at z l r (m + 1) p
theorem od_le {z l r : Nat} (h : l + r ≤ 100) : ∀ m p, od_at z l r m p ≤ 100 ^ m := by
  intro m
  induction m with
  | zero => intro p; unfold od_at; split <;> simp
  | succ m ih =>
    intro p
    unfold od_at
    have h1 := Nat.mul_le_mul_right (100 - l - r) (ih p)
    have h2 := Nat.mul_le_mul_right l (ih ((p + 1) % 8))
    have h3 := Nat.mul_le_mul_right r (ih ((p + 7) % 8))
    have h4 : 100 ^ m * (100 - l - r) + 100 ^ m * l + 100 ^ m * r = 100 ^ (m + 1) := by
      rw [← Nat.mul_add, ← Nat.mul_add, Nat.pow_succ]
      congr 1
      omega
    omega
theorem od_tole {z l r : Nat} (h : l + r ≤ 100) : ∀ m p, od_to z l r m p ≤ m * 100 ^ m := by
  intro m
  induction m with
  | zero => intro p; simp [od_to]
  | succ m ih =>
    intro p
    unfold od_to
    have h1 := ih p
    have h2 := od_le h (z := z) (m + 1) p
    have h3 : (m + 1) * 100 ^ (m + 1) = m * 100 ^ m * 100 + 100 ^ (m + 1) := by rw [Nat.pow_succ]; grind
    omega
theorem pu_p1 : ∀ i : Nat, i < 8 → (nI i + 1) &&& 7 = nI ((i + 1) % 8) ∧ (nI i - 1) &&& 7 = nI ((i + 7) % 8) ∧ nI i &&& 7 = nI i := by decide
theorem pu_c (l r : Nat) (h : l + r ≤ 100) : ((100 : Int32) - nI l - nI r).toInt64 = lN (100 - l - r) := by
  rw [show (100 : Int32) - nI l = nI (100 - l) from pk_sub (a := 100) (by omega), pk_sub (by omega), nI_l (by omega)]
theorem od_at1 (z l r m i : Nat) : od_at z l r (m + 1) i = od_at z l r m i * (100 - l - r) + od_at z l r m ((i + 1) % 8) * l + od_at z l r m ((i + 7) % 8) * r := by rw [od_at]
theorem od_to1 (z l r m i : Nat) : od_to z l r (m + 1) i = od_to z l r m i * 100 + od_at z l r (m + 1) i := by rw [od_to]
theorem xf_passS {l r i n : Nat} (hl : l + r ≤ 100) (hi : i < 8) {s : sm_St} {A B C T : Nat} (h1 : s.2.1 55 i = lN A) (h2 : s.2.1 55 ((i + 1) % 8) = lN B) (h3 : s.2.1 55 ((i + 7) % 8) = lN C) (h4 : s.2.1 54 i = lN T) : xf_X3_pass_p17 (nI l) (nI r) (n + 1) s (nI i) = xf_X3_pass_p17 (nI l) (nI r) n (sm_sL (sm_sL s 53 i (lN (A * (100 - l - r) + B * l + C * r))) 54 i (lN (T * 100 + (A * (100 - l - r) + B * l + C * r)))) (nI (i + 1)) := by
  have nl : ¬ (8 : Int32) ≤ nI i := nI_ge (b := 8) hi (by decide)
  obtain ⟨p1, p2, p3⟩ := pu_p1 i hi
  have i1 : (i + 1) % 8 < 8 := Nat.mod_lt _ (by decide)
  have i2 : (i + 7) % 8 < 8 := Nat.mod_lt _ (by decide)
  have e1 : lN A * lN (100 - l - r) + lN B * lN l + lN C * lN r = lN (A * (100 - l - r) + B * l + C * r) := by rw [lN_mul, lN_mul, lN_mul, lN_add, lN_add]
  have e2 : lN T * 100 + lN (A * (100 - l - r) + B * l + C * r) = lN (T * 100 + (A * (100 - l - r) + B * l + C * r)) := by
    have : (100 : Int64) = lN 100 := by decide
    rw [this, lN_mul, lN_add]
  generalize A * (100 - l - r) + B * l + C * r = D at e1 e2 ⊢
  generalize T * 100 + D = E at e2 ⊢
  rw [xf_X3_pass_p17]
  simp only [nl, if_false, sm_bS, xf_round, sm_cS, p1, p2, sm_gIn hi (by decide : 8 < 2 ^ 31), sm_gIn i1 (by decide : 8 < 2 ^ 31), sm_gIn i2 (by decide : 8 < 2 ^ 31), nI_cl (show i < 2 ^ 31 by omega), nI_cl (show (i + 1) % 8 < 2 ^ 31 by omega), nI_cl (show (i + 7) % 8 < 2 ^ 31 by omega), h1, h2, h3, pu_c l r hl, nI_l (show l < 2 ^ 31 by omega), nI_l (show r < 2 ^ 31 by omega), e1, nI_inc, sm_rL 54 (by decide : 54 ≠ 53), h4, sm_rLE, e2]
theorem xf_pass {z l r m : Nat} (hl : l + r ≤ 100) {σ : sm_St} (h1 : ∀ p, p < 8 → σ.2.1 53 p = lN (od_at z l r m p) ∧ σ.2.1 54 p = lN (od_to z l r m p)) : sm_ok (xf_X3_pass (nI l) (nI r) σ) (fun _ s => (∀ p, p < 8 → s.2.1 53 p = lN (od_at z l r (m + 1) p) ∧ s.2.1 54 p = lN (od_to z l r (m + 1) p)) ∧ s.2.1 52 = σ.2.1 52 ∧ s.1 = σ.1) := by
  have cp : sm_cpyok (0 : Int32) (0 : Int32) (8 : Int32) 8 8 = true := by decide
  have z0 : (0 : Int32).toNatClampNeg = 0 := by decide
  have z8 : (8 : Int32).toNatClampNeg = 8 := by decide
  unfold xf_X3_pass
  simp only [cp, sm_gT, sm_bS, z0, z8]
  have a55 : ∀ p, p < 8 → (sm_cL σ 53 55 0 0 8).2.1 55 p = lN (od_at z l r m p) := by
    intro p hp
    rw [sm_cLk.2.1, pk_cpy_in (Nat.zero_le _) (by omega)]
    simp only [Nat.zero_add, Nat.sub_zero]
    exact (h1 p hp).1
  have cL : ∀ c, c ≠ 55 → (sm_cL σ 53 55 0 0 8).2.1 c = σ.2.1 c := fun c hc => (sm_cLo c hc).2.1
  obtain ⟨s1, k, e1, e2, e3, e4, e5, e6⟩ := lp_c (xf_X3_pass_p17 (nI l) (nI r)) (fun i s => (∀ p, p < i → s.2.1 53 p = lN (od_at z l r (m + 1) p) ∧ s.2.1 54 p = lN (od_to z l r (m + 1) p)) ∧ (∀ p, i ≤ p → p < 8 → s.2.1 54 p = lN (od_to z l r m p)) ∧ (∀ p, p < 8 → s.2.1 55 p = lN (od_at z l r m p)) ∧ s.2.1 52 = σ.2.1 52 ∧ s.1 = σ.1) 8 (sm_cL σ 53 55 0 0 8) (by decide) ⟨fun x hx => absurd hx (by omega), fun p _ hp => by rw [cL 54 (by decide)]; exact (h1 p hp).2, a55, by rw [cL 52 (by decide)], rfl⟩ (by
    intro i s n hi ⟨g1, g2, g3, g4, g5⟩
    have nl : ¬ (8 : Int32) ≤ nI i := nI_ge (b := 8) hi (by decide)
    obtain ⟨p1, p2, p3⟩ := pu_p1 i hi
    have i1 : (i + 1) % 8 < 8 := Nat.mod_lt _ (by decide)
    have i2 : (i + 7) % 8 < 8 := Nat.mod_lt _ (by decide)
    refine ⟨sm_sL (sm_sL s 53 i (lN (od_at z l r (m + 1) i))) 54 i (lN (od_to z l r (m + 1) i)), ?_, fun p hp => ?_, fun p hp hp8 => ?_, fun p hp => ?_, ?_, g5⟩
    · rw [od_to1, od_at1]
      exact xf_passS hl hi (g3 i hi) (g3 _ i1) (g3 _ i2) (g2 i (Nat.le_refl _) hi)
    · by_cases e : p = i
      · subst e
        rw [sm_rL 53 (by decide), sm_rLE, sm_rLE]
        exact ⟨rfl, rfl⟩
      · rw [sm_rL 53 (by decide), sm_rL1 53 p (Or.inr e), sm_rL1 54 p (Or.inr e), sm_rL 54 (by decide)]
        exact g1 p (by omega)
    · rw [sm_rL1 54 p (Or.inr (by omega)), sm_rL 54 (by decide)]
      exact g2 p (by omega) hp8
    · rw [sm_rL 55 (by decide), sm_rL 55 (by decide)]
      exact g3 p hp
    · rw [sm_rL 52 (by decide), sm_rL 52 (by decide)]
      exact g4)
  rw [show xf_X3_pass_p17 (nI l) (nI r) sm_F (sm_cL σ 53 55 0 0 8) 0 = _ from e1, xf_X3_pass_p17]
  simp only [show (8 : Int32) ≤ nI 8 from by decide, if_true]
  exact ok_some.mpr ⟨e2, e5, e6⟩
theorem xf_spread {z l r n : Nat} (hl : l + r ≤ 100) (hz : z < 8) (hn : n ≤ 8) {σ : sm_St} (h0 : σ.1 1 0 = nI z) (h1 : σ.1 1 1 = nI l) (h2 : σ.1 1 2 = nI r) : sm_ok (xf_X3_spread 1 (nI n) σ) (fun _ s => (∀ p, p < 8 → s.2.1 53 p = lN (od_at z l r n p) ∧ s.2.1 54 p = lN (od_to z l r n p)) ∧ s.2.1 52 2 = lN (100 ^ n) ∧ s.1 = σ.1) := by
  unfold xf_X3_spread
  refine ok_c (xf_fillL (n := 8) rfl (by decide)) (fun _ s ⟨a1, a2, a3⟩ => ok_c (xf_fillL (n := 8) rfl (by decide)) (fun _ t ⟨b1, b2, b3⟩ => ?_))
  simp only [sm_bS, xf_round, sm_cS, b3, a3, h0, (pu_p1 z hz).2.2, sm_gIn hz (by decide : 8 < 2 ^ 31), nI_cl (show z < 2 ^ 31 by omega)]
  obtain ⟨s1, k, e1, e2, e3, e4⟩ := lp_c (xf_X3_spread_p36 1 (nI n)) (fun i s => (∀ p, p < 8 → s.2.1 53 p = lN (od_at z l r i p) ∧ s.2.1 54 p = lN (od_to z l r i p)) ∧ s.2.1 52 2 = lN (100 ^ i) ∧ s.1 = σ.1) n (sm_sL (sm_sL t 53 z 1) 52 2 1) (by omega) ⟨fun p hp => by
      rw [sm_rL 53 (by decide), sm_rL 54 (by decide), sm_rL 54 (by decide), b1 p hp]
      refine ⟨?_, rfl⟩
      unfold od_at
      by_cases e : p = z
      · subst e; rw [sm_rLE, if_pos rfl]; rfl
      · rw [sm_rL1 53 p (Or.inr e), b2 53 (by decide), a1 p hp, if_neg e]; rfl, by rw [sm_rLE]; rfl, by show t.1 = σ.1; rw [b3, a3]⟩ (by
    intro i s n' hi ⟨g1, g2, g3⟩
    have nl : ¬ nI n ≤ nI i := nI_ge hi (by omega)
    obtain ⟨u, w, q1, q2, q3, q4⟩ := xf_pass (m := i) hl g1
    refine ⟨sm_sL w 52 2 (lN (100 ^ (i + 1))), ?_, fun p hp => ?_, sm_rLE, by show w.1 = σ.1; rw [q4, g3]⟩
    · rw [xf_X3_spread_p36]
      have e100 : (100 : Int64) = lN 100 := by decide
      simp only [nl, if_false, sm_bS, g3, h1, h2, q1, sm_cS, q3, g2, nI_inc]
      rw [e100, lN_mul, ← Nat.pow_succ]
    · rw [sm_rL 53 (by decide), sm_rL 54 (by decide)]
      exact q2 p hp)
  rw [show xf_X3_spread_p36 1 (nI n) sm_F (sm_sL (sm_sL t 53 z 1) 52 2 1) 0 = _ from e1, xf_X3_spread_p36]
  simp only [nI_le (Nat.le_refl n) (show n < 2 ^ 31 by omega), if_true]
  exact ok_some.mpr ⟨e2, e3, e4⟩
