/-! the reference's odds; the greatest divisor; likely, mean, seat -/
theorem mf_spr3 {z l r m a : Nat} (hl : l + r ≤ 100) (hm : m < 8) {K : sm_St → Int32 → Option (Unit × sm_St)} {σ : sm_St} (g1 : σ.1 0 8 = nI l) (g2 : σ.1 0 9 = nI r) (h1 : ∀ p, p < 8 → σ.2.1 14 p = lN (od_at z l r m p) ∧ σ.2.1 16 p = lN (od_to z l r m p)) (h2 : σ.2.1 0 43 = lN (100 ^ m)) : ∃ s, mf_X8_spreads_p54 (nI a) K sm_F σ (nI m) 0 = K s (nI (m + 1)) ∧ (∀ p, p < 8 → s.2.1 14 p = lN (od_at z l r (m + 1) p) ∧ s.2.1 16 p = lN (od_to z l r (m + 1) p)) ∧ s.2.1 0 43 = lN (100 ^ (m + 1)) ∧ s.1 = σ.1 := by
  obtain ⟨s1, k, e1, e2, e3, e4⟩ := lp_c (fun n s i => mf_X8_spreads_p54 (nI a) K n s (nI m) i) (fun i s => (∀ p, p < i → s.2.1 15 p = lN (od_at z l r (m + 1) p)) ∧ (∀ c, c ≠ 15 → s.2.1 c = σ.2.1 c) ∧ s.1 = σ.1) 8 σ (by decide) ⟨fun x hx => absurd hx (by omega), fun c _ => rfl, rfl⟩ (by
    intro i s n hi ⟨q1, q2, q3⟩
    have nl : ¬ (8 : Int32) ≤ nI i := nI_ge (b := 8) hi (by decide)
    obtain ⟨p1, p2, p3⟩ := pu_p1 i hi
    have i1 : (i + 1) % 8 < 8 := Nat.mod_lt _ (by decide)
    have i2 : (i + 7) % 8 < 8 := Nat.mod_lt _ (by decide)
    have b0 : 0 ≤ nI i := nI_pos' (by omega)
    have b1 : nI i < 8 := nI_lt (b := 8) hi (by decide)
    have r1 : mf_X8_round (nI i + 1) s = some ((nI i + 1) &&& 7, s) := mf_round s (by grind) (by grind)
    have r2 : mf_X8_round (nI i - 1) s = some ((nI i - 1) &&& 7, s) := mf_round s (by grind) (by grind)
    refine ⟨sm_sL s 15 i (lN (od_at z l r (m + 1) i)), ?_, fun p hp => ?_, fun c hc => ?_, q3⟩
    · show mf_X8_spreads_p54 (nI a) K (n + 1) s (nI m) (nI i) = mf_X8_spreads_p54 (nI a) K n _ (nI m) (nI (i + 1))
      rw [mf_X8_spreads_p54]
      simp only [nl, if_false, sm_bS, r1, r2, sm_cS, p1, p2, sm_gIn hi (by decide : 8 < 2 ^ 31), sm_gIn i1 (by decide : 8 < 2 ^ 31), sm_gIn i2 (by decide : 8 < 2 ^ 31), nI_cl (show i < 2 ^ 31 by omega), nI_cl (show (i + 1) % 8 < 2 ^ 31 by omega), nI_cl (show (i + 7) % 8 < 2 ^ 31 by omega), q3, g1, g2, q2 14 (by decide), (h1 i hi).1, (h1 _ i1).1, (h1 _ i2).1, pu_c l r hl, nI_l (show l < 2 ^ 31 by omega), nI_l (show r < 2 ^ 31 by omega), nI_inc]
      have e : lN (od_at z l r m ((i + 1) % 8)) * lN l + lN (od_at z l r m ((i + 7) % 8)) * lN r + lN (od_at z l r m i) * lN (100 - l - r) = lN (od_at z l r (m + 1) i) := by
        rw [lN_mul, lN_mul, lN_mul, lN_add, lN_add, od_at1]
        congr 1
        omega
      rw [e]
    · by_cases e : p = i
      · subst e; rw [sm_rLE]
      · rw [sm_rL1 15 p (Or.inr e)]; exact q1 p (by omega)
    · rw [sm_rL c hc]; exact q2 c hc)
  have e1 : mf_X8_spreads_p54 (nI a) K sm_F σ (nI m) 0 = mf_X8_spreads_p54 (nI a) K (k + 1) s1 (nI m) (nI 8) := e1
  have e8 : (8 : Int32) ≤ nI 8 := by decide
  obtain ⟨s2, k2, f1, f2, f3, f4, f5, f6⟩ := lp_c (fun n s i => mf_X8_spreads_p130 (nI a) K n s (nI m) i) (fun i s => (∀ p, p < i → s.2.1 14 p = lN (od_at z l r (m + 1) p) ∧ s.2.1 16 p = lN (od_to z l r (m + 1) p)) ∧ (∀ p, i ≤ p → s.2.1 16 p = s1.2.1 16 p) ∧ s.2.1 15 = s1.2.1 15 ∧ s.2.1 0 = s1.2.1 0 ∧ s.1 = σ.1) 8 s1 (by decide) ⟨fun x hx => absurd hx (by omega), fun p _ => rfl, rfl, rfl, e4⟩ (by
    intro i s n hi ⟨q1, q2, q3, q4, q5⟩
    have nl : ¬ (8 : Int32) ≤ nI i := nI_ge (b := 8) hi (by decide)
    refine ⟨sm_sL (sm_sL s 14 i (lN (od_at z l r (m + 1) i))) 16 i (lN (od_to z l r (m + 1) i)), ?_, fun p hp => ?_, fun p hp => ?_, ?_, ?_, q5⟩
    · show mf_X8_spreads_p130 (nI a) K (n + 1) s (nI m) (nI i) = mf_X8_spreads_p130 (nI a) K n _ (nI m) (nI (i + 1))
      rw [mf_X8_spreads_p130]
      simp only [nl, if_false, sm_bS, sm_gIn hi (by decide : 8 < 2 ^ 31), nI_cl (show i < 2 ^ 31 by omega), q3, sm_rL 16 (by decide : 16 ≠ 14), sm_rL 15 (by decide : 15 ≠ 14), q2 i (Nat.le_refl _), e2 i hi, e3 16 (by decide), (h1 i hi).2, nI_inc]
      have e100 : (100 : Int64) = lN 100 := by decide
      rw [od_to1, e100, lN_mul, lN_add]
    · by_cases e : p = i
      · subst e
        rw [sm_rL 14 (by decide), sm_rLE, sm_rLE]
        exact ⟨rfl, rfl⟩
      · rw [sm_rL 14 (by decide), sm_rL1 14 p (Or.inr e), sm_rL1 16 p (Or.inr e), sm_rL 16 (by decide)]
        exact q1 p (by omega)
    · rw [sm_rL1 16 p (Or.inr (by omega)), sm_rL 16 (by decide)]
      exact q2 p (by omega)
    · rw [sm_rL 15 (by decide), sm_rL 15 (by decide)]; exact q3
    · rw [sm_rL 0 (by decide), sm_rL 0 (by decide)]; exact q4)
  have f1 : mf_X8_spreads_p130 (nI a) K sm_F s1 (nI m) 0 = mf_X8_spreads_p130 (nI a) K (k2 + 1) s2 (nI m) (nI 8) := f1
  refine ⟨sm_sL s2 0 43 (lN (100 ^ (m + 1))), ?_, fun p hp => ?_, sm_rLE, f6⟩
  · rw [e1, mf_X8_spreads_p54]
    simp only [e8, if_true]
    rw [f1, mf_X8_spreads_p130]
    have e100 : (100 : Int64) = lN 100 := by decide
    simp only [e8, if_true, sm_bS, f5, e3 0 (by decide), h2, nI_inc]
    rw [e100, lN_mul, ← Nat.pow_succ]
  · rw [sm_rL 14 (by decide), sm_rL 16 (by decide)]
    exact f2 p hp
theorem mf_spreads {z l r n : Nat} (hl : l + r ≤ 100) (hz : z < 8) (hn : n ≤ 8) {σ : sm_St} (h0 : σ.1 0 7 = nI z) (h1 : σ.1 0 8 = nI l) (h2 : σ.1 0 9 = nI r) : sm_ok (mf_X8_spreads (nI n) σ) (fun _ s => (∀ p, p < 8 → s.2.1 14 p = lN (od_at z l r n p) ∧ s.2.1 16 p = lN (od_to z l r n p)) ∧ s.2.1 0 43 = lN (100 ^ n) ∧ s.1 = σ.1) := by
  unfold mf_X8_spreads
  simp only [sm_bS]
  have e8 : (8 : Int32) ≤ nI 8 := by decide
  obtain ⟨s1, k, e1, e2, e3, e4⟩ := lp_c (mf_X8_spreads_p7 (nI n)) (fun i s => (∀ p, p < i → s.2.1 14 p = lN (od_at z l r 0 p) ∧ s.2.1 16 p = lN (od_to z l r 0 p)) ∧ s.2.1 0 43 = 1 ∧ s.1 = σ.1) 8 (sm_sL σ 0 43 1) (by decide) ⟨fun x hx => absurd hx (by omega), sm_rLE, rfl⟩ (by
    intro i s n' hi ⟨q1, q2, q3⟩
    have nl : ¬ (8 : Int32) ≤ nI i := nI_ge (b := 8) hi (by decide)
    refine ⟨sm_sL (sm_sL s 14 i (lN (od_at z l r 0 i))) 16 i 0, ?_, fun p hp => ?_, ?_, q3⟩
    · rw [mf_X8_spreads_p7]
      simp only [nl, if_false, sm_bS, q3, h0, mf_X8_spreads_p31, sm_gIn hi (by decide : 8 < 2 ^ 31), nI_cl (show i < 2 ^ 31 by omega), nI_inc, nI_eq (show i < 2 ^ 31 by omega) (show z < 2 ^ 31 by omega), od_at]
      split <;> rfl
    · by_cases e : p = i
      · subst e
        rw [sm_rL 14 (by decide), sm_rLE, sm_rLE]
        exact ⟨rfl, rfl⟩
      · rw [sm_rL 14 (by decide), sm_rL1 14 p (Or.inr e), sm_rL1 16 p (Or.inr e), sm_rL 16 (by decide)]
        exact q1 p (by omega)
    · rw [sm_rL 0 (by decide), sm_rL 0 (by decide)]; exact q2)
  rw [e1, mf_X8_spreads_p7]
  simp only [e8, if_true]
  obtain ⟨s2, k2, f1, f2, f3, f4⟩ := lp_c (mf_X8_spreads_p47 (nI n)) (fun i s => (∀ p, p < 8 → s.2.1 14 p = lN (od_at z l r i p) ∧ s.2.1 16 p = lN (od_to z l r i p)) ∧ s.2.1 0 43 = lN (100 ^ i) ∧ s.1 = σ.1) n s1 (by omega) ⟨e2, by rw [e3]; decide, e4⟩ (by
    intro i s n' hi ⟨q1, q2, q3⟩
    have nl : ¬ nI n ≤ nI i := nI_ge hi (by omega)
    obtain ⟨w, g1, g2, g3, g4⟩ := mf_spr3 (a := n) (K := mf_X8_spreads_p47 (nI n) n') hl (show i < 8 by omega) (by rw [q3]; exact h1) (by rw [q3]; exact h2) q1 q2
    refine ⟨w, ?_, g2, g3, by rw [g4, q3]⟩
    rw [mf_X8_spreads_p47]
    simp only [nl, if_false]
    exact g1)
  rw [f1, mf_X8_spreads_p47]
  simp only [nI_le (Nat.le_refl n) (show n < 2 ^ 31 by omega), if_true]
  exact ok_some.mpr ⟨f2, f3, f4⟩
theorem lg_c0 {b : Nat} (hb : b < 2 ^ 63) : (lg_cmp (lN b) 0 = 0) ↔ b = 0 := by
  have e : (0 : Int64) = lN 0 := by decide
  unfold lg_cmp
  rw [e]
  constructor
  · intro h
    by_cases q : lN b = lN 0
    · exact (pk_lEQ hb (by decide)).mp q
    · by_cases q2 : lN b > lN 0
      · rw [if_pos q2] at h; exact absurd h (by decide)
      · rw [if_neg q2, if_neg q] at h; exact absurd h (by decide)
  · intro h
    subst h
    rw [if_neg (by decide), if_pos rfl]
theorem nat_mod2 {b r : Nat} (h0 : 0 < r) (h : r ≤ b) : 2 * (b % r) < b := by
  have h1 := Nat.mod_lt b h0
  have h2 := Nat.div_add_mod b r
  have h3 : 1 ≤ b / r := (Nat.one_le_div_iff h0).mpr h
  have h4 : r * 1 ≤ r * (b / r) := Nat.mul_le_mul_left r h3
  omega
theorem lN_ne0 {b : Nat} (hb : b < 2 ^ 63) (h0 : b ≠ 0) : (!decide (lN b = 0)) = true := by
  have e : (0 : Int64) = lN 0 := by decide
  rw [e, Bool.not_eq_true', decide_eq_false_iff_not, pk_lEQ hb (by decide)]
  exact h0
theorem xf_gcdL (A B : Int64) (σ : sm_St) : ∀ (k a b t n : Nat), b < 2 ^ k → k ≤ 60 → a < 2 ^ 63 → b < 2 ^ 63 → t + 2 * k + 1 < 1000 → 2 * k + 1 < n → xf_X7_commonDivisor_p9 A B n σ (lN a) (lN b) (nI t) = some (lN (Nat.gcd b a), σ) := by
  intro k
  induction k with
  | zero =>
    intro a b t n h1 _ h3 h4 h5 h6
    obtain ⟨m, rfl⟩ : ∃ m, n = m + 1 := ⟨n - 1, by omega⟩
    have hb : b = 0 := by simpa using h1
    subst hb
    have nl : ¬ (1000 : Int32) ≤ nI t := nI_ge (b := 1000) (by omega) (by decide)
    rw [xf_X7_commonDivisor_p9]
    simp only [nl, if_false, sm_bS, (lg_c0 (show 0 < 2 ^ 63 by decide)).mpr rfl, if_true, Nat.gcd_zero_left]
  | succ k ih =>
    intro a b t n h1 hk h3 h4 h5 h6
    obtain ⟨m, rfl⟩ : ∃ m, n = m + 1 := ⟨n - 1, by omega⟩
    have nl : ¬ (1000 : Int32) ≤ nI t := nI_ge (b := 1000) (by omega) (by decide)
    rw [xf_X7_commonDivisor_p9]
    by_cases hb : b = 0
    · subst hb
      simp only [nl, if_false, sm_bS, (lg_c0 (show 0 < 2 ^ 63 by decide)).mpr rfl, if_true, Nat.gcd_zero_left]
    · have c0 := mt (lg_c0 h4).mp hb
      have m1 := Nat.mod_lt a (Nat.pos_of_ne_zero hb)
      simp only [nl, c0, if_false, sm_bS, lN_ne0 h4 hb, sm_gT, pk_lRem h3 (Nat.pos_of_ne_zero hb) h4, nI_inc]
      obtain ⟨m, rfl⟩ : ∃ m', m = m' + 1 := ⟨m - 1, by omega⟩
      have nl2 : ¬ (1000 : Int32) ≤ nI (t + 1) := nI_ge (b := 1000) (by omega) (by decide)
      rw [xf_X7_commonDivisor_p9, Nat.gcd_rec b a]
      have h7 : a % b < 2 ^ 63 := by omega
      by_cases hr : a % b = 0
      · rw [hr]
        simp only [nl2, if_false, sm_bS, (lg_c0 (show 0 < 2 ^ 63 by decide)).mpr rfl, if_true, Nat.gcd_zero_left]
      · have c1 := mt (lg_c0 h7).mp hr
        have m2 := Nat.mod_lt b (Nat.pos_of_ne_zero hr)
        have m3 := nat_mod2 (Nat.pos_of_ne_zero hr) (Nat.le_of_lt m1)
        simp only [nl2, c1, if_false, sm_bS, lN_ne0 h7 hr, sm_gT, pk_lRem h4 (Nat.pos_of_ne_zero hr) h7, nI_inc]
        rw [Nat.gcd_rec (a % b) b]
        exact ih (a % b) (b % (a % b)) (t + 2) m (by rw [Nat.pow_succ] at h1; omega) (by omega) h7 (by omega) (by omega) (by omega)
theorem mf_gcdL (A B : Int64) (c : Int32) (σ : sm_St) : ∀ (k a b n : Nat), b < 2 ^ k → k ≤ 60 → a < 2 ^ 63 → b < 2 ^ 63 → 2 * k + 1 < n → mf_X8_lowest_p6 A B c n σ (lN a) (lN b) = (if c = 0 then sm_g (!decide (lN (Nat.gcd b a) = 0)) (some (A / lN (Nat.gcd b a), σ)) else sm_g (!decide (lN (Nat.gcd b a) = 0)) (some (B / lN (Nat.gcd b a), σ))) := by
  intro k
  induction k with
  | zero =>
    intro a b n h1 _ h3 h4 h6
    obtain ⟨m, rfl⟩ : ∃ m, n = m + 1 := ⟨n - 1, by omega⟩
    have hb : b = 0 := by simpa using h1
    subst hb
    rw [mf_X8_lowest_p6]
    simp only [sm_bS, (lg_c0 (show 0 < 2 ^ 63 by decide)).mpr rfl, if_true, Nat.gcd_zero_left]
  | succ k ih =>
    intro a b n h1 hk h3 h4 h6
    obtain ⟨m, rfl⟩ : ∃ m, n = m + 1 := ⟨n - 1, by omega⟩
    rw [mf_X8_lowest_p6]
    by_cases hb : b = 0
    · subst hb
      simp only [sm_bS, (lg_c0 (show 0 < 2 ^ 63 by decide)).mpr rfl, if_true, Nat.gcd_zero_left]
    · have c0 := mt (lg_c0 h4).mp hb
      have m1 := Nat.mod_lt a (Nat.pos_of_ne_zero hb)
      simp only [c0, if_false, sm_bS, lN_ne0 h4 hb, sm_gT, pk_lRem h3 (Nat.pos_of_ne_zero hb) h4]
      obtain ⟨m, rfl⟩ : ∃ m', m = m' + 1 := ⟨m - 1, by omega⟩
      rw [mf_X8_lowest_p6, Nat.gcd_rec b a]
      have h7 : a % b < 2 ^ 63 := by omega
      by_cases hr : a % b = 0
      · rw [hr]
        simp only [sm_bS, (lg_c0 (show 0 < 2 ^ 63 by decide)).mpr rfl, if_true, Nat.gcd_zero_left]
      · have c1 := mt (lg_c0 h7).mp hr
        have m2 := Nat.mod_lt b (Nat.pos_of_ne_zero hr)
        have m3 := nat_mod2 (Nat.pos_of_ne_zero hr) (Nat.le_of_lt m1)
        simp only [c1, if_false, sm_bS, lN_ne0 h7 hr, sm_gT, pk_lRem h4 (Nat.pos_of_ne_zero hr) h7]
        rw [Nat.gcd_rec (a % b) b]
        exact ih (a % b) (b % (a % b)) m (by rw [Nat.pow_succ] at h1; omega) (by omega) h7 (by omega) (by omega)
/-- in lowest terms, both alike -/
def pu_low (a b : Nat) (c : Int32) : Int64 := if c = 0 then lN (a / Nat.gcd b a) else lN (b / Nat.gcd b a)
theorem xf_low {a b : Nat} (ha : a < 2 ^ 60) (hb : 0 < b) (hb2 : b < 2 ^ 60) (c : Int32) (σ : sm_St) : xf_X7_lowest (lN a) (lN b) c σ = some (pu_low a b c, σ) := by
  have g0 : 0 < Nat.gcd b a := Nat.gcd_pos_of_pos_left a hb
  have g1 : Nat.gcd b a ≤ b := Nat.gcd_le_left a hb
  unfold xf_X7_lowest xf_X7_commonDivisor pu_low
  have e : (0 : Int32) = nI 0 := rfl
  rw [show xf_X7_commonDivisor_p9 (lN a) (lN b) sm_F σ (lN a) (lN b) 0 = some (lN (Nat.gcd b a), σ) from xf_gcdL (lN a) (lN b) σ 60 a b 0 sm_F hb2 (by decide) (by omega) (by omega) (by decide) (by have := sm_Fge; omega)]
  simp only [sm_cS, sm_bS, mt (lg_c0 (show Nat.gcd b a < 2 ^ 63 by omega)).mp (by omega), if_false, lN_ne0 (show Nat.gcd b a < 2 ^ 63 by omega) (by omega), sm_gT, pk_lDiv (show a < 2 ^ 63 by omega) g0 (show Nat.gcd b a < 2 ^ 63 by omega), pk_lDiv (show b < 2 ^ 63 by omega) g0 (show Nat.gcd b a < 2 ^ 63 by omega)]
  split <;> rfl
theorem mf_low {a b : Nat} (ha : a < 2 ^ 60) (hb : 0 < b) (hb2 : b < 2 ^ 60) (c : Int32) (σ : sm_St) : mf_X8_lowest (lN a) (lN b) c σ = some (pu_low a b c, σ) := by
  have g0 : 0 < Nat.gcd b a := Nat.gcd_pos_of_pos_left a hb
  have g1 : Nat.gcd b a ≤ b := Nat.gcd_le_left a hb
  unfold mf_X8_lowest pu_low
  rw [mf_gcdL (lN a) (lN b) c σ 60 a b sm_F hb2 (by decide) (by omega) (by omega) (by have := sm_Fge; omega)]
  simp only [lN_ne0 (show Nat.gcd b a < 2 ^ 63 by omega) (by omega), sm_gT, pk_lDiv (show a < 2 ^ 63 by omega) g0 (show Nat.gcd b a < 2 ^ 63 by omega), pk_lDiv (show b < 2 ^ 63 by omega) g0 (show Nat.gcd b a < 2 ^ 63 by omega)]
  split <;> rfl
theorem xf_isPart (x : Int32) (σ : sm_St) : xf_X7_isPart x σ = some (if 0 ≤ x ∧ x ≤ 1 then 1 else 0, σ) := by
  unfold xf_X7_isPart xf_X7_isPart_p9
  grind
theorem xf_isMean (x : Int32) (σ : sm_St) : xf_X7_isMeanMinutes x σ = some (if 1 ≤ x ∧ x ≤ 8 then 1 else 0, σ) := by
  unfold xf_X7_isMeanMinutes
  grind
theorem od_pow {n : Nat} (h : n ≤ 8) : 0 < 100 ^ n ∧ n * 100 ^ n < 2 ^ 60 ∧ 100 ^ n < 2 ^ 60 := by
  rcases (by omega : n = 0 ∨ n = 1 ∨ n = 2 ∨ n = 3 ∨ n = 4 ∨ n = 5 ∨ n = 6 ∨ n = 7 ∨ n = 8) with rfl | rfl | rfl | rfl | rfl | rfl | rfl | rfl | rfl <;> decide
section
variable {cmp : (Nat → Int32) → Nat → (Nat → Int32) → (Nat → Int32) → Prop} {σx σm σx' σm' : sm_St} {k tc : Nat}
theorem pr_ax.of1 {s : sm_St} (h : s.1 = σx.1) : pr_ax σx s := fun c j _ => by rw [h]
theorem pr_am.of1 {s : sm_St} (h : s.1 = σm.1) : pr_am σm s := fun c j _ => by rw [h]
/-- the chances, by plain numbers -/
theorem pr_lr (h : pr_R cmp σx σm) : ∃ z l r, z < 8 ∧ l + r ≤ 100 ∧ σx.1 1 0 = nI z ∧ σx.1 1 1 = nI l ∧ σx.1 1 2 = nI r ∧ σm.1 0 7 = nI z ∧ σm.1 0 8 = nI l ∧ σm.1 0 9 = nI r := by
  obtain ⟨k, tc, h5, hF, hI, -, -, -, -⟩ := h
  obtain ⟨f1, f2, f3, f4, f5, f6, f7, f8⟩ := hF
  obtain ⟨i1, i2, i3, i4, i5, i6, i7, i8⟩ := hI
  obtain ⟨z, hz, e1⟩ := nI_ofR (n := 8) (by decide) i1.1 (by have e : nI 8 = 8 := rfl; rw [e]; grind)
  obtain ⟨l, hl, e2⟩ := nI_ofR (n := 101) (by decide) i2.1 (by have e : nI 101 = 101 := rfl; rw [e]; grind)
  obtain ⟨r, hr, e3⟩ := nI_ofR (n := 101) (by decide) i2.2.1 (by have e : nI 101 = 101 := rfl; rw [e]; grind)
  refine ⟨z, l, r, hz, ?_, e1, e2, e3, by rw [f2, e1], by rw [f3, e2], by rw [f4, e3]⟩
  have := i2.2.2.2.2
  rw [e2, e3, nI_add] at this
  exact (nI_leI (b := 100) (by omega) (by decide)).mp this
theorem pr_likely (h : pr_R cmp σx σm) (a1 a2 a3 : Int32) : pr_sim cmp (xf_X7_likely a1 a2 a3 σx) (mf_X8_likely a1 a2 a3 σm) := by
  obtain ⟨z, l, r, hz, hl, x0, x1, x2, m0, m1, m2⟩ := pr_lr h
  unfold xf_X7_likely mf_X8_likely
  simp only [sm_bS, mf_in8, mf_in1, mf_isPlace, xf_isPlace, xf_isPart, sm_cS]
  by_cases c1 : 0 ≤ a1 ∧ a1 ≤ 8
  · have n1 : ¬ a1 < 0 := by grind
    have n2 : ¬ 8 < a1 := by grind
    by_cases c2 : 0 ≤ a2 ∧ a2 ≤ 7
    · by_cases c3 : 0 ≤ a3 ∧ a3 ≤ 1
      · obtain ⟨n, hn, rfl⟩ := nI_ofR (n := 9) (by decide) c1.1 (by have e : nI 9 = 9 := rfl; rw [e]; grind)
        obtain ⟨p, hp, rfl⟩ := nI_ofR (n := 8) (by decide) c2.1 (by have e : nI 8 = 8 := rfl; rw [e]; grind)
        obtain ⟨u, s, e1, s1, s2, s3⟩ := xf_spread hl hz (show n ≤ 8 by omega) x0 x1 x2
        obtain ⟨v, t, e2, t1, t2, t3⟩ := mf_spreads hl hz (show n ≤ 8 by omega) m0 m1 m2
        obtain ⟨w1, w2, w3⟩ := od_pow (show n ≤ 8 by omega)
        have le := od_le hl (z := z) n p
        simp only [c1, c2, c3, n1, n2, and_self, if_true, i10, if_false, e1, e2, sm_cS, sm_gIn hp (by decide : 8 < 2 ^ 31), nI_cl (show p < 2 ^ 31 by omega), (s1 p hp).1, s2, (t1 p hp).1, t2]
        rw [xf_low (by omega) w1 w3, mf_low (by omega) w1 w3]
        exact pr_same (h.keep (pr_ax.of1 s3) (pr_am.of1 t3))
      · simp only [c1, c2, c3, n1, n2, and_self, if_true, i10, if_false]
        exact pr_same h
    · simp only [c1, c2, n1, n2, and_self, if_true, i10, if_false]
      exact pr_same h
  · simp only [c1, if_true, if_false]
    (repeat' split) <;> first | exact pr_same h | (clear h; exfalso; grind)
theorem pr_mean (h : pr_R cmp σx σm) (a1 a2 a3 : Int32) : pr_sim cmp (xf_X7_mean a1 a2 a3 σx) (mf_X8_mean a1 a2 a3 σm) := by
  obtain ⟨z, l, r, hz, hl, x0, x1, x2, m0, m1, m2⟩ := pr_lr h
  unfold xf_X7_mean mf_X8_mean
  simp only [sm_bS, mf_in18, mf_in1, mf_isPlace, xf_isPlace, xf_isPart, xf_isMean, sm_cS]
  by_cases c1 : 1 ≤ a1 ∧ a1 ≤ 8
  · by_cases c2 : 0 ≤ a2 ∧ a2 ≤ 7
    · by_cases c3 : 0 ≤ a3 ∧ a3 ≤ 1
      · obtain ⟨n, hn, rfl⟩ := nI_ofR (x := a1) (n := 9) (by decide) (by grind) (by have e : nI 9 = 9 := rfl; rw [e]; grind)
        obtain ⟨p, hp, rfl⟩ := nI_ofR (n := 8) (by decide) c2.1 (by have e : nI 8 = 8 := rfl; rw [e]; grind)
        obtain ⟨u, s, e1, s1, s2, s3⟩ := xf_spread hl hz (show n ≤ 8 by omega) x0 x1 x2
        obtain ⟨v, t, e2, t1, t2, t3⟩ := mf_spreads hl hz (show n ≤ 8 by omega) m0 m1 m2
        obtain ⟨w1, w2, w3⟩ := od_pow (show n ≤ 8 by omega)
        have le := od_tole hl (z := z) n p
        simp only [c1, c2, c3, and_self, if_true, i10, if_false, e1, e2, sm_cS, sm_gIn hp (by decide : 8 < 2 ^ 31), nI_cl (show p < 2 ^ 31 by omega), (s1 p hp).2, s2, (t1 p hp).2, t2]
        rw [xf_low (by omega) w1 w3, mf_low (by omega) w1 w3]
        exact pr_same (h.keep (pr_ax.of1 s3) (pr_am.of1 t3))
      · simp only [c1, c2, c3, and_self, if_true, i10, if_false]
        exact pr_same h
    · simp only [c1, c2, and_self, if_true, i10, if_false]
      exact pr_same h
  · simp only [c1, if_true, if_false]
    exact pr_same h
end
