/-! gap: the reference's search -/
def gp_I (k : Nat) (te : Int32) (w0 : Nat → Nat) (σ : sm_St) : Prop := σ.1 0 15 = nI k ∧ σ.1 0 10 = te ∧ ∀ p, p < 8 → σ.2.1 16 p = lN (w0 p)
def gp_F (x : Nat) (σ σ' : sm_St) : Prop := (∀ c j, c ≠ 17 → c ≠ 18 → ¬ (c = 0 ∧ j = 47) → σ'.1 c j = σ.1 c j) ∧ σ'.2.1 16 = σ.2.1 16 ∧ ∀ j, j < x → σ'.1 17 j = σ.1 17 j
theorem gp_F.rf (x : Nat) (σ : sm_St) : gp_F x σ σ := ⟨fun _ _ _ _ _ => rfl, rfl, fun _ _ => rfl⟩
theorem gp_F.tr {x : Nat} {a b c : sm_St} (h : gp_F x a b) (g : gp_F x b c) : gp_F x a c := ⟨fun i j h1 h2 h3 => (g.1 i j h1 h2 h3).trans (h.1 i j h1 h2 h3), g.2.1.trans h.2.1, fun j hj => (g.2.2 j hj).trans (h.2.2 j hj)⟩
theorem gp_F.le {x y : Nat} {a b : sm_St} (h : gp_F y a b) (hx : x ≤ y) : gp_F x a b := ⟨h.1, h.2.1, fun j hj => h.2.2 j (by omega)⟩
theorem gp_F.st {x : Nat} {σ : sm_St} {v : Int32} : gp_F x σ (sm_sI σ 17 x v) := ⟨fun c j h1 _ _ => by rw [sm_rI c h1], rfl, fun j hj => by rw [sm_rI1 17 j (Or.inr (by omega))]⟩
theorem gp_I.f {k x : Nat} {te : Int32} {w0 : Nat → Nat} {a b : sm_St} (h : gp_I k te w0 a) (f : gp_F x a b) : gp_I k te w0 b := ⟨by rw [f.1 0 15 (by decide) (by decide) (by decide)]; exact h.1, by rw [f.1 0 10 (by decide) (by decide) (by decide)]; exact h.2.1, fun p hp => by rw [f.2.1]; exact h.2.2 p hp⟩
section
variable {cmp : (Nat → Int32) → Nat → (Nat → Int32) → (Nat → Int32) → Prop} {σx σm σ σ' : sm_St} {k : Nat} {te : Int32} {w0 : Nat → Nat} {S m : Nat} {Φ : sm_St → Prop} {C : Nat → Prop}
theorem gp_p24 {rec : Int32 → Int32 → Int64 → sm_St → Option (Unit × sm_St)} {a1 a2 : Int32} {a3 : Int64} (h5 : k ≤ 5) (h15 : σ.1 0 15 = nI k) : sm_ok (mf_X8_seatsFrom_p24 rec a1 a2 a3 σ) (fun _ s => s.1 0 47 = 1 ∧ s.2.1 0 46 = a3 ∧ (∀ j, j < k → s.1 18 j = σ.1 17 j) ∧ gp_F k σ s) := by
  unfold mf_X8_seatsFrom_p24
  simp only [sm_bS]
  have u15 : (sm_sL (sm_sI σ 0 47 1) 0 46 a3).1 0 15 = nI k := by rw [sm_rLi, sm_rI1 0 15 (by decide)]; exact h15
  obtain ⟨s, f, e1, e2, e3, e4⟩ := lp_c (mf_X8_seatsFrom_p37 rec a1 a2 a3) (fun i s => (∀ j, j < i → s.1 18 j = σ.1 17 j) ∧ (∀ c, c ≠ 18 → s.1 c = (sm_sL (sm_sI σ 0 47 1) 0 46 a3).1 c) ∧ s.2 = (sm_sL (sm_sI σ 0 47 1) 0 46 a3).2) k (sm_sL (sm_sI σ 0 47 1) 0 46 a3) (by omega) ⟨fun j hj => absurd hj (by omega), fun _ _ => rfl, rfl⟩ (by
    intro i s n hi ⟨g1, g2, g3⟩
    have nl : ¬ nI k ≤ nI i := nI_ge hi (by omega)
    have s15 : s.1 0 15 = nI k := by rw [g2 0 (by decide)]; exact u15
    refine ⟨sm_sI s 18 i (s.1 17 i), ?_, fun j hj => ?_, fun c hc => ?_, g3⟩
    · rw [mf_X8_seatsFrom_p37]
      simp only [sm_bS, s15, nl, if_false, sm_gIn (show i < 5 by omega) (by decide : 5 < 2 ^ 31), nI_cl (show i < 2 ^ 31 by omega), nI_inc]
    · by_cases e : j = i
      · subst e
        rw [sm_rE, g2 17 (by decide), sm_rLi, sm_rI 17 (by decide)]
      · rw [sm_rI1 18 j (Or.inr e)]
        exact g1 j (by omega)
    · rw [sm_rI c hc]
      exact g2 c hc)
  rw [e1, mf_X8_seatsFrom_p37]
  have s15 : s.1 0 15 = nI k := by rw [e3 0 (by decide)]; exact u15
  simp only [sm_bS, s15]
  rw [if_pos (nI_le (Nat.le_refl _) (by omega))]
  refine ok_some.mpr ⟨?_, ?_, e2, fun c j c17 c18 hc => ?_, ?_, fun j hj => ?_⟩
  · rw [e3 0 (by decide), sm_rLi, sm_rE]
  · rw [e4]
    exact sm_rLE
  · rw [e3 c c18, sm_rLi, sm_rI1 c j (by omega)]
  · rw [e4]
    exact sm_rL 16 (by decide)
  · rw [e3 17 (by decide), sm_rLi, sm_rI 17 (by decide)]
theorem gp_loop {rec : Int32 → Int32 → Int64 → sm_St → Option (Unit × sm_St)} {x a e : Nat} (h5 : k ≤ 5) (hx : x < k) (hm : m < 256) (he : e ≤ 8) (h17 : ∀ σ v, Φ σ → Φ (sm_sI σ 17 x v)) (hrec : ∀ i, a ≤ i → i < e → gp_b m i = false → ∀ σ, Φ σ → gp_I k te w0 σ → σ.1 17 x = nI i → sm_ok (rec (nI (x + 1)) (nI (m + 2 ^ i)) (lN (gp_s (gp_w te w0) (m + 2 ^ i) 8)) σ) (fun _ s => Φ s ∧ gp_F (x + 1) σ s)) : ∀ (d i n : Nat) (σ : sm_St), a ≤ i → i + d = e → Φ σ → gp_I k te w0 σ → ∃ s, mf_X8_seatsFrom_p70 rec (nI x) (nI m) (lN (gp_s (gp_w te w0) m 8)) (n + d) σ (nI i) = mf_X8_seatsFrom_p70 rec (nI x) (nI m) (lN (gp_s (gp_w te w0) m 8)) n s (nI e) ∧ Φ s ∧ gp_I k te w0 s ∧ gp_F x σ s := by
  intro d
  induction d with
  | zero =>
    intro i n σ h0 h1 h2 h3
    have : i = e := by omega
    subst this
    exact ⟨σ, rfl, h2, h3, gp_F.rf _ _⟩
  | succ d ih =>
    intro i n σ h0 h1 h2 h3
    have hi : i < 8 := by omega
    have nl : ¬ (8 : Int32) ≤ nI i := nI_ge (b := 8) hi (by decide)
    have b1 := (gp_bits m hm i hi).1
    rw [show n + (d + 1) = (n + d) + 1 by omega, mf_X8_seatsFrom_p70, if_neg nl]
    simp only [sm_bS, b1]
    cases eb : gp_b m i with
    | true =>
      simp only [if_true, i10, if_false, mf_X8_seatsFrom_p133, sm_bS, nI_inc]
      exact ih (i + 1) n σ (by omega) (by omega) h2 h3
    | false =>
      obtain ⟨b2, b3⟩ := (gp_bits m hm i hi).2 eb
      have f1 : gp_F x σ (sm_sI σ 17 x (nI i)) := gp_F.st
      have I1 := h3.f f1
      obtain ⟨_, t, e1, t1, t2⟩ := hrec i h0 (by omega) eb (sm_sI σ 17 x (nI i)) (h17 σ _ h2) I1 sm_rE
      obtain ⟨s, q1, q2, q3, q4⟩ := ih (i + 1) n t (by omega) (by omega) t1 (I1.f t2)
      refine ⟨s, ?_, q2, q3, (f1.tr (t2.le (by omega))).tr q4⟩
      rw [← q1]
      have ea : nI x + 1 = nI (x + 1) := nI_1 x
      have ew : gp_s (gp_w te w0) (m + 2 ^ i) 8 = gp_s (gp_w te w0) m 8 + gp_w te w0 i := gp_s1 hm hi eb
      simp only [Bool.false_eq_true, if_false, if_true, sm_gIn (show x < 5 by omega) (by decide : 5 < 2 ^ 31), nI_cl (show x < 2 ^ 31 by omega), b2, ea, I1.2.1]
      by_cases c : te >>> (nI i &&& 31) &&& 1 = 1
      · have w : gp_w te w0 i = 0 := if_pos c
        rw [w, Nat.add_zero] at ew
        rw [ew] at e1
        simp only [c, if_true, mf_X8_seatsFrom_p130, mf_X8_seatsFrom_p133, e1, sm_cS, sm_bS, nI_inc]
      · have w : gp_w te w0 i = w0 i := if_neg c
        rw [w] at ew
        rw [ew] at e1
        simp only [c, if_false, sm_gIn hi (by decide : 8 < 2 ^ 31), nI_cl (show i < 2 ^ 31 by omega), I1.2.2 i hi, lN_add, mf_X8_seatsFrom_p130, mf_X8_seatsFrom_p133, e1, sm_cS, sm_bS, nI_inc]
theorem gp_gen (h5 : k ≤ 5) (hC : ∀ m p, C m → m < 256 → p < 8 → gp_b m p = false → C (m + 2 ^ p)) (h17 : ∀ σ x v, Φ σ → Φ (sm_sI σ 17 x v)) (hl : ∀ σ m n, Φ σ → gp_I k te w0 σ → C m → m < 256 → gp_s gp_1 m 8 = k → sm_ok (mg_seats (n + 1) (nI k) (nI m) (lN (gp_s (gp_w te w0) m 8)) σ) (fun _ s => Φ s ∧ gp_F k σ s)) : ∀ (d x n m : Nat) (σ : sm_St), x + d = k → d < n → C m → m < 256 → gp_s gp_1 m 8 = x → Φ σ → gp_I k te w0 σ → sm_ok (mg_seats n (nI x) (nI m) (lN (gp_s (gp_w te w0) m 8)) σ) (fun _ s => Φ s ∧ gp_F x σ s) := by
  intro d
  induction d with
  | zero =>
    intro x n m σ h1 h2 h3 h4 h6 h7 h8
    obtain ⟨n, rfl⟩ : ∃ n', n = n' + 1 := ⟨n - 1, by omega⟩
    have : x = k := by omega
    subst this
    exact hl σ m n h7 h8 h3 h4 h6
  | succ d ih =>
    intro x n m σ h1 h2 h3 h4 h6 h7 h8
    obtain ⟨n, rfl⟩ : ∃ n', n = n' + 1 := ⟨n - 1, by omega⟩
    have ne : ¬ nI x = nI k := fun e => by have := (nI_eq (by omega) (by omega)).mp e; omega
    obtain ⟨F, hF⟩ := sm_Fs 9 (by decide)
    obtain ⟨s, q1, q2, q3, q4⟩ := gp_loop (rec := mg_seats n) (Φ := Φ) (te := te) (w0 := w0) (m := m) (x := x) (a := 0) (e := 8) h5 (by omega) h4 (Nat.le_refl _) (fun σ v => h17 σ x v) (fun i _ hi eb σ g1 g2 _ => ih (x + 1) n (m + 2 ^ i) σ (by omega) (by omega) (hC m i h3 h4 hi eb) ((gp_bits m h4 i hi).2 eb).2 (by rw [gp_s1 h4 hi eb, h6]; rfl) g1 g2) 8 0 (F + 1) σ (Nat.zero_le _) (by omega) h7 h8
    show sm_ok (mf_X8_seatsFrom (mg_seats n) (nI x) (nI m) (lN (gp_s (gp_w te w0) m 8)) σ) _
    unfold mf_X8_seatsFrom
    simp only [sm_bS, h8.1, ne, if_false]
    rw [show F + 1 + 8 = sm_F by omega] at q1
    have q1 : mf_X8_seatsFrom_p70 (mg_seats n) (nI x) (nI m) (lN (gp_s (gp_w te w0) m 8)) sm_F σ 0 = mf_X8_seatsFrom_p70 (mg_seats n) (nI x) (nI m) (lN (gp_s (gp_w te w0) m 8)) (F + 1) s (nI 8) := q1
    rw [q1, mf_X8_seatsFrom_p70, if_pos (by decide)]
    exact ok_some.mpr ⟨q2, q4⟩
/-- the best so far is dearer than W; the best is the class's -/
def gp_op (W : Nat) (σ : sm_St) : Prop := σ.1 0 47 = 0 ∨ (σ.1 0 47 = 1 ∧ ∃ B, σ.2.1 0 46 = lN B ∧ W < B ∧ B < 2 ^ 63)
def gp_dn (k S W : Nat) (σ : sm_St) : Prop := σ.1 0 47 = 1 ∧ σ.2.1 0 46 = lN W ∧ ∀ x, x < k → σ.1 18 x = nI (gp_t S x)
theorem gp_sB (hw : ∀ p, w0 p < 2 ^ 59) (m : Nat) : gp_s (gp_w te w0) m 8 < 2 ^ 63 := by
  have := gp_sle (g := gp_w te w0) (m := m) (B := 2 ^ 59 - 1) (fun p => by
    unfold gp_w
    have := hw p
    split <;> omega) 8
  omega
theorem gp_leafO {n m W : Nat} (h5 : k ≤ 5) (hw : ∀ p, w0 p < 2 ^ 59) (h : gp_op W σ) (hI : gp_I k te w0 σ) (hW : W < gp_s (gp_w te w0) m 8) : sm_ok (mg_seats (n + 1) (nI k) (nI m) (lN (gp_s (gp_w te w0) m 8)) σ) (fun _ s => gp_op W s ∧ gp_F k σ s) := by
  have b := gp_sB (te := te) hw m
  have P := gp_p24 (rec := mg_seats n) (a1 := nI k) (a2 := nI m) (a3 := lN (gp_s (gp_w te w0) m 8)) h5 hI.1
  have P : sm_ok (mf_X8_seatsFrom_p24 (mg_seats n) (nI k) (nI m) (lN (gp_s (gp_w te w0) m 8)) σ) (fun _ s => gp_op W s ∧ gp_F k σ s) := ok_mono P (fun _ s ⟨s1, s2, s3, s4⟩ => ⟨Or.inr ⟨s1, _, s2, hW, b⟩, s4⟩)
  show sm_ok (mf_X8_seatsFrom (mg_seats n) (nI k) (nI m) (lN (gp_s (gp_w te w0) m 8)) σ) _
  unfold mf_X8_seatsFrom
  simp only [sm_bS, hI.1, if_true]
  rcases h with h | ⟨h1, B, h2, h3, h4⟩
  · rw [if_pos h]
    exact P
  · rw [h1, if_neg i10, h2]
    by_cases c : B ≤ gp_s (gp_w te w0) m 8
    · rw [if_pos ((lg_cge b h4).mpr c)]
      exact ok_some.mpr ⟨Or.inr ⟨h1, B, h2, h3, h4⟩, gp_F.rf _ _⟩
    · rw [if_neg (mt (lg_cge b h4).mp c)]
      exact P
theorem gp_leafD {n m W : Nat} (hw : ∀ p, w0 p < 2 ^ 59) (h : gp_dn k S W σ) (hI : gp_I k te w0 σ) (hW : W ≤ gp_s (gp_w te w0) m 8) : sm_ok (mg_seats (n + 1) (nI k) (nI m) (lN (gp_s (gp_w te w0) m 8)) σ) (fun _ s => gp_dn k S W s ∧ gp_F k σ s) := by
  have b := gp_sB (te := te) hw m
  show sm_ok (mf_X8_seatsFrom (mg_seats n) (nI k) (nI m) (lN (gp_s (gp_w te w0) m 8)) σ) _
  unfold mf_X8_seatsFrom
  simp only [sm_bS, hI.1, if_true]
  rw [h.1, if_neg i10, h.2.1, if_pos ((lg_cge b (by omega)).mpr hW)]
  exact ok_some.mpr ⟨h, gp_F.rf _ _⟩
/-- along the class's own way -/
theorem gp_onT (h5 : k ≤ 5) (hw : ∀ p, w0 p < 2 ^ 59) (hS : gp_G (gp_w te w0) S k) : ∀ (d x n : Nat) (σ : sm_St), x + d = k → d < n → gp_op (gp_s (gp_w te w0) S 8) σ → gp_I k te w0 σ → (∀ j, j < x → σ.1 17 j = nI (gp_t S j)) → sm_ok (mg_seats n (nI x) (nI (gp_m S x)) (lN (gp_s (gp_w te w0) (gp_m S x) 8)) σ) (fun _ s => gp_dn k S (gp_s (gp_w te w0) S 8) s ∧ gp_F x σ s) := by
  obtain ⟨S1, S2, S3⟩ := hS
  have AB : ∀ m, m < 256 → gp_s gp_1 m 8 = k → _ := fun m _ hp => gp_AB (w := gp_w te w0) (S := S) (m := m) S1 S3 (by rw [S2, hp])
  intro d
  induction d with
  | zero =>
    intro x n σ h1 h2 h3 h4 h6
    obtain ⟨n, rfl⟩ : ∃ n', n = n' + 1 := ⟨n - 1, by omega⟩
    have : x = k := by omega
    subst this
    have em : gp_m S x = S := if_neg (by omega)
    rw [em]
    have b := gp_sB (te := te) hw S
    have P := gp_p24 (rec := mg_seats n) (a1 := nI x) (a2 := nI S) (a3 := lN (gp_s (gp_w te w0) S 8)) h5 h4.1
    have P : sm_ok (mf_X8_seatsFrom_p24 (mg_seats n) (nI x) (nI S) (lN (gp_s (gp_w te w0) S 8)) σ) (fun _ s => gp_dn x S (gp_s (gp_w te w0) S 8) s ∧ gp_F x σ s) := ok_mono P (fun _ s ⟨s1, s2, s3, s4⟩ => ⟨⟨s1, s2, fun j hj => by rw [s3 j hj]; exact h6 j hj⟩, s4⟩)
    show sm_ok (mf_X8_seatsFrom (mg_seats n) (nI x) (nI S) (lN (gp_s (gp_w te w0) S 8)) σ) _
    unfold mf_X8_seatsFrom
    simp only [sm_bS, h4.1, if_true]
    rcases h3 with h | ⟨g1, B, g2, g3, g4⟩
    · rw [if_pos h]
      exact P
    · rw [g1, if_neg i10, g2, if_neg (fun e => by have := (lg_cge b g4).mp e; omega)]
      exact P
  | succ d ih =>
    intro x n σ h1 h2 h3 h4 h6
    obtain ⟨n, rfl⟩ : ∃ n', n = n' + 1 := ⟨n - 1, by omega⟩
    have ne : ¬ nI x = nI k := fun e => by have := (nI_eq (by omega) (by omega)).mp e; omega
    have hx : x < gp_s gp_1 S 8 := by omega
    obtain ⟨T1, T2, T3, T4, T5⟩ := gp_tt S S1 x (by omega) hx
    have TE := gp_te S S1 x (by omega) hx
    obtain ⟨F, hF⟩ := sm_Fs 9 (by decide)
    -- ahead of the class's place
    obtain ⟨s, q1, q2, q3, q4⟩ := gp_loop (rec := mg_seats n) (Φ := gp_op (gp_s (gp_w te w0) S 8)) (te := te) (w0 := w0) (m := gp_m S x) (x := x) (a := 0) (e := gp_t S x) h5 (by omega) T4 (by omega) (fun σ v h => h) (fun i _ hi eb σ g1 g2 _ => gp_gen (Φ := gp_op (gp_s (gp_w te w0) S 8)) (C := fun m => gp_s gp_e S 8 < gp_s gp_e m 8) h5 (fun m p c m1 p1 e => by
      show gp_s gp_e S 8 < gp_s gp_e (m + 2 ^ p) 8
      rw [gp_s1 m1 p1 e]
      have : gp_s gp_e S 8 < gp_s gp_e m 8 := c
      omega) (fun σ x v h => h) (fun σ m n a1 a2 c m1 m2 => gp_leafO h5 hw a1 a2 ((AB m m1 m2).2 c)) d (x + 1) n (gp_m S x + 2 ^ i) σ (by omega) (by omega) (TE i (by omega) ⟨hi, eb⟩) ((gp_bits _ T4 i (by omega)).2 eb).2 (by rw [gp_s1 T4 (by omega) eb, T5]; rfl) g1 g2) (gp_t S x) 0 (F + 1 + (8 - gp_t S x)) σ (Nat.zero_le _) (by omega) h3 h4
    -- it
    have f1 : gp_F x s (sm_sI s 17 x (nI (gp_t S x))) := gp_F.st
    have I1 := q3.f f1
    obtain ⟨_, t, e1, t1, t2⟩ := ih (x + 1) n (sm_sI s 17 x (nI (gp_t S x))) (by omega) (by omega) q2 I1 (fun j hj => by
      by_cases e : j = x
      · subst e; rw [sm_rE]
      · rw [sm_rI1 17 j (Or.inr e), q4.2.2 j (by omega)]
        exact h6 j (by omega))
    rw [← T3] at e1
    -- behind it
    obtain ⟨u, r1, r2, r3, r4⟩ := gp_loop (rec := mg_seats n) (Φ := gp_dn k S (gp_s (gp_w te w0) S 8)) (te := te) (w0 := w0) (m := gp_m S x) (x := x) (a := gp_t S x + 1) (e := 8) h5 (by omega) T4 (Nat.le_refl _) (fun σ v h => ⟨by rw [sm_rI 0 (by decide)]; exact h.1, h.2.1, fun y hy => by rw [sm_rI 18 (by decide)]; exact h.2.2 y hy⟩) (fun i ha hi eb σ g1 g2 _ => gp_gen (Φ := gp_dn k S (gp_s (gp_w te w0) S 8)) (C := fun _ => True) h5 (fun _ _ _ _ _ _ => trivial) (fun σ x v h => ⟨by rw [sm_rI 0 (by decide)]; exact h.1, h.2.1, fun y hy => by rw [sm_rI 18 (by decide)]; exact h.2.2 y hy⟩) (fun σ m n a1 a2 c m1 m2 => gp_leafD hw a1 a2 (AB m m1 m2).1) d (x + 1) n (gp_m S x + 2 ^ i) σ (by omega) (by omega) trivial ((gp_bits _ T4 i hi).2 eb).2 (by rw [gp_s1 T4 hi eb, T5]; rfl) g1 g2) (8 - (gp_t S x + 1)) (gp_t S x + 1) (F + 1) t (Nat.le_refl _) (by omega) t1 (I1.f t2)
    have nl : ¬ (8 : Int32) ≤ nI (gp_t S x) := nI_ge (b := 8) T1 (by decide)
    obtain ⟨b2, b3⟩ := (gp_bits _ T4 _ T1).2 T2
    have b1 := (gp_bits _ T4 _ T1).1
    rw [T2] at b1
    have b1 : nI (gp_m S x) >>> (nI (gp_t S x) &&& 31) &&& 1 = 0 := b1
    have ea : nI x + 1 = nI (x + 1) := nI_1 x
    have ew : gp_s (gp_w te w0) (gp_m S x + 2 ^ gp_t S x) 8 = gp_s (gp_w te w0) (gp_m S x) 8 + gp_w te w0 (gp_t S x) := gp_s1 T4 T1 T2
    have mid : mf_X8_seatsFrom_p70 (mg_seats n) (nI x) (nI (gp_m S x)) (lN (gp_s (gp_w te w0) (gp_m S x) 8)) (F + 1 + (8 - gp_t S x)) s (nI (gp_t S x)) = mf_X8_seatsFrom_p70 (mg_seats n) (nI x) (nI (gp_m S x)) (lN (gp_s (gp_w te w0) (gp_m S x) 8)) (F + 1 + (8 - (gp_t S x + 1))) t (nI (gp_t S x + 1)) := by
      rw [show F + 1 + (8 - gp_t S x) = (F + 1 + (8 - (gp_t S x + 1))) + 1 by omega, mf_X8_seatsFrom_p70, if_neg nl]
      simp only [sm_bS, b1, if_true, sm_gIn (show x < 5 by omega) (by decide : 5 < 2 ^ 31), nI_cl (show x < 2 ^ 31 by omega), b2, ea, I1.2.1]
      by_cases c : te >>> (nI (gp_t S x) &&& 31) &&& 1 = 1
      · have w : gp_w te w0 (gp_t S x) = 0 := if_pos c
        rw [w, Nat.add_zero] at ew
        rw [ew] at e1
        simp only [c, if_true, mf_X8_seatsFrom_p130, mf_X8_seatsFrom_p133, e1, sm_cS, sm_bS, nI_inc]
      · have w : gp_w te w0 (gp_t S x) = w0 (gp_t S x) := if_neg c
        rw [w] at ew
        rw [ew] at e1
        simp only [c, if_false, sm_gIn T1 (by decide : 8 < 2 ^ 31), nI_cl (show gp_t S x < 2 ^ 31 by omega), I1.2.2 _ T1, lN_add, mf_X8_seatsFrom_p130, mf_X8_seatsFrom_p133, e1, sm_cS, sm_bS, nI_inc]
    show sm_ok (mf_X8_seatsFrom (mg_seats n) (nI x) (nI (gp_m S x)) (lN (gp_s (gp_w te w0) (gp_m S x) 8)) σ) _
    unfold mf_X8_seatsFrom
    simp only [sm_bS, h4.1, ne, if_false]
    rw [show F + 1 + (8 - gp_t S x) + gp_t S x = sm_F by omega] at q1
    have q1 : mf_X8_seatsFrom_p70 (mg_seats n) (nI x) (nI (gp_m S x)) (lN (gp_s (gp_w te w0) (gp_m S x) 8)) sm_F σ 0 = mf_X8_seatsFrom_p70 (mg_seats n) (nI x) (nI (gp_m S x)) (lN (gp_s (gp_w te w0) (gp_m S x) 8)) (F + 1 + (8 - gp_t S x)) s (nI (gp_t S x)) := q1
    rw [q1, mid, r1, mf_X8_seatsFrom_p70, if_pos (by decide)]
    exact ok_some.mpr ⟨r2, ((q4.tr f1).tr (t2.le (by omega))).tr r4⟩
theorem pr_gap (h : pr_R cmp σx σm) (a1 a2 : Int32) : pr_sim cmp (xf_X7_gap a1 a2 σx) (mf_X8_gap a1 a2 σm) := by
  obtain ⟨z, l, r, hz, hl, x0, x1, x2, m0, m1, m2⟩ := pr_lr h
  have h0 := h
  obtain ⟨k, tc, h5, hF, hI, -, -, -, -⟩ := h
  obtain ⟨f1, f2, f3, f4, f5, f6, f7, f8⟩ := hF
  obtain ⟨i1, i2, i3, i4, i5, i6, i7, i8⟩ := hI
  unfold xf_X7_gap mf_X8_gap
  simp only [sm_bS, mf_in18, xf_has, mf_isSitter f1 h5, i6, xf_isMean, sm_cS]
  by_cases c1 : 1 ≤ a1 ∧ a1 ≤ 8
  · by_cases c : 0 ≤ a2 ∧ a2 < nI k
    · obtain ⟨x, hx, rfl⟩ := nI_ofR (n := k) (by omega) c.1 c.2
      obtain ⟨n, hn, rfl⟩ := nI_ofR (x := a1) (n := 9) (by decide) (by grind) (by have e : nI 9 = 9 := rfl; rw [e]; grind)
      obtain ⟨u, s, e1, s1, s2, s3⟩ := xf_spread hl hz (show n ≤ 8 by omega) x0 x1 x2
      obtain ⟨v, t, e2, t1, t2, t3⟩ := mf_spreads hl hz (show n ≤ 8 by omega) m0 m1 m2
      simp only [c, c1, and_self, if_true, i10, if_false, e1, e2, sm_cS]
      have pw : 100 ^ n ≤ 100 ^ 8 := Nat.pow_le_pow_right (by decide) (by omega)
      have wb : ∀ p, od_to z l r n p < 2 ^ 59 := fun p => by
        have b1 := od_tole (z := z) hl n p
        have b2 : n * 100 ^ n ≤ 8 * 100 ^ 8 := Nat.mul_le_mul (by omega) pw
        have b3 : 8 * 100 ^ 8 < 2 ^ 59 := by decide
        omega
      obtain ⟨S, hS, q1⟩ := xf_gapL (a1 := nI n) (x := x) (s := s) (te := σx.1 1 3) (w0 := od_to z l r n) h5 (by rw [s3]; exact i6) (by rw [s3]) (fun p hp => ⟨(s1 p hp).2, by have := wb p; omega⟩) k 0 sm_F 0 (by omega) (by have := sm_Fge; omega) ⟨by decide, by decide, fun b hb a ha e _ => by simp [gp_b] at e⟩
      have hS' := hS
      obtain ⟨S1, S2, S3⟩ := hS
      obtain ⟨T1, T2, T3, T4, T5⟩ := gp_tt S S1 x (by omega) (by omega)
      have q2 := xf_placeL (s := s) S1 (show x < 8 by omega) 8 0 sm_F (by omega) (by have := sm_Fge; omega)
      have q2 : xf_X7_placeOfBit (nI S) (nI x) s = some (nI (gp_t S x), s) := by
        have e : gp_f S x 8 0 = gp_t S x := rfl
        rw [e, if_neg (by omega)] at q2
        exact q2
      have q1 : xf_X7_gap_p38 (nI n) (nI x) sm_F s 0 0 = _ := q1
      rw [q1, q2]
      have I0 : gp_I k (σx.1 1 3) (od_to z l r n) (sm_sI t 0 47 0) := ⟨by rw [sm_rI1 0 15 (by decide), t3]; exact f1, by rw [sm_rI1 0 10 (by decide), t3]; exact f5, fun p hp => (t1 p hp).2⟩
      obtain ⟨_, w, e3, w1, w2⟩ := gp_onT h5 wb hS' k 0 64 (sm_sI t 0 47 0) (by omega) (by omega) (Or.inl sm_rE) I0 (fun j hj => absurd hj (by omega))
      rw [gp_t0 S S1 (by omega)] at e3
      have e3 : mf_X8_seatsFrom_r 0 0 0 (sm_sI t 0 47 0) = some ((), w) := e3
      simp only [e3, sm_cS, sm_gIn (show x < 5 by omega) (by decide : 5 < 2 ^ 31), nI_cl (show x < 2 ^ 31 by omega), w1.2.2 x hx]
      refine ⟨_, _, _, rfl, rfl, h0.keep (pr_ax.of1 s3) (fun c j hcj => ?_)⟩
      have e0 : ¬ (c = 0 ∧ j = 47) := fun e => by rw [e.1, e.2] at hcj; simp [pr_pm] at hcj
      rw [w2.1 c j (fun e => by subst e; simp [pr_pm] at hcj) (fun e => by subst e; simp [pr_pm] at hcj) e0, sm_rI1 c j (by omega), t3]
    · simp only [c, c1, and_self, if_true, i10, if_false]
      exact pr_same h0
  · simp only [c1, if_true, if_false]
    exact pr_same h0
end
