/-! rows of winds -/
theorem pu_m3 : ∀ x, x < 243 → nI x - nI x / 3 * 3 = nI (x % 3) ∧ nI x / 3 = nI (x / 3) := by decide +kernel
def nt_p3 : Nat → Nat
  | 0 => 1
  | n + 1 => nt_p3 n * 3
theorem nt_p3m : ∀ n, n ≤ 5 → 1 ≤ nt_p3 n ∧ nt_p3 n ≤ 243 ∧ nI (nt_p3 n) * 3 = nI (nt_p3 (n + 1)) := by decide
/-- wind m of a row of n -/
def nt_rw (n row m : Nat) : Int32 := nI (row / nt_p3 (n - 1 - m) % 3) - 1
theorem pu_r3 : ∀ x, x < 3 → -1 ≤ nI x - 1 ∧ nI x - 1 ≤ 1 := by decide
theorem nt_rwR (n row m : Nat) : -1 ≤ nt_rw n row m ∧ nt_rw n row m ≤ 1 := pu_r3 _ (Nat.mod_lt _ (by decide))
/-- its digits, to the wind i -/
def nt_dg (n row : Nat) : Nat → Int32
  | 0 => 0
  | i + 1 => 10 * nt_dg n row i + nI (row / nt_p3 (n - 1 - i) % 3) + 1
/-- whether all are as told -/
def nt_ft (R red : Nat → Int32) : Nat → Bool
  | 0 => true
  | n + 1 => nt_ft R red n && decide (R n = red n)
theorem nt_ftF {R red : Nat → Int32} {i : Nat} (h : nt_ft R red i = false) : ∀ d, nt_ft R red (i + d) = false
  | 0 => h
  | d + 1 => by
    show (nt_ft R red (i + d) && decide (R (i + d) = red (i + d))) = false
    rw [nt_ftF h d]
    rfl
theorem nt_ftC {R R' red red' : Nat → Int32} : ∀ k, (∀ x, x < k → R x = R' x ∧ red x = red' x) → nt_ft R red k = nt_ft R' red' k
  | 0, _ => rfl
  | k + 1, h => by
    unfold nt_ft
    rw [nt_ftC k (fun x hx => h x (by omega)), (h k (by omega)).1, (h k (by omega)).2]
/-- how many rows fit, the first one's digits, of the rows ahead of i -/
def nt_cn (q : Nat → Bool) : Nat → Nat
  | 0 => 0
  | n + 1 => if q n = true then nt_cn q n + 1 else nt_cn q n
def nt_fs (q : Nat → Bool) (g : Nat → Int32) : Nat → Int32
  | 0 => -1
  | n + 1 => if q n = true ∧ nt_cn q n = 0 then g n else nt_fs q g n
theorem nt_cnL (q : Nat → Bool) : ∀ n, nt_cn q n ≤ n
  | 0 => Nat.le_refl _
  | n + 1 => by
    unfold nt_cn
    have := nt_cnL q n
    split <;> omega
theorem nt_cnM (q : Nat → Bool) (i : Nat) : ∀ d, nt_cn q i ≤ nt_cn q (i + d)
  | 0 => Nat.le_refl _
  | d + 1 => by
    have := nt_cnM q i d
    show nt_cn q i ≤ (if q (i + d) = true then nt_cn q (i + d) + 1 else nt_cn q (i + d))
    split <;> omega
theorem nt_fs0 {q : Nat → Bool} {g : Nat → Int32} : ∀ n, nt_cn q n = 0 → nt_fs q g n = -1
  | 0, _ => rfl
  | n + 1, h => by
    unfold nt_cn at h
    unfold nt_fs
    split at h
    · cases h
    · rename_i c
      rw [if_neg (fun e => c e.1)]
      exact nt_fs0 n h
theorem nt_fsM {q : Nat → Bool} {g : Nat → Int32} {i : Nat} (h : 0 < nt_cn q i) : ∀ d, nt_fs q g (i + d) = nt_fs q g i
  | 0 => rfl
  | d + 1 => by
    show (if q (i + d) = true ∧ nt_cn q (i + d) = 0 then g (i + d) else nt_fs q g (i + d)) = _
    have := nt_cnM q i d
    rw [if_neg (fun e => by omega)]
    exact nt_fsM h d
theorem xf_rowsOfL {n : Nat} {σ : sm_St} (hn : n ≤ 5) : ∀ (d i F : Nat), i + d = n → d < F → xf_X7_rowsOf_p4 (nI n) F σ (nI (nt_p3 i)) (nI i) = some (nI (nt_p3 n), σ) := by
  intro d
  induction d with
  | zero =>
    intro i F h1 h2
    obtain ⟨F, rfl⟩ : ∃ n', F = n' + 1 := ⟨F - 1, by omega⟩
    have : i = n := by omega
    subst this
    rw [xf_X7_rowsOf_p4, if_pos (nI_le (Nat.le_refl _) (by omega))]
  | succ d ih =>
    intro i F h1 h2
    obtain ⟨F, rfl⟩ : ∃ n', F = n' + 1 := ⟨F - 1, by omega⟩
    rw [xf_X7_rowsOf_p4, if_neg (nI_ge (by omega) (by omega))]
    simp only [sm_bS, (nt_p3m i (by omega)).2.2, nI_inc]
    exact ih (i + 1) F (by omega) (by omega)
theorem xf_rowsOfE {n : Nat} {σ : sm_St} (hn : n ≤ 5) : xf_X7_rowsOf (nI n) σ = some (nI (nt_p3 n), σ) := xf_rowsOfL hn n 0 sm_F (by omega) (by have := sm_Fge; omega)
theorem xf_takeRowL {n row : Nat} {a1 a2 : Int32} (hn : n ≤ 5) (hr : row < 243) : ∀ (i F : Nat) (y : sm_St), i ≤ n → i < F → sm_ok (xf_X2_takeRow_p12 a1 a2 F y (nI (row / nt_p3 (n - i))) (nI i - 1)) (fun _ t => (∀ m, m < i → t.1 46 m = nt_rw n row m) ∧ (∀ m, i ≤ m → t.1 46 m = y.1 46 m) ∧ ∀ c, c ≠ 46 → t.1 c = y.1 c) := by
  intro i
  induction i with
  | zero =>
    intro F y h1 h2
    obtain ⟨F, rfl⟩ : ∃ n', F = n' + 1 := ⟨F - 1, by omega⟩
    rw [xf_X2_takeRow_p12, if_pos (by decide)]
    exact ok_some.mpr ⟨fun m hm => absurd hm (by omega), fun _ _ => rfl, fun _ _ => rfl⟩
  | succ i ih =>
    intro F y h1 h2
    obtain ⟨F, rfl⟩ : ∃ n', F = n' + 1 := ⟨F - 1, by omega⟩
    have e0 : nI (i + 1) - 1 = nI i := by rw [nI_succ]; grind
    have n0 : ¬ nI i < 0 := Int32.not_lt.mpr (nI_pos' (by omega))
    have hx : row / nt_p3 (n - (i + 1)) < 243 := Nat.lt_of_le_of_lt (Nat.div_le_self _ _) hr
    obtain ⟨m1, m2⟩ := pu_m3 _ hx
    have e1 : row / nt_p3 (n - (i + 1)) / 3 = row / nt_p3 (n - i) := by
      rw [show n - i = (n - (i + 1)) + 1 by omega]
      show _ = row / (nt_p3 (n - (i + 1)) * 3)
      rw [Nat.div_div_eq_div_mul]
    have e2 : nI i + Int32.ofInt (-1) = nI i - 1 := by
      have : Int32.ofInt (-1) = -1 := rfl
      rw [this]
      grind
    rw [m2, e1] at m1
    rw [xf_X2_takeRow_p12, e0, if_neg n0]
    simp only [sm_bS, g_3, m1, m2, e1, e2, sm_gIn (show i < 40 by omega) (by decide : 40 < 2 ^ 31), nI_cl (show i < 2 ^ 31 by omega)]
    refine ok_mono (ih F _ (by omega) (by omega)) (fun _ t ⟨t1, t2, t3⟩ => ⟨fun m hm => ?_, fun m hm => ?_, fun c hc => ?_⟩)
    · by_cases e : m = i
      · subst e
        rw [t2 m (Nat.le_refl _), sm_rE]
        unfold nt_rw
        rw [show n - 1 - m = n - (m + 1) by omega]
      · exact t1 m (by omega)
    · rw [t2 m (by omega), sm_rI1 46 m (Or.inr (by omega))]
    · rw [t3 c hc, sm_rI c hc]
theorem xf_takeRowE {n row : Nat} {σ : sm_St} (hn : n ≤ 5) (hr : row < 243) : sm_ok (xf_X2_takeRow (nI row) (nI n) σ) (fun _ t => t.1 43 9 = nI n ∧ (∀ m, m < n → t.1 46 m = nt_rw n row m) ∧ ∀ c, c ≠ 43 → c ≠ 46 → t.1 c = σ.1 c) := by
  have h := xf_takeRowL (a1 := nI row) (a2 := nI n) hn hr n sm_F (sm_sI σ 43 9 (nI n)) (Nat.le_refl _) (by have := sm_Fge; omega)
  rw [Nat.sub_self, show row / nt_p3 0 = row from Nat.div_one _] at h
  unfold xf_X2_takeRow
  simp only [sm_bS]
  refine ok_mono h (fun _ t ⟨t1, t2, t3⟩ => ⟨?_, t1, fun c c43 c46 => ?_⟩)
  · rw [t3 43 (by decide), sm_rE]
  · rw [t3 c c46, sm_rI c c43]
theorem xf_digitsE {n row : Nat} {σ : sm_St} (hn : n ≤ 5) (h9 : σ.1 43 9 = nI n) (hw : ∀ m, m < n → σ.1 46 m = nt_rw n row m) : xf_X2_digits σ = some (nt_dg n row n, σ) := by
  have L : ∀ (d i F : Nat), i + d = n → d < F → xf_X2_digits_p4 F σ (nt_dg n row i) (nI i) = some (nt_dg n row n, σ) := by
    intro d
    induction d with
    | zero =>
      intro i F h1 h2
      obtain ⟨F, rfl⟩ : ∃ n', F = n' + 1 := ⟨F - 1, by omega⟩
      have : i = n := by omega
      subst this
      rw [xf_X2_digits_p4]
      simp only [sm_bS, h9]
      rw [if_pos (nI_le (Nat.le_refl _) (by omega))]
    | succ d ih =>
      intro i F h1 h2
      obtain ⟨F, rfl⟩ : ∃ n', F = n' + 1 := ⟨F - 1, by omega⟩
      have nl : ¬ nI n ≤ nI i := nI_ge (by omega) (by omega)
      have e : nt_dg n row i * 10 + nt_rw n row i + 2 = nt_dg n row (i + 1) := by
        unfold nt_rw
        show _ = 10 * nt_dg n row i + nI (row / nt_p3 (n - 1 - i) % 3) + 1
        grind
      rw [xf_X2_digits_p4]
      simp only [sm_bS, h9, nl, if_false, sm_gIn (show i < 40 by omega) (by decide : 40 < 2 ^ 31), nI_cl (show i < 2 ^ 31 by omega), hw i (by omega), e, nI_inc]
      exact ih (i + 1) F (by omega) (by omega)
  exact L n 0 sm_F (by omega) (by have := sm_Fge; omega)
section
variable {cmp : (Nat → Int32) → Nat → (Nat → Int32) → (Nat → Int32) → Prop} {V : (Nat → Int32) → (Nat → Int32) → Int32 → (Nat → Int32) → Int32} {σx σm σ σ' : sm_St} {k tc t N s n M : Nat} {code ends W kn nb pl : Nat → Int32} {sk te ed l r : Int32} {P : Int32 → Nat → Int32 → Int32 → Int32 → Int32 → Int32}
theorem xf_fitsL {w : sm_St} {R red : Nat → Int32} {a2 a3 a4 a5 : Int32} (h5 : k ≤ 5) (h6 : w.1 1 6 = nI k) (hs : w.1 (35 + s) 1 = nI k) (hR : ∀ x, x < k → w.1 45 x = R x) (hr : ∀ x, x < k → w.1 (39 + s) x = red x) : ∀ (d i F : Nat), i + d = k → d < F → nt_ft R red i = true → xf_X7_fits_p58 (35 + s) a2 a3 a4 a5 F w (nI i) = some (if nt_ft R red k = true then 1 else 0, w) := by
  intro d
  induction d with
  | zero =>
    intro i F h1 h2 h3
    obtain ⟨F, rfl⟩ : ∃ n', F = n' + 1 := ⟨F - 1, by omega⟩
    have : i = k := by omega
    subst this
    rw [xf_X7_fits_p58]
    simp only [sm_bS, h6, h3, if_true]
    rw [if_pos (nI_le (Nat.le_refl _) (by omega))]
  | succ d ih =>
    intro i F h1 h2 h3
    obtain ⟨F, rfl⟩ : ∃ n', F = n' + 1 := ⟨F - 1, by omega⟩
    have nl : ¬ nI k ≤ nI i := nI_ge (by omega) (by omega)
    have it : xf_X5_item (35 + s) (nI i) w = some (red i, w) := by
      rw [xf_item hs (show k ≤ 40 by omega) (by omega), show 35 + s + 4 = 39 + s by omega, hr i (by omega)]
    rw [xf_X7_fits_p58]
    simp only [sm_bS, h6, nl, if_false, sm_gIn (show i < 5 by omega) (by decide : 5 < 2 ^ 31), nI_cl (show i < 2 ^ 31 by omega), it, sm_cS, hR i (by omega), nI_inc]
    by_cases c : R i = red i
    · rw [if_pos c]
      exact ih (i + 1) F (by omega) (by omega) (by show (nt_ft R red i && decide (R i = red i)) = true; rw [h3, c]; simp)
    · rw [if_neg c]
      have f : nt_ft R red (i + 1) = false := by
        show (nt_ft R red i && decide (R i = red i)) = false
        simp [c]
      have f2 := nt_ftF f d
      rw [show i + 1 + d = k by omega] at f2
      rw [f2]
      rfl
/-- whether a row fits -/
def nt_qq (pay : Bool) (k n : Nat) (kn nb : Nat → Int32) (te ed : Int32) (P : Int32 → Nat → Int32 → Int32 → Int32 → Int32 → Int32) (sk : Int32) (pl red : Nat → Int32) (row : Nat) : Bool := nt_ft (fun x => nt_run pay k kn nb te ed P (nt_rw n row) (nt_S0 sk pl) n 4 x) red k
theorem xf_fitsE {row : Nat} {a4 kd : Int32} {y : sm_St} (h5 : k ≤ 5) (hR : pr_I (σx.1 1) (σx.1 4) (σx.1 7) (σx.1 10) k tc) (hn : n ≤ 5) (hr : row < 243) (hs : s < 4) (hz : σx.1 (35 + s) 1 = nI k) (hy : ∀ c, c ≠ 3 → c ≠ 6 → c ≠ 9 → c ≠ 12 → c < 43 → y.1 c = σx.1 c) (ha : (a4 = -1 ∧ kn = σx.1 4) ∨ ∃ x, x < k ∧ a4 = nI x ∧ kn = upd (σx.1 4) x kd) : ∃ y', xf_X7_fits (35 + s) (nI n) (nI row) a4 kd y = some (if nt_qq false k n kn (σx.1 7) (σx.1 1 3) (σx.1 1 4) P (σx.1 1 0) (σx.1 10) (σx.1 (39 + s)) row = true then 1 else 0, y') ∧ nt_G σx y' n (nt_rw n row) := by
  obtain ⟨_, u, e1, u1, u2, u3⟩ := xf_takeRowE (σ := y) hn hr
  have G0 : nt_G σx u n (nt_rw n row) := ⟨fun c c3 c6 c9 c12 c43 => by rw [u3 c (by omega) (by omega)]; exact hy c c3 c6 c9 c12 c43, u1, u2⟩
  obtain ⟨_, v, e2, g1, g2, g3, g4, g5, g6, g7, g8, g9, g10⟩ := xf_begG hR G0
  have v6 : v.1 1 6 = nI k := by rw [g1.1 1 (by decide) (by decide) (by decide) (by decide) (by decide)]; exact hR.2.2.2.2.2.1
  have F : ∀ z, nt_G σx z n (nt_rw n row) → z.1 3 6 = nI k → (∀ x, x < k → z.1 6 x = kn x ∧ z.1 9 x = σx.1 7 x ∧ z.1 12 x = σx.1 10 x) → z.1 3 0 = σx.1 1 0 → z.1 3 3 = σx.1 1 3 → z.1 3 4 = σx.1 1 4 → (∀ x, x < 5 → z.1 44 x = 0 ∧ z.1 45 x = 0 ∧ z.1 47 x = 0 ∧ z.1 48 x = 0 ∧ z.1 49 x = 0) → z.1 43 10 = 0 → z.1 43 11 = -1 → z.1 43 12 = -1 → ∃ y', xf_X7_fits_p47 (35 + s) (nI n) (nI row) a4 kd z = some (if nt_qq false k n kn (σx.1 7) (σx.1 1 3) (σx.1 1 4) P (σx.1 1 0) (σx.1 10) (σx.1 (39 + s)) row = true then 1 else 0, y') ∧ nt_G σx y' n (nt_rw n row) := by
    intro z z1 z2 z3 z4 z5 z6 z7 z8 z9 z10
    obtain ⟨_, w, e3, w1, w2⟩ := xf_runQ (P := P) h5 (show n ≤ 40 by omega) z1 z2 z3 z4 z5 z6 z7 z8 z9 z10 (nt_good0 h5 hR)
    refine ⟨w, ?_, w1⟩
    unfold xf_X7_fits_p47
    rw [e3]
    exact xf_fitsL h5 (by rw [w1.1 1 (by decide) (by decide) (by decide) (by decide) (by decide)]; exact hR.2.2.2.2.2.1) (by rw [w1.1 _ (by omega) (by omega) (by omega) (by omega) (by omega)]; exact hz) (fun x hx => (w2.2.2.2.2.1 x hx).2.2.2.1) (fun x _ => by rw [w1.1 _ (by omega) (by omega) (by omega) (by omega) (by omega)]) k 0 sm_F (by omega) (by have := sm_Fge; omega) rfl
  unfold xf_X7_fits
  simp only [e1, e2, sm_cS, xf_has, v6]
  rcases ha with ⟨rfl, rfl⟩ | ⟨x, hx, rfl, rfl⟩
  · have c : ¬ ((0 : Int32) ≤ -1 ∧ (-1 : Int32) < nI k) := fun e => absurd e.1 (by decide)
    simp only [c, if_false, if_true]
    exact F v g1 g2 (fun x hx => g3 x (by omega)) g4 g5 g6 g7 g8 g9 g10
  · have c : (0 : Int32) ≤ nI x ∧ nI x < nI k := ⟨nI_pos' (by omega), nI_lt hx (by omega)⟩
    simp only [c, and_self, if_true, i10, if_false, sm_gIn (show x < 5 by omega) (by decide : 5 < 2 ^ 31), nI_cl (show x < 2 ^ 31 by omega), sm_bS]
    refine F _ ⟨fun c c3 c6 c9 c12 c43 => by rw [sm_rI c c6]; exact g1.1 c c3 c6 c9 c12 c43, by rw [sm_rI 43 (by decide)]; exact g1.2.1, fun m hm => by rw [sm_rI 46 (by decide)]; exact g1.2.2 m hm⟩ (by rw [sm_rI 3 (by decide)]; exact g2) (fun y hy => ⟨?_, ?_, ?_⟩) (by rw [sm_rI 3 (by decide)]; exact g4) (by rw [sm_rI 3 (by decide)]; exact g5) (by rw [sm_rI 3 (by decide)]; exact g6) (fun y hy => by rw [sm_rI 44 (by decide), sm_rI 45 (by decide), sm_rI 47 (by decide), sm_rI 48 (by decide), sm_rI 49 (by decide)]; exact g7 y hy) (by rw [sm_rI 43 (by decide)]; exact g8) (by rw [sm_rI 43 (by decide)]; exact g9) (by rw [sm_rI 43 (by decide)]; exact g10)
    · rw [sm_sIk.1]
      unfold upd
      rw [(g3 y (by omega)).1]
    · rw [sm_rI 9 (by decide)]; exact (g3 y (by omega)).2.1
    · rw [sm_rI 12 (by decide)]; exact (g3 y (by omega)).2.2
end
