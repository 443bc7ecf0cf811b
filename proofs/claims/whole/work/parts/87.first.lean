/-! THE FIRST TEXT: both objects at their beginning stand in the relation -/
def tz_s : List Nat := [98, 101, 97, 114, 115, 32, 53, 32, 43, 32, 108, 111, 110, 103, 32, 59, 32, 109, 111, 118, 101, 115, 32, 51, 32, 59, 32, 104, 101, 97, 116, 32, 48, 32, 59]
def tz_b (i : Nat) : Nat := tz_s.getD i 0
def tz_c (i : Nat) : Nat := tz_s.getD i 32
def tz_ok (x : Sum Nat (List Int32 × List Int32 × List Int32)) : Bool := match x with
  | .inl _ => false
  | .inr m => decide ((m.1 ++ m.2.1 ++ m.2.2).length ≤ 35)
set_option maxRecDepth 100000 in
set_option maxHeartbeats 4000000 in
theorem tz_one : tz_ok (ps_tx tz_b 35) = true := by decide +kernel
set_option maxRecDepth 100000 in
set_option maxHeartbeats 4000000 in
theorem tz_eq : ps_tx tz_b 35 = ps_tx tz_c 40 := by decide +kernel
theorem tz_chr : ∀ i, i < 35 → (((sm_byt.getD 0 []).getD i 0 &&& 255).toUInt32 % 65536).toInt32 = nI (tz_b i) ∧ decide (narrow .char (.int (nI (tz_b i))) = .int (nI (tz_b i))) = true := by decide +kernel
theorem tz_bB : ∀ i, i < 35 → tz_b i < 256 := by decide +kernel
theorem tz_cB : ∀ i, i < 40 → tz_c i < 256 := by decide +kernel
theorem xf_charT {i : Nat} (hi : i < 35) (σ : sm_St) : xf_J0_charAt_5068e 0 (nI i) σ = some (nI (tz_b i), σ) := by
  obtain ⟨e1, e2⟩ := tz_chr i hi
  have n0 : ¬ nI i < 0 := Int32.not_lt.mpr (nI_pos' (by omega))
  have n1 : nI i < Int32.ofNat (sm_len.getD 0 0) := nI_lt (b := 35) hi (by decide)
  have n2 : sm_in (nI i) (sm_len.getD 0 0) = true := sm_inN (n := 35) hi (by decide)
  unfold xf_J0_charAt_5068e xf_J0_isLatin1_aae02 xf_J1_charAt_3b067 xf_J0_checkIndex_df160 xf_J3_checkIndex_8e157
  simp only [i10, if_false, if_true, sm_cS, sm_bS, n0, n1, n2, sm_gT, nI_cl (show i < 2 ^ 31 by omega), e1, e2]
theorem xf_lenT (σ : sm_St) : xf_J0_length_8abf5 0 σ = some (nI 35, σ) := by
  have z3 : Int32.ofNat (sm_len.getD 0 0) = 35 := by decide
  have z2 : (35 : Int32) >>> ((0 : Int32) &&& 31) = 35 := by decide
  have z1 : decide (narrow .byte (.int (0 : Int32)) = .int (0 : Int32)) = true := by decide +kernel
  have z4 : nI 35 = 35 := by decide
  unfold xf_J0_length_8abf5 xf_J0_coder_7d493
  simp only [i10, if_false, if_true, sm_cS, sm_bS, z1, sm_gT, z2, z3, z4]
def cz_I (n : Nat) (σ : sm_St) : Prop := σ.1 13 0 = nI n ∧ (∀ i, i < n → σ.1 14 i = nI (tz_b i)) ∧ ∀ c j, ¬ (c = 13 ∧ j = 0) → c ≠ 14 → σ.1 c j = co_sx.1 c j
theorem xf_addT {n : Nat} {v : Int32} {σ : sm_St} (hn : n < 35) (h : σ.1 13 0 = nI n) : xf_X4_add v σ = some (1, sm_sI (sm_sI σ 14 n v) 13 0 (nI (n + 1))) := by
  have n1 : nI n < (160 : Int32) := nI_lt (b := 160) (by omega) (by decide)
  have n2 : sm_in (nI n) 160 = true := sm_inN (n := 160) (by omega) (by decide)
  have e : (sm_sI σ 14 n v).1 13 0 = nI n := by rw [sm_rI1 13 0 (Or.inl (by decide)), h]
  have e1 : nI n + (1 : Int32) = nI (n + 1) := nI_inc n
  unfold xf_X4_add
  simp only [sm_bN, h]
  rw [if_pos n1, n2, sm_gT, nI_cl (show n < 2 ^ 31 by omega), e, e1]
theorem cz_loop : ∀ (d n F : Nat) (σ : sm_St), n + d = 35 → d < F → cz_I n σ → ∃ F' σ', cz_I 35 σ' ∧ xf_X7_init_p141 F σ (nI n) = xf_X7_init_p141 (F' + 1) σ' (nI 35) := by
  intro d
  induction d with
  | zero =>
    intro n F σ h1 h2 hI
    obtain ⟨F, rfl⟩ : ∃ n', F = n' + 1 := ⟨F - 1, by omega⟩
    have : n = 35 := by omega
    subst this
    exact ⟨F, σ, hI, rfl⟩
  | succ d ih =>
    intro n F σ h1 h2 hI
    obtain ⟨F, rfl⟩ : ∃ n', F = n' + 1 := ⟨F - 1, by omega⟩
    have hn : n < 35 := by omega
    have ng : ¬ nI 35 ≤ nI n := nI_ge (b := 35) hn (by decide)
    rw [xf_X7_init_p141, xf_lenT, sm_cS, if_neg ng, xf_charT hn, sm_cS, xf_addT hn hI.1, sm_cS, sm_bN, nI_inc]
    refine ih (n + 1) F _ (by omega) (by omega) ⟨?_, fun i hi => ?_, fun c j hc hd => ?_⟩
    · simp [sm_sI, va_up, upd]
    · rw [sm_rI1 14 i (Or.inl (by decide))]
      by_cases hin : i = n
      · subst hin
        simp [sm_sI, va_up, upd]
      · rw [sm_rI1 14 i (Or.inr hin)]
        exact hI.2.1 i (by omega)
    · rw [sm_rI1 c j (by omega), sm_rI1 c j (Or.inl hd)]
      exact hI.2.2 c j hc hd
theorem cz_x : ∃ σ m, xf_X7_init co_sx = some ((), σ) ∧ ps_tx tz_b 35 = .inr m ∧ (m.1 ++ m.2.1 ++ m.2.2).length ≤ 35 ∧ (∀ i, i < (m.1 ++ m.2.1 ++ m.2.2).length → σ.1 22 i = (m.1 ++ m.2.1 ++ m.2.2).getD i 0) ∧ σ.1 28 0 = nI m.1.length ∧ σ.1 28 1 = nI (m.1 ++ m.2.1).length ∧ σ.1 28 2 = nI (m.1 ++ m.2.1 ++ m.2.2).length ∧ σ.1 0 5 = 1 ∧ σ.1 13 0 = 0 ∧ ∀ c j, c ≠ 13 → c ≠ 14 → c ≠ 16 → c ≠ 22 → c ≠ 28 → ¬ (c = 0 ∧ j = 5) → σ.1 c j = co_sx.1 c j := by
  have h0 : cz_I 0 co_sx := ⟨rfl, fun i hi => absurd hi (Nat.not_lt_zero i), fun _ _ _ _ => rfl⟩
  obtain ⟨F', σ1, hI, e⟩ := cz_loop 35 0 sm_F co_sx (by omega) (by have := sm_Fge; omega) h0
  obtain ⟨r, σ2, h1, h2, h3⟩ := xt_read (β := tz_b) (n := 35) (t := 0) (σ := σ1) (by decide) (fun i hi => tz_bB i hi) (by decide) ⟨hI.1, hI.2.1⟩
  have e0 : xf_X7_init co_sx = xf_X7_init_p141 (F' + 1) σ1 (nI 35) := e
  have h1 : xf_X4_read (16 + (0 : Int32).toNatClampNeg) σ1 = some (r, σ2) := h1
  have g0 : sm_in (0 : Int32) 6 = true := by decide
  have hle : nI 35 ≤ nI 35 := Int32.le_refl _
  have hok := tz_one
  cases hm : ps_tx tz_b 35 with
  | inl q =>
    rw [hm] at hok
    cases hok
  | inr m =>
    rw [hm] at h3
    obtain ⟨-, h4, h5, h6, h7, h8⟩ := h3
    refine ⟨sm_sI (sm_sI σ2 13 0 0) 0 5 1, m, ?_, rfl, h4, fun i hi => ?_, ?_, ?_, ?_, ?_, ?_, fun c j h13 h14 h16 h22 h28 h05 => ?_⟩
    · rw [e0, xf_X7_init_p141, xf_lenT, sm_cS, if_pos hle, g0, sm_gT, h1, sm_cS]
      unfold xf_X4_empty
      rw [sm_bN, sm_cS, sm_bN]
    · rw [sm_rI1 22 i (Or.inl (by decide)), sm_rI1 22 i (Or.inl (by decide))]
      exact h5 i hi
    · rw [sm_rI1 28 0 (Or.inl (by decide)), sm_rI1 28 0 (Or.inl (by decide))]
      exact h6
    · rw [sm_rI1 28 1 (Or.inl (by decide)), sm_rI1 28 1 (Or.inl (by decide))]
      exact h7
    · rw [sm_rI1 28 2 (Or.inl (by decide)), sm_rI1 28 2 (Or.inl (by decide))]
      exact h8
    · simp [sm_sI, va_up, upd]
    · simp [sm_sI, va_up, upd]
    · rw [sm_rI1 c j (by omega), sm_rI1 c j (Or.inl h13), h2 c j (by omega) (by omega) h22 h28, hI.2.2 c j (by omega) h14]
/-- the reference's spelling -/
theorem mz_spell {p : Nat} (hp : p + 8 ≤ 960) (b0 b1 b2 b3 b4 b5 b6 b7 : Int32) (σ : sm_St) : ∃ σ', mf_X8_spell (nI p) b0 b1 b2 b3 b4 b5 b6 b7 σ = some ((), σ') ∧ (σ'.1 1 p = b0 ∧ σ'.1 1 (p + 1) = b1 ∧ σ'.1 1 (p + 2) = b2 ∧ σ'.1 1 (p + 3) = b3 ∧ σ'.1 1 (p + 4) = b4 ∧ σ'.1 1 (p + 5) = b5 ∧ σ'.1 1 (p + 6) = b6 ∧ σ'.1 1 (p + 7) = b7) ∧ (∀ j, j < p ∨ p + 8 ≤ j → σ'.1 1 j = σ.1 1 j) ∧ ∀ c j, c ≠ 1 → σ'.1 c j = σ.1 c j := by
  have e1 : nI p + (1 : Int32) = nI (p + 1) := nI_add p 1
  have e2 : nI p + (2 : Int32) = nI (p + 2) := nI_add p 2
  have e3 : nI p + (3 : Int32) = nI (p + 3) := nI_add p 3
  have e4 : nI p + (4 : Int32) = nI (p + 4) := nI_add p 4
  have e5 : nI p + (5 : Int32) = nI (p + 5) := nI_add p 5
  have e6 : nI p + (6 : Int32) = nI (p + 6) := nI_add p 6
  have e7 : nI p + (7 : Int32) = nI (p + 7) := nI_add p 7
  have g : ∀ k, k < 8 → sm_in (nI (p + k)) 960 = true := fun k hk => sm_inN (n := 960) (by omega) (by decide)
  have c : ∀ k, k < 8 → (nI (p + k)).toNatClampNeg = p + k := fun k hk => nI_cl (by omega)
  have g0 : sm_in (nI p) 960 = true := sm_inN (n := 960) (by omega) (by decide)
  have c0 : (nI p).toNatClampNeg = p := nI_cl (by omega)
  refine ⟨sm_sI (sm_sI (sm_sI (sm_sI (sm_sI (sm_sI (sm_sI (sm_sI σ 1 p b0) 1 (p + 1) b1) 1 (p + 2) b2) 1 (p + 3) b3) 1 (p + 4) b4) 1 (p + 5) b5) 1 (p + 6) b6) 1 (p + 7) b7, ?_, ⟨?_, ?_, ?_, ?_, ?_, ?_, ?_, ?_⟩, fun j hj => ?_, fun x j hx => ?_⟩
  · unfold mf_X8_spell
    simp only [sm_bN, e1, e2, e3, e4, e5, e6, e7, g0, c0, g 1 (by decide), g 2 (by decide), g 3 (by decide), g 4 (by decide), g 5 (by decide), g 6 (by decide), g 7 (by decide), c 1 (by decide), c 2 (by decide), c 3 (by decide), c 4 (by decide), c 5 (by decide), c 6 (by decide), c 7 (by decide), sm_gT]
  all_goals first
    | (simp [sm_sI, va_up, upd]; done)
    | (rw [sm_rI1 1 j (by omega), sm_rI1 1 j (by omega), sm_rI1 1 j (by omega), sm_rI1 1 j (by omega), sm_rI1 1 j (by omega), sm_rI1 1 j (by omega), sm_rI1 1 j (by omega), sm_rI1 1 j (by omega)])
    | (rw [sm_rI1 x j (by omega), sm_rI1 x j (by omega), sm_rI1 x j (by omega), sm_rI1 x j (by omega), sm_rI1 x j (by omega), sm_rI1 x j (by omega), sm_rI1 x j (by omega), sm_rI1 x j (by omega)])
theorem cz_m : ∃ σ, mf_X8_init co_sm = some ((), σ) ∧ (∀ i, i < 40 → σ.1 1 i = nI (tz_c i)) ∧ σ.1 2 0 = nI 40 ∧ σ.1 0 3 = 1 ∧ ∀ c j, c ≠ 1 → c ≠ 2 → ¬ (c = 0 ∧ j = 3) → σ.1 c j = co_sm.1 c j := by
  obtain ⟨s1, e1, a1, k1, o1⟩ := mz_spell (p := 0) (by decide) 98 101 97 114 115 32 53 32 co_sm
  obtain ⟨s2, e2, a2, k2, o2⟩ := mz_spell (p := 8) (by decide) 43 32 108 111 110 103 32 59 s1
  obtain ⟨s3, e3, a3, k3, o3⟩ := mz_spell (p := 16) (by decide) 32 109 111 118 101 115 32 51 s2
  obtain ⟨s4, e4, a4, k4, o4⟩ := mz_spell (p := 24) (by decide) 32 59 32 104 101 97 116 32 s3
  obtain ⟨s5, e5, a5, k5, o5⟩ := mz_spell (p := 32) (by decide) 48 32 59 32 32 32 32 32 s4
  have e1 : mf_X8_spell (0 : Int32) 98 101 97 114 115 32 53 32 co_sm = some ((), s1) := e1
  have e2 : mf_X8_spell (8 : Int32) 43 32 108 111 110 103 32 59 s1 = some ((), s2) := e2
  have e3 : mf_X8_spell (16 : Int32) 32 109 111 118 101 115 32 51 s2 = some ((), s3) := e3
  have e4 : mf_X8_spell (24 : Int32) 32 59 32 104 101 97 116 32 s3 = some ((), s4) := e4
  have e5 : mf_X8_spell (32 : Int32) 48 32 59 32 32 32 32 32 s4 = some ((), s5) := e5
  have g0 : sm_in (0 : Int32) 6 = true := by decide
  have g1 : (0 : Int32).toNatClampNeg = 0 := by decide
  have A1 : ∀ i, i < 8 → s1.1 1 i = nI (tz_c i) := by
    intro i hi
    obtain ⟨b0, b1, b2, b3, b4, b5, b6, b7⟩ := a1
    rcases (show i = 0 ∨ i = 1 ∨ i = 2 ∨ i = 3 ∨ i = 4 ∨ i = 5 ∨ i = 6 ∨ i = 7 by omega) with rfl | rfl | rfl | rfl | rfl | rfl | rfl | rfl
    · exact b0
    · exact b1
    · exact b2
    · exact b3
    · exact b4
    · exact b5
    · exact b6
    · exact b7
  have A2 : ∀ i, i < 16 → s2.1 1 i = nI (tz_c i) := by
    intro i hi
    rcases Nat.lt_or_ge i 8 with h | h
    · rw [k2 i (Or.inl h)]; exact A1 i h
    obtain ⟨b0, b1, b2, b3, b4, b5, b6, b7⟩ := a2
    rcases (show i = 8 ∨ i = 9 ∨ i = 10 ∨ i = 11 ∨ i = 12 ∨ i = 13 ∨ i = 14 ∨ i = 15 by omega) with rfl | rfl | rfl | rfl | rfl | rfl | rfl | rfl
    · exact b0
    · exact b1
    · exact b2
    · exact b3
    · exact b4
    · exact b5
    · exact b6
    · exact b7
  have A3 : ∀ i, i < 24 → s3.1 1 i = nI (tz_c i) := by
    intro i hi
    rcases Nat.lt_or_ge i 16 with h | h
    · rw [k3 i (Or.inl h)]; exact A2 i h
    obtain ⟨b0, b1, b2, b3, b4, b5, b6, b7⟩ := a3
    rcases (show i = 16 ∨ i = 17 ∨ i = 18 ∨ i = 19 ∨ i = 20 ∨ i = 21 ∨ i = 22 ∨ i = 23 by omega) with rfl | rfl | rfl | rfl | rfl | rfl | rfl | rfl
    · exact b0
    · exact b1
    · exact b2
    · exact b3
    · exact b4
    · exact b5
    · exact b6
    · exact b7
  have A4 : ∀ i, i < 32 → s4.1 1 i = nI (tz_c i) := by
    intro i hi
    rcases Nat.lt_or_ge i 24 with h | h
    · rw [k4 i (Or.inl h)]; exact A3 i h
    obtain ⟨b0, b1, b2, b3, b4, b5, b6, b7⟩ := a4
    rcases (show i = 24 ∨ i = 25 ∨ i = 26 ∨ i = 27 ∨ i = 28 ∨ i = 29 ∨ i = 30 ∨ i = 31 by omega) with rfl | rfl | rfl | rfl | rfl | rfl | rfl | rfl
    · exact b0
    · exact b1
    · exact b2
    · exact b3
    · exact b4
    · exact b5
    · exact b6
    · exact b7
  have A5 : ∀ i, i < 40 → s5.1 1 i = nI (tz_c i) := by
    intro i hi
    rcases Nat.lt_or_ge i 32 with h | h
    · rw [k5 i (Or.inl h)]; exact A4 i h
    obtain ⟨b0, b1, b2, b3, b4, b5, b6, b7⟩ := a5
    rcases (show i = 32 ∨ i = 33 ∨ i = 34 ∨ i = 35 ∨ i = 36 ∨ i = 37 ∨ i = 38 ∨ i = 39 by omega) with rfl | rfl | rfl | rfl | rfl | rfl | rfl | rfl
    · exact b0
    · exact b1
    · exact b2
    · exact b3
    · exact b4
    · exact b5
    · exact b6
    · exact b7
  refine ⟨sm_sI (sm_sI s5 2 0 40) 0 3 1, ?_, fun i hi => ?_, ?_, ?_, fun c j h1 h2 h3 => ?_⟩
  · unfold mf_X8_init
    rw [e1, sm_cS, e2, sm_cS, e3, sm_cS, e4, sm_cS, e5, sm_cS, g0, sm_gT, sm_bN, sm_bN, g1]
  · rw [sm_rI1 1 i (Or.inl (by decide)), sm_rI1 1 i (Or.inl (by decide))]
    exact A5 i hi
  · rw [sm_rI1 2 0 (Or.inl (by decide))]
    simp [sm_sI, va_up, upd]
    decide
  · simp [sm_sI, va_up, upd]
  · rw [sm_rI1 c j (by omega), sm_rI1 c j (Or.inl h2), o5 c j h1, o4 c j h1, o3 c j h1, o2 c j h1, o1 c j h1]
