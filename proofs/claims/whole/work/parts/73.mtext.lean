/-! a text whole: the reference -/
section
variable {β : Nat → Nat} {n p t o : Nat} {σ : sm_St} {env : Nat → Int32}
def cm_Z (β : Nat → Nat) (n t : Nat) (env : Nat → Int32) (v : Int32) (σ : sm_St) : Sum Nat (List Int32 × Nat) → Prop
  | .inl q => ¬ σ.1 0 29 = 0 ∧ σ.1 0 30 = nI q
  | .inr m => cm_S β n t 0 env σ ∧ tm_At β n m.2 σ ∧ m.2 ≤ n ∧ tx_ok env m.1 v
theorem mt_part {k : Nat} (hn : n ≤ 160) (hβ : ∀ i, i < n → β i < 256) (ht : t < 6) (hk : k < 3) (hp : p ≤ n) (hS : cm_S β n t 0 env σ) (hA : tm_At β n p σ) : ∃ v σ', mf_X8_part (if tx_c β n p = 262 + k then 1 else 0) σ = some (v, σ') ∧ cm_F σ σ' ∧ cm_Z β n t env v σ' (ps_pt β n k p) := by
  unfold ps_pt
  have bad : ∀ (a : Int32) (y : sm_St) (v : Int32), ¬ y.1 0 29 = 0 → mf_X8_part_p34 a y v = some (v, y) := by
    intro a y v h
    unfold mf_X8_part_p34
    rw [mf_signB h]
    simp only [sm_cS, if_true, mf_failB h, mf_X8_part_p48, sm_bN, h, if_false]
  by_cases c : tx_c β n p = 262 + k
  · rw [if_pos c, if_pos c]
    obtain ⟨u, u1, u2, u3, u4, u5, u6⟩ := ms_step hn ht hβ hp hS hA (by omega) (by omega)
    obtain ⟨v, w, w1, w2, w3⟩ := ms_all hn hβ ht 64 5 0 (tx_e β n p) u (by decide) (by decide) (by decide) u6 u3 u4
    have w1 : mf_X8_either_r u = some (v, w) := w1
    have e0 : mf_X8_part 1 σ = mf_X8_part_p34 1 w v := by
      unfold mf_X8_part mf_X8_part_p8 mf_X8_part_p19
      simp only [i10, if_false, sm_bN, hS.2.2.1, if_true, u1, sm_cS, u3.2.2.1, w1]
    rw [e0]
    cases e : ps_rd β n 64 5 0 (tx_e β n p) with
    | inl q =>
      rw [e] at w3
      rw [bad 1 w v w3.1]
      exact ⟨v, w, rfl, u2.tr w2, w3⟩
    | inr m =>
      rw [e] at w3
      obtain ⟨w4, w5, w6, w7, w8⟩ := w3
      have S59 : mf_X8_isSign 59 w = some (if tx_c β n m.2 = 59 then 1 else 0, w) := mf_signE (k := 59) rfl w4.2.2.1 w5
      unfold mf_X8_part_p34
      rw [S59]
      dsimp only
      by_cases c1 : tx_c β n m.2 = 59
      · obtain ⟨y, y1, y2, y3, y4, y5, y6⟩ := ms_step hn ht hβ w6 w4 w5 (by omega) (by omega)
        rw [if_pos c1, if_pos c1]
        simp only [sm_cS, i10, if_false, mf_X8_part_p48, sm_bN, w4.2.2.1, if_true, y1]
        exact ⟨v, y, rfl, (u2.tr w2).tr y2, y3, y4, y6, w7⟩
      · obtain ⟨y, y1, y2, y3, y4⟩ := mf_failE w4.2.2.1
        rw [if_neg c1, if_neg c1]
        simp only [sm_cS, if_true, y1, mf_X8_part_p48, sm_bN, y3, if_false]
        exact ⟨v, y, rfl, (u2.tr w2).tr y2, y3, by rw [y4]; exact w5.1⟩
  · rw [if_neg c, if_neg c]
    obtain ⟨y, y1, y2, y3, y4⟩ := mf_failE hS.2.2.1
    have e0 : mf_X8_part 0 σ = mf_X8_part_p34 0 y 0 := by
      unfold mf_X8_part mf_X8_part_p8 mf_X8_part_p19
      simp only [if_true, y1, sm_cS, sm_bN, y3, if_false]
    rw [e0, bad 0 y 0 y3]
    exact ⟨0, y, rfl, y2, y3, by rw [y4]; exact hA.1⟩
def cm_R (env : Nat → Int32) (pt v : Int32) (σ : sm_St) : Sum Nat (List Int32 × List Int32 × List Int32) → Prop
  | .inl q => ¬ σ.1 0 29 = 0 ∧ σ.1 0 30 = nI q
  | .inr m => σ.1 0 29 = 0 ∧ ∃ a b c, tx_ok env m.1 a ∧ tx_ok env m.2.1 b ∧ tx_ok env m.2.2 c ∧ v = if pt = 0 then a else if pt = 1 then b else c
theorem mt_read {pt : Int32} (hn : n ≤ 160) (hβ : ∀ i, i < n → β i < 256) (ht : t < 6) (h2 : σ.1 2 t = nI n) (hb : ∀ i, i < n → σ.1 1 (160 * t + i) = nI (β i)) : ∃ v σ', mf_X8_read (nI t) pt σ = some (v, σ') ∧ (∀ c j, ¬ (c = 0 ∧ 22 ≤ j ∧ j ≤ 30) → σ'.1 c j = σ.1 c j) ∧ cm_R (fun i => σ.1 0 (16 + i)) pt v σ' (ps_tx β n) := by
  have em : (160 : Int32) * nI t = nI (160 * t) := pk_mul 160 t
  unfold mf_X8_read
  simp only [sm_bN, em, sm_gIn ht (by decide : 6 < 2 ^ 31), nI_cl (show t < 2 ^ 31 by omega), sm_rI 2 (show 2 ≠ 0 by decide), h2]
  generalize e0 : sm_sI (sm_sI (sm_sI (sm_sI (sm_sI σ 0 22 (nI (160 * t))) 0 23 (nI n)) 0 24 0) 0 28 0) 0 29 0 = s
  have fr : ∀ c j, ¬ (c = 0 ∧ 22 ≤ j ∧ j ≤ 30) → s.1 c j = σ.1 c j := fun c j hc => by
    have z2 : c ≠ 0 ∨ j ≠ 22 := by omega
    have z3 : c ≠ 0 ∨ j ≠ 23 := by omega
    have z4 : c ≠ 0 ∨ j ≠ 24 := by omega
    have z8 : c ≠ 0 ∨ j ≠ 28 := by omega
    have z9 : c ≠ 0 ∨ j ≠ 29 := by omega
    rw [← e0, sm_rI1 c j z9, sm_rI1 c j z8, sm_rI1 c j z4, sm_rI1 c j z3, sm_rI1 c j z2]
  have S0 : cm_S β n t 0 (fun i => σ.1 0 (16 + i)) s := by
    refine ⟨⟨?_, ?_, fun i hi => ?_⟩, ?_, ?_, fun i hi => ?_⟩
    · rw [← e0]
      simp (config := { decide := true }) only [sm_rI1, ne_eq, not_false_eq_true, true_or, or_true, sm_rE]
    · rw [← e0]
      simp (config := { decide := true }) only [sm_rI1, ne_eq, not_false_eq_true, true_or, or_true, sm_rE]
    · rw [fr 1 _ (by omega)]
      exact hb i hi
    · rw [← e0]
      simp (config := { decide := true }) only [sm_rI1, ne_eq, not_false_eq_true, true_or, or_true, sm_rE]
    · rw [← e0]
      exact sm_rE
    · exact fr 0 _ (by omega)
  have h24 : s.1 0 24 = nI 0 := by
    rw [← e0]
    simp (config := { decide := true }) only [sm_rI1, ne_eq, not_false_eq_true, true_or, or_true, sm_rE]
  obtain ⟨u, u1, u2, u3⟩ := mf_nextE (p := 0) hn ht hβ (Nat.zero_le _) S0.1 h24
  have Su := S0.f u2
  have fu : ∀ c j, ¬ (c = 0 ∧ 22 ≤ j ∧ j ≤ 30) → u.1 c j = σ.1 c j := fun c j hc => by rw [u2 c j (by omega), fr c j hc]
  have FF : ∀ {a b : sm_St}, (∀ c j, ¬ (c = 0 ∧ 22 ≤ j ∧ j ≤ 30) → a.1 c j = σ.1 c j) → cm_F a b → ∀ c j, ¬ (c = 0 ∧ 22 ≤ j ∧ j ≤ 30) → b.1 c j = σ.1 c j := fun {a b} h g c j hc => by rw [g c j (by omega), h c j hc]
  have W0 : mf_X8_isWord 98 101 97 114 115 0 0 0 u = some (if tx_c β n 0 = 256 + 6 then 1 else 0, u) := mf_wordN [98, 101, 97, 114, 115, 0, 0, 0] 6 hn ht hβ (Nat.zero_le _) Su u3 (by decide) (by decide)
  obtain ⟨va, w, w1, w2, w3⟩ := mt_part (k := 0) hn hβ ht (by decide) (Nat.zero_le _) Su u3
  have w1 : mf_X8_part (if tx_c β n 0 = 256 + 6 then 1 else 0) u = some (va, w) := w1
  have fw := FF fu w2
  rw [u1]
  simp only [sm_cS]
  rw [W0]
  simp only [sm_cS]
  rw [w1]
  simp only [sm_cS, sm_bN]
  have end145 : ∀ (y : sm_St) (a b c : Int32), ∃ v, mf_X8_read_p145 (nI t) pt y a b c = some (v, y) ∧ v = if pt = 0 then a else if pt = 1 then b else c := by
    intro y a b c
    unfold mf_X8_read_p145
    by_cases z : pt = 0
    · rw [if_pos z, if_pos z]; exact ⟨a, rfl, rfl⟩
    · rw [if_neg z, if_neg z]
      by_cases z1 : pt = 1
      · rw [if_pos z1, if_pos z1]; exact ⟨b, rfl, rfl⟩
      · rw [if_neg z1, if_neg z1]; exact ⟨c, rfl, rfl⟩
  have bad125 : ∀ (y : sm_St) (a b c : Int32), ¬ y.1 0 29 = 0 → ∃ v, mf_X8_read_p125 (nI t) pt y a b c = some (v, y) := by
    intro y a b c h
    obtain ⟨v, v1, -⟩ := end145 y a b c
    refine ⟨v, ?_⟩
    unfold mf_X8_read_p125
    simp only [sm_bN, h, if_false]
    exact v1
  have bad92 : ∀ (y : sm_St) (a b : Int32), ¬ y.1 0 29 = 0 → ∃ v, mf_X8_read_p92 (nI t) pt y a b = some (v, y) := by
    intro y a b h
    obtain ⟨v, v1⟩ := bad125 y a b 0 h
    refine ⟨v, ?_⟩
    unfold mf_X8_read_p92
    simp only [sm_bN, h, if_false]
    exact v1
  unfold ps_tx
  cases q0 : ps_pt β n 0 0 with
  | inl q =>
    rw [q0] at w3
    obtain ⟨v, v1⟩ := bad92 w va 0 w3.1
    rw [if_neg w3.1]
    exact ⟨v, w, v1, fw, w3⟩
  | inr a =>
    rw [q0] at w3
    obtain ⟨w4, w5, w6, w7⟩ := w3
    dsimp only
    rw [if_pos w4.2.2.1]
    have W1 : mf_X8_isWord 109 111 118 101 115 0 0 0 w = some (if tx_c β n a.2 = 256 + 7 then 1 else 0, w) := mf_wordN [109, 111, 118, 101, 115, 0, 0, 0] 7 hn ht hβ w6 w4 w5 (by decide) (by decide)
    obtain ⟨vb, y, y1, y2, y3⟩ := mt_part (k := 1) hn hβ ht (by decide) w6 w4 w5
    have y1 : mf_X8_part (if tx_c β n a.2 = 256 + 7 then 1 else 0) w = some (vb, y) := y1
    have fy := FF fw y2
    rw [W1]
    simp only [sm_cS]
    rw [y1]
    simp only [sm_cS]
    cases q1 : ps_pt β n 1 a.2 with
    | inl q =>
      rw [q1] at y3
      obtain ⟨v, v1⟩ := bad92 y va vb y3.1
      exact ⟨v, y, v1, fy, y3⟩
    | inr b =>
      rw [q1] at y3
      obtain ⟨y4, y5, y6, y7⟩ := y3
      dsimp only
      have W2 : mf_X8_isWord 104 101 97 116 0 0 0 0 y = some (if tx_c β n b.2 = 256 + 8 then 1 else 0, y) := mf_wordN [104, 101, 97, 116, 0, 0, 0, 0] 8 hn ht hβ y6 y4 y5 (by decide) (by decide)
      obtain ⟨vc, z, z1, z2, z3⟩ := mt_part (k := 2) hn hβ ht (by decide) y6 y4 y5
      have z1 : mf_X8_part (if tx_c β n b.2 = 256 + 8 then 1 else 0) y = some (vc, z) := z1
      have fz := FF fy z2
      unfold mf_X8_read_p92
      simp only [sm_bN, y4.2.2.1, if_true]
      rw [W2]
      simp only [sm_cS]
      rw [z1]
      simp only [sm_cS]
      cases q2 : ps_pt β n 2 b.2 with
      | inl q =>
        rw [q2] at z3
        obtain ⟨v, v1⟩ := bad125 z va vb vc z3.1
        exact ⟨v, z, v1, fz, z3⟩
      | inr c =>
        rw [q2] at z3
        obtain ⟨z4, z5, z6, z7⟩ := z3
        dsimp only
        have tk : z.1 0 25 = 0 ↔ tx_c β n c.2 = 0 := by
          rcases z5.2 with ⟨g1, g2⟩ | ⟨g1, g2, -⟩ | ⟨g2, -, -, -, g1⟩ | ⟨g1, g2, -⟩ | ⟨g1, g2⟩
          · exact ⟨fun _ => g1, fun _ => g2⟩
          · rw [g2]
            exact ⟨fun e => absurd e (by decide), fun e => by omega⟩
          · have := tx_wlB (tx_wm β (tx_s β n c.2) (tx_e β n c.2)) 12
            rw [g2]
            exact ⟨fun e => absurd e (by decide), fun e => by omega⟩
          · rw [g2]
            refine ⟨fun e => absurd e (by decide), fun e => ?_⟩
            rw [e] at g1
            cases g1
          · rw [g2]
            exact ⟨fun e => absurd e (by decide), fun e => by omega⟩
        unfold mf_X8_read_p125
        simp only [sm_bN, z4.2.2.1, if_true]
        by_cases cz : tx_c β n c.2 = 0
        · obtain ⟨v, v1, v2⟩ := end145 z va vb vc
          rw [if_pos (tk.mpr cz), if_pos cz]
          exact ⟨v, z, v1, fz, z4.2.2.1, va, vb, vc, w7, y7, z7, v2⟩
        · obtain ⟨x, x1, x2, x3, x4⟩ := mf_failE z4.2.2.1
          obtain ⟨v, v1, -⟩ := end145 x va vb vc
          rw [if_neg (mt tk.mp cz), if_neg cz, x1]
          simp only [sm_cS]
          exact ⟨v, x, v1, FF fz x2, x3, by rw [x4]; exact z5.1⟩
end
