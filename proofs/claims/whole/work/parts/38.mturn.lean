/-! the reference's minute: the smoke turns -/
def nt_M (k : Nat) (S : Nat → Nat → Int32) (σ : sm_St) : Prop := σ.1 0 7 = S 0 0 ∧ σ.1 0 38 = S 0 1 ∧ ((S 0 2 = -1 ∧ σ.1 0 37 = 0) ∨ ∃ x, x < k ∧ S 0 2 = nI x ∧ σ.1 0 37 = nI (2 ^ x) ∧ σ.1 12 x = S 0 3) ∧ ∀ x, x < k → σ.1 6 x = S 1 x ∧ σ.1 7 x = S 2 x ∧ σ.1 8 x = S 3 x ∧ σ.1 9 x = S 4 x ∧ σ.1 10 x = S 5 x ∧ σ.1 11 x = S 6 x
/-- what a night of the reference may write -/
def nt_fm (c j : Nat) : Bool := (c == 0 && (j == 7 || j == 37 || j == 38 || (decide (16 ≤ j) && decide (j ≤ 30)))) || (c == 6 && decide (j < 5)) || c == 7 || c == 8 || c == 9 || c == 10 || c == 11 || c == 12
def nt_MF (σ0 σ : sm_St) : Prop := ∀ c j, nt_fm c j = false → σ.1 c j = σ0.1 c j
theorem nt_MF.set {σ0 σ : sm_St} {c j : Nat} {v : Int32} (h : nt_MF σ0 σ) (g : nt_fm c j = true) : nt_MF σ0 (sm_sI σ c j v) := by
  intro d i hd
  by_cases e : d = c ∧ i = j
  · rw [e.1, e.2, g] at hd
    cases hd
  · rw [sm_rI1 d i (by omega)]
    exact h d i hd
/-- what a sitter's cost is told to be -/
def nt_MP (k : Nat) (P : Int32 → Nat → Int32 → Int32 → Int32 → Int32 → Int32) (σ0 : sm_St) : Prop := ∀ σ, nt_MF σ0 σ → ∀ (pt m l : Int32) (x : Nat), pt = 0 ∨ pt = 1 ∨ pt = 2 → x < k → sm_ok (mf_X8_says pt (nI x) m l σ) (fun v s => v = P pt x (σ.1 6 x) (σ.1 0 7) m l ∧ (0 ≤ v ∧ v ≤ 99) ∧ (∀ c, c ≠ 0 → s.1 c = σ.1 c) ∧ ∀ j, ¬ (16 ≤ j ∧ j ≤ 30) → s.1 0 j = σ.1 0 j)
theorem nt_MF.ext {σ0 σ s : sm_St} (h : nt_MF σ0 σ) (g : ∀ c, c ≠ 0 → s.1 c = σ.1 c) (g2 : ∀ j, ¬ (16 ≤ j ∧ j ≤ 30) → s.1 0 j = σ.1 0 j) : nt_MF σ0 s := by
  intro c j hc
  by_cases e : c = 0
  · subst e
    rw [g2 j (fun e => by simp [nt_fm, e.1, e.2] at hc)]
    exact h 0 j hc
  · rw [g c e]
    exact h c j hc
theorem pu_bit : ∀ x, x < 5 → ∀ i, i < 5 → nI (2 ^ x) >>> (nI i &&& 31) &&& 1 = if i = x then 1 else 0 := by decide
theorem pu_bit0 : ∀ i, i < 5 → (0 : Int32) >>> (nI i &&& 31) &&& 1 = 0 := by decide
theorem mf_roundN {q : Nat} {w : Int32} {σ : sm_St} (hq : q < 8) (hw : -1 ≤ w ∧ w ≤ 1) : mf_X8_round (nI q + w) σ = some ((nI q + w) &&& 7, σ) := by
  have h1 : 0 ≤ nI q := nI_pos' (by omega)
  have h2 : nI q ≤ nI 7 := nI_le (by omega) (by omega)
  have h3 : nI 7 = 7 := rfl
  rw [h3] at h2
  exact mf_round σ (by grind) (by grind)
theorem mf_roundM {q p : Nat} {σ : sm_St} (hq : q < 8) (hp : p < 8) : mf_X8_round (nI q - nI p) σ = some ((nI q - nI p) &&& 7, σ) := by
  have h1 : 0 ≤ nI q := nI_pos' (by omega)
  have h2 : nI q ≤ nI 7 := nI_le (by omega) (by omega)
  have h4 : 0 ≤ nI p := nI_pos' (by omega)
  have h5 : nI p ≤ nI 7 := nI_le (by omega) (by omega)
  have h3 : nI 7 = 7 := rfl
  rw [h3] at h2 h5
  exact mf_round σ (by grind) (by grind)
section
variable {k : Nat} {P : Int32 → Nat → Int32 → Int32 → Int32 → Int32 → Int32} {σ0 σ : sm_St} {S : Nat → Nat → Int32}
theorem mf_turnsN {a1 : Int32} {x : Nat} (h5 : k ≤ 5) (h15 : σ.1 0 15 = nI k) (hb : ∀ i, i < k → σ.1 0 37 >>> (nI i &&& 31) &&& 1 = if i = x then 1 else 0) : sm_ok (mf_X8_turns_p92 a1 σ) (fun _ s => (∀ c j, ¬ (c = 0 ∧ j = 38) → s.1 c j = σ.1 c j) ∧ s.1 0 38 = if x < k ∧ σ.1 12 x ≠ σ.1 0 7 then σ.1 0 38 + 1 else σ.1 0 38) := by
  obtain ⟨s, f, e1, e2, e3⟩ := lp_c (mf_X8_turns_p94 a1) (fun i s => (∀ c j, ¬ (c = 0 ∧ j = 38) → s.1 c j = σ.1 c j) ∧ s.1 0 38 = if x < i ∧ σ.1 12 x ≠ σ.1 0 7 then σ.1 0 38 + 1 else σ.1 0 38) k σ (by omega) ⟨fun _ _ _ => rfl, by simp⟩ (by
    intro i s n hi ⟨g1, g2⟩
    have nl : ¬ nI k ≤ nI i := nI_ge hi (by omega)
    have b15 : s.1 0 15 = nI k := by rw [g1 0 15 (by decide), h15]
    have b37 : s.1 0 37 = σ.1 0 37 := g1 0 37 (by decide)
    have b7 : s.1 0 7 = σ.1 0 7 := g1 0 7 (by decide)
    have b12 : s.1 12 i = σ.1 12 i := g1 12 i (by simp)
    refine ⟨sm_sI s 0 38 (if x < i + 1 ∧ σ.1 12 x ≠ σ.1 0 7 then σ.1 0 38 + 1 else σ.1 0 38), ?_, fun c j hc => ?_, sm_rE⟩
    · rw [mf_X8_turns_p94]
      simp only [sm_bS, b15, nl, if_false, b37, hb i hi, sm_gIn (show i < 5 by omega) (by decide : 5 < 2 ^ 31), nI_cl (show i < 2 ^ 31 by omega), b12, b7, mf_X8_turns_p136, mf_X8_turns_p137, nI_inc, g2]
      by_cases e : i = x
      · subst e
        simp only [if_true]
        by_cases c2 : σ.1 12 i = σ.1 0 7
        · simp [c2]
        · simp [c2]
      · simp only [e, if_false, i01]
        have e2 : x < i + 1 ↔ x < i := by omega
        simp [e2]
    · rw [sm_rI1 c j (by omega)]
      exact g1 c j hc)
  unfold mf_X8_turns_p92
  rw [e1, mf_X8_turns_p94]
  have b15 : s.1 0 15 = nI k := by rw [e2 0 15 (by decide), h15]
  simp only [sm_bS, b15]
  rw [if_pos (nI_le (Nat.le_refl k) (by omega))]
  exact ok_some.mpr ⟨e2, e3⟩
theorem mf_turnsE {w ed : Int32} {m : Nat} (h5 : k ≤ 5) (h15 : σ.1 0 15 = nI k) (hS : nt_M k S σ) (hg : nt_good k m S) (hw : -1 ≤ w ∧ w ≤ 1) (he : σ.1 0 11 = ed) (he1 : ed = 0 ∨ ed = 1) : sm_ok (mf_X8_turns w σ) (fun _ s => s.1 0 7 = nt_sk ed S w ∧ s.1 0 38 = nt_ne S (nt_sk ed S w) ∧ ∀ c j, ¬ (c = 0 ∧ (j = 7 ∨ j = 38)) → s.1 c j = σ.1 c j) := by
  obtain ⟨q1, q2, q3, q4⟩ := hS
  obtain ⟨⟨q, hq, g1⟩, g2, g3, g4⟩ := hg
  have fin : ∀ (t : sm_St) (sk : Int32), (∀ c j, ¬ (c = 0 ∧ j = 7) → t.1 c j = σ.1 c j) → t.1 0 7 = sk → sm_ok (mf_X8_turns_p92 w t) (fun _ s => s.1 0 7 = sk ∧ s.1 0 38 = nt_ne S sk ∧ ∀ c j, ¬ (c = 0 ∧ (j = 7 ∨ j = 38)) → s.1 c j = σ.1 c j) := by
    intro t sk h1 h2
    have b15 : t.1 0 15 = nI k := by rw [h1 0 15 (by decide), h15]
    have b37 : t.1 0 37 = σ.1 0 37 := h1 0 37 (by decide)
    have b38 : t.1 0 38 = S 0 1 := by rw [h1 0 38 (by decide), q2]
    unfold nt_ne
    rcases q3 with ⟨r1, r2⟩ | ⟨x, hx, r1, r2, r3⟩
    · refine ok_mono (mf_turnsN (x := 31) h5 b15 (fun i hi => by rw [b37, r2, pu_bit0 i (by omega), if_neg (by omega)])) (fun _ s ⟨e1, e2⟩ => ⟨?_, ?_, fun c j hc => ?_⟩)
      · rw [e1 0 7 (by decide), h2]
      · have : S 0 3 = -1 := by
          rcases g2 with g | ⟨y, p, hy, -, g, -⟩
          · exact g.2
          · rw [r1] at g
            exact absurd g.symm (nI_ne1 (by omega))
        rw [e2, if_neg (by omega), if_pos this, b38]
      · rw [e1 c j (by omega), h1 c j (by omega)]
    · refine ok_mono (mf_turnsN (x := x) h5 b15 (fun i hi => by rw [b37, r2, pu_bit x (by omega) i (by omega)])) (fun _ s ⟨e1, e2⟩ => ⟨?_, ?_, fun c j hc => ?_⟩)
      · rw [e1 0 7 (by decide), h2]
      · have : ¬ S 0 3 = -1 := by
          rcases g2 with g | ⟨y, p, hy, hp, -, g⟩
          · rw [r1] at g
            exact absurd g.1 (nI_ne1 (by omega))
          · rw [g]
            exact nI_ne1 (by omega)
        rw [e2, if_neg this, h1 12 x (by simp), r3, h2, b38]
        by_cases c : sk = S 0 3
        · simp [c]
        · simp [c, hx, Ne.symm c]
      · rw [e1 c j (by omega), h1 c j (by omega)]
  unfold mf_X8_turns
  simp only [sm_bS, q1, g1, mf_roundN hq hw, sm_cS, sm_rI1 0 11 (Or.inr (by decide : 11 ≠ 7)), he, sm_rI1 0 37 (Or.inr (by decide : 37 ≠ 7))]
  have f0 : ∀ (v : Int32) c j, ¬ (c = 0 ∧ j = 7) → (sm_sI σ 0 7 v).1 c j = σ.1 c j := fun v c j h => sm_rI1 c j (by omega)
  unfold nt_sk
  rw [g1]
  rcases he1 with e | e
  · subst e
    simp only [i01, if_false, if_true]
    exact fin _ _ (f0 _) sm_rE
  · subst e
    simp only [i10, if_false, if_true]
    rcases q3 with ⟨r1, r2⟩ | ⟨x, hx, r1, r2, r3⟩
    · simp only [r1, r2, if_true]
      exact fin _ _ (f0 _) sm_rE
    · have n0 : ¬ nI (2 ^ x) = 0 := nI_ne0 (Nat.two_pow_pos x) (by have : 2 ^ x ≤ 2 ^ 5 := Nat.pow_le_pow_right (by decide) (by omega); omega)
      have n1 : ¬ nI x = -1 := nI_ne1 (by omega)
      obtain ⟨⟨p, hp, px⟩, -⟩ := g3 x hx
      simp only [r1, r2, n0, n1, if_false, nI_cl (show x < 2 ^ 31 by omega), px]
      generalize e7 : nI q + w &&& 7 = a
      obtain ⟨b, hb, ab⟩ := pu_and8 (nI q + w)
      rw [e7] at ab
      have b37 : (sm_sI σ 0 7 a).1 0 37 = nI (2 ^ x) := by rw [sm_rI1 0 37 (by decide), r2]
      have b6 : (sm_sI σ 0 7 a).1 6 x = nI p := by rw [sm_rI 6 (by decide), (q4 x hx).1, px]
      obtain ⟨s, f, e1, e2⟩ := lp_c (mf_X8_turns_p30 w) (fun i s => s = sm_sI σ 0 7 a) x (sm_sI σ 0 7 a) (by omega) rfl (by
        intro i s n hi hs
        subst hs
        refine ⟨_, ?_, rfl⟩
        rw [mf_X8_turns_p30]
        simp only [sm_bS, b37, pu_bit x (by omega) i (by omega), nI_inc]
        rw [if_neg (show ¬ i = x by omega), if_pos rfl])
      subst e2
      rw [e1, mf_X8_turns_p30]
      simp only [sm_bS, b37, pu_bit x (by omega) x (by omega), if_true, i10, if_false, sm_gIn (show x < 5 by omega) (by decide : 5 < 2 ^ 31), nI_cl (show x < 2 ^ 31 by omega), b6, sm_rE]
      rw [ab, mf_roundM hp hb]
      simp only [sm_cS, sm_bS, mf_X8_turns_p85, sm_rE]
      by_cases c3 : nI p - nI b &&& 7 = 0
      · simp only [c3, if_true]
        rw [mf_roundN (w := 0) hb (by decide)]
        simp only [sm_cS]
        have z : nI b + 0 &&& 7 = nI b := (by decide : ∀ b, b < 8 → nI b + 0 &&& 7 = nI b) b hb
        rw [z]
        exact fin _ _ (fun c j h => by rw [sm_rI1 c j (by omega), sm_rI1 c j (by omega)]) sm_rE
      · simp only [c3, if_false]
        by_cases c4 : 4 < nI p - nI b &&& 7
        · simp only [c4, if_true]
          rw [mf_roundN (w := -1) hb (by decide)]
          exact fin _ _ (fun c j h => by rw [sm_rI1 c j (by omega), sm_rI1 c j (by omega)]) sm_rE
        · simp only [c4, if_false]
          rw [mf_roundN (w := 1) hb (by decide)]
          exact fin _ _ (fun c j h => by rw [sm_rI1 c j (by omega), sm_rI1 c j (by omega)]) sm_rE
end
