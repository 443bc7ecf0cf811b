/-! the reference's minute: all feel it -/
set_option maxRecDepth 8000 in
theorem pu_half : ∀ n, n < 200 → (0 : Int32) ≤ nI n / 2 := by decide
theorem nt_isE {k x : Nat} {te sk : Int32} {pl : Nat → Int32} (h5 : k ≤ 5) (hx : x < k) (hd : ∀ i j, i < k → j < k → pl i = pl j → i = j) : nI x = nt_wh k te sk pl ↔ (pl x = sk ∧ te >>> (sk &&& 31) &&& 1 = 0) := by
  unfold nt_wh
  rcases pu_and1 (te >>> (sk &&& 31)) with c | c
  · rw [c, if_neg i01]
    constructor
    · intro e
      have n : ¬ pu_find (fun x => decide (pl x = sk)) k 0 = -1 := by rw [← e]; exact nI_ne1 (by omega)
      obtain ⟨j, -, j2, j3, j4⟩ := pu_find_some k 0 n
      rw [j3] at e
      have := (nI_eq (by omega) (by omega)).mp e
      subst this
      exact ⟨of_decide_eq_true j4, rfl⟩
    · intro ⟨e, _⟩
      have n : ¬ pu_find (fun x => decide (pl x = sk)) k 0 = -1 := by
        intro z
        have := (pu_find_none k 0 (by omega)).mp z x (by omega) (by omega)
        exact absurd e (of_decide_eq_false this)
      obtain ⟨j, -, j2, j3, j4⟩ := pu_find_some k 0 n
      rw [j3, hd x j hx (by omega) (e.trans (of_decide_eq_true j4).symm)]
  · rw [c, if_pos rfl]
    constructor
    · intro e
      exact absurd e (nI_ne1 (by omega))
    · intro ⟨_, e⟩
      exact absurd e i10
section
variable {k : Nat} {P : Int32 → Nat → Int32 → Int32 → Int32 → Int32 → Int32} {σ0 σ : sm_St} {S : Nat → Nat → Int32}
theorem mf_bearsE {x l : Nat} {m : Int32} (h5 : k ≤ 5) (hp : nt_MP k P σ0) (hF : nt_MF σ0 σ) (hx : x < k) (hl : l < 100) : sm_ok (mf_X8_bearsOf (nI x) m (nI l) σ) (fun v s => v = pu_bears (σ0.1 4 x) (P 0 x (σ.1 6 x) (σ.1 0 7) m (nI l)) (nI l) ∧ (∀ c, c ≠ 0 → s.1 c = σ.1 c) ∧ ∀ j, ¬ (16 ≤ j ∧ j ≤ 30) → s.1 0 j = σ.1 0 j) := by
  unfold mf_X8_bearsOf
  simp only [sm_bS, sm_gIn (show x < 5 by omega) (by decide : 5 < 2 ^ 31), nI_cl (show x < 2 ^ 31 by omega)]
  refine ok_c (hp σ hF 0 m (nI l) x (by decide) hx) (fun v s ⟨h1, h2, h3, h4⟩ => ?_)
  rw [hF 4 x (by simp [nt_fm]), ← h1]
  obtain ⟨a, ha, e⟩ := nI_ofR (x := v) (n := 100) (by decide) h2.1 (by have e : nI 100 = 100 := rfl; rw [e]; grind)
  subst e
  have p0 : 0 ≤ nI a := nI_pos' (by omega)
  have p1 : nI a ≤ nI 99 := nI_le (by omega) (by decide)
  have p2 : nI 99 = 99 := rfl
  rw [p2] at p1
  have pl0 : 0 ≤ nI l := nI_pos' (by omega)
  have pl1 : nI l ≤ nI 99 := nI_le (by omega) (by decide)
  rw [p2] at pl1
  have hh : 0 ≤ (nI a + nI l) / 2 := by rw [nI_add]; exact pu_half _ (by omega)
  unfold pu_bears
  simp only [g_2, mf_X8_bearsOf_p86]
  have q1 : 0 ≤ 2 * nI a := by grind
  have q2 : 0 ≤ nI a + nI l := by grind
  by_cases c1 : σ0.1 4 x = 1
  · simp only [c1, if_true, q1]; exact ok_some.mpr ⟨rfl, h3, h4⟩
  · by_cases c2 : σ0.1 4 x = 2
    · simp only [c1, c2, if_true, if_false, q2]
      exact ok_some.mpr ⟨rfl, h3, h4⟩
    · by_cases c3 : σ0.1 4 x = 3
      · simp only [c1, c2, c3, if_true, if_false]
        by_cases d : 0 ≤ 2 * nI a - 1
        · simp only [d, if_true]
          refine ok_some.mpr ⟨?_, h3, h4⟩
          clear c1 c2 c3
          grind
        · simp only [d, if_false]
          refine ok_some.mpr ⟨?_, h3, h4⟩
          clear c1 c2 c3
          grind
      · by_cases c4 : σ0.1 4 x = 4
        · simp only [c1, c2, c3, c4, if_true, if_false, hh]
          exact ok_some.mpr ⟨rfl, h3, h4⟩
        · by_cases c5 : σ0.1 4 x = 5
          · simp only [c1, c2, c3, c4, c5, if_true, if_false, Int32.le_refl]
            exact ok_some.mpr ⟨rfl, h3, h4⟩
          · simp only [c1, c2, c3, c4, c5, if_true, if_false, p0]
            exact ok_some.mpr ⟨rfl, h3, h4⟩
theorem mf_tail {a1 a2 : Int32} {k10 : sm_St → Int32 → Int32 → Option (Unit × sm_St)} {x : Nat} {l3 b v c : Int32} {s : sm_St} (g5 : x < 5) (hb : b = 0 ∨ b = 1) : ∃ t, mf_X8_passes_p121 a1 a2 k10 s l3 (nI x) b v c (nI x) = k10 t (l3 ||| b <<< (nI x &&& 31)) (nI (x + 1)) ∧ t.1 8 = upd (s.1 8) x (c + v) ∧ t.1 9 = upd (s.1 9) x (s.1 9 x + b) ∧ t.1 10 = upd (s.1 10) x (if s.1 7 x ≤ s.1 10 x then s.1 10 x else s.1 7 x) ∧ (∀ c, c ≠ 8 → c ≠ 9 → c ≠ 10 → t.1 c = s.1 c) := by
  unfold mf_X8_passes_p121 mf_X8_passes_p141 mf_X8_passes_p183 mf_X8_passes_p195
  simp only [sm_bS, sm_gIn g5 (by decide : 5 < 2 ^ 31), nI_cl (show x < 2 ^ 31 by omega), nI_inc, sm_rI 9 (by decide : 9 ≠ 8), sm_rI 7 (by decide : 7 ≠ 8), sm_rI 7 (by decide : 7 ≠ 9), sm_rI 10 (by decide : 10 ≠ 8), sm_rI 10 (by decide : 10 ≠ 9)]
  refine ⟨sm_sI (sm_sI (sm_sI s 8 x (c + v)) 9 x (s.1 9 x + b)) 10 x (if s.1 7 x ≤ s.1 10 x then s.1 10 x else s.1 7 x), ?_, ?_, ?_, ?_, fun d d8 d9 d10 => ?_⟩
  · rcases hb with e | e
    · subst e
      simp only [if_true]
      split <;> rfl
    · subst e
      simp only [i10, if_false]
      split <;> rfl
  · rw [sm_rI 8 (by decide), sm_rI 8 (by decide), sm_sIk.1]
  · rw [sm_rI 9 (by decide), sm_sIk.1, sm_rI 9 (by decide)]
  · rw [sm_sIk.1, sm_rI 10 (by decide), sm_rI 10 (by decide)]
  · rw [sm_rI d d10, sm_rI d d9, sm_rI d d8]
theorem mf_feel0 {a2 : Int32} {k10 : sm_St → Int32 → Int32 → Option (Unit × sm_St)} {x : Nat} {m l3 : Int32} (h5 : k ≤ 5) (hp : nt_MP k P σ0) (hF : nt_MF σ0 σ) (hx : x < k) : ∃ t, mf_X8_passes_p55 m a2 k10 σ l3 (nI x) 0 = k10 t (l3 ||| 0 <<< (nI x &&& 31)) (nI (x + 1)) ∧ nt_MF σ0 t ∧ t.1 7 = upd (σ.1 7) x 0 ∧ t.1 8 = upd (σ.1 8) x (σ.1 8 x + P 2 x (σ.1 6 x) (σ.1 0 7) m 0) ∧ t.1 9 = upd (σ.1 9) x (σ.1 9 x + 0) ∧ t.1 10 = upd (σ.1 10) x (if 0 ≤ σ.1 10 x then σ.1 10 x else 0) ∧ (∀ c, c ≠ 0 → c ≠ 7 → c ≠ 8 → c ≠ 9 → c ≠ 10 → t.1 c = σ.1 c) ∧ ∀ j, ¬ (16 ≤ j ∧ j ≤ 30) → t.1 0 j = σ.1 0 j := by
  have g5 : x < 5 := by omega
  unfold mf_X8_passes_p55 mf_X8_passes_p81
  simp only [sm_bS, sm_gIn g5 (by decide : 5 < 2 ^ 31), nI_cl (show x < 2 ^ 31 by omega), if_true]
  have f1 : nt_MF σ0 (sm_sI σ 7 x 0) := hF.set (by simp [nt_fm])
  obtain ⟨v, s, e0, h1, -, h3, h4⟩ := hp _ f1 2 m 0 x (by decide) hx
  rw [e0]
  simp only [sm_cS]
  obtain ⟨t, t1, t2, t3, t4, t5⟩ := @mf_tail m a2 k10 x l3 0 v ((sm_sI σ 7 x 0).1 8 x) s g5 (Or.inl rfl)
  rw [t1]
  have f2 := f1.ext h3 h4
  refine ⟨t, rfl, fun c j hc => ?_, ?_, ?_, ?_, ?_, fun c c0 c7 c8 c9 c10 => ?_, fun j hj => ?_⟩
  · rw [t5 c (fun e => by subst e; simp [nt_fm] at hc) (fun e => by subst e; simp [nt_fm] at hc) (fun e => by subst e; simp [nt_fm] at hc)]
    exact f2 c j hc
  · rw [t5 7 (by decide) (by decide) (by decide), h3 7 (by decide), sm_sIk.1]
  · rw [t2, h3 8 (by decide), h1, sm_rI 8 (by decide), sm_rI 6 (by decide), sm_rI 0 (by decide)]
  · rw [t3, h3 9 (by decide), sm_rI 9 (by decide)]
  · rw [t4, h3 10 (by decide), h3 7 (by decide), sm_rI 10 (by decide), sm_rE]
  · rw [t5 c c8 c9 c10, h3 c c0, sm_rI c c7]
  · rw [t5 0 (by decide) (by decide) (by decide), h4 j hj, sm_rI 0 (by decide)]
theorem mf_feel1 {a2 : Int32} {k10 : sm_St → Int32 → Int32 → Option (Unit × sm_St)} {x l : Nat} {m l3 : Int32} (h5 : k ≤ 5) (hp : nt_MP k P σ0) (hF : nt_MF σ0 σ) (hx : x < k) (hl : σ.1 7 x = nI l) (hl9 : l < 99) : ∃ t, mf_X8_passes_p55 m a2 k10 σ l3 (nI x) 1 = k10 t (l3 ||| 1 <<< (nI x &&& 31)) (nI (x + 1)) ∧ nt_MF σ0 t ∧ t.1 7 = upd (σ.1 7) x (nI (l + 1)) ∧ t.1 8 = upd (σ.1 8) x (σ.1 8 x + pu_bears (σ0.1 4 x) (P 0 x (σ.1 6 x) (σ.1 0 7) m (nI (l + 1))) (nI (l + 1))) ∧ t.1 9 = upd (σ.1 9) x (σ.1 9 x + 1) ∧ t.1 10 = upd (σ.1 10) x (if nI (l + 1) ≤ σ.1 10 x then σ.1 10 x else nI (l + 1)) ∧ (∀ c, c ≠ 0 → c ≠ 7 → c ≠ 8 → c ≠ 9 → c ≠ 10 → t.1 c = σ.1 c) ∧ ∀ j, ¬ (16 ≤ j ∧ j ≤ 30) → t.1 0 j = σ.1 0 j := by
  have g5 : x < 5 := by omega
  unfold mf_X8_passes_p55 mf_X8_passes_p81
  simp only [sm_bS, sm_gIn g5 (by decide : 5 < 2 ^ 31), nI_cl (show x < 2 ^ 31 by omega), i10, if_false, hl, ← nI_succ, sm_rE]
  have f1 : nt_MF σ0 (sm_sI σ 7 x (nI (l + 1))) := hF.set (by simp [nt_fm])
  obtain ⟨v, s, e0, h1, h3, h4⟩ := mf_bearsE (l := l + 1) (m := m) h5 hp f1 hx (by omega)
  rw [e0]
  simp only [sm_cS]
  obtain ⟨t, t1, t2, t3, t4, t5⟩ := @mf_tail m a2 k10 x l3 1 v ((sm_sI σ 7 x (nI (l + 1))).1 8 x) s g5 (Or.inr rfl)
  rw [t1]
  have f2 := f1.ext h3 h4
  refine ⟨t, rfl, fun c j hc => ?_, ?_, ?_, ?_, ?_, fun c c0 c7 c8 c9 c10 => ?_, fun j hj => ?_⟩
  · rw [t5 c (fun e => by subst e; simp [nt_fm] at hc) (fun e => by subst e; simp [nt_fm] at hc) (fun e => by subst e; simp [nt_fm] at hc)]
    exact f2 c j hc
  · rw [t5 7 (by decide) (by decide) (by decide), h3 7 (by decide), sm_sIk.1]
  · rw [t2, h3 8 (by decide), h1, sm_rI 8 (by decide), sm_rI 6 (by decide), sm_rI 0 (by decide)]
  · rw [t3, h3 9 (by decide), sm_rI 9 (by decide)]
  · rw [t4, h3 10 (by decide), h3 7 (by decide), sm_rI 10 (by decide), sm_rE]
  · rw [t5 c c8 c9 c10, h3 c c0, sm_rI c c7]
  · rw [t5 0 (by decide) (by decide) (by decide), h4 j hj, sm_rI 0 (by decide)]
end
