/-! the class's minute: the smoke turns, all feel it, who gets up -/
def nt_pre (sk ne : Int32) (S : Nat → Nat → Int32) : Nat → Nat → Int32
  | 0 => fun j => if j = 0 then sk else if j = 1 then ne else S 0 j
  | c => S c
theorem nt_fx0 : ∀ c, c ≠ 3 → c ≠ 12 → c < 43 → ∀ j, nt_fx c j = false := by
  intro c h3 h12 h43 j
  simp [nt_fx]
  omega
section
variable {pay : Bool} {k : Nat} {P : Int32 → Nat → Int32 → Int32 → Int32 → Int32 → Int32} {σ0 σ : sm_St} {S : Nat → Nat → Int32}
theorem xf_turnE {w : Int32} (h5 : k ≤ 5) (hF : nt_XF σ0 σ) (hS : nt_X k S σ) (hr : S 0 2 = -1 ∨ ∃ x, x < k ∧ S 0 2 = nI x) : sm_ok (xf_X2_turn w σ) (fun _ s => nt_XF σ0 s ∧ s.1 3 0 = nt_sk (σ0.1 3 4) S w ∧ ∀ c, c ≠ 3 → s.1 c = σ.1 c) := by
  obtain ⟨q1, q2, q3, q4, q5, q6⟩ := hS
  have e4 : σ.1 3 4 = σ0.1 3 4 := hF.1 3 4 (by simp [nt_fx])
  unfold xf_X2_turn
  simp only [sm_bS, xf_round, sm_cS, sm_rE, sm_rI1 3 4 (Or.inr (by decide : 4 ≠ 0)), sm_rI 43 (by decide : 43 ≠ 3), sm_rI 12 (by decide : 12 ≠ 3), q1, q3, e4]
  unfold nt_sk
  have f1 : nt_XF σ0 (sm_sI σ 3 0 ((S 0 0 + w) &&& 7)) := hF.set (by simp [nt_fx])
  by_cases c1 : σ0.1 3 4 = 0
  · simp only [c1, if_true]
    exact ok_some.mpr ⟨f1, sm_rE, fun c hc => sm_rI c hc⟩
  · simp only [c1, if_false]
    rcases hr with c2 | ⟨x, hx, c2⟩
    · simp only [c2, if_true]
      exact ok_some.mpr ⟨f1, sm_rE, fun c hc => sm_rI c hc⟩
    · have n1 : ¬ nI x = -1 := nI_ne1 (by omega)
      simp only [c2, n1, if_false, sm_gIn (show x < 5 by omega) (by decide : 5 < 2 ^ 31), nI_cl (show x < 2 ^ 31 by omega), (q5 x hx).1, sm_bS]
      by_cases c3 : S 1 x - ((S 0 0 + w) &&& 7) &&& 7 = 0
      · simp only [c3, if_true]
        exact ok_some.mpr ⟨f1, sm_rE, fun c hc => sm_rI c hc⟩
      · simp only [c3, if_false]
        by_cases c4 : 4 < S 1 x - ((S 0 0 + w) &&& 7) &&& 7
        · simp only [c4, if_true, xf_X2_turn_p88, sm_bS, xf_round, sm_cS]
          exact ok_some.mpr ⟨f1.set (by simp [nt_fx]), sm_rE, fun c hc => by rw [sm_rI c hc, sm_rI c hc]⟩
        · simp only [c4, if_false, xf_X2_turn_p88, sm_bS, xf_round, sm_cS]
          exact ok_some.mpr ⟨f1.set (by simp [nt_fx]), sm_rE, fun c hc => by rw [sm_rI c hc, sm_rI c hc]⟩
theorem xf_runL {a1 : Option Nat} {k7 : sm_St → Int32 → Option (Unit × sm_St)} {m wh sk ne : Int32} (h5 : k ≤ 5) (hp : nt_XP pay k P σ0) (h6 : σ0.1 3 6 = nI k) (hF : nt_XF σ0 σ) (hS : nt_X k (nt_pre sk ne S) σ) : ∃ s f, xf_X2_run_p96 a1 k7 sm_F σ m wh 0 = xf_X2_run_p96 a1 k7 (f + 1) s m wh (nI k) ∧ nt_XF σ0 s ∧ nt_X k (nt_feel pay (σ0.1 6) P m sk ne wh S) s := by
  obtain ⟨q1, q2, q3, q4, q5, q6⟩ := hS
  obtain ⟨s, f, e1, e2, e3, e4, e5⟩ := lp_c (fun n s l => xf_X2_run_p96 a1 k7 n s m wh l) (fun i s => nt_XF σ0 s ∧ (∀ c, c ≠ 44 → c ≠ 45 → c ≠ 47 → c ≠ 49 → c ≠ 50 → c ≠ 51 → s.1 c = σ.1 c) ∧ (∀ y, y < k → (y < i → s.1 49 y = nt_lo wh S y ∧ s.1 44 y = nt_co pay (σ0.1 6) P m sk wh S y ∧ s.1 45 y = nt_sm wh S y ∧ s.1 47 y = nt_lg wh S y) ∧ (¬ y < i → s.1 49 y = S 2 y ∧ s.1 44 y = S 3 y ∧ s.1 45 y = S 4 y ∧ s.1 47 y = S 5 y)) ∧ ∀ y, k ≤ y → y < 5 → s.1 44 y = 0) k σ (by omega) ⟨hF, fun _ _ _ _ _ _ _ => rfl, fun y hy => ⟨fun h => absurd h (by omega), fun _ => ⟨(q5 y hy).2.1, (q5 y hy).2.2.1, (q5 y hy).2.2.2.1, (q5 y hy).2.2.2.2.1⟩⟩, fun y h1 h2 => (q6 y h1 h2).1⟩ (by
    intro i s n hi ⟨g1, g2, g3, g4⟩
    have k6 : s.1 3 6 = nI k := by rw [g1.1 3 6 (by simp [nt_fx]), h6]
    have nl : ¬ nI k ≤ nI i := nI_ge hi (by omega)
    have p12 : s.1 12 i = S 1 i := by rw [g2 12 (by decide) (by decide) (by decide) (by decide) (by decide) (by decide)]; exact (q5 i hi).1
    have p30 : s.1 3 0 = sk := by rw [g2 3 (by decide) (by decide) (by decide) (by decide) (by decide) (by decide)]; exact q1
    obtain ⟨p49, p44, p45, p47⟩ := (g3 i hi).2 (by omega)
    by_cases e : nI i = wh
    · obtain ⟨_, t, u1, u2, u3, u4, u5, u6, u7⟩ := xf_feel1 (m := m) h5 hp g1 hi
      refine ⟨t, ?_, u2, fun c c1 c2 c3 c4 c5 c6 => by rw [u7 c c1 c2 c3 c4 c5 c6]; exact g2 c c1 c2 c3 c4 c5 c6, fun y hy => ?_, fun y h1 h2 => ?_⟩
      · show xf_X2_run_p96 a1 k7 (n + 1) s m wh (nI i) = xf_X2_run_p96 a1 k7 n t m wh (nI (i + 1))
        rw [xf_X2_run_p96]
        simp only [sm_bS, k6, nl, if_false]
        rw [if_pos e]
        simp only [xf_X2_run_p122, u1, sm_cS, sm_bS, nI_inc]
      · rw [u3, u4, u5, u6, p49, p44, p45, p47, p12, p30]
        unfold upd nt_lo nt_co nt_sm nt_lg
        by_cases ey : y = i
        · subst ey
          refine ⟨fun _ => ?_, fun h => absurd h (by omega)⟩
          simp [e]
        · simp only [ey, if_false]
          refine ⟨fun h => (g3 y hy).1 (by omega), fun h => (g3 y hy).2 (by omega)⟩
      · rw [u6]
        unfold upd
        rw [if_neg (by omega)]
        exact g4 y h1 h2
    · obtain ⟨_, t, u1, u2, u3, u4, u5⟩ := xf_feel0 (m := m) h5 hp g1 hi
      refine ⟨t, ?_, u2, fun c c1 c2 c3 c4 c5 c6 => by rw [u5 c c1 c4 c5 c6]; exact g2 c c1 c2 c3 c4 c5 c6, fun y hy => ?_, fun y h1 h2 => ?_⟩
      · show xf_X2_run_p96 a1 k7 (n + 1) s m wh (nI i) = xf_X2_run_p96 a1 k7 n t m wh (nI (i + 1))
        rw [xf_X2_run_p96]
        simp only [sm_bS, k6, nl, e, if_false]
        simp only [xf_X2_run_p122, u1, sm_cS, sm_bS, nI_inc]
      · rw [u3, u4, u5 45 (by decide) (by decide) (by decide) (by decide), u5 47 (by decide) (by decide) (by decide) (by decide), p44, p12, p30]
        by_cases ey : y = i
        · subst ey
          refine ⟨fun _ => ?_, fun h => absurd h (by omega)⟩
          unfold upd nt_lo nt_co nt_sm nt_lg
          simp [e, p45, p47]
        · unfold upd
          simp only [ey, if_false]
          refine ⟨fun h => (g3 y hy).1 (by omega), fun h => (g3 y hy).2 (by omega)⟩
      · rw [u4]
        unfold upd
        rw [if_neg (by omega)]
        exact g4 y h1 h2)
  refine ⟨s, f, e1, e2, ?_, ?_, ?_, ?_, fun y hy => ?_, fun y h1 h2 => ⟨e5 y h1 h2, ?_⟩⟩
  · rw [e3 3 (by decide) (by decide) (by decide) (by decide) (by decide) (by decide)]; exact q1
  · rw [e3 43 (by decide) (by decide) (by decide) (by decide) (by decide) (by decide)]; exact q2
  · rw [e3 43 (by decide) (by decide) (by decide) (by decide) (by decide) (by decide)]; exact q3
  · rw [e3 43 (by decide) (by decide) (by decide) (by decide) (by decide) (by decide)]; exact q4
  · obtain ⟨v1, v2, v3, v4⟩ := (e4 y hy).1 hy
    refine ⟨?_, v1, v2, v3, v4, ?_⟩
    · rw [e3 12 (by decide) (by decide) (by decide) (by decide) (by decide) (by decide)]; exact (q5 y hy).1
    · rw [e3 48 (by decide) (by decide) (by decide) (by decide) (by decide) (by decide)]; exact (q5 y hy).2.2.2.2.2
  · rw [e3 48 (by decide) (by decide) (by decide) (by decide) (by decide) (by decide)]; exact (q6 y h1 h2).2
theorem xf_endE {a1 : Option Nat} {k7 : sm_St → Int32 → Option (Unit × sm_St)} {m f : Nat} {wh : Int32} (h5 : k ≤ 5) (hp : nt_XP pay k P σ0) (h6 : σ0.1 3 6 = nI k) (hm : m < 40) (hF : nt_XF σ0 σ) (hS : nt_X k S σ) (hd : ∀ i j, i < k → j < k → S 1 i = S 1 j → i = j) (hw : wh = -1 ∨ ∃ x, x < k ∧ wh = nI x) : ∃ s, xf_X2_run_p96 a1 k7 (f + 1) σ (nI m) wh (nI k) = k7 s (nI (m + 1)) ∧ nt_XF σ0 s ∧ nt_X k (nt_end pay k (σ0.1 6) (σ0.1 9) P (nI m) (σ0.1 46 m) wh S) s := by
  have k6 : σ.1 3 6 = nI k := by rw [hF.1 3 6 (by simp [nt_fx]), h6]
  have f1 : nt_XF σ0 (sm_sI (sm_sI σ 43 11 (-1)) 43 12 (-1)) := (hF.set (by simp [nt_fx])).set (by simp [nt_fx])
  have S1 : nt_X k (nt_none S) (sm_sI (sm_sI σ 43 11 (-1)) 43 12 (-1)) := by
    obtain ⟨q1, q2, q3, q4, q5, q6⟩ := hS
    refine ⟨?_, ?_, ?_, ?_, fun y hy => ?_, fun y h1 h2 => ?_⟩
    · rw [sm_rI 3 (by decide), sm_rI 3 (by decide)]; exact q1
    · rw [sm_rI1 43 10 (by decide), sm_rI1 43 10 (by decide)]; exact q2
    · rw [sm_rI1 43 11 (by decide), sm_rE]; rfl
    · rw [sm_rE]; rfl
    · rw [sm_rI 12 (by decide), sm_rI 12 (by decide), sm_rI 49 (by decide), sm_rI 49 (by decide), sm_rI 44 (by decide), sm_rI 44 (by decide), sm_rI 45 (by decide), sm_rI 45 (by decide), sm_rI 47 (by decide), sm_rI 47 (by decide), sm_rI 48 (by decide), sm_rI 48 (by decide)]
      exact q5 y hy
    · rw [sm_rI 44 (by decide), sm_rI 44 (by decide), sm_rI 48 (by decide), sm_rI 48 (by decide)]
      exact q6 y h1 h2
  rw [xf_X2_run_p96]
  simp only [sm_bS, k6]
  rw [if_pos (nI_le (Nat.le_refl k) (by omega))]
  generalize sm_sI (sm_sI σ 43 11 (-1)) 43 12 (-1) = t at f1 S1 ⊢
  unfold nt_end
  rcases hw with e | ⟨x, hx, e⟩
  · subst e
    simp only [if_true, xf_X2_run_p189, sm_bS, nI_inc]
    exact ⟨t, rfl, f1, S1⟩
  · subst e
    have n1 : ¬ nI x = -1 := nI_ne1 (by omega)
    simp only [n1, if_false, sm_gIn (show x < 5 by omega) (by decide : 5 < 2 ^ 31), nI_cl (show x < 2 ^ 31 by omega), xf_getsUp, sm_cS, f1.1 6 x (nt_fx0 6 (by decide) (by decide) (by decide) x), f1.1 9 x (nt_fx0 9 (by decide) (by decide) (by decide) x), (S1.2.2.2.2.1 x hx).2.1]
    show ∃ s, (if pu_up (σ0.1 6 x) (σ0.1 9 x) (S 2 x) = 0 then _ else _) = _ ∧ _
    by_cases c : pu_up (σ0.1 6 x) (σ0.1 9 x) (S 2 x) = 0
    · simp only [c, if_true, xf_X2_run_p189, sm_bS, nI_inc]
      exact ⟨t, rfl, f1, S1⟩
    · have w0 : t.1 46 m = σ0.1 46 m := f1.1 46 m (by simp [nt_fx])
      simp only [c, if_false, sm_gIn hm (by decide : 40 < 2 ^ 31), nI_cl (show m < 2 ^ 31 by omega), w0]
      obtain ⟨_, u, u1, u2, u3⟩ := xf_riseE (m := nI m) (w := σ0.1 46 m) h5 hp f1 S1 h6 hx hd
      simp only [u1, sm_cS, xf_X2_run_p189, sm_bS, nI_inc]
      refine ⟨u, rfl, u2, ?_⟩
      obtain ⟨q1, q2, q3, q4, q5, q6⟩ := u3
      exact ⟨q1, q2, q3, q4, q5, q6⟩
end
