/-! THE SMALL CALLS -/
section
variable {cmp : (Nat → Int32) → Nat → (Nat → Int32) → (Nat → Int32) → Prop} {σx σm σx' σm' : sm_St} {k tc : Nat}
theorem pr_S.cong (hx : ∀ c, 35 ≤ c → c < 43 → σx'.1 c = σx.1 c) (hm : ∀ c, 20 ≤ c → c ≤ 23 → σm'.1 c = σm.1 c) (h : pr_S σx σm) : pr_S σx' σm' := by
  intro s hs
  have := h s hs
  unfold pr_S1 at this ⊢
  rw [hx (35 + s) (by omega) (by omega), hx (39 + s) (by omega) (by omega), hm 20 (by omega) (by omega), hm 21 (by omega) (by omega), hm 22 (by omega) (by omega), hm 23 (by omega) (by omega)]
  exact this
theorem pr_K.cong (h1 : σx'.1 0 2 = σx.1 0 2) (h2 : σx'.1 2 = σx.1 2) (h4 : σx'.1 4 = σx.1 4) (h5 : σx'.1 5 = σx.1 5) (h8 : σx'.1 8 = σx.1 8) (h11 : σx'.1 11 = σx.1 11) (m1 : σm'.1 0 51 = σm.1 0 51) (m2 : σm'.1 0 52 = σm.1 0 52) (m3 : σm'.1 19 = σm.1 19) (h : pr_K σx σm k tc) : pr_K σx' σm' k tc := by
  unfold pr_K at h ⊢
  rw [h1, h2, h4, h5, h8, h11, m1, m2, m3]
  exact h
theorem pr_P.cong (h1 : σx'.1 13 0 = σx.1 13 0) (h2 : σx'.1 14 = σx.1 14) (m1 : σm'.1 0 6 = σm.1 0 6) (m2 : σm'.1 3 = σm.1 3) (h : pr_P σx σm) : pr_P σx' σm' := by
  unfold pr_P at h ⊢
  rw [h1, h2, m1, m2]
  exact h
theorem pr_T.cong (h1 : σx'.1 0 5 = σx.1 0 5) (h2 : ∀ c, 22 ≤ c → c < 34 → σx'.1 c = σx.1 c) (m1 : σm'.1 0 3 = σm.1 0 3) (m2 : σm'.1 1 = σm.1 1) (m3 : σm'.1 2 = σm.1 2) (h : pr_T cmp σx σm tc) : pr_T cmp σx' σm' tc := by
  unfold pr_T at h ⊢
  rw [h1, m1, m2, m3]
  refine ⟨h.1, h.2.1, h.2.2.1, h.2.2.2.1, fun t ht => ?_⟩
  rw [h2 (22 + t) (by omega) (by omega), h2 (28 + t) (by omega) (by omega)]
  exact h.2.2.2.2 t ht
theorem sm_rI {σ : sm_St} {k j : Nat} {v : Int32} (c : Nat) (h : c ≠ k) : (sm_sI σ k j v).1 c = σ.1 c := (sm_sIo c h).1
theorem sm_rI1 {σ : sm_St} {k j : Nat} {v : Int32} (c i : Nat) (h : c ≠ k ∨ i ≠ j) : (sm_sI σ k j v).1 c i = σ.1 c i := by
  by_cases e : c = k
  · subst e
    have : i ≠ j := by rcases h with h | h; exact absurd rfl h; exact h
    rw [sm_sIk.1, pk_un this]
  · rw [sm_rI c e]
theorem sm_rE {σ : sm_St} {k j : Nat} {v : Int32} : (sm_sI σ k j v).1 k j = v := by rw [sm_sIk.1, pk_us]
theorem pr_sc {j sl : Nat} {v : Int32} (h : pr_R cmp σx σm) (hj : (j = 0 ∧ sl = 7 ∧ 0 ≤ v ∧ v ≤ 7) ∨ (j = 1 ∧ sl = 8 ∧ 0 ≤ v ∧ v ≤ 100 ∧ v + σx.1 1 2 ≤ 100) ∨ (j = 2 ∧ sl = 9 ∧ 0 ≤ v ∧ v ≤ 100 ∧ σx.1 1 1 + v ≤ 100) ∨ (j = 3 ∧ sl = 10 ∧ 0 ≤ v ∧ v ≤ 255) ∨ (j = 4 ∧ sl = 11 ∧ (v = 0 ∨ v = 1)) ∨ (j = 5 ∧ sl = 4 ∧ 0 ≤ v ∧ v < σx.1 0 5)) : pr_R cmp (sm_sI σx 1 j v) (sm_sI σm 0 sl v) := by
  obtain ⟨k, tc, h5, hF, hI, hK, hS, hP, hT⟩ := h
  refine ⟨k, tc, h5, ?_, ?_, ?_, ?_, ?_, ?_⟩
  · unfold pr_F at hF ⊢
    rw [sm_rI 4 (by decide), sm_rI 5 (by decide), sm_rI 6 (by decide), sm_rI 4 (by decide), sm_rI 7 (by decide), sm_rI 10 (by decide)]
    rcases hj with ⟨rfl, rfl, _⟩ | ⟨rfl, rfl, _⟩ | ⟨rfl, rfl, _⟩ | ⟨rfl, rfl, _⟩ | ⟨rfl, rfl, _⟩ | ⟨rfl, rfl, _⟩ <;> (obtain ⟨f1, f2, f3, f4, f5, f6, f7, f8⟩ := hF; simp [sm_sI, va_up, upd, f1, f2, f3, f4, f5, f6, f7]; exact f8)
  · rw [sm_rI 4 (by decide), sm_rI 7 (by decide), sm_rI 10 (by decide), sm_sIk.1]
    have e := hT.2.2.1
    unfold pr_I at hI ⊢
    rcases hj with ⟨rfl, rfl, g⟩ | ⟨rfl, rfl, g⟩ | ⟨rfl, rfl, g⟩ | ⟨rfl, rfl, g⟩ | ⟨rfl, rfl, g⟩ | ⟨rfl, rfl, g⟩ <;> simp only [upd] <;> simp
    · exact ⟨g, hI.2⟩
    · exact ⟨hI.1, ⟨g.1, hI.2.1.2.1, g.2.1, hI.2.1.2.2.2.1, g.2.2⟩, hI.2.2⟩
    · exact ⟨hI.1, ⟨hI.2.1.1, g.1, hI.2.1.2.2.1, g.2.1, g.2.2⟩, hI.2.2⟩
    · exact ⟨hI.1, hI.2.1, g, hI.2.2.2⟩
    · exact ⟨hI.1, hI.2.1, hI.2.2.1, g, hI.2.2.2.2⟩
    · exact ⟨hI.1, hI.2.1, hI.2.2.1, hI.2.2.2.1, by rw [← e]; exact g, hI.2.2.2.2.2⟩
  · have hs : sl ≠ 51 ∧ sl ≠ 52 := by omega
    exact hK.cong (by rw [sm_rI 0 (by decide)]) (sm_rI 2 (by decide)) (sm_rI 4 (by decide)) (sm_rI 5 (by decide)) (sm_rI 8 (by decide)) (sm_rI 11 (by decide)) (sm_rI1 0 51 (Or.inr (Ne.symm hs.1))) (sm_rI1 0 52 (Or.inr (Ne.symm hs.2))) (sm_rI 19 (by decide))
  · exact hS.cong (fun c h1 h2 => sm_rI c (by omega)) (fun c h1 h2 => sm_rI c (by omega))
  · have hs : sl ≠ 6 := by omega
    exact hP.cong (by rw [sm_rI 13 (by decide)]) (sm_rI 14 (by decide)) (sm_rI1 0 6 (Or.inr (Ne.symm hs))) (sm_rI 3 (by decide))
  · have hs : sl ≠ 3 := by omega
    exact hT.cong (by rw [sm_rI 0 (by decide)]) (fun c h1 h2 => sm_rI c (by omega)) (sm_rI1 0 3 (Or.inr (Ne.symm hs))) (sm_rI 1 (by decide)) (sm_rI 2 (by decide))
theorem mf_in6 (x : Int32) (σ : sm_St) : mf_X8_in x.toInt64 0 6 σ = some (if 0 ≤ x ∧ x ≤ 6 then 1 else 0, σ) := @mf_inI x 0 6 σ
theorem mf_in5 (x : Int32) (σ : sm_St) : mf_X8_in x.toInt64 0 5 σ = some (if 0 ≤ x ∧ x ≤ 5 then 1 else 0, σ) := @mf_inI x 0 5 σ
theorem mf_in9 (x : Int32) (σ : sm_St) : mf_X8_in x.toInt64 0 9 σ = some (if 0 ≤ x ∧ x ≤ 9 then 1 else 0, σ) := @mf_inI x 0 9 σ
theorem mf_in255 (x : Int32) (σ : sm_St) : mf_X8_in x.toInt64 0 255 σ = some (if 0 ≤ x ∧ x ≤ 255 then 1 else 0, σ) := @mf_inI x 0 255 σ
theorem mf_in8 (x : Int32) (σ : sm_St) : mf_X8_in x.toInt64 0 8 σ = some (if 0 ≤ x ∧ x ≤ 8 then 1 else 0, σ) := @mf_inI x 0 8 σ
theorem mf_in18 (x : Int32) (σ : sm_St) : mf_X8_in x.toInt64 1 8 σ = some (if 1 ≤ x ∧ x ≤ 8 then 1 else 0, σ) := @mf_inI x 1 8 σ
theorem mf_in1 (x : Int32) (σ : sm_St) : mf_X8_in x.toInt64 0 1 σ = some (if 0 ≤ x ∧ x ≤ 1 then 1 else 0, σ) := @mf_inI x 0 1 σ
theorem mf_in2 (x : Int32) (σ : sm_St) : mf_X8_in x.toInt64 0 2 σ = some (if 0 ≤ x ∧ x ≤ 2 then 1 else 0, σ) := @mf_inI x 0 2 σ
theorem mf_inm2 (x : Int32) (σ : sm_St) : mf_X8_in x.toInt64 (-1) 2 σ = some (if -1 ≤ x ∧ x ≤ 2 then 1 else 0, σ) := @mf_inI x (-1) 2 σ
theorem mf_in3 (x : Int32) (σ : sm_St) : mf_X8_in x.toInt64 0 3 σ = some (if 0 ≤ x ∧ x ≤ 3 then 1 else 0, σ) := @mf_inI x 0 3 σ
theorem mf_in120 (x : Int32) (σ : sm_St) : mf_X8_in x.toInt64 1 20 σ = some (if 1 ≤ x ∧ x ≤ 20 then 1 else 0, σ) := @mf_inI x 1 20 σ
theorem mf_in1059 (x : Int32) (σ : sm_St) : mf_X8_in x.toInt64 10 59 σ = some (if 10 ≤ x ∧ x ≤ 59 then 1 else 0, σ) := @mf_inI x 10 59 σ
theorem mf_inmm (x : Int32) (σ : sm_St) : mf_X8_in x.toInt64 (-2) (-1) σ = some (if -2 ≤ x ∧ x ≤ -1 then 1 else 0, σ) := @mf_inI x (-2) (-1) σ
theorem mf_inV (x y : Int32) (σ : sm_St) : mf_X8_in x.toInt64 0 y.toInt64 σ = some (if 0 ≤ x ∧ x ≤ y then 1 else 0, σ) := @mf_inI x 0 y σ
theorem mf_isSheet (x : Int32) (σ : sm_St) : mf_X8_isSheet x σ = some (if 0 ≤ x ∧ x ≤ 3 then 1 else 0, σ) := by
  unfold mf_X8_isSheet
  simp only [sm_bS, mf_in3, sm_cS]
  split <;> rfl
theorem xf_isSheet (x : Int32) (σ : sm_St) : xf_X7_isSheet x σ = some (if 0 ≤ x ∧ x ≤ 3 then 1 else 0, σ) := by
  unfold xf_X7_isSheet
  grind
theorem i10 : ¬ (1 : Int32) = 0 := by decide
theorem pr_force (h : pr_R cmp σx σm) (a : Int32) : pr_sim cmp (xf_X7_force a σx) (mf_X8_force a σm) := by
  have h0 := h
  obtain ⟨k, tc, h5, hF, hI, hK, hS, hP, hT⟩ := h
  have e1 := hT.2.2.1
  have e2 := hT.2.2.2.1
  have t1 : 0 ≤ nI tc := nI_pos' (by have := hT.2.1; omega)
  unfold mf_X8_force xf_X7_force
  simp only [sm_bS, mf_inV, sm_cS, e1, e2]
  rw [hF.2.2.2.2.2.2.1]
  by_cases c : 0 ≤ a ∧ a < nI tc
  · have c2 : 0 ≤ a ∧ a ≤ nI tc - 1 := by grind
    have g1 : ¬ a < 0 := by grind
    simp only [g1, c.2, c2, and_self, i10, if_true, if_false]
    exact pr_same (pr_sc h0 (Or.inr (Or.inr (Or.inr (Or.inr (Or.inr ⟨rfl, rfl, c.1, by rw [e1]; exact c.2⟩))))))
  · have c2 : ¬ (0 ≤ a ∧ a ≤ nI tc - 1) := by grind
    simp only [c2, if_true, if_false]
    (repeat' split) <;> first | exact pr_same h0 | (exfalso; grind)
theorem pr_count (h : pr_R cmp σx σm) (a : Int32) : pr_sim cmp (xf_X7_count a σx) (mf_X8_count a σm) := by
  have h0 := h
  obtain ⟨k, tc, h5, hF, hI, hK, hS, hP, hT⟩ := h
  obtain ⟨f1, f2, f3, f4, f5, f6, f7, f8⟩ := hF
  obtain ⟨n, p1, p2, p3, p4⟩ := hP
  have e1 := hT.2.2.1
  have e2 := hT.2.2.2.1
  have i1 := hI.2.2.2.2.2.1
  unfold mf_X8_count xf_X7_count
  simp only [sm_bS, mf_in8, sm_cS, e1, e2, f1, f2, f3, f4, f5, f6, f7, p2, p3, i1]
  (repeat' split) <;> first | exact pr_same h0 | (exfalso; grind)
end
