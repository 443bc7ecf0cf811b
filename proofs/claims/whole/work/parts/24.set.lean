/-! set, sitter, taken -/
theorem pu_find_congr {q q' : Nat → Bool} : ∀ (d i : Nat), (∀ j, i ≤ j → j < i + d → q j = q' j) → pu_find q d i = pu_find q' d i := by
  intro d
  induction d with
  | zero => intro i _; rfl
  | succ d ih =>
    intro i h
    unfold pu_find
    rw [h i (Nat.le_refl _) (by omega), ih (i + 1) (fun j h1 h2 => h j (by omega) (by omega))]
theorem xf_exists (x : Int32) (σ : sm_St) : xf_X1_exists x σ = some (if 0 ≤ x ∧ x ≤ 5 then 1 else 0, σ) := by
  unfold xf_X1_exists
  grind
theorem i01 : ¬ (0 : Int32) = 1 := by decide
/-- is a place free for one: by who sits there, by who else sits there -/
theorem pu_free {pl pm : Nat → Int32} {k x : Nat} {p : Int32} (h5 : k ≤ 5) (he : ∀ j, j < k → pm j = pl j) (hd : ∀ i j, i < k → j < k → pl i = pl j → i = j) :
    (pu_find (fun j => decide (¬ nI j = nI x) && decide (pm j = p)) k 0 = -1) ↔ (pu_find (fun j => decide (pl j = p)) k 0 = -1 ∨ pu_find (fun j => decide (pl j = p)) k 0 = nI x) := by
  constructor
  · intro h
    have h1 := (pu_find_none k 0 (by omega)).mp h
    by_cases g : pu_find (fun j => decide (pl j = p)) k 0 = -1
    · exact Or.inl g
    · obtain ⟨j, -, j2, j3, j4⟩ := pu_find_some k 0 g
      refine Or.inr ?_
      have := h1 j (by omega) j2
      simp only [Bool.and_eq_false_iff, decide_eq_false_iff_not, Decidable.not_not] at this
      rcases this with e | e
      · rw [j3, e]
      · exact absurd ((he j (by omega)).trans (of_decide_eq_true j4)) e
  · intro h
    refine (pu_find_none k 0 (by omega)).mpr (fun j j1 j2 => ?_)
    simp only [Bool.and_eq_false_iff, decide_eq_false_iff_not, Decidable.not_not]
    by_cases e : pm j = p
    · left
      rcases h with h | h
      · have := (pu_find_none k 0 (by omega)).mp h j j1 j2
        exact absurd ((he j (by omega)).symm.trans e) (of_decide_eq_false this)
      · have g : ¬ pu_find (fun j => decide (pl j = p)) k 0 = -1 := by
          intro z
          have := (pu_find_none k 0 (by omega)).mp z j j1 j2
          exact absurd ((he j (by omega)).symm.trans e) (of_decide_eq_false this)
        obtain ⟨i, -, i2, i3, i4⟩ := pu_find_some k 0 g
        rw [← h, i3]
        rw [hd i j (by omega) (by omega) ((of_decide_eq_true i4).trans ((he j (by omega)).symm.trans e).symm)]
    · exact Or.inr e
theorem xf_free {σ : sm_St} {c k : Nat} (hk : σ.1 c 6 = nI k) (h5 : k ≤ 5) (x p : Int32) : xf_X0_isFreeFor c x p σ = some (if pu_find (fun j => decide (σ.1 (c + 9) j = p)) k 0 = -1 ∨ pu_find (fun j => decide (σ.1 (c + 9) j = p)) k 0 = x then 1 else 0, σ) := by
  unfold xf_X0_isFreeFor
  simp only [xf_who hk h5, sm_cS, xf_X0_isFreeFor_p16]
  (repeat' split) <;> first | rfl | (exfalso; grind)
section
variable {cmp : (Nat → Int32) → Nat → (Nat → Int32) → (Nat → Int32) → Prop} {σx σm σx' σm' : sm_St} {k tc : Nat}
/-- one's number, one's place becomes another -/
theorem pr_ar {cx cm x : Nat} {v : Int32} (h : pr_R cmp σx σm) (hx : nI x < σx.1 1 6) (hx5 : x < 5) (hj : (cx = 7 ∧ cm = 5 ∧ 0 ≤ v ∧ v ≤ 9) ∨ (cx = 10 ∧ cm = 6 ∧ 0 ≤ v ∧ v ≤ 7 ∧ ∀ j, nI j < σx.1 1 6 → j < 5 → j ≠ x → σx.1 10 j ≠ v)) : pr_R cmp (sm_sI σx cx x v) (sm_sI σm cm x v) := by
  obtain ⟨k, tc, h5, hF, hI, hK, hS, hP, hT⟩ := h
  have ek := hI.2.2.2.2.2.1
  have lt : ∀ j, j < k → nI j < σx.1 1 6 := fun j hj => by rw [ek]; exact nI_lt hj (by omega)
  have hcx : cx = 7 ∨ cx = 10 := by omega
  have hcm : cm = 5 ∨ cm = 6 := by omega
  refine ⟨k, tc, h5, ?_, ?_, ?_, ?_, ?_, ?_⟩
  · unfold pr_F at hF ⊢
    obtain ⟨f1, f2, f3, f4, f5, f6, f7, f8⟩ := hF
    rw [sm_rI 0 (by omega), sm_rI 1 (by omega)]
    refine ⟨f1, f2, f3, f4, f5, f6, f7, fun j hj' => ?_⟩
    obtain ⟨e1, e2, e3⟩ := f8 j hj'
    rcases hj with ⟨rfl, rfl, -⟩ | ⟨rfl, rfl, -⟩
    · rw [sm_rI 4 (by decide), sm_rI 6 (by decide), sm_rI 4 (by decide), sm_rI 10 (by decide), sm_sIk.1, sm_sIk.1]
      refine ⟨e1, ?_, e3⟩
      unfold upd
      split <;> first | rfl | exact e2
    · rw [sm_rI 4 (by decide), sm_rI 5 (by decide), sm_rI 4 (by decide), sm_rI 7 (by decide), sm_sIk.1, sm_sIk.1]
      refine ⟨e1, e2, ?_⟩
      unfold upd
      split <;> first | rfl | exact e3
  · rw [sm_rI 1 (by omega), sm_rI 4 (by omega)]
    unfold pr_I at hI ⊢
    obtain ⟨a1, a2, a3, a4, a5, a6, a7, a8⟩ := hI
    rcases hj with ⟨rfl, rfl, g1, g2⟩ | ⟨rfl, rfl, g1, g2, g3⟩
    · rw [sm_rI 10 (by decide), sm_sIk.1]
      refine ⟨a1, a2, a3, a4, a5, a6, fun j hj' => ⟨(a7 j hj').1, ?_, (a7 j hj').2.2⟩, a8⟩
      unfold upd
      split
      · exact ⟨g1, g2⟩
      · exact (a7 j hj').2.1
    · rw [sm_rI 7 (by decide), sm_sIk.1]
      refine ⟨a1, a2, a3, a4, a5, a6, fun j hj' => ⟨(a7 j hj').1, (a7 j hj').2.1, ?_⟩, fun i j hi hj' => ?_⟩
      · unfold upd
        split
        · exact ⟨g1, g2⟩
        · exact (a7 j hj').2.2
      · unfold upd
        by_cases ei : i = x <;> by_cases ej : j = x
        · intro _; rw [ei, ej]
        · rw [if_pos ei, if_neg ej]; intro z; exact absurd z.symm (g3 j (lt j hj') (by omega) ej)
        · rw [if_neg ei, if_pos ej]; intro z; exact absurd z (g3 i (lt i hi) (by omega) ei)
        · rw [if_neg ei, if_neg ej]; exact a8 i j hi hj'
  · exact hK.cong (by rw [sm_rI 0 (by omega)]) (sm_rI 2 (by omega)) (sm_rI 4 (by omega)) (sm_rI 5 (by omega)) (sm_rI 8 (by omega)) (sm_rI 11 (by omega)) (by rw [sm_rI 0 (by omega)]) (by rw [sm_rI 0 (by omega)]) (sm_rI 19 (by omega))
  · exact hS.cong (fun c h1 h2 => sm_rI c (by omega)) (fun c h1 h2 => sm_rI c (by omega))
  · exact hP.cong (by rw [sm_rI 13 (by omega)]) (sm_rI 14 (by omega)) (by rw [sm_rI 0 (by omega)]) (sm_rI 3 (by omega))
  · exact hT.cong (by rw [sm_rI 0 (by omega)]) (fun c h1 h2 => sm_rI c (by omega)) (by rw [sm_rI 0 (by omega)]) (sm_rI 1 (by omega)) (sm_rI 2 (by omega))
theorem pr_set (h : pr_R cmp σx σm) (a1 a2 a3 : Int32) : pr_sim cmp (xf_X7_set a1 a2 a3 σx) (mf_X8_set a1 a2 a3 σm) := by
  have h0 := h
  obtain ⟨k, tc, h5, hF, hI, -, -, -, -⟩ := h
  obtain ⟨f1, f2, f3, f4, f5, f6, f7, f8⟩ := hF
  obtain ⟨i1, i2, i3, i4, i5, i6, i7, i8⟩ := hI
  unfold mf_X8_set xf_X7_set
  simp only [sm_bS, mf_in6, sm_cS, mf_isSitter f1 h5, mf_X8_set_p28, mf_X8_set_p38]
  by_cases c0 : a1 = 0
  · subst c0
    have z : (0 : Int32) ≤ 0 ∧ (0 : Int32) ≤ 6 := by decide
    simp only [z, and_self, if_true, i10, if_false, (by decide : (0 : Int32) ≤ 4), mf_X8_set_p95, mf_X8_set_p131, mf_X8_set_p210, xf_X7_setSmoke, xf_isPlace, sm_bS, sm_cS, show ((7 : Int32).toInt64) = (7 : Int32).toInt64 from rfl, mf_inV]
    by_cases cv : 0 ≤ a3 ∧ a3 ≤ 7
    · simp only [cv, and_self, if_true, i10, if_false, (by decide : ¬ (0 : Int32) = 6), f2]
      exact pr_same (pr_sc h0 (Or.inl ⟨rfl, rfl, cv.1, cv.2⟩))
    · simp only [cv, if_true, if_false]
      exact pr_same h0
  by_cases c1 : a1 = 1
  · subst c1
    have z : (0 : Int32) ≤ 1 ∧ (1 : Int32) ≤ 6 := by decide
    simp only [z, and_self, if_true, i10, if_false, (by decide : (1 : Int32) ≤ 4), (by decide : ¬ (1 : Int32) = 6), mf_X8_set_p95, mf_X8_set_p131, mf_X8_set_p210, xf_X7_setLeft, sm_bS, sm_cS, mf_inV, f4]
    by_cases cv : 0 ≤ a3 ∧ a3 ≤ 100 - σx.1 1 2
    · have n1 : ¬ a3 < 0 := by grind
      simp only [cv, n1, and_self, if_true, i10, if_false, f3]
      exact pr_same (pr_sc h0 (Or.inr (Or.inl ⟨rfl, rfl, cv.1, by grind, by grind⟩)))
    · simp only [cv, if_true, if_false]
      (repeat' split) <;> first | exact pr_same h0 | (clear h0; exfalso; grind)
  by_cases c2 : a1 = 2
  · subst c2
    have z : (0 : Int32) ≤ 2 ∧ (2 : Int32) ≤ 6 := by decide
    simp only [z, and_self, if_true, i10, if_false, c0, c1, (by decide : (2 : Int32) ≤ 4), (by decide : ¬ (2 : Int32) = 6), mf_X8_set_p95, mf_X8_set_p131, mf_X8_set_p210, xf_X7_setRight, sm_bS, sm_cS, mf_inV, f3]
    by_cases cv : 0 ≤ a3 ∧ a3 ≤ 100 - σx.1 1 1
    · have n1 : ¬ a3 < 0 := by grind
      simp only [cv, n1, and_self, if_true, i10, if_false, f4]
      exact pr_same (pr_sc h0 (Or.inr (Or.inr (Or.inl ⟨rfl, rfl, cv.1, by grind, by grind⟩))))
    · simp only [cv, if_true, if_false]
      (repeat' split) <;> first | exact pr_same h0 | (clear h0; exfalso; grind)
  by_cases c3 : a1 = 3
  · subst c3
    have z : (0 : Int32) ≤ 3 ∧ (3 : Int32) ≤ 6 := by decide
    simp only [z, and_self, if_true, i10, if_false, c0, c1, c2, (by decide : (3 : Int32) ≤ 4), (by decide : ¬ (3 : Int32) = 6), mf_X8_set_p95, mf_X8_set_p131, mf_X8_set_p210, xf_X7_setTents, sm_bS, sm_cS, mf_inV]
    by_cases cv : 0 ≤ a3 ∧ a3 ≤ 255
    · have n1 : ¬ a3 < 0 := by grind
      simp only [cv, n1, and_self, if_true, i10, if_false, f5]
      exact pr_same (pr_sc h0 (Or.inr (Or.inr (Or.inr (Or.inl ⟨rfl, rfl, cv.1, cv.2⟩)))))
    · simp only [cv, if_true, if_false]
      (repeat' split) <;> first | exact pr_same h0 | (clear h0; exfalso; grind)
  by_cases c4 : a1 = 4
  · subst c4
    have z : (0 : Int32) ≤ 4 ∧ (4 : Int32) ≤ 6 := by decide
    simp only [z, and_self, if_true, i10, if_false, c0, c1, c2, c3, (by decide : (4 : Int32) ≤ 4), (by decide : ¬ (4 : Int32) = 6), mf_X8_set_p95, mf_X8_set_p131, mf_X8_set_p210, xf_X7_setEddy, sm_bS, sm_cS, mf_inV]
    by_cases cv : 0 ≤ a3 ∧ a3 ≤ 1
    · have n1 : ¬ a3 < 0 := by grind
      simp only [cv, n1, and_self, if_true, i10, if_false, f6]
      exact pr_same (pr_sc h0 (Or.inr (Or.inr (Or.inr (Or.inr (Or.inl ⟨rfl, rfl, by grind⟩))))))
    · simp only [cv, if_true, if_false]
      (repeat' split) <;> first | exact pr_same h0 | (clear h0; exfalso; grind)
  by_cases c5 : a1 = 5
  · subst c5
    have z : (0 : Int32) ≤ 5 ∧ (5 : Int32) ≤ 6 := by decide
    simp only [z, and_self, if_true, i10, if_false, c0, c1, c2, c3, c4, (by decide : ¬ (5 : Int32) ≤ 4), (by decide : ¬ (5 : Int32) = 6), mf_X8_set_p95, mf_X8_set_p131, mf_X8_set_p210, xf_X7_setNumber, xf_has, i6, sm_bS, sm_cS, mf_inV]
    by_cases c : 0 ≤ a2 ∧ a2 < nI k
    · obtain ⟨x, hx, rfl⟩ := nI_ofR (n := k) (by omega) c.1 c.2
      have hx5 : x < 5 := by omega
      simp only [c, and_self, if_true, i10, if_false, sm_gIn hx5 (by decide : 5 < 2 ^ 31), nI_cl (show x < 2 ^ 31 by omega), (f8 x hx).2.1]
      by_cases cv : 0 ≤ a3 ∧ a3 ≤ 9
      · have n1 : ¬ a3 < 0 := by grind
        simp only [cv, n1, and_self, if_true, i10, if_false]
        exact pr_same (pr_ar h0 (by rw [i6]; exact c.2) hx5 (Or.inl ⟨rfl, rfl, cv⟩))
      · simp only [cv, if_true, if_false]
        (repeat' split) <;> first | exact pr_same h0 | (clear h0; exfalso; grind)
    · simp only [c, if_true, if_false]
      exact pr_same h0
  by_cases c6 : a1 = 6
  · subst c6
    have z : (0 : Int32) ≤ 6 ∧ (6 : Int32) ≤ 6 := by decide
    simp only [z, and_self, if_true, i10, if_false, c0, c1, c2, c3, c4, c5, (by decide : ¬ (6 : Int32) ≤ 4), mf_X8_set_p95, mf_X8_set_p131, mf_X8_set_p210, xf_X7_setPlace, xf_has, xf_isPlace, i6, sm_bS, sm_cS, mf_inV, mf_onPlace f1 h5, xf_free i6 h5]
    by_cases c : 0 ≤ a2 ∧ a2 < nI k
    · obtain ⟨x, hx, rfl⟩ := nI_ofR (n := k) (by omega) c.1 c.2
      have hx5 : x < 5 := by omega
      simp only [c, and_self, if_true, i10, if_false]
      by_cases cv : 0 ≤ a3 ∧ a3 ≤ 7
      · simp only [cv, and_self, if_true, i10, if_false]
        have fr := @pu_free (σx.1 10) (σm.1 6) k x a3 h5 (fun j hj => (f8 j hj).2.2) i8
        by_cases cf : pu_find (fun j => decide (¬ nI j = nI x) && decide (σm.1 6 j = a3)) k 0 = -1
        · simp only [cf, fr.mp cf, Nat.reduceAdd, if_true, i10, if_false, sm_gIn hx5 (by decide : 5 < 2 ^ 31), nI_cl (show x < 2 ^ 31 by omega), (f8 x hx).2.2]
          refine pr_same (pr_ar h0 (by rw [i6]; exact c.2) hx5 (Or.inr ⟨rfl, rfl, cv.1, cv.2, fun j hj hj5 hne e => ?_⟩))
          rw [i6] at hj
          have hjk : j < k := (nI_ltI (by omega) (by omega)).mp hj
          have := (pu_find_none k 0 (by omega)).mp cf j (by omega) (by omega)
          simp only [Bool.and_eq_false_iff, decide_eq_false_iff_not, Decidable.not_not] at this
          rcases this with q | q
          · exact hne ((nI_eq (by omega) (by omega)).mp q)
          · exact q ((f8 j hjk).2.2.trans e)
        · have cg := mt fr.mpr cf
          simp only [cf, cg, Nat.reduceAdd, if_true, if_false, sm_cS]
          exact pr_same h0
      · simp only [cv, if_true, if_false]
        exact pr_same h0
    · simp only [c, if_true, if_false]
      exact pr_same h0
  · have z : ¬ (0 ≤ a1 ∧ a1 ≤ 6) := by grind
    simp only [z, c0, c1, c2, c3, c4, c5, c6, if_true, if_false]
    exact pr_same h0
end
