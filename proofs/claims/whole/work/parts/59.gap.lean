/-! gap: the class's choice -/
theorem lN_max : (9223372036854775807 : Int64) = lN 9223372036854775807 := by decide
def gp_w (te : Int32) (w0 : Nat → Nat) (p : Nat) : Nat := if te >>> (nI p &&& 31) &&& 1 = 1 then 0 else w0 p
section
variable {cmp : (Nat → Int32) → Nat → (Nat → Int32) → (Nat → Int32) → Prop} {σx σm σ σ' : sm_St} {k : Nat} {te : Int32} {w0 : Nat → Nat} {S m : Nat}
theorem xf_leastL {c : Nat} {s : sm_St} (hc : c < 256) (ht : s.1 1 3 = te) (hw : ∀ p, p < 8 → s.2.1 54 p = lN (w0 p) ∧ w0 p < 2 ^ 60) : ∀ (d i F : Nat) (f le : Nat), i + d = 8 → d < F → ((f = 0 ∧ le = 9223372036854775807 ∧ ∀ a, a < i → gp_b c a = true) ∨ (f < i ∧ gp_b c f = false ∧ le = gp_w te w0 f ∧ ∀ a, a < i → gp_b c a = false → gp_w te w0 f < gp_w te w0 a ∨ (gp_w te w0 f = gp_w te w0 a ∧ f ≤ a))) → ∃ r, xf_X7_leastOutside_p9 (nI c) F s (nI f) (lN le) (nI i) = some (nI r, s) ∧ ((∀ a, a < 8 → gp_b c a = true) ∨ (r < 8 ∧ gp_b c r = false ∧ ∀ a, a < 8 → gp_b c a = false → gp_w te w0 r < gp_w te w0 a ∨ (gp_w te w0 r = gp_w te w0 a ∧ r ≤ a))) := by
  intro d
  induction d with
  | zero =>
    intro i F f le h1 h2 h3
    obtain ⟨F, rfl⟩ : ∃ n', F = n' + 1 := ⟨F - 1, by omega⟩
    have : i = 8 := by omega
    subst this
    rw [xf_X7_leastOutside_p9, if_pos (by decide)]
    refine ⟨f, rfl, ?_⟩
    rcases h3 with ⟨-, -, z⟩ | ⟨z1, z2, -, z3⟩
    · exact Or.inl z
    · exact Or.inr ⟨z1, z2, z3⟩
  | succ d ih =>
    intro i F f le h1 h2 h3
    obtain ⟨F, rfl⟩ : ∃ n', F = n' + 1 := ⟨F - 1, by omega⟩
    have hi : i < 8 := by omega
    have nl : ¬ (8 : Int32) ≤ nI i := nI_ge (b := 8) hi (by decide)
    have wi : gp_w te w0 i < 2 ^ 60 := by
      unfold gp_w
      split
      · omega
      · exact (hw i hi).2
    have le63 : le < 2 ^ 63 := by
      rcases h3 with ⟨-, z, -⟩ | ⟨z, -, z2, -⟩
      · omega
      · rw [z2]
        unfold gp_w
        split
        · omega
        · have := (hw f (by omega)).2
          omega
    have red : xf_X7_leastOutside_p9 (nI c) (F + 1) s (nI f) (lN le) (nI i) = if gp_b c i = false then (if le ≤ gp_w te w0 i then xf_X7_leastOutside_p9 (nI c) F s (nI f) (lN le) (nI (i + 1)) else xf_X7_leastOutside_p9 (nI c) F s (nI i) (lN (gp_w te w0 i)) (nI (i + 1))) else xf_X7_leastOutside_p9 (nI c) F s (nI f) (lN le) (nI (i + 1)) := by
      have P : xf_X7_leastOutside_p42 (nI c) (xf_X7_leastOutside_p9 (nI c) F) s (nI f) (lN le) (nI i) (lN (gp_w te w0 i)) = if gp_b c i = false then (if le ≤ gp_w te w0 i then xf_X7_leastOutside_p9 (nI c) F s (nI f) (lN le) (nI (i + 1)) else xf_X7_leastOutside_p9 (nI c) F s (nI i) (lN (gp_w te w0 i)) (nI (i + 1))) else xf_X7_leastOutside_p9 (nI c) F s (nI f) (lN le) (nI (i + 1)) := by
        unfold xf_X7_leastOutside_p42 xf_X7_leastOutside_p66
        have b1 := (gp_bits c hc i hi).1
        have b2 := lg_cge (a := gp_w te w0 i) (b := le) (by omega) le63
        simp only [sm_bS, b1, nI_inc]
        cases gp_b c i with
        | true => simp only [if_true, i10, if_false, Bool.true_eq_false]
        | false =>
          simp only [Bool.false_eq_true, if_false, if_true]
          by_cases q : le ≤ gp_w te w0 i
          · rw [if_pos q, if_pos (b2.mpr q)]
          · rw [if_neg q, if_neg (mt b2.mp q)]
      rw [← P, xf_X7_leastOutside_p9, if_neg nl]
      simp only [xf_tent, sm_cS, ht]
      unfold gp_w
      by_cases q : te >>> (nI i &&& 31) &&& 1 = 1
      · simp only [q, if_true, i10, if_false]
        rfl
      · simp only [q, if_true, if_false, sm_gIn hi (by decide : 8 < 2 ^ 31), nI_cl (show i < 2 ^ 31 by omega), (hw i hi).1, sm_bS]
    rw [red]
    cases e : gp_b c i with
    | true =>
      rw [if_neg (by simp)]
      refine ih (i + 1) F f le (by omega) (by omega) ?_
      rcases h3 with ⟨z1, z2, z3⟩ | ⟨z1, z2, z3, z4⟩
      · refine Or.inl ⟨z1, z2, fun a ha => ?_⟩
        by_cases q : a = i
        · rw [q]; exact e
        · exact z3 a (by omega)
      · refine Or.inr ⟨by omega, z2, z3, fun a ha ea => ?_⟩
        by_cases q : a = i
        · rw [q, e] at ea; cases ea
        · exact z4 a (by omega) ea
    | false =>
      rw [if_pos rfl]
      by_cases q : le ≤ gp_w te w0 i
      · rw [if_pos q]
        refine ih (i + 1) F f le (by omega) (by omega) ?_
        rcases h3 with ⟨z1, z2, z3⟩ | ⟨z1, z2, z3, z4⟩
        · exfalso
          omega
        · refine Or.inr ⟨by omega, z2, z3, fun a ha ea => ?_⟩
          by_cases q2 : a = i
          · subst q2
            rw [z3] at q
            omega
          · exact z4 a (by omega) ea
      · rw [if_neg q]
        refine ih (i + 1) F i _ (by omega) (by omega) (Or.inr ⟨by omega, e, rfl, fun a ha ea => ?_⟩)
        by_cases q2 : a = i
        · subst q2
          exact Or.inr ⟨rfl, Nat.le_refl _⟩
        · rcases h3 with ⟨z1, z2, z3⟩ | ⟨z1, z2, z3, z4⟩
          · have := z3 a (by omega)
            rw [ea] at this
            cases this
          · have := z4 a (by omega) ea
            omega
/-- what the class has chosen -/
def gp_G (w : Nat → Nat) (c i : Nat) : Prop := c < 256 ∧ gp_s gp_1 c 8 = i ∧ ∀ b, b < 8 → ∀ a, a < 8 → gp_b c b = true → gp_b c a = false → w b < w a ∨ (w b = w a ∧ b < a)
theorem xf_gapL {a1 : Int32} {x : Nat} {s : sm_St} (h5 : k ≤ 5) (h6 : s.1 1 6 = nI k) (ht : s.1 1 3 = te) (hw : ∀ p, p < 8 → s.2.1 54 p = lN (w0 p) ∧ w0 p < 2 ^ 60) : ∀ (d i F c : Nat), i + d = k → d < F → gp_G (gp_w te w0) c i → ∃ c', gp_G (gp_w te w0) c' k ∧ xf_X7_gap_p38 a1 (nI x) F s (nI c) (nI i) = sm_c (xf_X7_placeOfBit (nI c') (nI x) s) fun v2 s3 => some (v2, s3) := by
  intro d
  induction d with
  | zero =>
    intro i F c h1 h2 h3
    obtain ⟨F, rfl⟩ : ∃ n', F = n' + 1 := ⟨F - 1, by omega⟩
    have : i = k := by omega
    subst this
    refine ⟨c, h3, ?_⟩
    rw [xf_X7_gap_p38]
    simp only [sm_bS, h6]
    rw [if_pos (nI_le (Nat.le_refl _) (by omega))]
  | succ d ih =>
    intro i F c h1 h2 h3
    obtain ⟨F, rfl⟩ : ∃ n', F = n' + 1 := ⟨F - 1, by omega⟩
    have nl : ¬ nI k ≤ nI i := nI_ge (by omega) (by omega)
    obtain ⟨g1, g2, g3⟩ := h3
    obtain ⟨r, e1, e2⟩ := xf_leastL (c := c) g1 ht hw 8 0 sm_F 0 9223372036854775807 (by omega) (by have := sm_Fge; omega) (Or.inl ⟨rfl, rfl, fun a ha => absurd ha (by omega)⟩)
    have e2 : r < 8 ∧ gp_b c r = false ∧ ∀ a, a < 8 → gp_b c a = false → gp_w te w0 r < gp_w te w0 a ∨ (gp_w te w0 r = gp_w te w0 a ∧ r ≤ a) := by
      rcases e2 with z | z
      · obtain ⟨p, p1, p2⟩ := gp_free c g1 (by omega)
        rw [z p p1] at p2
        cases p2
      · exact z
    obtain ⟨r1, r2, r3⟩ := e2
    obtain ⟨b1, b2⟩ := (gp_bits c g1 r r1).2 r2
    obtain ⟨c', q1, q2⟩ := ih (i + 1) F (c + 2 ^ r) (by omega) (by omega) ⟨b2, by rw [gp_s1 g1 r1 r2, g2]; rfl, fun b hb a ha eb ea => by
      rw [gp_add c g1 r r1 r2 b hb] at eb
      rw [gp_add c g1 r r1 r2 a ha] at ea
      simp only [Bool.or_eq_true, decide_eq_true_eq, Bool.or_eq_false_iff, decide_eq_false_iff_not] at eb ea
      rcases eb with eb | eb
      · exact g3 b hb a ha eb ea.1
      · subst eb
        have := r3 a ha ea.1
        omega⟩
    refine ⟨c', q1, ?_⟩
    have e1 : xf_X7_leastOutside_p9 (nI c) sm_F s 0 9223372036854775807 0 = some (nI r, s) := by
      rw [lN_max]
      exact e1
    rw [xf_X7_gap_p38]
    unfold xf_X7_leastOutside
    simp only [sm_bS, h6, nl, if_false, e1, sm_cS, b1, nI_inc]
    exact q2
theorem xf_placeL {x : Nat} {s : sm_St} (hm : m < 256) (hx : x < 8) : ∀ (d i F : Nat), i + d = 8 → d < F → xf_X7_placeOfBit_p4 (nI m) (nI x) F s (nI (gp_s gp_1 m i)) (nI i) = some (if gp_f m x d i = 8 then -1 else nI (gp_f m x d i), s) := by
  intro d
  induction d with
  | zero =>
    intro i F h1 h2
    obtain ⟨F, rfl⟩ : ∃ n', F = n' + 1 := ⟨F - 1, by omega⟩
    have : i = 8 := by omega
    subst this
    rw [xf_X7_placeOfBit_p4, if_pos (by decide)]
    rfl
  | succ d ih =>
    intro i F h1 h2
    obtain ⟨F, rfl⟩ : ∃ n', F = n' + 1 := ⟨F - 1, by omega⟩
    have hi : i < 8 := by omega
    have nl : ¬ (8 : Int32) ≤ nI i := nI_ge (b := 8) hi (by decide)
    have b1 := (gp_bits m hm i hi).1
    have sl : gp_s gp_1 m i ≤ i * 1 := gp_sle (fun _ => Nat.le_refl _) i
    have next := ih (i + 1) F (by omega) (by omega)
    have es : gp_s gp_1 m (i + 1) = gp_s gp_1 m i + (if gp_b m i = true then 1 else 0) := rfl
    have ef : gp_f m x (d + 1) i = if gp_b m i = true ∧ gp_s gp_1 m i = x then i else gp_f m x d (i + 1) := rfl
    rw [xf_X7_placeOfBit_p4, if_neg nl]
    simp only [sm_bS, b1, xf_X7_placeOfBit_p31, nI_inc]
    cases e : gp_b m i with
    | false =>
      rw [e] at es ef
      simp only [Bool.false_eq_true, if_false, false_and, Nat.add_zero] at es ef
      simp only [Bool.false_eq_true, if_false, if_true]
      rw [ef, ← es]
      exact next
    | true =>
      rw [e] at es ef
      simp only [if_true, true_and] at es ef
      simp only [if_true, i10, if_false]
      by_cases q : gp_s gp_1 m i = x
      · rw [if_pos q] at ef
        rw [if_pos (by rw [q]), ef, if_neg (by omega)]
      · rw [if_neg q] at ef
        rw [if_neg (fun z => q ((nI_eq (by omega) (by omega)).mp z)), ef, ← es]
        exact next
end
