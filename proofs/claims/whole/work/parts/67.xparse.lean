/-! the class reads as told -/
def cx_S (β : Nat → Nat) (n t : Nat) (l : List Int32) (σ : sm_St) : Prop := tx_X β n σ ∧ σ.2.2 13 6 = some (16 + t) ∧ σ.1 (16 + t) 2 = nI l.length ∧ ∀ i, i < l.length → σ.1 (22 + t) i = l.getD i 0
def cx_F (t : Nat) (σ σ' : sm_St) : Prop := (∀ c j, ¬ (c = 13 ∧ 2 ≤ j ∧ j ≤ 5) → ¬ (c = 16 + t ∧ j = 2) → c ≠ 22 + t → σ'.1 c j = σ.1 c j) ∧ σ'.2 = σ.2
theorem cx_F.rf (t : Nat) (σ : sm_St) : cx_F t σ σ := ⟨fun _ _ _ _ _ => rfl, rfl⟩
theorem cx_F.tr {t : Nat} {a b c : sm_St} (h : cx_F t a b) (g : cx_F t b c) : cx_F t a c := ⟨fun x y h1 h2 h3 => (g.1 x y h1 h2 h3).trans (h.1 x y h1 h2 h3), g.2.trans h.2⟩
theorem cx_F.f {t : Nat} {σ σ' : sm_St} (h : tx_f σ σ') : cx_F t σ σ' := ⟨fun c j h1 _ _ => h.1 c j h1, h.2⟩
theorem cx_S.f {β : Nat → Nat} {n t : Nat} {l : List Int32} {σ σ' : sm_St} (ht : t < 6) (h : cx_S β n t l σ) (g : tx_f σ σ') : cx_S β n t l σ' := ⟨h.1.f g, by rw [g.2]; exact h.2.1, by rw [g.1 _ _ (by omega)]; exact h.2.2.1, fun i hi => by rw [g.1 _ _ (by omega)]; exact h.2.2.2 i hi⟩
theorem tx_At.c {β : Nat → Nat} {n p : Nat} {σ σ' : sm_St} (h : tx_At β n p σ) (g : ∀ j, σ'.1 13 j = σ.1 13 j) : tx_At β n p σ' := by
  unfold tx_At at h ⊢
  rw [g, g, g, g]
  exact h
theorem xo_tag3 {t : Nat} (ht : t < 6) : decide (xo_tag (16 + t) = 3) = true := by
  have q : ∀ t, t < 6 → decide (xo_tag (16 + t) = 3) = true := by decide
  exact q t ht
def cx_Q (β : Nat → Nat) (n t : Nat) (l : List Int32) (p : Nat) (r : Int32) (σ : sm_St) : Sum Nat (List Int32 × Nat) → Prop
  | .inl q => r = 0 ∧ σ.1 13 3 = nI q
  | .inr m => r = 1 ∧ cx_S β n t (l ++ m.1) σ ∧ tx_At β n m.2 σ ∧ m.2 ≤ n ∧ m.1.length + tx_s β n p ≤ tx_s β n m.2 ∧ tx_s β n p < tx_s β n m.2
section
variable {β : Nat → Nat} {n p t o : Nat} {σ : sm_St} {l : List Int32}
theorem xf_addE {v : Int32} (ht : t < 6) (h : cx_S β n t l σ) (hl : l.length < 160) : ∃ σ', xf_X6_addNumber (16 + t) v σ = some ((), σ') ∧ cx_S β n t (l ++ [v]) σ' ∧ cx_F t σ σ' ∧ ∀ j, σ'.1 13 j = σ.1 13 j := by
  obtain ⟨h1, h2, h3, h4⟩ := h
  have n1 : nI l.length < 160 := nI_lt (b := 160) hl (by decide)
  have en : nI l.length + 1 = nI (l.length + 1) := nI_1 _
  have e6 : 16 + t + 6 = 22 + t := by omega
  refine ⟨sm_sI (sm_sI σ (22 + t) l.length v) (16 + t) 2 (nI (l.length + 1)), ?_, ⟨⟨?_, fun i hi => ?_⟩, h2, ?_, fun i hi => ?_⟩, ⟨fun c j c1 c2 c3 => ?_, rfl⟩, fun j => ?_⟩
  · unfold xf_X6_addNumber
    simp only [sm_bN, h3]
    rw [if_pos n1, sm_gIn hl (by decide : 160 < 2 ^ 31), nI_cl (show l.length < 2 ^ 31 by omega), e6, sm_rI (16 + t) (by omega), h3, en]
  · rw [sm_rI 13 (by omega), sm_rI 13 (by omega)]; exact h1.1
  · rw [sm_rI 14 (by omega), sm_rI 14 (by omega)]; exact h1.2 i hi
  · rw [sm_rE, List.length_append]
    rfl
  · rw [sm_rI (22 + t) (by omega)]
    rw [List.length_append] at hi
    by_cases e : i = l.length
    · subst e
      rw [sm_rE]
      simp
    · have hi : i < l.length := by
        have : ([v] : List Int32).length = 1 := rfl
        omega
      rw [sm_rI1 _ i (Or.inr e), h4 i hi, List.getD_eq_getElem?_getD, List.getD_eq_getElem?_getD, List.getElem?_append_left hi]
  · rw [sm_rI1 c j (by omega), sm_rI c c3]
  · rw [sm_rI 13 (by omega), sm_rI 13 (by omega)]
theorem xf_opE {c : Nat} (ht : t < 6) (h : cx_S β n t l σ) (hl : l.length < 160) : ∃ σ', xf_X6_addOperator (16 + t) (nI c) σ = some ((), σ') ∧ cx_S β n t (l ++ [-(nI c)]) σ' ∧ cx_F t σ σ' ∧ ∀ j, σ'.1 13 j = σ.1 13 j := by
  obtain ⟨u, u1, u2⟩ := xf_addE (v := -(nI c)) ht h hl
  refine ⟨u, ?_, u2⟩
  unfold xf_X6_addOperator
  simp only [sm_bN, u1, sm_cS]
/-- a step, from the token at p -/
theorem xs_step (hn : n ≤ 160) (hβ : ∀ i, i < n → β i < 256) (ht : t < 6) (hp : p ≤ n) (hS : cx_S β n t l σ) (hA : tx_At β n p σ) : ∃ σ', xf_X4_step σ = some ((), σ') ∧ cx_F t σ σ' ∧ cx_S β n t l σ' ∧ tx_At β n (tx_e β n p) σ' := by
  obtain ⟨u, u1, u2, u3⟩ := xf_stepE (p := tx_e β n p) hn hβ (tx_eB hp).2.1 hS.1 hA.2.2.1
  exact ⟨u, u1, cx_F.f u2, hS.f ht u2, u3⟩
theorem tx_pos (hp : p ≤ n) (hc : tx_c β n p ≠ 0) : tx_s β n p < tx_s β n (tx_e β n p) ∧ tx_e β n p ≤ n ∧ tx_s β n p < n := by
  have h := tx_c0 hc
  obtain ⟨e1, e2, e3⟩ := tx_eB (β := β) hp
  have := (tx_sB (β := β) e2).1
  have := e3 h
  exact ⟨by omega, e2, h⟩
theorem xs_loop {L : Nat → sm_St → Int32 → Option (Int32 × sm_St)} {S : sm_St → Option (Int32 × sm_St)} {q : Nat → Bool} {sub : Nat → Sum Nat (List Int32 × Nat)} (hn : n ≤ 160) (hβ : ∀ i, i < n → β i < 256) (ht : t < 6) (hq : q 0 = false) (hstop : ∀ F y k p, tx_At β n p y → q (tx_c β n p) = false → L (F + 1) y (nI k) = some (1, y)) (hgo : ∀ F y k p, k < 160 → tx_At β n p y → q (tx_c β n p) = true → L (F + 1) y (nI k) = sm_c (xf_X4_step y) fun _ s3 => sm_c (S s3) fun v4 s5 => if v4 = 0 then some (0, s5) else sm_o (s5.2.2 13 6) fun c7 => sm_g (decide (xo_tag c7 = 3)) <| sm_c (xf_X6_addOperator c7 (nI (tx_c β n p)) s5) fun _ s9 => L F s9 (nI (k + 1))) (hsub : ∀ p σ l, p ≤ n → cx_S β n t l σ → tx_At β n p σ → l.length ≤ tx_s β n p → ∃ r σ', S σ = some (r, σ') ∧ cx_F t σ σ' ∧ cx_Q β n t l p r σ' (sub p)) {l0 : List Int32} {p0 : Nat} (h0 : l0.length ≤ tx_s β n p0) : ∀ (d F k p : Nat) (m : List Int32) (σ : sm_St), n < d + tx_s β n p → d ≤ F → k ≤ tx_s β n p → p ≤ n → cx_S β n t (l0 ++ m) σ → tx_At β n p σ → m.length + tx_s β n p0 ≤ tx_s β n p → tx_s β n p0 < tx_s β n p → ∃ r σ', L F σ (nI k) = some (r, σ') ∧ cx_F t σ σ' ∧ cx_Q β n t l0 p0 r σ' (ps_lp q (tx_c β n) (tx_e β n) sub d m p) := by
  intro d
  induction d with
  | zero =>
    intro F k p m σ h1 h2 h3 h4
    have := (tx_sB (β := β) h4).2
    omega
  | succ d ih =>
    intro F k p m σ h1 h2 h3 h4 h5 h6 h7 h8
    obtain ⟨F, rfl⟩ : ∃ n', F = n' + 1 := ⟨F - 1, by omega⟩
    unfold ps_lp
    cases c : q (tx_c β n p) with
    | false =>
      rw [if_neg (by simp), hstop F σ k p h6 c]
      exact ⟨1, σ, rfl, cx_F.rf _ _, rfl, h5, h6, h4, h7, h8⟩
    | true =>
      have c0 : tx_c β n p ≠ 0 := fun e => by rw [e, hq] at c; cases c
      obtain ⟨p1, p2, p3⟩ := tx_pos h4 c0
      rw [if_pos rfl, hgo F σ k p (by omega) h6 c]
      obtain ⟨u, u1, u2, u3, u4⟩ := xs_step hn hβ ht h4 h5 h6
      have hl : (l0 ++ m).length ≤ tx_s β n p := by
        rw [List.length_append]
        omega
      obtain ⟨r, w, w1, w2, w3⟩ := hsub (tx_e β n p) u (l0 ++ m) p2 u3 u4 (by omega)
      rw [u1]
      simp only [sm_cS, w1]
      cases e : sub (tx_e β n p) with
      | inl f =>
        rw [e] at w3
        obtain ⟨w4, w5⟩ := w3
        rw [if_pos w4]
        exact ⟨0, w, rfl, u2.tr w2, rfl, w5⟩
      | inr x =>
        rw [e] at w3
        obtain ⟨w4, w5, w6, w7, w8, w9⟩ := w3
        have nz : ¬ r = 0 := by rw [w4]; exact i10
        have sn := (tx_sB (β := β) w7).2
        obtain ⟨y, y1, y2, y3, y4⟩ := xf_opE (c := tx_c β n p) ht w5 (by rw [List.length_append]; omega)
        rw [if_neg nz, w5.2.1]
        show ∃ r σ', sm_g (decide (xo_tag (16 + t) = 3)) (sm_c (xf_X6_addOperator (16 + t) (nI (tx_c β n p)) w) fun _ s9 => L F s9 (nI (k + 1))) = some (r, σ') ∧ _
        rw [xo_tag3 ht, y1]
        obtain ⟨r', z, z1, z2, z3⟩ := ih F (k + 1) x.2 (m ++ x.1 ++ [-(nI (tx_c β n p))]) y (by omega) (by omega) (by omega) w7 (by
          rw [← List.append_assoc, ← List.append_assoc]
          exact y2) (w6.c y4) (by
          rw [List.length_append, List.length_append]
          have : ([-(nI (tx_c β n p))] : List Int32).length = 1 := rfl
          omega) (by omega)
        exact ⟨r', z, z1, ((u2.tr w2).tr y3).tr z2, z3⟩
end
