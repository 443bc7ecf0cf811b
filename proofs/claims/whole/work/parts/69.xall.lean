/-! the class reads, all productions -/
section
variable {β : Nat → Nat} {n t : Nat}
theorem xs_all (hn : n ≤ 160) (hβ : ∀ i, i < n → β i < 256) (ht : t < 6) : ∀ f w o p σ l, w ≤ 5 → o ≤ 5 → (5 - o) * 6 + w < f → p ≤ n → cx_S β n t l σ → tx_At β n p σ → l.length ≤ tx_s β n p → ∃ r σ', xg_read f w (nI o) σ = some (r, σ') ∧ cx_F t σ σ' ∧ cx_Q β n t l p r σ' (ps_rd β n f w o p) := by
  intro f
  induction f with
  | zero => intro w o p σ l _ _ h; omega
  | succ f ih =>
    intro w o p σ l hw ho hf hp hS hA hl
    have C : ∀ a : Nat, a < 300 → ∀ p, ((nI (tx_c β n p) = nI a) ↔ tx_c β n p = a) := fun a ha p => nI_eq (by have := @tx_cB β n p; omega) (by omega)
    have K : ∀ k : Nat, k < 160 → ¬ (160 : Int32) ≤ nI k := fun k hk => nI_ge (b := 160) hk (by decide)
    rcases (by omega : w = 0 ∨ w = 3 ∨ w = 1 ∨ w = 2 ∨ w = 4 ∨ w = 5) with z | z | z | z | z | z <;> subst z
    · exact xs_one hn hβ ht ho (by omega) ih hp hS hA hl
    · exact xs_not hn hβ ht ho (by omega) ih hp hS hA hl
    · refine xs_ch (w := 1) (M := xf_X4_readTerm (xg_read f) (nI o)) (L := xf_X4_readTerm_p12 (xg_read f) (nI o)) hn hβ ht ho (by decide) hf ih rfl (fun F y k p hA hq => ?_) (fun F y k p hk hA hq => ?_) hp hS hA hl
      · have h : ¬ tx_c β n p = 42 := fun e => by rw [e] at hq; cases hq
        have q : ¬ nI (tx_c β n p) = 42 := mt (C 42 (by decide) p).mp h
        rw [xf_X4_readTerm_p12]
        simp only [sm_bN, hA.1]
        rw [if_neg q]
        split <;> rfl
      · have h : tx_c β n p = 42 := by
          unfold ps_q at hq
          have hq := of_decide_eq_true hq
          omega
        have q : nI (tx_c β n p) = 42 := (C 42 (by decide) p).mpr h
        rw [xf_X4_readTerm_p12, if_neg (K k hk)]
        simp only [sm_bN, hA.1]
        rw [if_pos q, q]
        simp only [nI_inc]
    · refine xs_ch (w := 2) (M := xf_X4_readSum (xg_read f) (nI o)) (L := xf_X4_readSum_p12 (xg_read f) (nI o)) hn hβ ht ho (by decide) hf ih rfl (fun F y k p hA hq => ?_) (fun F y k p hk hA hq => ?_) hp hS hA hl
      · have h : ¬ tx_c β n p = 43 := fun e => by rw [e] at hq; cases hq
        have h2 : ¬ tx_c β n p = 45 := fun e => by rw [e] at hq; cases hq
        have q : ¬ nI (tx_c β n p) = 43 := mt (C 43 (by decide) p).mp h
        have q2 : ¬ nI (tx_c β n p) = 45 := mt (C 45 (by decide) p).mp h2
        rw [xf_X4_readSum_p12]
        simp only [sm_bN, hA.1]
        rw [if_neg q, if_neg q2]
        split <;> rfl
      · have h : tx_c β n p = 43 ∨ tx_c β n p = 45 := by
          unfold ps_q at hq
          have hq := of_decide_eq_true hq
          omega
        rw [xf_X4_readSum_p12, if_neg (K k hk)]
        simp only [sm_bN, hA.1, xf_X4_readSum_p37, nI_inc]
        by_cases c : tx_c β n p = 43
        · have q : nI (tx_c β n p) = 43 := (C 43 (by decide) p).mpr c
          rw [if_pos q]
        · have q : ¬ nI (tx_c β n p) = 43 := mt (C 43 (by decide) p).mp c
          have q2 : nI (tx_c β n p) = 45 := (C 45 (by decide) p).mpr (by omega)
          rw [if_neg q, if_pos q2]
    · refine xs_ch (w := 4) (M := xf_X4_readAnd (xg_read f) (nI o)) (L := xf_X4_readAnd_p12 (xg_read f) (nI o)) hn hβ ht ho (by decide) hf ih rfl (fun F y k p hA hq => ?_) (fun F y k p hk hA hq => ?_) hp hS hA hl
      · have h : ¬ tx_c β n p = 266 := fun e => by rw [e] at hq; cases hq
        have q : ¬ nI (tx_c β n p) = 266 := mt (C 266 (by decide) p).mp h
        rw [xf_X4_readAnd_p12]
        simp only [sm_bN, hA.1]
        rw [if_neg q]
        split <;> rfl
      · have h : tx_c β n p = 266 := by
          unfold ps_q at hq
          have hq := of_decide_eq_true hq
          omega
        have q : nI (tx_c β n p) = 266 := (C 266 (by decide) p).mpr h
        rw [xf_X4_readAnd_p12, if_neg (K k hk)]
        simp only [sm_bN, hA.1]
        rw [if_pos q, q]
        simp only [nI_inc]
    · refine xs_ch (w := 5) (M := xf_X4_readOr (xg_read f) (nI o)) (L := xf_X4_readOr_p12 (xg_read f) (nI o)) hn hβ ht ho (by decide) hf ih rfl (fun F y k p hA hq => ?_) (fun F y k p hk hA hq => ?_) hp hS hA hl
      · have h : ¬ tx_c β n p = 265 := fun e => by rw [e] at hq; cases hq
        have q : ¬ nI (tx_c β n p) = 265 := mt (C 265 (by decide) p).mp h
        rw [xf_X4_readOr_p12]
        simp only [sm_bN, hA.1]
        rw [if_neg q]
        split <;> rfl
      · have h : tx_c β n p = 265 := by
          unfold ps_q at hq
          have hq := of_decide_eq_true hq
          omega
        have q : nI (tx_c β n p) = 265 := (C 265 (by decide) p).mpr h
        rw [xf_X4_readOr_p12, if_neg (K k hk)]
        simp only [sm_bN, hA.1]
        rw [if_pos q, q]
        simp only [nI_inc]
end
