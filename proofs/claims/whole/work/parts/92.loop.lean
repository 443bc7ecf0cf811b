/-! THE LAW'S LOOP -/
theorem la_and (x : Int32) : ∃ k, k < 32 ∧ x &&& 31 = nI k := by
  refine ⟨(x &&& 31).toBitVec.toNat, ?_, ?_⟩
  · have e : (x &&& 31).toBitVec = x.toBitVec &&& 31#32 := rfl
    rw [e, BitVec.toNat_and]
    exact Nat.lt_of_le_of_lt Nat.and_le_right (by decide)
  · apply Int32.toBitVec_inj.mp
    show (x &&& 31).toBitVec = BitVec.ofNat 32 (x &&& 31).toBitVec.toNat
    rw [BitVec.ofNat_toNat, BitVec.setWidth_eq]
theorem la_cond {i L : Nat} (hL : L ≤ 3072) (hi : i ≤ L + 6) (h : L < i + 6) : Int32.ofNat L - 6 < nI i := by
  show nI L - nI 6 < nI i
  rcases Nat.lt_or_ge L 6 with h6 | h6
  · have n0 : nI L - nI 6 < 0 := by
      rcases (show L = 0 ∨ L = 1 ∨ L = 2 ∨ L = 3 ∨ L = 4 ∨ L = 5 by omega) with rfl | rfl | rfl | rfl | rfl | rfl <;> decide
    exact Int32.lt_of_lt_of_le n0 (nI_pos' (by omega))
  · rw [nI_subT h6]
    exact nI_lt (b := i) (by omega) (by omega)
section
variable {X : sm_VC} {wm : sm_WD} {b L : Nat} {xs : Nat → Int32} {Q : State → Prop}
set_option maxRecDepth 4000 in
theorem la_one (C : la_Cx X wm b L xs) {σx σm : sm_St} (hR : pr_R tx_cmp σx σm) {i : Nat} (hi : i + 6 ≤ L) (kk : ∀ s t, pr_R tx_cmp s t → la_V X wm Q s t 1060 (la_lv X wm b (nI i)) []) : la_V X wm Q σx σm 27 (la_lv X wm b (nI i)) [] := by
  have hL : L ≤ 3072 := C.2.2.2.2.2.2.2.2
  refine la_aload_n C 3 dL_27 rfl rfl ?_
  refine la_iload_n C 0 dL_28 rfl rfl ?_
  refine la_sld C (vp_in_nI (by omega) (by omega)) dL_29 ?_
  refine la_bipush (v := 31) C dL_30 (by decide) ?_
  refine la_iand C dL_32 ?_
  obtain ⟨k, hk, e⟩ := la_and (xs (nI i).toNatClampNeg)
  rw [e]
  rcases (show k = 0 ∨ k = 1 ∨ k = 2 ∨ k = 3 ∨ k = 4 ∨ k = 5 ∨ k = 6 ∨ k = 7 ∨ k = 8 ∨ k = 9 ∨ k = 10 ∨ k = 11 ∨ k = 12 ∨ k = 13 ∨ k = 14 ∨ k = 15 ∨ k = 16 ∨ k = 17 ∨ k = 18 ∨ k = 19 ∨ k = 20 ∨ k = 21 ∨ k = 22 ∨ k = 23 ∨ k = 24 ∨ k = 25 ∨ k = 26 ∨ k = 27 ∨ k = 28 ∨ k = 29 ∨ k = 30 ∨ k = 31 by omega) with rfl | rfl | rfl | rfl | rfl | rfl | rfl | rfl | rfl | rfl | rfl | rfl | rfl | rfl | rfl | rfl | rfl | rfl | rfl | rfl | rfl | rfl | rfl | rfl | rfl | rfl | rfl | rfl | rfl | rfl | rfl | rfl
  · exact la_tin C 123 156 dL_33 (by decide) (by decide) (la_c0 C hR hi kk)
  · exact la_tin C 166 199 dL_33 (by decide) (by decide) (la_c1 C hR hi kk)
  · exact la_tin C 209 242 dL_33 (by decide) (by decide) (la_c2 C hR hi kk)
  · exact la_tin C 242 275 dL_33 (by decide) (by decide) (la_c3 C hR hi kk)
  · exact la_tin C 265 298 dL_33 (by decide) (by decide) (la_c4 C hR hi kk)
  · exact la_tin C 278 311 dL_33 (by decide) (by decide) (la_c5 C hR hi kk)
  · exact la_tin C 301 334 dL_33 (by decide) (by decide) (la_c6 C hR hi kk)
  · exact la_tin C 334 367 dL_33 (by decide) (by decide) (la_c7 C hR hi kk)
  · exact la_tin C 357 390 dL_33 (by decide) (by decide) (la_c8 C hR hi kk)
  · exact la_tin C 401 434 dL_33 (by decide) (by decide) (la_c9 C hR hi kk)
  · exact la_tin C 445 478 dL_33 (by decide) (by decide) (la_c10 C hR hi kk)
  · exact la_tin C 478 511 dL_33 (by decide) (by decide) (la_c11 C hR hi kk)
  · exact la_tin C 511 544 dL_33 (by decide) (by decide) (la_c12 C hR hi kk)
  · exact la_tin C 534 567 dL_33 (by decide) (by decide) (la_c13 C hR hi kk)
  · exact la_tin C 557 590 dL_33 (by decide) (by decide) (la_c14 C hR hi kk)
  · exact la_tin C 600 633 dL_33 (by decide) (by decide) (la_c15 C hR hi kk)
  · exact la_tin C 643 676 dL_33 (by decide) (by decide) (la_c16 C hR hi kk)
  · exact la_tin C 676 709 dL_33 (by decide) (by decide) (la_c17 C hR hi kk)
  · exact la_tin C 699 732 dL_33 (by decide) (by decide) (la_c18 C hR hi kk)
  · exact la_tin C 743 776 dL_33 (by decide) (by decide) (la_c19 C hR hi kk)
  · exact la_tin C 756 789 dL_33 (by decide) (by decide) (la_c20 C hR hi kk)
  · exact la_tin C 769 802 dL_33 (by decide) (by decide) (la_c21 C hR hi kk)
  · exact la_tin C 792 825 dL_33 (by decide) (by decide) (la_c22 C hR hi kk)
  · exact la_tin C 835 868 dL_33 (by decide) (by decide) (la_c23 C hR hi kk)
  · exact la_tin C 878 911 dL_33 (by decide) (by decide) (la_c24 C hR hi kk)
  · exact la_tin C 941 974 dL_33 (by decide) (by decide) (la_c25 C hR hi kk)
  · exact la_tin C 994 1027 dL_33 (by decide) (by decide) (la_c26 C hR hi kk)
  · exact la_tout C 1060 dL_33 (by decide) (by decide) (kk _ _ hR)
  · exact la_tout C 1060 dL_33 (by decide) (by decide) (kk _ _ hR)
  · exact la_tout C 1060 dL_33 (by decide) (by decide) (kk _ _ hR)
  · exact la_tout C 1060 dL_33 (by decide) (by decide) (kk _ _ hR)
  · exact la_tout C 1060 dL_33 (by decide) (by decide) (kk _ _ hR)
theorem la_loop (C : la_Cx X wm b L xs) (hend : ∀ (σx σm : sm_St) (i : Int32), la_V X wm Q σx σm 1066 (la_lv X wm b i) []) : ∀ (d i : Nat) (σx σm : sm_St), L < i + 6 * d → i ≤ L + 6 → pr_R tx_cmp σx σm → la_V X wm Q σx σm 18 (la_lv X wm b (nI i)) [] := by
  have hL : L ≤ 3072 := C.2.2.2.2.2.2.2.2
  intro d
  induction d with
  | zero =>
    intro i σx σm h1 h2 hR
    refine la_iload_n C 0 dL_18 rfl rfl ?_
    refine la_aload_n C 3 dL_19 rfl rfl ?_
    refine la_slen C dL_20 ?_
    refine la_bipush (v := 6) C dL_21 (by decide) ?_
    refine la_isub C dL_23 ?_
    refine la_gt C 1066 dL_24 (by decide) (fun _ => hend _ _ _) (fun h => absurd (la_cond hL h2 (by omega)) h)
  | succ d ih =>
    intro i σx σm h1 h2 hR
    refine la_iload_n C 0 dL_18 rfl rfl ?_
    refine la_aload_n C 3 dL_19 rfl rfl ?_
    refine la_slen C dL_20 ?_
    refine la_bipush (v := 6) C dL_21 (by decide) ?_
    refine la_isub C dL_23 ?_
    refine la_gt C 1066 dL_24 (by decide) (fun _ => hend _ _ _) (fun h => ?_)
    have hi6 : i + 6 ≤ L := by
      rcases Nat.lt_or_ge L (i + 6) with h6 | h6
      · exact absurd (la_cond hL h2 h6) h
      · exact h6
    refine la_one C hR hi6 (fun s t hR1 => ?_)
    have e : nI i + Int32.ofInt 6 = nI (i + 6) := nI_add i 6
    refine la_iinc C 0 dL_1060 rfl e (by decide) (lv' := la_lv X wm b (nI (i + 6))) rfl ?_
    refine la_goto C 18 dL_1063 (by decide) ?_
    exact ih (i + 6) s t (by omega) (by omega) hR1
end
