/-! 08.jdk: pure words by program, and their contracts -/
noncomputable def sm_F : Nat := Classical.choose (⟨1000000, Nat.le_refl _⟩ : ∃ n : Nat, 1000000 ≤ n)
theorem sm_Fge : 1000000 ≤ sm_F := Classical.choose_spec (⟨1000000, Nat.le_refl _⟩ : ∃ n : Nat, 1000000 ≤ n)
theorem sm_Fs (k : Nat) (h : k ≤ 1000000) : ∃ F, sm_F = F + k := ⟨sm_F - k, by have := sm_Fge; omega⟩
theorem sm_optnone {β : Type} {r : Option Nat} {ad : Nat → Nat} {A B : Option β} {z : β} (h : (if r = none then A else B) = some z) : (if r.map ad = none then A else B) = some z := by
  cases r <;> simpa using h
noncomputable def xf_J7_fill_53178_p5 (a1 : Nat) (a2 : Int32) : Nat → sm_St → Int32 → Int32 → Option (Unit × sm_St)
  | 0, _, _, _ => none
  | n + 1, s0, l2, l3 =>
  if l3 ≤ l2 then (
  some ((), s0))
  else (
  sm_g (sm_in l2 (xo_len a1)) <| sm_b (sm_sI s0 a1 l2.toNatClampNeg a2) fun s1 =>
  sm_b (l2 + Int32.ofInt 1) fun v2 =>
  (xf_J7_fill_53178_p5 a1 a2 n) s1 v2 l3)
noncomputable def xf_J7_fill_53178 (a1 : Nat) (a2 : Int32) (s0 : sm_St) : Option (Unit × sm_St) :=
  sm_b (Int32.ofNat (xo_len a1)) fun v1 =>
  xf_J7_fill_53178_p5 a1 a2 sm_F s0 (0 : Int32) v1
set_option maxRecDepth 4000 in
theorem xk_J7_fill_53178_p5 {X : sm_VC} (C : sm_Cx X prog_17_method_103_code 4 "java/util/Arrays" 2 100 none) (hw : xo_is (sm_w X)) {a1 : Nat} {a2 : Int32} (ha1 : xo_tag a1 = 10) {R : Unit × sm_St}   : ∀ (n : Nat) (s0 : sm_St) (l2 : Int32) (l3 : Int32) , xf_J7_fill_53178_p5 a1 a2 n s0 l2 l3 = some R → sm_V X (sm_QV X R) 4 s0 5 [(0, .ref (sm_ad (sm_w X) a1)), (1, .int a2), (2, .int l2), (3, .int l3)] [] := by
  intro n
  induction n with
  | zero =>
    intro s0 l2 l3 h
    have h : (none : Option (Unit × sm_St)) = some R := h
    cases h
  | succ n ih =>
    intro s0 l2 l3 h
    unfold xf_J7_fill_53178_p5 at h
    refine sm_iload_n C 2 dJ7_fill_53178_5 rfl rfl ?_
    refine sm_iload_n C 3 dJ7_fill_53178_6 rfl rfl ?_
    refine sm_icmp_ge C 20 dJ7_fill_53178_7 (by decide) h (fun h => ?_) (fun h => ?_)
    · exact sm_vret C dJ7_fill_53178_20 h
    · refine sm_aload_n C 0 dJ7_fill_53178_10 rfl rfl ?_
      refine sm_iload_n C 2 dJ7_fill_53178_11 rfl rfl ?_
      refine sm_iload_n C 1 dJ7_fill_53178_12 rfl rfl ?_
      refine xa_iast C hw (k := a1) ha1 rfl dJ7_fill_53178_13 h (fun s1 h => ?_)
      refine sm_iinc (lv' := fun v2 => [(2, .int v2), (0, .ref (sm_ad (sm_w X) a1)), (1, .int a2), (3, .int l3)]) C 2 dJ7_fill_53178_14 rfl (by decide) (fun _ => rfl) h (fun v2 h => ?_)
      refine sm_goto C 5 dJ7_fill_53178_17 (by decide) ?_
      refine sm_sub (lv' := [(0, .ref (sm_ad (sm_w X) a1)), (1, .int a2), (2, .int v2), (3, .int l3)]) [1, 2, 0, 3] rfl ?_
      exact ih s1 v2 l3 h
set_option maxRecDepth 4000 in
theorem xc_J7_fill_53178 {w : sm_WD} {l : Launch} (hw : xo_is w) (a1 : Nat) (a2 : Int32) (ha1 : xo_tag a1 = 10) : sm_CV w l yJ7_fill_53178 prog_17_method_103_code 4 none 2 100 [.ref (sm_ad w a1), .int a2] (fun s => xf_J7_fill_53178 a1 a2 s) := by
  refine sm_CV.of (by decide +kernel) (Nat.le_of_ble_eq_true rfl) (fun X s0 R hXw hXl C h => ?_)
  subst hXw
  subst hXl
  have h : xf_J7_fill_53178 a1 a2 s0 = some R := h
  show sm_V X (sm_QV X R) 4 s0 0 [(0, .ref (sm_ad (sm_w X) a1)), (1, .int a2)] []
  unfold xf_J7_fill_53178 at h
  refine sm_iconst (v := 0) C dJ7_fill_53178_0 (by decide) ?_
  refine sm_istore_n (lv' := [(2, .int (0 : Int32)), (0, .ref (sm_ad (sm_w X) a1)), (1, .int a2)]) C dJ7_fill_53178_1 rfl (by decide) rfl ?_
  refine sm_aload_n C 1 dJ7_fill_53178_2 rfl rfl ?_
  refine xa_alenI C hw (k := a1) ha1 rfl dJ7_fill_53178_3 h (fun v1 h => ?_)
  refine sm_istore_n (lv' := [(3, .int v1), (2, .int (0 : Int32)), (0, .ref (sm_ad (sm_w X) a1)), (1, .int a2)]) C dJ7_fill_53178_4 rfl (by decide) rfl ?_
  refine sm_sub (lv' := [(0, .ref (sm_ad (sm_w X) a1)), (1, .int a2), (2, .int (0 : Int32)), (3, .int v1)]) [2, 3, 1, 0] rfl ?_
  exact xk_J7_fill_53178_p5 C hw ha1 sm_F s0 (0 : Int32) v1 h
noncomputable def xf_J0_isLatin1_aae02 (k : Nat) (s0 : sm_St) : Option (Int32 × sm_St) :=
  if (1 : Int32) = 0 then (
  some ((0 : Int32), s0))
  else (
  if (0 : Int32) = 0 then (
  some ((1 : Int32), s0))
  else (
  some ((0 : Int32), s0)))
set_option maxRecDepth 4000 in
theorem xc_J0_isLatin1_aae02 {w : sm_WD} {l : Launch} (hw : xo_is w) (k : Nat) (hk : k < 3) : sm_CI w l yJ0_isLatin1_aae02 prog_13_method_154_code 1 (some .boolean) 2 100 [.ref (sm_aK w k)] (fun s => xf_J0_isLatin1_aae02 k s) := by
  refine sm_CI.of (by decide +kernel) (Nat.le_of_ble_eq_true rfl) (fun X s0 R hXw hXl C h => ?_)
  subst hXw
  subst hXl
  have h : xf_J0_isLatin1_aae02 k s0 = some R := h
  show sm_V X (sm_QI X R) 1 s0 0 [(0, .ref (sm_aK (sm_w X) k))] []
  unfold xf_J0_isLatin1_aae02 at h
  refine sm_gcomp C gf_String_38 dJ0_isLatin1_aae02_0 ?_
  refine sm_if_eq C 17 dJ0_isLatin1_aae02_3 (by decide) h (fun h => ?_) (fun h => ?_)
  · refine sm_iconst (v := 0) C dJ0_isLatin1_aae02_17 (by decide) ?_
    exact sm_zretK C rfl dJ0_isLatin1_aae02_18 h
  · refine sm_aload_n C 0 dJ0_isLatin1_aae02_6 rfl rfl ?_
    refine sm_gcoder C hk gf_String_15 dJ0_isLatin1_aae02_7 ?_
    refine sm_if_ne C 17 dJ0_isLatin1_aae02_10 (by decide) h (fun h => ?_) (fun h => ?_)
    · refine sm_iconst (v := 0) C dJ0_isLatin1_aae02_17 (by decide) ?_
      exact sm_zretK C rfl dJ0_isLatin1_aae02_18 h
    · refine sm_iconst (v := 1) C dJ0_isLatin1_aae02_13 (by decide) ?_
      refine sm_goto C 18 dJ0_isLatin1_aae02_14 (by decide) ?_
      exact sm_zretK C rfl dJ0_isLatin1_aae02_18 h
noncomputable def xf_J3_checkIndex_8e157_p9 (a1 : Int32) (a2 : Int32) (a3 : Option Nat) (s0 : sm_St) : Option (Int32 × sm_St) :=
  none
noncomputable def xf_J3_checkIndex_8e157 (a1 : Int32) (a2 : Int32) (a3 : Option Nat) (s0 : sm_St) : Option (Int32 × sm_St) :=
  if a1 < 0 then (
  xf_J3_checkIndex_8e157_p9 a1 a2 a3 s0)
  else (
  if a1 < a2 then (
  some (a1, s0))
  else (
  xf_J3_checkIndex_8e157_p9 a1 a2 a3 s0))
set_option maxRecDepth 4000 in
theorem xk_J3_checkIndex_8e157_p9 {X : sm_VC} (C : sm_Cx X prog_18_method_11_code 3 "jdk/internal/util/Preconditions" 2 100 (some .int)) (hw : xo_is (sm_w X)) {a1 : Int32} {a2 : Int32} {a3 : Option Nat}  {R : Int32 × sm_St}   (s0 : sm_St)   (h : xf_J3_checkIndex_8e157_p9 a1 a2 a3 s0 = some R) : sm_V X (sm_QI X R) 3 s0 9 [(0, .int a1), (1, .int a2), (2, va_rf a3)] [] := by
  unfold xf_J3_checkIndex_8e157_p9 at h
  refine sm_aload_nq (r := a3) C 2 dJ3_checkIndex_8e157_9 rfl rfl ?_
  refine sm_iload_n C 0 dJ3_checkIndex_8e157_10 rfl rfl ?_
  refine sm_iload_n C 1 dJ3_checkIndex_8e157_11 rfl rfl ?_
  cases h
set_option maxRecDepth 4000 in
theorem xc_J3_checkIndex_8e157 {w : sm_WD} {l : Launch} (hw : xo_is w) (a1 : Int32) (a2 : Int32) (a3 : Option Nat) : sm_CI w l yJ3_checkIndex_8e157 prog_18_method_11_code 3 (some .int) 2 100 [.int a1, .int a2, va_rf a3] (fun s => xf_J3_checkIndex_8e157 a1 a2 a3 s) := by
  refine sm_CI.of (by decide +kernel) (by cases a3 <;> exact Nat.le_of_ble_eq_true rfl) (fun X s0 R hXw hXl C h => ?_)
  subst hXw
  subst hXl
  have h : xf_J3_checkIndex_8e157 a1 a2 a3 s0 = some R := h
  show sm_V X (sm_QI X R) 3 s0 0 [(0, .int a1), (1, .int a2), (2, va_rf a3)] []
  unfold xf_J3_checkIndex_8e157 at h
  refine sm_iload_n C 0 dJ3_checkIndex_8e157_0 rfl rfl ?_
  refine sm_if_lt C 9 dJ3_checkIndex_8e157_1 (by decide) h (fun h => ?_) (fun h => ?_)
  · exact xk_J3_checkIndex_8e157_p9 C hw s0 h
  · refine sm_iload_n C 0 dJ3_checkIndex_8e157_4 rfl rfl ?_
    refine sm_iload_n C 1 dJ3_checkIndex_8e157_5 rfl rfl ?_
    refine sm_icmp_lt C 16 dJ3_checkIndex_8e157_6 (by decide) h (fun h => ?_) (fun h => ?_)
    · refine sm_iload_n C 0 dJ3_checkIndex_8e157_16 rfl rfl ?_
      exact sm_iret C dJ3_checkIndex_8e157_17 h
    · exact xk_J3_checkIndex_8e157_p9 C hw s0 h
noncomputable def xf_J0_checkIndex_df160 (a1 : Int32) (a2 : Int32) (s0 : sm_St) : Option (Unit × sm_St) :=
  sm_c (xf_J3_checkIndex_8e157 a1 a2 none s0) fun v2 s3 =>
  some ((), s3)
set_option maxRecDepth 4000 in
theorem xc_J0_checkIndex_df160 {w : sm_WD} {l : Launch} (hw : xo_is w) (a1 : Int32) (a2 : Int32) : sm_CV w l yJ0_checkIndex_df160 prog_13_method_155_code 2 none 3 122 [.int a1, .int a2] (fun s => xf_J0_checkIndex_df160 a1 a2 s) := by
  refine sm_CV.of (by decide +kernel) (Nat.le_of_ble_eq_true rfl) (fun X s0 R hXw hXl C h => ?_)
  subst hXw
  subst hXl
  have h : xf_J0_checkIndex_df160 a1 a2 s0 = some R := h
  show sm_V X (sm_QV X R) 2 s0 0 [(0, .int a1), (1, .int a2)] []
  unfold xf_J0_checkIndex_df160 at h
  refine sm_iload_n C 0 dJ0_checkIndex_df160_0 rfl rfl ?_
  refine sm_iload_n C 1 dJ0_checkIndex_df160_1 rfl rfl ?_
  refine sm_gform C gf_String_1053 dJ0_checkIndex_df160_2 (fun r1 => ?_)
  refine sm_callSI C [.int a1, .int a2, va_rf r1] (xc_J3_checkIndex_8e157 hw a1 a2 r1) gm_J3_checkIndex_8e157 gl_String_1059 gs_J3_checkIndex_8e157 rfl ⟨Nat.le_of_ble_eq_true rfl, Nat.le_of_ble_eq_true rfl⟩ rfl (Nat.le_of_ble_eq_true rfl) dJ0_checkIndex_df160_5 h (fun v2 s3 h => ?_)
  refine sm_pop C dJ0_checkIndex_df160_8 rfl ?_
  exact sm_vret C dJ0_checkIndex_df160_9 h
noncomputable def xf_J1_charAt_3b067 (a1 : Nat) (a2 : Int32) (s0 : sm_St) : Option (Int32 × sm_St) :=
  sm_b (Int32.ofNat (sm_len.getD a1 0)) fun v1 =>
  sm_c (xf_J0_checkIndex_df160 a2 v1 s0) fun _ s3 =>
  sm_g (sm_in a2 (sm_len.getD a1 0)) <| sm_b ((sm_byt.getD a1 []).getD a2.toNatClampNeg 0) fun v4 =>
  sm_b (v4 &&& (255 : Int32)) fun v5 =>
  sm_b ((v5.toUInt32 % 65536).toInt32) fun v6 =>
  sm_g (decide (narrow .char (.int v6) = .int v6)) (some (v6, s3))
set_option maxRecDepth 4000 in
theorem xc_J1_charAt_3b067 {w : sm_WD} {l : Launch} (hw : xo_is w) (a1 : Nat) (a2 : Int32) (ha1 : a1 < 3) : sm_CI w l yJ1_charAt_3b067 prog_14_method_2_code 2 (some .char) 4 143 [.ref (sm_aV w a1), .int a2] (fun s => xf_J1_charAt_3b067 a1 a2 s) := by
  refine sm_CI.of (by decide +kernel) (Nat.le_of_ble_eq_true rfl) (fun X s0 R hXw hXl C h => ?_)
  subst hXw
  subst hXl
  have h : xf_J1_charAt_3b067 a1 a2 s0 = some R := h
  show sm_V X (sm_QI X R) 2 s0 0 [(0, .ref (sm_aV (sm_w X) a1)), (1, .int a2)] []
  unfold xf_J1_charAt_3b067 at h
  refine sm_iload_n C 1 dJ1_charAt_3b067_0 rfl rfl ?_
  refine sm_aload_n C 0 dJ1_charAt_3b067_1 rfl rfl ?_
  refine sm_slen C ha1 dJ1_charAt_3b067_2 h (fun v1 h => ?_)
  refine sm_callSV C [.int a2, .int v1] (xc_J0_checkIndex_df160 hw a2 v1) gm_J0_checkIndex_df160 gl_Latin_9 gs_J0_checkIndex_df160 rfl ⟨Nat.le_of_ble_eq_true rfl, Nat.le_of_ble_eq_true rfl⟩ rfl (Nat.le_of_ble_eq_true rfl) dJ1_charAt_3b067_3 h (fun v2 s3 h => ?_)
  refine sm_aload_n C 0 dJ1_charAt_3b067_6 rfl rfl ?_
  refine sm_iload_n C 1 dJ1_charAt_3b067_7 rfl rfl ?_
  refine sm_sbald C ha1 dJ1_charAt_3b067_8 h (fun v4 h => ?_)
  refine sm_sipush (v := 255) C dJ1_charAt_3b067_9 (by decide) ?_
  refine sm_iand C dJ1_charAt_3b067_12 h (fun v5 h => ?_)
  refine sm_i2c C dJ1_charAt_3b067_13 h (fun v6 h => ?_)
  exact sm_zret C dJ1_charAt_3b067_14 h
noncomputable def xf_J0_charAt_5068e (k : Nat) (a1 : Int32) (s0 : sm_St) : Option (Int32 × sm_St) :=
  sm_c (xf_J0_isLatin1_aae02 k s0) fun v1 s2 =>
  if v1 = 0 then (
  none)
  else (
  sm_c (xf_J1_charAt_3b067 k a1 s2) fun v3 s4 =>
  sm_g (decide (narrow .char (.int v3) = .int v3)) (some (v3, s4)))
set_option maxRecDepth 4000 in
theorem xc_J0_charAt_5068e {w : sm_WD} {l : Launch} (hw : xo_is w) (k : Nat) (a1 : Int32) (hk : k < 3) : sm_CI w l yJ0_charAt_5068e prog_13_method_56_code 2 (some .char) 5 164 [.ref (sm_aK w k), .int a1] (fun s => xf_J0_charAt_5068e k a1 s) := by
  refine sm_CI.of (by decide +kernel) (Nat.le_of_ble_eq_true rfl) (fun X s0 R hXw hXl C h => ?_)
  subst hXw
  subst hXl
  have h : xf_J0_charAt_5068e k a1 s0 = some R := h
  show sm_V X (sm_QI X R) 2 s0 0 [(0, .ref (sm_aK (sm_w X) k)), (1, .int a1)] []
  unfold xf_J0_charAt_5068e at h
  refine sm_aload_n C 0 dJ0_charAt_5068e_0 rfl rfl ?_
  refine sm_callTI (i := k) C [] hk (xc_J0_isLatin1_aae02 hw k hk) gm_J0_isLatin1_aae02 gl_String_492 gi_J0_isLatin1_aae02 ge_J0_isLatin1_aae02 rfl rfl ⟨Nat.le_of_ble_eq_true rfl, Nat.le_of_ble_eq_true rfl⟩ rfl (Nat.le_of_ble_eq_true rfl) dJ0_charAt_5068e_1 h (fun v1 s2 h => ?_)
  refine sm_if_eq C 16 dJ0_charAt_5068e_4 (by decide) h (fun h => ?_) (fun h => ?_)
  · refine sm_aload_n C 0 dJ0_charAt_5068e_16 rfl rfl ?_
    refine sm_gvalue C hk gf_String_9 dJ0_charAt_5068e_17 ?_
    refine sm_iload_n C 1 dJ0_charAt_5068e_20 rfl rfl ?_
    cases h
  · refine sm_aload_n C 0 dJ0_charAt_5068e_7 rfl rfl ?_
    refine sm_gvalue C hk gf_String_9 dJ0_charAt_5068e_8 ?_
    refine sm_iload_n C 1 dJ0_charAt_5068e_11 rfl rfl ?_
    refine sm_callSI C [.ref (sm_aV (sm_w X) k), .int a1] (xc_J1_charAt_3b067 hw k a1 hk) gm_J1_charAt_3b067 gl_String_495 gs_J1_charAt_3b067 rfl ⟨Nat.le_of_ble_eq_true rfl, Nat.le_of_ble_eq_true rfl⟩ rfl (Nat.le_of_ble_eq_true rfl) dJ0_charAt_5068e_12 h (fun v3 s4 h => ?_)
    exact sm_zret C dJ0_charAt_5068e_15 h
noncomputable def xf_J0_coder_7d493 (k : Nat) (s0 : sm_St) : Option (Int32 × sm_St) :=
  if (1 : Int32) = 0 then (
  sm_g (decide (narrow .byte (.int (1 : Int32)) = .int (1 : Int32))) (some ((1 : Int32), s0)))
  else (
  sm_g (decide (narrow .byte (.int (0 : Int32)) = .int (0 : Int32))) (some ((0 : Int32), s0)))
set_option maxRecDepth 4000 in
theorem xc_J0_coder_7d493 {w : sm_WD} {l : Launch} (hw : xo_is w) (k : Nat) (hk : k < 3) : sm_CI w l yJ0_coder_7d493 prog_13_method_152_code 1 (some .byte) 2 100 [.ref (sm_aK w k)] (fun s => xf_J0_coder_7d493 k s) := by
  refine sm_CI.of (by decide +kernel) (Nat.le_of_ble_eq_true rfl) (fun X s0 R hXw hXl C h => ?_)
  subst hXw
  subst hXl
  have h : xf_J0_coder_7d493 k s0 = some R := h
  show sm_V X (sm_QI X R) 1 s0 0 [(0, .ref (sm_aK (sm_w X) k))] []
  unfold xf_J0_coder_7d493 at h
  refine sm_gcomp C gf_String_38 dJ0_coder_7d493_0 ?_
  refine sm_if_eq C 13 dJ0_coder_7d493_3 (by decide) h (fun h => ?_) (fun h => ?_)
  · refine sm_iconst (v := 1) C dJ0_coder_7d493_13 (by decide) ?_
    exact sm_zret C dJ0_coder_7d493_14 h
  · refine sm_aload_n C 0 dJ0_coder_7d493_6 rfl rfl ?_
    refine sm_gcoder C hk gf_String_15 dJ0_coder_7d493_7 ?_
    refine sm_goto C 14 dJ0_coder_7d493_10 (by decide) ?_
    exact sm_zret C dJ0_coder_7d493_14 h
noncomputable def xf_J0_length_8abf5 (k : Nat) (s0 : sm_St) : Option (Int32 × sm_St) :=
  sm_b (Int32.ofNat (sm_len.getD k 0)) fun v1 =>
  sm_c (xf_J0_coder_7d493 k s0) fun v2 s3 =>
  sm_b (v1 >>> (v2 &&& 31)) fun v4 =>
  some (v4, s3)
set_option maxRecDepth 4000 in
theorem xc_J0_length_8abf5 {w : sm_WD} {l : Launch} (hw : xo_is w) (k : Nat) (hk : k < 3) : sm_CI w l yJ0_length_8abf5 prog_13_method_54_code 1 (some .int) 3 120 [.ref (sm_aK w k)] (fun s => xf_J0_length_8abf5 k s) := by
  refine sm_CI.of (by decide +kernel) (Nat.le_of_ble_eq_true rfl) (fun X s0 R hXw hXl C h => ?_)
  subst hXw
  subst hXl
  have h : xf_J0_length_8abf5 k s0 = some R := h
  show sm_V X (sm_QI X R) 1 s0 0 [(0, .ref (sm_aK (sm_w X) k))] []
  unfold xf_J0_length_8abf5 at h
  refine sm_aload_n C 0 dJ0_length_8abf5_0 rfl rfl ?_
  refine sm_gvalue C hk gf_String_9 dJ0_length_8abf5_1 ?_
  refine sm_slen C hk dJ0_length_8abf5_4 h (fun v1 h => ?_)
  refine sm_aload_n C 0 dJ0_length_8abf5_5 rfl rfl ?_
  refine sm_callTI (i := k) C [] hk (xc_J0_coder_7d493 hw k hk) gm_J0_coder_7d493 gl_String_335 gi_J0_coder_7d493 ge_J0_coder_7d493 rfl rfl ⟨Nat.le_of_ble_eq_true rfl, Nat.le_of_ble_eq_true rfl⟩ rfl (Nat.le_of_ble_eq_true rfl) dJ0_length_8abf5_6 h (fun v2 s3 h => ?_)
  refine sm_ishr C dJ0_length_8abf5_9 h (fun v4 h => ?_)
  exact sm_iret C dJ0_length_8abf5_10 h
noncomputable def xf_J1_canEncode_9a6ad (a1 : Int32) (s0 : sm_St) : Option (Int32 × sm_St) :=
  if a1 < 0 then (
  some ((0 : Int32), s0))
  else (
  if (255 : Int32) < a1 then (
  some ((0 : Int32), s0))
  else (
  some ((1 : Int32), s0)))
set_option maxRecDepth 4000 in
theorem xc_J1_canEncode_9a6ad {w : sm_WD} {l : Launch} (hw : xo_is w) (a1 : Int32) : sm_CI w l yJ1_canEncode_9a6ad prog_14_method_4_code 1 (some .boolean) 2 100 [.int a1] (fun s => xf_J1_canEncode_9a6ad a1 s) := by
  refine sm_CI.of (by decide +kernel) (Nat.le_of_ble_eq_true rfl) (fun X s0 R hXw hXl C h => ?_)
  subst hXw
  subst hXl
  have h : xf_J1_canEncode_9a6ad a1 s0 = some R := h
  show sm_V X (sm_QI X R) 1 s0 0 [(0, .int a1)] []
  unfold xf_J1_canEncode_9a6ad at h
  refine sm_iload_n C 0 dJ1_canEncode_9a6ad_0 rfl rfl ?_
  refine sm_if_lt C 15 dJ1_canEncode_9a6ad_1 (by decide) h (fun h => ?_) (fun h => ?_)
  · refine sm_iconst (v := 0) C dJ1_canEncode_9a6ad_15 (by decide) ?_
    exact sm_zretK C rfl dJ1_canEncode_9a6ad_16 h
  · refine sm_iload_n C 0 dJ1_canEncode_9a6ad_4 rfl rfl ?_
    refine sm_sipush (v := 255) C dJ1_canEncode_9a6ad_5 (by decide) ?_
    refine sm_icmp_gt C 15 dJ1_canEncode_9a6ad_8 (by decide) h (fun h => ?_) (fun h => ?_)
    · refine sm_iconst (v := 0) C dJ1_canEncode_9a6ad_15 (by decide) ?_
      exact sm_zretK C rfl dJ1_canEncode_9a6ad_16 h
    · refine sm_iconst (v := 1) C dJ1_canEncode_9a6ad_11 (by decide) ?_
      refine sm_goto C 16 dJ1_canEncode_9a6ad_12 (by decide) ?_
      exact sm_zretK C rfl dJ1_canEncode_9a6ad_16 h
noncomputable def xf_J1_indexOfChar_4cfef_p7 (a1 : Nat) (a2 : Int32) (a3 : Int32) (a4 : Int32) : Nat → sm_St → Int32 → Int32 → Option (Int32 × sm_St)
  | 0, _, _, _ => none
  | n + 1, s0, l4, l5 =>
  if a4 ≤ l5 then (
  some ((-1 : Int32), s0))
  else (
  sm_g (sm_in l5 (sm_len.getD a1 0)) <| sm_b ((sm_byt.getD a1 []).getD l5.toNatClampNeg 0) fun v1 =>
  if v1 = l4 then (
  some (l5, s0))
  else (
  sm_b (l5 + Int32.ofInt 1) fun v2 =>
  (xf_J1_indexOfChar_4cfef_p7 a1 a2 a3 a4 n) s0 l4 v2))
noncomputable def xf_J1_indexOfChar_4cfef (a1 : Nat) (a2 : Int32) (a3 : Int32) (a4 : Int32) (s0 : sm_St) : Option (Int32 × sm_St) :=
  sm_b (a2.toInt8.toInt32) fun v1 =>
  xf_J1_indexOfChar_4cfef_p7 a1 a2 a3 a4 sm_F s0 v1 a3
set_option maxRecDepth 4000 in
theorem xk_J1_indexOfChar_4cfef_p7 {X : sm_VC} (C : sm_Cx X prog_14_method_23_code 6 "java/lang/StringLatin1" 2 100 (some .int)) (hw : xo_is (sm_w X)) {a1 : Nat} {a2 : Int32} {a3 : Int32} {a4 : Int32} (ha1 : a1 < 3) {R : Int32 × sm_St}   : ∀ (n : Nat) (s0 : sm_St) (l4 : Int32) (l5 : Int32) , xf_J1_indexOfChar_4cfef_p7 a1 a2 a3 a4 n s0 l4 l5 = some R → sm_V X (sm_QI X R) 6 s0 7 [(0, .ref (sm_aV (sm_w X) a1)), (3, .int a4), (4, .int l4), (5, .int l5)] [] := by
  intro n
  induction n with
  | zero =>
    intro s0 l4 l5 h
    have h : (none : Option (Int32 × sm_St)) = some R := h
    cases h
  | succ n ih =>
    intro s0 l4 l5 h
    unfold xf_J1_indexOfChar_4cfef_p7 at h
    refine sm_iload C 3 dJ1_indexOfChar_4cfef_7 rfl ?_
    refine sm_iload_n C 1 dJ1_indexOfChar_4cfef_9 rfl rfl ?_
    refine sm_icmp_ge C 31 dJ1_indexOfChar_4cfef_10 (by decide) h (fun h => ?_) (fun h => ?_)
    · refine sm_iconst (v := (-1)) C dJ1_indexOfChar_4cfef_31 (by decide) ?_
      exact sm_iret C dJ1_indexOfChar_4cfef_32 h
    · refine sm_aload_n C 0 dJ1_indexOfChar_4cfef_13 rfl rfl ?_
      refine sm_iload C 3 dJ1_indexOfChar_4cfef_14 rfl ?_
      refine sm_sbald C ha1 dJ1_indexOfChar_4cfef_16 h (fun v1 h => ?_)
      refine sm_iload C 2 dJ1_indexOfChar_4cfef_17 rfl ?_
      refine sm_icmp_ne C 25 dJ1_indexOfChar_4cfef_19 (by decide) h (fun h => ?_) (fun h => ?_)
      · refine sm_iinc (lv' := fun v2 => [(5, .int v2), (0, .ref (sm_aV (sm_w X) a1)), (3, .int a4), (4, .int l4)]) C 3 dJ1_indexOfChar_4cfef_25 rfl (by decide) (fun _ => rfl) h (fun v2 h => ?_)
        refine sm_goto C 7 dJ1_indexOfChar_4cfef_28 (by decide) ?_
        refine sm_sub (lv' := [(0, .ref (sm_aV (sm_w X) a1)), (3, .int a4), (4, .int l4), (5, .int v2)]) [1, 2, 3, 0] rfl ?_
        exact ih s0 l4 v2 h
      · refine sm_iload C 3 dJ1_indexOfChar_4cfef_22 rfl ?_
        exact sm_iret C dJ1_indexOfChar_4cfef_24 h
set_option maxRecDepth 4000 in
theorem xc_J1_indexOfChar_4cfef {w : sm_WD} {l : Launch} (hw : xo_is w) (a1 : Nat) (a2 : Int32) (a3 : Int32) (a4 : Int32) (ha1 : a1 < 3) : sm_CI w l yJ1_indexOfChar_4cfef prog_14_method_23_code 6 (some .int) 2 100 [.ref (sm_aV w a1), .int a2, .int a3, .int a4] (fun s => xf_J1_indexOfChar_4cfef a1 a2 a3 a4 s) := by
  refine sm_CI.of (by decide +kernel) (Nat.le_of_ble_eq_true rfl) (fun X s0 R hXw hXl C h => ?_)
  subst hXw
  subst hXl
  have h : xf_J1_indexOfChar_4cfef a1 a2 a3 a4 s0 = some R := h
  show sm_V X (sm_QI X R) 6 s0 0 [(0, .ref (sm_aV (sm_w X) a1)), (1, .int a2), (2, .int a3), (3, .int a4)] []
  unfold xf_J1_indexOfChar_4cfef at h
  refine sm_iload_n C 1 dJ1_indexOfChar_4cfef_0 rfl rfl ?_
  refine sm_i2b C dJ1_indexOfChar_4cfef_1 h (fun v1 h => ?_)
  refine sm_istore (lv' := [(4, .int v1), (0, .ref (sm_aV (sm_w X) a1)), (1, .int a2), (2, .int a3), (3, .int a4)]) C dJ1_indexOfChar_4cfef_2 (by decide) rfl ?_
  refine sm_iload_n C 3 dJ1_indexOfChar_4cfef_4 rfl rfl ?_
  refine sm_istore (lv' := [(5, .int a3), (4, .int v1), (0, .ref (sm_aV (sm_w X) a1)), (1, .int a2), (2, .int a3), (3, .int a4)]) C dJ1_indexOfChar_4cfef_5 (by decide) rfl ?_
  refine sm_sub (lv' := [(0, .ref (sm_aV (sm_w X) a1)), (3, .int a4), (4, .int v1), (5, .int a3)]) [2, 5, 1, 0] rfl ?_
  exact xk_J1_indexOfChar_4cfef_p7 C hw ha1 sm_F s0 v1 a3 h
noncomputable def xf_J1_indexOf_4cfef (a1 : Nat) (a2 : Int32) (a3 : Int32) (a4 : Int32) (s0 : sm_St) : Option (Int32 × sm_St) :=
  sm_c (xf_J1_canEncode_9a6ad a2 s0) fun v1 s2 =>
  if v1 = 0 then (
  some ((-1 : Int32), s2))
  else (
  sm_b (if a3 < (0 : Int32) then (0 : Int32) else a3) fun v3 =>
  sm_b (Int32.ofNat (sm_len.getD a1 0)) fun v4 =>
  sm_b (if v4 < a4 then v4 else a4) fun v5 =>
  if v3 < v5 then (
  sm_c (xf_J1_indexOfChar_4cfef a1 a2 v3 v5 s2) fun v6 s7 =>
  some (v6, s7))
  else (
  some ((-1 : Int32), s2)))
set_option maxRecDepth 4000 in
theorem xc_J1_indexOf_4cfef {w : sm_WD} {l : Launch} (hw : xo_is w) (a1 : Nat) (a2 : Int32) (a3 : Int32) (a4 : Int32) (ha1 : a1 < 3) : sm_CI w l yJ1_indexOf_4cfef prog_14_method_22_code 4 (some .int) 3 125 [.ref (sm_aV w a1), .int a2, .int a3, .int a4] (fun s => xf_J1_indexOf_4cfef a1 a2 a3 a4 s) := by
  refine sm_CI.of (by decide +kernel) (Nat.le_of_ble_eq_true rfl) (fun X s0 R hXw hXl C h => ?_)
  subst hXw
  subst hXl
  have h : xf_J1_indexOf_4cfef a1 a2 a3 a4 s0 = some R := h
  show sm_V X (sm_QI X R) 4 s0 0 [(0, .ref (sm_aV (sm_w X) a1)), (1, .int a2), (2, .int a3), (3, .int a4)] []
  unfold xf_J1_indexOf_4cfef at h
  refine sm_iload_n C 1 dJ1_indexOf_4cfef_0 rfl rfl ?_
  refine sm_callSI C [.int a2] (xc_J1_canEncode_9a6ad hw a2) gm_J1_canEncode_9a6ad gl_Latin_88 gs_J1_canEncode_9a6ad rfl ⟨Nat.le_of_ble_eq_true rfl, Nat.le_of_ble_eq_true rfl⟩ rfl (Nat.le_of_ble_eq_true rfl) dJ1_indexOf_4cfef_1 h (fun v1 s2 h => ?_)
  refine sm_if_ne C 9 dJ1_indexOf_4cfef_4 (by decide) h (fun h => ?_) (fun h => ?_)
  · refine sm_iload_n C 2 dJ1_indexOf_4cfef_9 rfl rfl ?_
    refine sm_iconst (v := 0) C dJ1_indexOf_4cfef_10 (by decide) ?_
    refine sm_mmax C gl_Latin_92 gs_max gn_Math gc_max (Nat.le_of_ble_eq_true rfl) (Nat.le_of_ble_eq_true rfl) dJ1_indexOf_4cfef_11 h (fun v3 h => ?_)
    refine sm_istore_n (lv' := [(2, .int v3), (0, .ref (sm_aV (sm_w X) a1)), (1, .int a2), (3, .int a4)]) C dJ1_indexOf_4cfef_14 rfl (by decide) rfl ?_
    refine sm_iload_n C 3 dJ1_indexOf_4cfef_15 rfl rfl ?_
    refine sm_aload_n C 1 dJ1_indexOf_4cfef_16 rfl rfl ?_
    refine sm_slen C ha1 dJ1_indexOf_4cfef_17 h (fun v4 h => ?_)
    refine sm_mmin C gl_Latin_38 gs_min gn_Math gc_min (Nat.le_of_ble_eq_true rfl) (Nat.le_of_ble_eq_true rfl) dJ1_indexOf_4cfef_18 h (fun v5 h => ?_)
    refine sm_istore_n (lv' := [(3, .int v5), (2, .int v3), (0, .ref (sm_aV (sm_w X) a1)), (1, .int a2)]) C dJ1_indexOf_4cfef_21 rfl (by decide) rfl ?_
    refine sm_iload_n C 1 dJ1_indexOf_4cfef_22 rfl rfl ?_
    refine sm_iload_n C 0 dJ1_indexOf_4cfef_23 rfl rfl ?_
    refine sm_icmp_lt C 29 dJ1_indexOf_4cfef_24 (by decide) h (fun h => ?_) (fun h => ?_)
    · refine sm_aload_n C 2 dJ1_indexOf_4cfef_29 rfl rfl ?_
      refine sm_iload_n C 3 dJ1_indexOf_4cfef_30 rfl rfl ?_
      refine sm_iload_n C 1 dJ1_indexOf_4cfef_31 rfl rfl ?_
      refine sm_iload_n C 0 dJ1_indexOf_4cfef_32 rfl rfl ?_
      refine sm_callSI C [.ref (sm_aV (sm_w X) a1), .int a2, .int v3, .int v5] (xc_J1_indexOfChar_4cfef hw a1 a2 v3 v5 ha1) gm_J1_indexOfChar_4cfef gl_Latin_95 gs_J1_indexOfChar_4cfef rfl ⟨Nat.le_of_ble_eq_true rfl, Nat.le_of_ble_eq_true rfl⟩ rfl (Nat.le_of_ble_eq_true rfl) dJ1_indexOf_4cfef_33 h (fun v6 s7 h => ?_)
      exact sm_iret C dJ1_indexOf_4cfef_36 h
    · refine sm_iconst (v := (-1)) C dJ1_indexOf_4cfef_27 (by decide) ?_
      exact sm_iret C dJ1_indexOf_4cfef_28 h
  · refine sm_iconst (v := (-1)) C dJ1_indexOf_4cfef_7 (by decide) ?_
    exact sm_iret C dJ1_indexOf_4cfef_8 h
noncomputable def xf_J0_indexOf_7cf53 (k : Nat) (a1 : Int32) (a2 : Int32) (s0 : sm_St) : Option (Int32 × sm_St) :=
  sm_c (xf_J0_isLatin1_aae02 k s0) fun v1 s2 =>
  if v1 = 0 then (
  sm_c (xf_J0_length_8abf5 k s2) fun v3 s4 =>
  none)
  else (
  sm_c (xf_J0_length_8abf5 k s2) fun v5 s6 =>
  sm_c (xf_J1_indexOf_4cfef k a1 a2 v5 s6) fun v7 s8 =>
  some (v7, s8))
set_option maxRecDepth 4000 in
theorem xc_J0_indexOf_7cf53 {w : sm_WD} {l : Launch} (hw : xo_is w) (k : Nat) (a1 : Int32) (a2 : Int32) (hk : k < 3) : sm_CI w l yJ0_indexOf_7cf53 prog_13_method_80_code 3 (some .int) 4 148 [.ref (sm_aK w k), .int a1, .int a2] (fun s => xf_J0_indexOf_7cf53 k a1 a2 s) := by
  refine sm_CI.of (by decide +kernel) (Nat.le_of_ble_eq_true rfl) (fun X s0 R hXw hXl C h => ?_)
  subst hXw
  subst hXl
  have h : xf_J0_indexOf_7cf53 k a1 a2 s0 = some R := h
  show sm_V X (sm_QI X R) 3 s0 0 [(0, .ref (sm_aK (sm_w X) k)), (1, .int a1), (2, .int a2)] []
  unfold xf_J0_indexOf_7cf53 at h
  refine sm_aload_n C 0 dJ0_indexOf_7cf53_0 rfl rfl ?_
  refine sm_callTI (i := k) C [] hk (xc_J0_isLatin1_aae02 hw k hk) gm_J0_isLatin1_aae02 gl_String_492 gi_J0_isLatin1_aae02 ge_J0_isLatin1_aae02 rfl rfl ⟨Nat.le_of_ble_eq_true rfl, Nat.le_of_ble_eq_true rfl⟩ rfl (Nat.le_of_ble_eq_true rfl) dJ0_indexOf_7cf53_1 h (fun v1 s2 h => ?_)
  refine sm_if_eq C 23 dJ0_indexOf_7cf53_4 (by decide) h (fun h => ?_) (fun h => ?_)
  · refine sm_aload_n C 0 dJ0_indexOf_7cf53_23 rfl rfl ?_
    refine sm_gvalue C hk gf_String_9 dJ0_indexOf_7cf53_24 ?_
    refine sm_iload_n C 1 dJ0_indexOf_7cf53_27 rfl rfl ?_
    refine sm_iload_n C 2 dJ0_indexOf_7cf53_28 rfl rfl ?_
    refine sm_aload_n C 0 dJ0_indexOf_7cf53_29 rfl rfl ?_
    refine sm_callTI (i := k) C [] hk (xc_J0_length_8abf5 hw k hk) gm_J0_length_8abf5 gl_String_505 gi_J0_length_8abf5 ge_J0_length_8abf5 rfl rfl ⟨Nat.le_of_ble_eq_true rfl, Nat.le_of_ble_eq_true rfl⟩ rfl (Nat.le_of_ble_eq_true rfl) dJ0_indexOf_7cf53_30 h (fun v3 s4 h => ?_)
    cases h
  · refine sm_aload_n C 0 dJ0_indexOf_7cf53_7 rfl rfl ?_
    refine sm_gvalue C hk gf_String_9 dJ0_indexOf_7cf53_8 ?_
    refine sm_iload_n C 1 dJ0_indexOf_7cf53_11 rfl rfl ?_
    refine sm_iload_n C 2 dJ0_indexOf_7cf53_12 rfl rfl ?_
    refine sm_aload_n C 0 dJ0_indexOf_7cf53_13 rfl rfl ?_
    refine sm_callTI (i := k) C [] hk (xc_J0_length_8abf5 hw k hk) gm_J0_length_8abf5 gl_String_505 gi_J0_length_8abf5 ge_J0_length_8abf5 rfl rfl ⟨Nat.le_of_ble_eq_true rfl, Nat.le_of_ble_eq_true rfl⟩ rfl (Nat.le_of_ble_eq_true rfl) dJ0_indexOf_7cf53_14 h (fun v5 s6 h => ?_)
    refine sm_callSI C [.ref (sm_aV (sm_w X) k), .int a1, .int a2, .int v5] (xc_J1_indexOf_4cfef hw k a1 a2 v5 hk) gm_J1_indexOf_4cfef gl_String_637 gs_J1_indexOf_4cfef rfl ⟨Nat.le_of_ble_eq_true rfl, Nat.le_of_ble_eq_true rfl⟩ rfl (Nat.le_of_ble_eq_true rfl) dJ0_indexOf_7cf53_17 h (fun v7 s8 h => ?_)
    refine sm_goto C 36 dJ0_indexOf_7cf53_20 (by decide) ?_
    exact sm_iret C dJ0_indexOf_7cf53_36 h
noncomputable def xf_J0_indexOf_0f7a4 (k : Nat) (a1 : Int32) (s0 : sm_St) : Option (Int32 × sm_St) :=
  sm_c (xf_J0_indexOf_7cf53 k a1 (0 : Int32) s0) fun v1 s2 =>
  some (v1, s2)
set_option maxRecDepth 4000 in
theorem xc_J0_indexOf_0f7a4 {w : sm_WD} {l : Launch} (hw : xo_is w) (k : Nat) (a1 : Int32) (hk : k < 3) : sm_CI w l yJ0_indexOf_0f7a4 prog_13_method_79_code 2 (some .int) 5 170 [.ref (sm_aK w k), .int a1] (fun s => xf_J0_indexOf_0f7a4 k a1 s) := by
  refine sm_CI.of (by decide +kernel) (Nat.le_of_ble_eq_true rfl) (fun X s0 R hXw hXl C h => ?_)
  subst hXw
  subst hXl
  have h : xf_J0_indexOf_0f7a4 k a1 s0 = some R := h
  show sm_V X (sm_QI X R) 2 s0 0 [(0, .ref (sm_aK (sm_w X) k)), (1, .int a1)] []
  unfold xf_J0_indexOf_0f7a4 at h
  refine sm_aload_n C 0 dJ0_indexOf_0f7a4_0 rfl rfl ?_
  refine sm_iload_n C 1 dJ0_indexOf_0f7a4_1 rfl rfl ?_
  refine sm_iconst (v := 0) C dJ0_indexOf_0f7a4_2 (by decide) ?_
  refine sm_callTI (i := k) C [.int a1, .int (0 : Int32)] hk (xc_J0_indexOf_7cf53 hw k a1 (0 : Int32) hk) gm_J0_indexOf_7cf53 gl_String_633 gi_J0_indexOf_7cf53 ge_J0_indexOf_7cf53 rfl rfl ⟨Nat.le_of_ble_eq_true rfl, Nat.le_of_ble_eq_true rfl⟩ rfl (Nat.le_of_ble_eq_true rfl) dJ0_indexOf_0f7a4_3 h (fun v1 s2 h => ?_)
  exact sm_iret C dJ0_indexOf_0f7a4_6 h
noncomputable def xf_J7_fill_d0a16_p6 (a1 : Nat) (a2 : Int64) : Nat → sm_St → Int32 → Int32 → Option (Unit × sm_St)
  | 0, _, _, _ => none
  | n + 1, s0, l3, l4 =>
  if l4 ≤ l3 then (
  some ((), s0))
  else (
  sm_g (sm_in l3 (xo_len a1)) <| sm_b (sm_sL s0 a1 l3.toNatClampNeg a2) fun s1 =>
  sm_b (l3 + Int32.ofInt 1) fun v2 =>
  (xf_J7_fill_d0a16_p6 a1 a2 n) s1 v2 l4)
noncomputable def xf_J7_fill_d0a16 (a1 : Nat) (a2 : Int64) (s0 : sm_St) : Option (Unit × sm_St) :=
  sm_b (Int32.ofNat (xo_len a1)) fun v1 =>
  xf_J7_fill_d0a16_p6 a1 a2 sm_F s0 (0 : Int32) v1
set_option maxRecDepth 4000 in
theorem xk_J7_fill_d0a16_p6 {X : sm_VC} (C : sm_Cx X prog_17_method_101_code 5 "java/util/Arrays" 2 100 none) (hw : xo_is (sm_w X)) {a1 : Nat} {a2 : Int64} (ha1 : xo_tag a1 = 11) {R : Unit × sm_St}   : ∀ (n : Nat) (s0 : sm_St) (l3 : Int32) (l4 : Int32) , xf_J7_fill_d0a16_p6 a1 a2 n s0 l3 l4 = some R → sm_V X (sm_QV X R) 5 s0 6 [(0, .ref (sm_ad (sm_w X) a1)), (1, .long a2), (3, .int l3), (4, .int l4)] [] := by
  intro n
  induction n with
  | zero =>
    intro s0 l3 l4 h
    have h : (none : Option (Unit × sm_St)) = some R := h
    cases h
  | succ n ih =>
    intro s0 l3 l4 h
    unfold xf_J7_fill_d0a16_p6 at h
    refine sm_iload_n C 2 dJ7_fill_d0a16_6 rfl rfl ?_
    refine sm_iload C 3 dJ7_fill_d0a16_7 rfl ?_
    refine sm_icmp_ge C 22 dJ7_fill_d0a16_9 (by decide) h (fun h => ?_) (fun h => ?_)
    · exact sm_vret C dJ7_fill_d0a16_22 h
    · refine sm_aload_n C 0 dJ7_fill_d0a16_12 rfl rfl ?_
      refine sm_iload_n C 2 dJ7_fill_d0a16_13 rfl rfl ?_
      refine sm_lload_n C 1 dJ7_fill_d0a16_14 rfl rfl ?_
      refine xa_last C hw (k := a1) ha1 rfl dJ7_fill_d0a16_15 h (fun s1 h => ?_)
      refine sm_iinc (lv' := fun v2 => [(3, .int v2), (0, .ref (sm_ad (sm_w X) a1)), (1, .long a2), (4, .int l4)]) C 2 dJ7_fill_d0a16_16 rfl (by decide) (fun _ => rfl) h (fun v2 h => ?_)
      refine sm_goto C 6 dJ7_fill_d0a16_19 (by decide) ?_
      refine sm_sub (lv' := [(0, .ref (sm_ad (sm_w X) a1)), (1, .long a2), (3, .int v2), (4, .int l4)]) [1, 2, 0, 3] rfl ?_
      exact ih s1 v2 l4 h
set_option maxRecDepth 4000 in
theorem xc_J7_fill_d0a16 {w : sm_WD} {l : Launch} (hw : xo_is w) (a1 : Nat) (a2 : Int64) (ha1 : xo_tag a1 = 11) : sm_CV w l yJ7_fill_d0a16 prog_17_method_101_code 5 none 2 100 [.ref (sm_ad w a1), .long a2] (fun s => xf_J7_fill_d0a16 a1 a2 s) := by
  refine sm_CV.of (by decide +kernel) (Nat.le_of_ble_eq_true rfl) (fun X s0 R hXw hXl C h => ?_)
  subst hXw
  subst hXl
  have h : xf_J7_fill_d0a16 a1 a2 s0 = some R := h
  show sm_V X (sm_QV X R) 5 s0 0 [(0, .ref (sm_ad (sm_w X) a1)), (1, .long a2)] []
  unfold xf_J7_fill_d0a16 at h
  refine sm_iconst (v := 0) C dJ7_fill_d0a16_0 (by decide) ?_
  refine sm_istore_n (lv' := [(3, .int (0 : Int32)), (0, .ref (sm_ad (sm_w X) a1)), (1, .long a2)]) C dJ7_fill_d0a16_1 rfl (by decide) rfl ?_
  refine sm_aload_n C 1 dJ7_fill_d0a16_2 rfl rfl ?_
  refine xa_alenL C hw (k := a1) ha1 rfl dJ7_fill_d0a16_3 h (fun v1 h => ?_)
  refine sm_istore (lv' := [(4, .int v1), (3, .int (0 : Int32)), (0, .ref (sm_ad (sm_w X) a1)), (1, .long a2)]) C dJ7_fill_d0a16_4 (by decide) rfl ?_
  refine sm_sub (lv' := [(0, .ref (sm_ad (sm_w X) a1)), (1, .long a2), (3, .int (0 : Int32)), (4, .int v1)]) [2, 3, 1, 0] rfl ?_
  exact xk_J7_fill_d0a16_p6 C hw ha1 sm_F s0 (0 : Int32) v1 h
