/-! 10.xread: pure words by program, and their contracts -/
noncomputable def xf_X4_add (a1 : Int32) (s0 : sm_St) : Option (Int32 × sm_St) :=
  sm_b (s0.1 13 0) fun v1 =>
  if v1 < (160 : Int32) then (
  sm_b (s0.1 13 0) fun v2 =>
  sm_g (sm_in v2 160) <| sm_b (sm_sI s0 14 v2.toNatClampNeg a1) fun s3 =>
  sm_b (s3.1 13 0) fun v4 =>
  sm_b (v4 + (1 : Int32)) fun v5 =>
  sm_b (sm_sI s3 13 0 v5) fun s6 =>
  some ((1 : Int32), s6))
  else (
  some ((0 : Int32), s0))
set_option maxRecDepth 4000 in
theorem xc_X4_add {w : sm_WD} {l : Launch} (hw : xo_is w) (a1 : Int32) : sm_CI w l yX4_add prog_6_method_2_code 2 (some .boolean) 2 100 [.ref (sm_ad w 13), .int a1] (fun s => xf_X4_add a1 s) := by
  refine sm_CI.of (by decide +kernel) (Nat.le_of_ble_eq_true rfl) (fun X s0 R hXw hXl C h => ?_)
  subst hXw
  subst hXl
  have h : xf_X4_add a1 s0 = some R := h
  show sm_V X (sm_QI X R) 2 s0 0 [(0, .ref (sm_ad (sm_w X) 13)), (1, .int a1)] []
  unfold xf_X4_add at h
  refine sm_aload_n C 0 dX4_add_0 rfl rfl ?_
  refine xr_Reader_size C hw (k := 13) rfl gf_Reader_13 dX4_add_1 h (fun v1 h => ?_)
  refine sm_sipush (v := 160) C dX4_add_4 (by decide) ?_
  refine sm_icmp_lt C 12 dX4_add_7 (by decide) h (fun h => ?_) (fun h => ?_)
  · refine sm_aload_n C 0 dX4_add_12 rfl rfl ?_
    refine xr_Reader_tape C hw (k := 13) rfl gf_Reader_17 dX4_add_13 ?_
    refine sm_aload_n C 0 dX4_add_16 rfl rfl ?_
    refine xr_Reader_size C hw (k := 13) rfl gf_Reader_13 dX4_add_17 h (fun v2 h => ?_)
    refine sm_iload_n C 1 dX4_add_20 rfl rfl ?_
    refine xa_iast C hw (k := 14) rfl rfl dX4_add_21 h (fun s3 h => ?_)
    refine sm_aload_n C 0 dX4_add_22 rfl rfl ?_
    refine sm_dup C dX4_add_23 rfl ?_
    refine xr_Reader_size C hw (k := 13) rfl gf_Reader_13 dX4_add_24 h (fun v4 h => ?_)
    refine sm_iconst (v := 1) C dX4_add_27 (by decide) ?_
    refine sm_iadd C dX4_add_28 h (fun v5 h => ?_)
    refine xp_Reader_size C hw (k := 13) rfl gf_Reader_13 dX4_add_29 h (fun s6 h => ?_)
    refine sm_iconst (v := 1) C dX4_add_32 (by decide) ?_
    exact sm_zretK C rfl dX4_add_33 h
  · refine sm_iconst (v := 0) C dX4_add_10 (by decide) ?_
    exact sm_zretK C rfl dX4_add_11 h
noncomputable def xf_X4_isDigit (a1 : Int32) (s0 : sm_St) : Option (Int32 × sm_St) :=
  if a1 < (48 : Int32) then (
  some ((0 : Int32), s0))
  else (
  if (57 : Int32) < a1 then (
  some ((0 : Int32), s0))
  else (
  some ((1 : Int32), s0)))
set_option maxRecDepth 4000 in
theorem xc_X4_isDigit {w : sm_WD} {l : Launch} (hw : xo_is w) (a1 : Int32) : sm_CI w l yX4_isDigit prog_6_method_16_code 1 (some .boolean) 2 100 [.int a1] (fun s => xf_X4_isDigit a1 s) := by
  refine sm_CI.of (by decide +kernel) (Nat.le_of_ble_eq_true rfl) (fun X s0 R hXw hXl C h => ?_)
  subst hXw
  subst hXl
  have h : xf_X4_isDigit a1 s0 = some R := h
  show sm_V X (sm_QI X R) 1 s0 0 [(0, .int a1)] []
  unfold xf_X4_isDigit at h
  refine sm_iload_n C 0 dX4_isDigit_0 rfl rfl ?_
  refine sm_bipush (v := 48) C dX4_isDigit_1 (by decide) ?_
  refine sm_icmp_lt C 16 dX4_isDigit_3 (by decide) h (fun h => ?_) (fun h => ?_)
  · refine sm_iconst (v := 0) C dX4_isDigit_16 (by decide) ?_
    exact sm_zretK C rfl dX4_isDigit_17 h
  · refine sm_iload_n C 0 dX4_isDigit_6 rfl rfl ?_
    refine sm_bipush (v := 57) C dX4_isDigit_7 (by decide) ?_
    refine sm_icmp_gt C 16 dX4_isDigit_9 (by decide) h (fun h => ?_) (fun h => ?_)
    · refine sm_iconst (v := 0) C dX4_isDigit_16 (by decide) ?_
      exact sm_zretK C rfl dX4_isDigit_17 h
    · refine sm_iconst (v := 1) C dX4_isDigit_12 (by decide) ?_
      refine sm_goto C 17 dX4_isDigit_13 (by decide) ?_
      exact sm_zretK C rfl dX4_isDigit_17 h
noncomputable def xf_X4_stepNumber_p68 (k5 : sm_St → Option (Unit × sm_St)) (s0 : sm_St) : Option (Unit × sm_St) :=
  sm_b (s0.1 13 4) fun v1 =>
  sm_b (v1 + (1 : Int32)) fun v2 =>
  sm_b (sm_sI s0 13 4 v2) fun s3 =>
  k5 s3
noncomputable def xf_X4_stepNumber_p81 (s0 : sm_St) : Option (Unit × sm_St) :=
  sm_b (s0.1 13 4) fun v1 =>
  sm_b (s0.1 13 3) fun v2 =>
  sm_b (v1 - v2) fun v3 =>
  if v3 ≤ (4 : Int32) then (
  sm_b (sm_sI s0 13 2 (2 : Int32)) fun s4 =>
  some ((), s4))
  else (
  sm_b (sm_sI s0 13 2 (1 : Int32)) fun s5 =>
  some ((), s5))
noncomputable def xf_X4_stepNumber_p5  : Nat → sm_St → Option (Unit × sm_St)
  | 0, _ => none
  | n + 1, s0 =>
  sm_b (s0.1 13 4) fun v1 =>
  sm_b (s0.1 13 0) fun v2 =>
  if v2 ≤ v1 then (
  xf_X4_stepNumber_p81 s0)
  else (
  sm_b (s0.1 13 4) fun v3 =>
  sm_g (sm_in v3 160) <| sm_b (s0.1 14 v3.toNatClampNeg) fun v4 =>
  sm_c (xf_X4_isDigit v4 s0) fun v5 s6 =>
  if v5 = 0 then (
  xf_X4_stepNumber_p81 s6)
  else (
  sm_b (s6.1 13 4) fun v7 =>
  sm_b (s6.1 13 3) fun v8 =>
  sm_b (v7 - v8) fun v9 =>
  if (4 : Int32) ≤ v9 then (
  xf_X4_stepNumber_p68 (xf_X4_stepNumber_p5 n) s6)
  else (
  sm_b (s6.1 13 5) fun v10 =>
  sm_b (v10 * (10 : Int32)) fun v11 =>
  sm_b (s6.1 13 4) fun v12 =>
  sm_g (sm_in v12 160) <| sm_b (s6.1 14 v12.toNatClampNeg) fun v13 =>
  sm_b (v11 + v13) fun v14 =>
  sm_b (v14 - (48 : Int32)) fun v15 =>
  sm_b (sm_sI s6 13 5 v15) fun s16 =>
  xf_X4_stepNumber_p68 (xf_X4_stepNumber_p5 n) s16)))
noncomputable def xf_X4_stepNumber (s0 : sm_St) : Option (Unit × sm_St) :=
  sm_b (sm_sI s0 13 5 (0 : Int32)) fun s1 =>
  xf_X4_stepNumber_p5 sm_F s1
set_option maxRecDepth 4000 in
theorem xk_X4_stepNumber_p68 {X : sm_VC} (C : sm_Cx X prog_6_method_13_code 1 "SmokeGoesTo$Reader" 3 120 none) (hw : xo_is (sm_w X))   {R : Unit × sm_St} {k5 : sm_St → Option (Unit × sm_St)} (hk5 : ∀ (s : sm_St), k5 s = some R → sm_V X (sm_QV X R) 1 s 5 [(0, .ref (sm_ad (sm_w X) 13))] []) (s0 : sm_St)   (h : xf_X4_stepNumber_p68 k5 s0 = some R) : sm_V X (sm_QV X R) 1 s0 68 [(0, .ref (sm_ad (sm_w X) 13))] [] := by
  unfold xf_X4_stepNumber_p68 at h
  refine sm_aload_n C 0 dX4_stepNumber_68 rfl rfl ?_
  refine sm_dup C dX4_stepNumber_69 rfl ?_
  refine xr_Reader_next C hw (k := 13) rfl gf_Reader_27 dX4_stepNumber_70 h (fun v1 h => ?_)
  refine sm_iconst (v := 1) C dX4_stepNumber_73 (by decide) ?_
  refine sm_iadd C dX4_stepNumber_74 h (fun v2 h => ?_)
  refine xp_Reader_next C hw (k := 13) rfl gf_Reader_27 dX4_stepNumber_75 h (fun s3 h => ?_)
  refine sm_goto C 5 dX4_stepNumber_78 (by decide) ?_
  exact hk5 s3 h
set_option maxRecDepth 4000 in
theorem xk_X4_stepNumber_p81 {X : sm_VC} (C : sm_Cx X prog_6_method_13_code 1 "SmokeGoesTo$Reader" 3 120 none) (hw : xo_is (sm_w X))   {R : Unit × sm_St}   (s0 : sm_St)   (h : xf_X4_stepNumber_p81 s0 = some R) : sm_V X (sm_QV X R) 1 s0 81 [(0, .ref (sm_ad (sm_w X) 13))] [] := by
  unfold xf_X4_stepNumber_p81 at h
  refine sm_aload_n C 0 dX4_stepNumber_81 rfl rfl ?_
  refine sm_aload_n C 0 dX4_stepNumber_82 rfl rfl ?_
  refine xr_Reader_next C hw (k := 13) rfl gf_Reader_27 dX4_stepNumber_83 h (fun v1 h => ?_)
  refine sm_aload_n C 0 dX4_stepNumber_86 rfl rfl ?_
  refine xr_Reader_tokenStart C hw (k := 13) rfl gf_Reader_24 dX4_stepNumber_87 h (fun v2 h => ?_)
  refine sm_isub C dX4_stepNumber_90 h (fun v3 h => ?_)
  refine sm_iconst (v := 4) C dX4_stepNumber_91 (by decide) ?_
  refine sm_icmp_le C 99 dX4_stepNumber_92 (by decide) h (fun h => ?_) (fun h => ?_)
  · refine sm_iconst (v := 2) C dX4_stepNumber_99 (by decide) ?_
    refine xp_Reader_token C hw (k := 13) rfl gf_Reader_21 dX4_stepNumber_100 h (fun s4 h => ?_)
    exact sm_vret C dX4_stepNumber_103 h
  · refine sm_iconst (v := 1) C dX4_stepNumber_95 (by decide) ?_
    refine sm_goto C 100 dX4_stepNumber_96 (by decide) ?_
    refine xp_Reader_token C hw (k := 13) rfl gf_Reader_21 dX4_stepNumber_100 h (fun s5 h => ?_)
    exact sm_vret C dX4_stepNumber_103 h
set_option maxRecDepth 4000 in
theorem xk_X4_stepNumber_p5 {X : sm_VC} (C : sm_Cx X prog_6_method_13_code 1 "SmokeGoesTo$Reader" 3 120 none) (hw : xo_is (sm_w X))   {R : Unit × sm_St}   : ∀ (n : Nat) (s0 : sm_St)  , xf_X4_stepNumber_p5 n s0 = some R → sm_V X (sm_QV X R) 1 s0 5 [(0, .ref (sm_ad (sm_w X) 13))] [] := by
  intro n
  induction n with
  | zero =>
    intro s0 h
    have h : (none : Option (Unit × sm_St)) = some R := h
    cases h
  | succ n ih =>
    intro s0 h
    unfold xf_X4_stepNumber_p5 at h
    refine sm_aload_n C 0 dX4_stepNumber_5 rfl rfl ?_
    refine xr_Reader_next C hw (k := 13) rfl gf_Reader_27 dX4_stepNumber_6 h (fun v1 h => ?_)
    refine sm_aload_n C 0 dX4_stepNumber_9 rfl rfl ?_
    refine xr_Reader_size C hw (k := 13) rfl gf_Reader_13 dX4_stepNumber_10 h (fun v2 h => ?_)
    refine sm_icmp_ge C 81 dX4_stepNumber_13 (by decide) h (fun h => ?_) (fun h => ?_)
    · exact xk_X4_stepNumber_p81 C hw s0 h
    · refine sm_aload_n C 0 dX4_stepNumber_16 rfl rfl ?_
      refine xr_Reader_tape C hw (k := 13) rfl gf_Reader_17 dX4_stepNumber_17 ?_
      refine sm_aload_n C 0 dX4_stepNumber_20 rfl rfl ?_
      refine xr_Reader_next C hw (k := 13) rfl gf_Reader_27 dX4_stepNumber_21 h (fun v3 h => ?_)
      refine xa_iald C hw (k := 14) rfl rfl dX4_stepNumber_24 h (fun v4 h => ?_)
      refine sm_callSI C [.int v4] (xc_X4_isDigit hw v4) gm_X4_isDigit gl_Reader_78 gs_X4_isDigit rfl ⟨Nat.le_of_ble_eq_true rfl, Nat.le_of_ble_eq_true rfl⟩ rfl (Nat.le_of_ble_eq_true rfl) dX4_stepNumber_25 h (fun v5 s6 h => ?_)
      refine sm_if_eq C 81 dX4_stepNumber_28 (by decide) h (fun h => ?_) (fun h => ?_)
      · exact xk_X4_stepNumber_p81 C hw s6 h
      · refine sm_aload_n C 0 dX4_stepNumber_31 rfl rfl ?_
        refine xr_Reader_next C hw (k := 13) rfl gf_Reader_27 dX4_stepNumber_32 h (fun v7 h => ?_)
        refine sm_aload_n C 0 dX4_stepNumber_35 rfl rfl ?_
        refine xr_Reader_tokenStart C hw (k := 13) rfl gf_Reader_24 dX4_stepNumber_36 h (fun v8 h => ?_)
        refine sm_isub C dX4_stepNumber_39 h (fun v9 h => ?_)
        refine sm_iconst (v := 4) C dX4_stepNumber_40 (by decide) ?_
        refine sm_icmp_ge C 68 dX4_stepNumber_41 (by decide) h (fun h => ?_) (fun h => ?_)
        · exact xk_X4_stepNumber_p68 C hw ih s6 h
        · refine sm_aload_n C 0 dX4_stepNumber_44 rfl rfl ?_
          refine sm_aload_n C 0 dX4_stepNumber_45 rfl rfl ?_
          refine xr_Reader_number C hw (k := 13) rfl gf_Reader_30 dX4_stepNumber_46 h (fun v10 h => ?_)
          refine sm_bipush (v := 10) C dX4_stepNumber_49 (by decide) ?_
          refine sm_imul C dX4_stepNumber_51 h (fun v11 h => ?_)
          refine sm_aload_n C 0 dX4_stepNumber_52 rfl rfl ?_
          refine xr_Reader_tape C hw (k := 13) rfl gf_Reader_17 dX4_stepNumber_53 ?_
          refine sm_aload_n C 0 dX4_stepNumber_56 rfl rfl ?_
          refine xr_Reader_next C hw (k := 13) rfl gf_Reader_27 dX4_stepNumber_57 h (fun v12 h => ?_)
          refine xa_iald C hw (k := 14) rfl rfl dX4_stepNumber_60 h (fun v13 h => ?_)
          refine sm_iadd C dX4_stepNumber_61 h (fun v14 h => ?_)
          refine sm_bipush (v := 48) C dX4_stepNumber_62 (by decide) ?_
          refine sm_isub C dX4_stepNumber_64 h (fun v15 h => ?_)
          refine xp_Reader_number C hw (k := 13) rfl gf_Reader_30 dX4_stepNumber_65 h (fun s16 h => ?_)
          exact xk_X4_stepNumber_p68 C hw ih s16 h
set_option maxRecDepth 4000 in
theorem xc_X4_stepNumber {w : sm_WD} {l : Launch} (hw : xo_is w)  : sm_CV w l yX4_stepNumber prog_6_method_13_code 1 none 3 120 [.ref (sm_ad w 13)] (fun s => xf_X4_stepNumber s) := by
  refine sm_CV.of (by decide +kernel) (Nat.le_of_ble_eq_true rfl) (fun X s0 R hXw hXl C h => ?_)
  subst hXw
  subst hXl
  have h : xf_X4_stepNumber s0 = some R := h
  show sm_V X (sm_QV X R) 1 s0 0 [(0, .ref (sm_ad (sm_w X) 13))] []
  unfold xf_X4_stepNumber at h
  refine sm_aload_n C 0 dX4_stepNumber_0 rfl rfl ?_
  refine sm_iconst (v := 0) C dX4_stepNumber_1 (by decide) ?_
  refine xp_Reader_number C hw (k := 13) rfl gf_Reader_30 dX4_stepNumber_2 h (fun s1 h => ?_)
  exact xk_X4_stepNumber_p5 C hw sm_F s1 h
noncomputable def xf_X4_isLetter (a1 : Int32) (s0 : sm_St) : Option (Int32 × sm_St) :=
  if a1 < (97 : Int32) then (
  some ((0 : Int32), s0))
  else (
  if (122 : Int32) < a1 then (
  some ((0 : Int32), s0))
  else (
  some ((1 : Int32), s0)))
set_option maxRecDepth 4000 in
theorem xc_X4_isLetter {w : sm_WD} {l : Launch} (hw : xo_is w) (a1 : Int32) : sm_CI w l yX4_isLetter prog_6_method_17_code 1 (some .boolean) 2 100 [.int a1] (fun s => xf_X4_isLetter a1 s) := by
  refine sm_CI.of (by decide +kernel) (Nat.le_of_ble_eq_true rfl) (fun X s0 R hXw hXl C h => ?_)
  subst hXw
  subst hXl
  have h : xf_X4_isLetter a1 s0 = some R := h
  show sm_V X (sm_QI X R) 1 s0 0 [(0, .int a1)] []
  unfold xf_X4_isLetter at h
  refine sm_iload_n C 0 dX4_isLetter_0 rfl rfl ?_
  refine sm_bipush (v := 97) C dX4_isLetter_1 (by decide) ?_
  refine sm_icmp_lt C 16 dX4_isLetter_3 (by decide) h (fun h => ?_) (fun h => ?_)
  · refine sm_iconst (v := 0) C dX4_isLetter_16 (by decide) ?_
    exact sm_zretK C rfl dX4_isLetter_17 h
  · refine sm_iload_n C 0 dX4_isLetter_6 rfl rfl ?_
    refine sm_bipush (v := 122) C dX4_isLetter_7 (by decide) ?_
    refine sm_icmp_gt C 16 dX4_isLetter_9 (by decide) h (fun h => ?_) (fun h => ?_)
    · refine sm_iconst (v := 0) C dX4_isLetter_16 (by decide) ?_
      exact sm_zretK C rfl dX4_isLetter_17 h
    · refine sm_iconst (v := 1) C dX4_isLetter_12 (by decide) ?_
      refine sm_goto C 17 dX4_isLetter_13 (by decide) ?_
      exact sm_zretK C rfl dX4_isLetter_17 h
noncomputable def xf_X4_isWord_p53 (a1 : Int32) (k18 : sm_St → Int32 → Option (Int32 × sm_St)) (s0 : sm_St) (l2 : Int32) (t0 : Int32) : Option (Int32 × sm_St) :=
  sm_b (a1 * (6 : Int32)) fun v1 =>
  sm_b (v1 + l2) fun v2 =>
  sm_c (xf_J0_charAt_5068e 1 v2 s0) fun v3 s4 =>
  if v3 = t0 then (
  sm_b (l2 + Int32.ofInt 1) fun v5 =>
  k18 s4 v5)
  else (
  some ((0 : Int32), s4))
noncomputable def xf_X4_isWord_p18 (a1 : Int32) : Nat → sm_St → Int32 → Option (Int32 × sm_St)
  | 0, _, _ => none
  | n + 1, s0, l2 =>
  if (6 : Int32) ≤ l2 then (
  some ((1 : Int32), s0))
  else (
  sm_b (s0.1 13 3) fun v1 =>
  sm_b (v1 + l2) fun v2 =>
  sm_b (s0.1 13 4) fun v3 =>
  if v3 ≤ v2 then (
  xf_X4_isWord_p53 a1 (xf_X4_isWord_p18 a1 n) s0 l2 (32 : Int32))
  else (
  sm_b (s0.1 13 3) fun v4 =>
  sm_b (v4 + l2) fun v5 =>
  sm_g (sm_in v5 160) <| sm_b (s0.1 14 v5.toNatClampNeg) fun v6 =>
  xf_X4_isWord_p53 a1 (xf_X4_isWord_p18 a1 n) s0 l2 v6))
noncomputable def xf_X4_isWord (a1 : Int32) (s0 : sm_St) : Option (Int32 × sm_St) :=
  sm_b (s0.1 13 4) fun v1 =>
  sm_b (s0.1 13 3) fun v2 =>
  sm_b (v1 - v2) fun v3 =>
  if v3 ≤ (6 : Int32) then (
  xf_X4_isWord_p18 a1 sm_F s0 (0 : Int32))
  else (
  some ((0 : Int32), s0))
set_option maxRecDepth 4000 in
theorem xk_X4_isWord_p53 {X : sm_VC} (C : sm_Cx X prog_6_method_15_code 4 "SmokeGoesTo$Reader" 6 185 (some .boolean)) (hw : xo_is (sm_w X)) {a1 : Int32}  {R : Int32 × sm_St} {k18 : sm_St → Int32 → Option (Int32 × sm_St)} (hk18 : ∀ (s : sm_St) (l2 : Int32), k18 s l2 = some R → sm_V X (sm_QI X R) 4 s 18 [(0, .ref (sm_ad (sm_w X) 13)), (1, .int a1), (2, .int l2)] []) (s0 : sm_St) (l2 : Int32) (t0 : Int32)  (h : xf_X4_isWord_p53 a1 k18 s0 l2 t0 = some R) : sm_V X (sm_QI X R) 4 s0 53 [(0, .ref (sm_ad (sm_w X) 13)), (1, .int a1), (2, .int l2)] [.int t0] := by
  unfold xf_X4_isWord_p53 at h
  refine sm_istore_n (lv' := [(3, .int t0), (0, .ref (sm_ad (sm_w X) 13)), (1, .int a1), (2, .int l2)]) C dX4_isWord_53 rfl (by decide) rfl ?_
  refine sm_ldcS (i := 1) C (by decide) rfl rfl dX4_isWord_54 ?_
  refine sm_iload_n C 2 dX4_isWord_56 rfl rfl ?_
  refine sm_bipush (v := 6) C dX4_isWord_57 (by decide) ?_
  refine sm_imul C dX4_isWord_59 h (fun v1 h => ?_)
  refine sm_iload_n C 3 dX4_isWord_60 rfl rfl ?_
  refine sm_iadd C dX4_isWord_61 h (fun v2 h => ?_)
  refine sm_callTI (i := 1) C [.int v2] (by decide) (xc_J0_charAt_5068e hw 1 v2 (by decide)) gm_J0_charAt_5068e gl_Reader_103 gi_J0_charAt_5068e ge_J0_charAt_5068e rfl rfl ⟨Nat.le_of_ble_eq_true rfl, Nat.le_of_ble_eq_true rfl⟩ rfl (Nat.le_of_ble_eq_true rfl) dX4_isWord_62 h (fun v3 s4 h => ?_)
  refine sm_iload_n C 0 dX4_isWord_65 rfl rfl ?_
  refine sm_icmp_eq C 71 dX4_isWord_66 (by decide) h (fun h => ?_) (fun h => ?_)
  · refine sm_iinc (lv' := fun v5 => [(2, .int v5), (3, .int t0), (0, .ref (sm_ad (sm_w X) 13)), (1, .int a1)]) C 3 dX4_isWord_71 rfl (by decide) (fun _ => rfl) h (fun v5 h => ?_)
    refine sm_goto C 18 dX4_isWord_74 (by decide) ?_
    refine sm_sub (lv' := [(0, .ref (sm_ad (sm_w X) 13)), (1, .int a1), (2, .int v5)]) [2, 3, 0] rfl ?_
    exact hk18 s4 v5 h
  · refine sm_iconst (v := 0) C dX4_isWord_69 (by decide) ?_
    exact sm_zretK C rfl dX4_isWord_70 h
set_option maxRecDepth 4000 in
theorem xk_X4_isWord_p18 {X : sm_VC} (C : sm_Cx X prog_6_method_15_code 4 "SmokeGoesTo$Reader" 6 185 (some .boolean)) (hw : xo_is (sm_w X)) {a1 : Int32}  {R : Int32 × sm_St}   : ∀ (n : Nat) (s0 : sm_St) (l2 : Int32) , xf_X4_isWord_p18 a1 n s0 l2 = some R → sm_V X (sm_QI X R) 4 s0 18 [(0, .ref (sm_ad (sm_w X) 13)), (1, .int a1), (2, .int l2)] [] := by
  intro n
  induction n with
  | zero =>
    intro s0 l2 h
    have h : (none : Option (Int32 × sm_St)) = some R := h
    cases h
  | succ n ih =>
    intro s0 l2 h
    unfold xf_X4_isWord_p18 at h
    refine sm_iload_n C 2 dX4_isWord_18 rfl rfl ?_
    refine sm_bipush (v := 6) C dX4_isWord_19 (by decide) ?_
    refine sm_icmp_ge C 77 dX4_isWord_21 (by decide) h (fun h => ?_) (fun h => ?_)
    · refine sm_iconst (v := 1) C dX4_isWord_77 (by decide) ?_
      exact sm_zretK C rfl dX4_isWord_78 h
    · refine sm_aload_n C 0 dX4_isWord_24 rfl rfl ?_
      refine xr_Reader_tokenStart C hw (k := 13) rfl gf_Reader_24 dX4_isWord_25 h (fun v1 h => ?_)
      refine sm_iload_n C 2 dX4_isWord_28 rfl rfl ?_
      refine sm_iadd C dX4_isWord_29 h (fun v2 h => ?_)
      refine sm_aload_n C 0 dX4_isWord_30 rfl rfl ?_
      refine xr_Reader_next C hw (k := 13) rfl gf_Reader_27 dX4_isWord_31 h (fun v3 h => ?_)
      refine sm_icmp_ge C 51 dX4_isWord_34 (by decide) h (fun h => ?_) (fun h => ?_)
      · refine sm_bipush (v := 32) C dX4_isWord_51 (by decide) ?_
        exact xk_X4_isWord_p53 C hw ih s0 l2 (32 : Int32) h
      · refine sm_aload_n C 0 dX4_isWord_37 rfl rfl ?_
        refine xr_Reader_tape C hw (k := 13) rfl gf_Reader_17 dX4_isWord_38 ?_
        refine sm_aload_n C 0 dX4_isWord_41 rfl rfl ?_
        refine xr_Reader_tokenStart C hw (k := 13) rfl gf_Reader_24 dX4_isWord_42 h (fun v4 h => ?_)
        refine sm_iload_n C 2 dX4_isWord_45 rfl rfl ?_
        refine sm_iadd C dX4_isWord_46 h (fun v5 h => ?_)
        refine xa_iald C hw (k := 14) rfl rfl dX4_isWord_47 h (fun v6 h => ?_)
        refine sm_goto C 53 dX4_isWord_48 (by decide) ?_
        exact xk_X4_isWord_p53 C hw ih s0 l2 v6 h
set_option maxRecDepth 4000 in
theorem xc_X4_isWord {w : sm_WD} {l : Launch} (hw : xo_is w) (a1 : Int32) : sm_CI w l yX4_isWord prog_6_method_15_code 4 (some .boolean) 6 185 [.ref (sm_ad w 13), .int a1] (fun s => xf_X4_isWord a1 s) := by
  refine sm_CI.of (by decide +kernel) (Nat.le_of_ble_eq_true rfl) (fun X s0 R hXw hXl C h => ?_)
  subst hXw
  subst hXl
  have h : xf_X4_isWord a1 s0 = some R := h
  show sm_V X (sm_QI X R) 4 s0 0 [(0, .ref (sm_ad (sm_w X) 13)), (1, .int a1)] []
  unfold xf_X4_isWord at h
  refine sm_aload_n C 0 dX4_isWord_0 rfl rfl ?_
  refine xr_Reader_next C hw (k := 13) rfl gf_Reader_27 dX4_isWord_1 h (fun v1 h => ?_)
  refine sm_aload_n C 0 dX4_isWord_4 rfl rfl ?_
  refine xr_Reader_tokenStart C hw (k := 13) rfl gf_Reader_24 dX4_isWord_5 h (fun v2 h => ?_)
  refine sm_isub C dX4_isWord_8 h (fun v3 h => ?_)
  refine sm_bipush (v := 6) C dX4_isWord_9 (by decide) ?_
  refine sm_icmp_le C 16 dX4_isWord_11 (by decide) h (fun h => ?_) (fun h => ?_)
  · refine sm_iconst (v := 0) C dX4_isWord_16 (by decide) ?_
    refine sm_istore_n (lv' := [(2, .int (0 : Int32)), (0, .ref (sm_ad (sm_w X) 13)), (1, .int a1)]) C dX4_isWord_17 rfl (by decide) rfl ?_
    refine sm_sub (lv' := [(0, .ref (sm_ad (sm_w X) 13)), (1, .int a1), (2, .int (0 : Int32))]) [1, 2, 0] rfl ?_
    exact xk_X4_isWord_p18 C hw sm_F s0 (0 : Int32) h
  · refine sm_iconst (v := 0) C dX4_isWord_14 (by decide) ?_
    exact sm_zretK C rfl dX4_isWord_15 h
noncomputable def xf_X4_stepWord_p69 (k46 : sm_St → Int32 → Option (Unit × sm_St)) (s0 : sm_St) (l1 : Int32) : Option (Unit × sm_St) :=
  sm_b (l1 + Int32.ofInt 1) fun v1 =>
  k46 s0 v1
noncomputable def xf_X4_stepWord_p46  : Nat → sm_St → Int32 → Option (Unit × sm_St)
  | 0, _, _ => none
  | n + 1, s0, l1 =>
  if (12 : Int32) ≤ l1 then (
  some ((), s0))
  else (
  sm_c (xf_X4_isWord l1 s0) fun v1 s2 =>
  if v1 = 0 then (
  xf_X4_stepWord_p69 (xf_X4_stepWord_p46 n) s2 l1)
  else (
  sm_b ((256 : Int32) + l1) fun v3 =>
  sm_b (sm_sI s2 13 2 v3) fun s4 =>
  xf_X4_stepWord_p69 (xf_X4_stepWord_p46 n) s4 l1))
noncomputable def xf_X4_stepWord_p39 (s0 : sm_St) : Option (Unit × sm_St) :=
  sm_b (sm_sI s0 13 2 (1 : Int32)) fun s1 =>
  xf_X4_stepWord_p46 sm_F s1 (0 : Int32)
noncomputable def xf_X4_stepWord_p0  : Nat → sm_St → Option (Unit × sm_St)
  | 0, _ => none
  | n + 1, s0 =>
  sm_b (s0.1 13 4) fun v1 =>
  sm_b (s0.1 13 0) fun v2 =>
  if v2 ≤ v1 then (
  xf_X4_stepWord_p39 s0)
  else (
  sm_b (s0.1 13 4) fun v3 =>
  sm_g (sm_in v3 160) <| sm_b (s0.1 14 v3.toNatClampNeg) fun v4 =>
  sm_c (xf_X4_isLetter v4 s0) fun v5 s6 =>
  if v5 = 0 then (
  xf_X4_stepWord_p39 s6)
  else (
  sm_b (s6.1 13 4) fun v7 =>
  sm_b (v7 + (1 : Int32)) fun v8 =>
  sm_b (sm_sI s6 13 4 v8) fun s9 =>
  (xf_X4_stepWord_p0 n) s9))
noncomputable def xf_X4_stepWord (s0 : sm_St) : Option (Unit × sm_St) :=
  xf_X4_stepWord_p0 sm_F s0
set_option maxRecDepth 4000 in
theorem xk_X4_stepWord_p69 {X : sm_VC} (C : sm_Cx X prog_6_method_14_code 2 "SmokeGoesTo$Reader" 7 208 none) (hw : xo_is (sm_w X))   {R : Unit × sm_St} {k46 : sm_St → Int32 → Option (Unit × sm_St)} (hk46 : ∀ (s : sm_St) (l1 : Int32), k46 s l1 = some R → sm_V X (sm_QV X R) 2 s 46 [(0, .ref (sm_ad (sm_w X) 13)), (1, .int l1)] []) (s0 : sm_St) (l1 : Int32)  (h : xf_X4_stepWord_p69 k46 s0 l1 = some R) : sm_V X (sm_QV X R) 2 s0 69 [(0, .ref (sm_ad (sm_w X) 13)), (1, .int l1)] [] := by
  unfold xf_X4_stepWord_p69 at h
  refine sm_iinc (lv' := fun v1 => [(1, .int v1), (0, .ref (sm_ad (sm_w X) 13))]) C 1 dX4_stepWord_69 rfl (by decide) (fun _ => rfl) h (fun v1 h => ?_)
  refine sm_goto C 46 dX4_stepWord_72 (by decide) ?_
  refine sm_sub (lv' := [(0, .ref (sm_ad (sm_w X) 13)), (1, .int v1)]) [1, 0] rfl ?_
  exact hk46 s0 v1 h
set_option maxRecDepth 4000 in
theorem xk_X4_stepWord_p46 {X : sm_VC} (C : sm_Cx X prog_6_method_14_code 2 "SmokeGoesTo$Reader" 7 208 none) (hw : xo_is (sm_w X))   {R : Unit × sm_St}   : ∀ (n : Nat) (s0 : sm_St) (l1 : Int32) , xf_X4_stepWord_p46 n s0 l1 = some R → sm_V X (sm_QV X R) 2 s0 46 [(0, .ref (sm_ad (sm_w X) 13)), (1, .int l1)] [] := by
  intro n
  induction n with
  | zero =>
    intro s0 l1 h
    have h : (none : Option (Unit × sm_St)) = some R := h
    cases h
  | succ n ih =>
    intro s0 l1 h
    unfold xf_X4_stepWord_p46 at h
    refine sm_iload_n C 1 dX4_stepWord_46 rfl rfl ?_
    refine sm_bipush (v := 12) C dX4_stepWord_47 (by decide) ?_
    refine sm_icmp_ge C 75 dX4_stepWord_49 (by decide) h (fun h => ?_) (fun h => ?_)
    · exact sm_vret C dX4_stepWord_75 h
    · refine sm_aload_n C 0 dX4_stepWord_52 rfl rfl ?_
      refine sm_iload_n C 1 dX4_stepWord_53 rfl rfl ?_
      refine sm_callVI (k := 13) C [.int l1] (xc_X4_isWord hw l1) gm_X4_isWord gl_Reader_98 gi_X4_isWord ge_X4_isWord (xob_Reader hw rfl) rfl ⟨Nat.le_of_ble_eq_true rfl, Nat.le_of_ble_eq_true rfl⟩ rfl (Nat.le_of_ble_eq_true rfl) dX4_stepWord_54 h (fun v1 s2 h => ?_)
      refine sm_if_eq C 69 dX4_stepWord_57 (by decide) h (fun h => ?_) (fun h => ?_)
      · exact xk_X4_stepWord_p69 C hw ih s2 l1 h
      · refine sm_aload_n C 0 dX4_stepWord_60 rfl rfl ?_
        refine sm_sipush (v := 256) C dX4_stepWord_61 (by decide) ?_
        refine sm_iload_n C 1 dX4_stepWord_64 rfl rfl ?_
        refine sm_iadd C dX4_stepWord_65 h (fun v3 h => ?_)
        refine xp_Reader_token C hw (k := 13) rfl gf_Reader_21 dX4_stepWord_66 h (fun s4 h => ?_)
        exact xk_X4_stepWord_p69 C hw ih s4 l1 h
set_option maxRecDepth 4000 in
theorem xk_X4_stepWord_p39 {X : sm_VC} (C : sm_Cx X prog_6_method_14_code 2 "SmokeGoesTo$Reader" 7 208 none) (hw : xo_is (sm_w X))   {R : Unit × sm_St}   (s0 : sm_St)   (h : xf_X4_stepWord_p39 s0 = some R) : sm_V X (sm_QV X R) 2 s0 39 [(0, .ref (sm_ad (sm_w X) 13))] [] := by
  unfold xf_X4_stepWord_p39 at h
  refine sm_aload_n C 0 dX4_stepWord_39 rfl rfl ?_
  refine sm_iconst (v := 1) C dX4_stepWord_40 (by decide) ?_
  refine xp_Reader_token C hw (k := 13) rfl gf_Reader_21 dX4_stepWord_41 h (fun s1 h => ?_)
  refine sm_iconst (v := 0) C dX4_stepWord_44 (by decide) ?_
  refine sm_istore_n (lv' := [(1, .int (0 : Int32)), (0, .ref (sm_ad (sm_w X) 13))]) C dX4_stepWord_45 rfl (by decide) rfl ?_
  refine sm_sub (lv' := [(0, .ref (sm_ad (sm_w X) 13)), (1, .int (0 : Int32))]) [1, 0] rfl ?_
  exact xk_X4_stepWord_p46 C hw sm_F s1 (0 : Int32) h
set_option maxRecDepth 4000 in
theorem xk_X4_stepWord_p0 {X : sm_VC} (C : sm_Cx X prog_6_method_14_code 2 "SmokeGoesTo$Reader" 7 208 none) (hw : xo_is (sm_w X))   {R : Unit × sm_St}   : ∀ (n : Nat) (s0 : sm_St)  , xf_X4_stepWord_p0 n s0 = some R → sm_V X (sm_QV X R) 2 s0 0 [(0, .ref (sm_ad (sm_w X) 13))] [] := by
  intro n
  induction n with
  | zero =>
    intro s0 h
    have h : (none : Option (Unit × sm_St)) = some R := h
    cases h
  | succ n ih =>
    intro s0 h
    unfold xf_X4_stepWord_p0 at h
    refine sm_aload_n C 0 dX4_stepWord_0 rfl rfl ?_
    refine xr_Reader_next C hw (k := 13) rfl gf_Reader_27 dX4_stepWord_1 h (fun v1 h => ?_)
    refine sm_aload_n C 0 dX4_stepWord_4 rfl rfl ?_
    refine xr_Reader_size C hw (k := 13) rfl gf_Reader_13 dX4_stepWord_5 h (fun v2 h => ?_)
    refine sm_icmp_ge C 39 dX4_stepWord_8 (by decide) h (fun h => ?_) (fun h => ?_)
    · exact xk_X4_stepWord_p39 C hw s0 h
    · refine sm_aload_n C 0 dX4_stepWord_11 rfl rfl ?_
      refine xr_Reader_tape C hw (k := 13) rfl gf_Reader_17 dX4_stepWord_12 ?_
      refine sm_aload_n C 0 dX4_stepWord_15 rfl rfl ?_
      refine xr_Reader_next C hw (k := 13) rfl gf_Reader_27 dX4_stepWord_16 h (fun v3 h => ?_)
      refine xa_iald C hw (k := 14) rfl rfl dX4_stepWord_19 h (fun v4 h => ?_)
      refine sm_callSI C [.int v4] (xc_X4_isLetter hw v4) gm_X4_isLetter gl_Reader_84 gs_X4_isLetter rfl ⟨Nat.le_of_ble_eq_true rfl, Nat.le_of_ble_eq_true rfl⟩ rfl (Nat.le_of_ble_eq_true rfl) dX4_stepWord_20 h (fun v5 s6 h => ?_)
      refine sm_if_eq C 39 dX4_stepWord_23 (by decide) h (fun h => ?_) (fun h => ?_)
      · exact xk_X4_stepWord_p39 C hw s6 h
      · refine sm_aload_n C 0 dX4_stepWord_26 rfl rfl ?_
        refine sm_dup C dX4_stepWord_27 rfl ?_
        refine xr_Reader_next C hw (k := 13) rfl gf_Reader_27 dX4_stepWord_28 h (fun v7 h => ?_)
        refine sm_iconst (v := 1) C dX4_stepWord_31 (by decide) ?_
        refine sm_iadd C dX4_stepWord_32 h (fun v8 h => ?_)
        refine xp_Reader_next C hw (k := 13) rfl gf_Reader_27 dX4_stepWord_33 h (fun s9 h => ?_)
        refine sm_goto C 0 dX4_stepWord_36 (by decide) ?_
        exact ih s9 h
set_option maxRecDepth 4000 in
theorem xc_X4_stepWord {w : sm_WD} {l : Launch} (hw : xo_is w)  : sm_CV w l yX4_stepWord prog_6_method_14_code 2 none 7 208 [.ref (sm_ad w 13)] (fun s => xf_X4_stepWord s) := by
  refine sm_CV.of (by decide +kernel) (Nat.le_of_ble_eq_true rfl) (fun X s0 R hXw hXl C h => ?_)
  subst hXw
  subst hXl
  have h : xf_X4_stepWord s0 = some R := h
  show sm_V X (sm_QV X R) 2 s0 0 [(0, .ref (sm_ad (sm_w X) 13))] []
  unfold xf_X4_stepWord at h
  exact xk_X4_stepWord_p0 C hw sm_F s0 h
noncomputable def xf_X4_step_p39 (k0 : sm_St → Option (Unit × sm_St)) (s0 : sm_St) : Option (Unit × sm_St) :=
  sm_b (s0.1 13 4) fun v1 =>
  sm_b (v1 + (1 : Int32)) fun v2 =>
  sm_b (sm_sI s0 13 4 v2) fun s3 =>
  k0 s3
noncomputable def xf_X4_step_p155 (s0 : sm_St) (t0 : Int32) : Option (Unit × sm_St) :=
  sm_b (sm_sI s0 13 2 t0) fun s1 =>
  sm_b (s1.1 13 4) fun v2 =>
  sm_b (v2 + (1 : Int32)) fun v3 =>
  sm_b (sm_sI s1 13 4 v3) fun s4 =>
  some ((), s4)
noncomputable def xf_X4_step_p52 (s0 : sm_St) : Option (Unit × sm_St) :=
  sm_b (s0.1 13 4) fun v1 =>
  sm_b (sm_sI s0 13 3 v1) fun s2 =>
  sm_b (s2.1 13 4) fun v3 =>
  sm_b (s2.1 13 0) fun v4 =>
  if v3 < v4 then (
  sm_b (s2.1 13 4) fun v5 =>
  sm_g (sm_in v5 160) <| sm_b (s2.1 14 v5.toNatClampNeg) fun v6 =>
  sm_c (xf_X4_isDigit v6 s2) fun v7 s8 =>
  if v7 = 0 then (
  sm_b (s8.1 13 4) fun v9 =>
  sm_g (sm_in v9 160) <| sm_b (s8.1 14 v9.toNatClampNeg) fun v10 =>
  sm_c (xf_X4_isLetter v10 s8) fun v11 s12 =>
  if v11 = 0 then (
  sm_b (s12.1 13 4) fun v13 =>
  sm_g (sm_in v13 160) <| sm_b (s12.1 14 v13.toNatClampNeg) fun v14 =>
  sm_b ((v14.toUInt32 % 65536).toInt32) fun v15 =>
  sm_c (xf_J0_indexOf_0f7a4 2 v15 s12) fun v16 s17 =>
  if v16 < 0 then (
  xf_X4_step_p155 s17 (1 : Int32))
  else (
  sm_b (s17.1 13 4) fun v18 =>
  sm_g (sm_in v18 160) <| sm_b (s17.1 14 v18.toNatClampNeg) fun v19 =>
  xf_X4_step_p155 s17 v19))
  else (
  sm_c (xf_X4_stepWord s12) fun _ s21 =>
  some ((), s21)))
  else (
  sm_c (xf_X4_stepNumber s8) fun _ s23 =>
  some ((), s23)))
  else (
  sm_b (sm_sI s2 13 2 (0 : Int32)) fun s24 =>
  some ((), s24))
noncomputable def xf_X4_step_p0  : Nat → sm_St → Option (Unit × sm_St)
  | 0, _ => none
  | n + 1, s0 =>
  sm_b (s0.1 13 4) fun v1 =>
  sm_b (s0.1 13 0) fun v2 =>
  if v2 ≤ v1 then (
  xf_X4_step_p52 s0)
  else (
  sm_b (s0.1 13 4) fun v3 =>
  sm_g (sm_in v3 160) <| sm_b (s0.1 14 v3.toNatClampNeg) fun v4 =>
  if v4 = (32 : Int32) then (
  xf_X4_step_p39 (xf_X4_step_p0 n) s0)
  else (
  sm_b (s0.1 13 4) fun v5 =>
  sm_g (sm_in v5 160) <| sm_b (s0.1 14 v5.toNatClampNeg) fun v6 =>
  if v6 = (10 : Int32) then (
  xf_X4_step_p39 (xf_X4_step_p0 n) s0)
  else (
  xf_X4_step_p52 s0)))
noncomputable def xf_X4_step (s0 : sm_St) : Option (Unit × sm_St) :=
  xf_X4_step_p0 sm_F s0
set_option maxRecDepth 4000 in
theorem xk_X4_step_p39 {X : sm_VC} (C : sm_Cx X prog_6_method_12_code 1 "SmokeGoesTo$Reader" 8 229 none) (hw : xo_is (sm_w X))   {R : Unit × sm_St} {k0 : sm_St → Option (Unit × sm_St)} (hk0 : ∀ (s : sm_St), k0 s = some R → sm_V X (sm_QV X R) 1 s 0 [(0, .ref (sm_ad (sm_w X) 13))] []) (s0 : sm_St)   (h : xf_X4_step_p39 k0 s0 = some R) : sm_V X (sm_QV X R) 1 s0 39 [(0, .ref (sm_ad (sm_w X) 13))] [] := by
  unfold xf_X4_step_p39 at h
  refine sm_aload_n C 0 dX4_step_39 rfl rfl ?_
  refine sm_dup C dX4_step_40 rfl ?_
  refine xr_Reader_next C hw (k := 13) rfl gf_Reader_27 dX4_step_41 h (fun v1 h => ?_)
  refine sm_iconst (v := 1) C dX4_step_44 (by decide) ?_
  refine sm_iadd C dX4_step_45 h (fun v2 h => ?_)
  refine xp_Reader_next C hw (k := 13) rfl gf_Reader_27 dX4_step_46 h (fun s3 h => ?_)
  refine sm_goto C 0 dX4_step_49 (by decide) ?_
  exact hk0 s3 h
set_option maxRecDepth 4000 in
theorem xk_X4_step_p155 {X : sm_VC} (C : sm_Cx X prog_6_method_12_code 1 "SmokeGoesTo$Reader" 8 229 none) (hw : xo_is (sm_w X))   {R : Unit × sm_St}   (s0 : sm_St) (t0 : Int32)  (h : xf_X4_step_p155 s0 t0 = some R) : sm_V X (sm_QV X R) 1 s0 155 [(0, .ref (sm_ad (sm_w X) 13))] [.int t0, .ref (sm_ad (sm_w X) 13)] := by
  unfold xf_X4_step_p155 at h
  refine xp_Reader_token C hw (k := 13) rfl gf_Reader_21 dX4_step_155 h (fun s1 h => ?_)
  refine sm_aload_n C 0 dX4_step_158 rfl rfl ?_
  refine sm_dup C dX4_step_159 rfl ?_
  refine xr_Reader_next C hw (k := 13) rfl gf_Reader_27 dX4_step_160 h (fun v2 h => ?_)
  refine sm_iconst (v := 1) C dX4_step_163 (by decide) ?_
  refine sm_iadd C dX4_step_164 h (fun v3 h => ?_)
  refine xp_Reader_next C hw (k := 13) rfl gf_Reader_27 dX4_step_165 h (fun s4 h => ?_)
  exact sm_vret C dX4_step_168 h
set_option maxRecDepth 4000 in
theorem xk_X4_step_p52 {X : sm_VC} (C : sm_Cx X prog_6_method_12_code 1 "SmokeGoesTo$Reader" 8 229 none) (hw : xo_is (sm_w X))   {R : Unit × sm_St}   (s0 : sm_St)   (h : xf_X4_step_p52 s0 = some R) : sm_V X (sm_QV X R) 1 s0 52 [(0, .ref (sm_ad (sm_w X) 13))] [] := by
  unfold xf_X4_step_p52 at h
  refine sm_aload_n C 0 dX4_step_52 rfl rfl ?_
  refine sm_aload_n C 0 dX4_step_53 rfl rfl ?_
  refine xr_Reader_next C hw (k := 13) rfl gf_Reader_27 dX4_step_54 h (fun v1 h => ?_)
  refine xp_Reader_tokenStart C hw (k := 13) rfl gf_Reader_24 dX4_step_57 h (fun s2 h => ?_)
  refine sm_aload_n C 0 dX4_step_60 rfl rfl ?_
  refine xr_Reader_next C hw (k := 13) rfl gf_Reader_27 dX4_step_61 h (fun v3 h => ?_)
  refine sm_aload_n C 0 dX4_step_64 rfl rfl ?_
  refine xr_Reader_size C hw (k := 13) rfl gf_Reader_13 dX4_step_65 h (fun v4 h => ?_)
  refine sm_icmp_lt C 79 dX4_step_68 (by decide) h (fun h => ?_) (fun h => ?_)
  · refine sm_aload_n C 0 dX4_step_79 rfl rfl ?_
    refine xr_Reader_tape C hw (k := 13) rfl gf_Reader_17 dX4_step_80 ?_
    refine sm_aload_n C 0 dX4_step_83 rfl rfl ?_
    refine xr_Reader_next C hw (k := 13) rfl gf_Reader_27 dX4_step_84 h (fun v5 h => ?_)
    refine xa_iald C hw (k := 14) rfl rfl dX4_step_87 h (fun v6 h => ?_)
    refine sm_callSI C [.int v6] (xc_X4_isDigit hw v6) gm_X4_isDigit gl_Reader_78 gs_X4_isDigit rfl ⟨Nat.le_of_ble_eq_true rfl, Nat.le_of_ble_eq_true rfl⟩ rfl (Nat.le_of_ble_eq_true rfl) dX4_step_88 h (fun v7 s8 h => ?_)
    refine sm_if_eq C 101 dX4_step_91 (by decide) h (fun h => ?_) (fun h => ?_)
    · refine sm_aload_n C 0 dX4_step_101 rfl rfl ?_
      refine xr_Reader_tape C hw (k := 13) rfl gf_Reader_17 dX4_step_102 ?_
      refine sm_aload_n C 0 dX4_step_105 rfl rfl ?_
      refine xr_Reader_next C hw (k := 13) rfl gf_Reader_27 dX4_step_106 h (fun v9 h => ?_)
      refine xa_iald C hw (k := 14) rfl rfl dX4_step_109 h (fun v10 h => ?_)
      refine sm_callSI C [.int v10] (xc_X4_isLetter hw v10) gm_X4_isLetter gl_Reader_84 gs_X4_isLetter rfl ⟨Nat.le_of_ble_eq_true rfl, Nat.le_of_ble_eq_true rfl⟩ rfl (Nat.le_of_ble_eq_true rfl) dX4_step_110 h (fun v11 s12 h => ?_)
      refine sm_if_eq C 123 dX4_step_113 (by decide) h (fun h => ?_) (fun h => ?_)
      · refine sm_aload_n C 0 dX4_step_123 rfl rfl ?_
        refine sm_ldcS (i := 2) C (by decide) rfl rfl dX4_step_124 ?_
        refine sm_aload_n C 0 dX4_step_126 rfl rfl ?_
        refine xr_Reader_tape C hw (k := 13) rfl gf_Reader_17 dX4_step_127 ?_
        refine sm_aload_n C 0 dX4_step_130 rfl rfl ?_
        refine xr_Reader_next C hw (k := 13) rfl gf_Reader_27 dX4_step_131 h (fun v13 h => ?_)
        refine xa_iald C hw (k := 14) rfl rfl dX4_step_134 h (fun v14 h => ?_)
        refine sm_i2c C dX4_step_135 h (fun v15 h => ?_)
        refine sm_callTI (i := 2) C [.int v15] (by decide) (xc_J0_indexOf_0f7a4 hw 2 v15 (by decide)) gm_J0_indexOf_0f7a4 gl_Reader_92 gi_J0_indexOf_0f7a4 ge_J0_indexOf_0f7a4 rfl rfl ⟨Nat.le_of_ble_eq_true rfl, Nat.le_of_ble_eq_true rfl⟩ rfl (Nat.le_of_ble_eq_true rfl) dX4_step_136 h (fun v16 s17 h => ?_)
        refine sm_if_lt C 154 dX4_step_139 (by decide) h (fun h => ?_) (fun h => ?_)
        · refine sm_iconst (v := 1) C dX4_step_154 (by decide) ?_
          exact xk_X4_step_p155 C hw s17 (1 : Int32) h
        · refine sm_aload_n C 0 dX4_step_142 rfl rfl ?_
          refine xr_Reader_tape C hw (k := 13) rfl gf_Reader_17 dX4_step_143 ?_
          refine sm_aload_n C 0 dX4_step_146 rfl rfl ?_
          refine xr_Reader_next C hw (k := 13) rfl gf_Reader_27 dX4_step_147 h (fun v18 h => ?_)
          refine xa_iald C hw (k := 14) rfl rfl dX4_step_150 h (fun v19 h => ?_)
          refine sm_goto C 155 dX4_step_151 (by decide) ?_
          exact xk_X4_step_p155 C hw s17 v19 h
      · refine sm_aload_n C 0 dX4_step_116 rfl rfl ?_
        refine sm_callVV (k := 13) C [] (xc_X4_stepWord hw) gm_X4_stepWord gl_Reader_87 gi_X4_stepWord ge_X4_stepWord (xob_Reader hw rfl) rfl ⟨Nat.le_of_ble_eq_true rfl, Nat.le_of_ble_eq_true rfl⟩ rfl (Nat.le_of_ble_eq_true rfl) dX4_step_117 h (fun v20 s21 h => ?_)
        refine sm_goto C 168 dX4_step_120 (by decide) ?_
        exact sm_vret C dX4_step_168 h
    · refine sm_aload_n C 0 dX4_step_94 rfl rfl ?_
      refine sm_callVV (k := 13) C [] (xc_X4_stepNumber hw) gm_X4_stepNumber gl_Reader_81 gi_X4_stepNumber ge_X4_stepNumber (xob_Reader hw rfl) rfl ⟨Nat.le_of_ble_eq_true rfl, Nat.le_of_ble_eq_true rfl⟩ rfl (Nat.le_of_ble_eq_true rfl) dX4_step_95 h (fun v22 s23 h => ?_)
      refine sm_goto C 168 dX4_step_98 (by decide) ?_
      exact sm_vret C dX4_step_168 h
  · refine sm_aload_n C 0 dX4_step_71 rfl rfl ?_
    refine sm_iconst (v := 0) C dX4_step_72 (by decide) ?_
    refine xp_Reader_token C hw (k := 13) rfl gf_Reader_21 dX4_step_73 h (fun s24 h => ?_)
    refine sm_goto C 168 dX4_step_76 (by decide) ?_
    exact sm_vret C dX4_step_168 h
set_option maxRecDepth 4000 in
theorem xk_X4_step_p0 {X : sm_VC} (C : sm_Cx X prog_6_method_12_code 1 "SmokeGoesTo$Reader" 8 229 none) (hw : xo_is (sm_w X))   {R : Unit × sm_St}   : ∀ (n : Nat) (s0 : sm_St)  , xf_X4_step_p0 n s0 = some R → sm_V X (sm_QV X R) 1 s0 0 [(0, .ref (sm_ad (sm_w X) 13))] [] := by
  intro n
  induction n with
  | zero =>
    intro s0 h
    have h : (none : Option (Unit × sm_St)) = some R := h
    cases h
  | succ n ih =>
    intro s0 h
    unfold xf_X4_step_p0 at h
    refine sm_aload_n C 0 dX4_step_0 rfl rfl ?_
    refine xr_Reader_next C hw (k := 13) rfl gf_Reader_27 dX4_step_1 h (fun v1 h => ?_)
    refine sm_aload_n C 0 dX4_step_4 rfl rfl ?_
    refine xr_Reader_size C hw (k := 13) rfl gf_Reader_13 dX4_step_5 h (fun v2 h => ?_)
    refine sm_icmp_ge C 52 dX4_step_8 (by decide) h (fun h => ?_) (fun h => ?_)
    · exact xk_X4_step_p52 C hw s0 h
    · refine sm_aload_n C 0 dX4_step_11 rfl rfl ?_
      refine xr_Reader_tape C hw (k := 13) rfl gf_Reader_17 dX4_step_12 ?_
      refine sm_aload_n C 0 dX4_step_15 rfl rfl ?_
      refine xr_Reader_next C hw (k := 13) rfl gf_Reader_27 dX4_step_16 h (fun v3 h => ?_)
      refine xa_iald C hw (k := 14) rfl rfl dX4_step_19 h (fun v4 h => ?_)
      refine sm_bipush (v := 32) C dX4_step_20 (by decide) ?_
      refine sm_icmp_eq C 39 dX4_step_22 (by decide) h (fun h => ?_) (fun h => ?_)
      · exact xk_X4_step_p39 C hw ih s0 h
      · refine sm_aload_n C 0 dX4_step_25 rfl rfl ?_
        refine xr_Reader_tape C hw (k := 13) rfl gf_Reader_17 dX4_step_26 ?_
        refine sm_aload_n C 0 dX4_step_29 rfl rfl ?_
        refine xr_Reader_next C hw (k := 13) rfl gf_Reader_27 dX4_step_30 h (fun v5 h => ?_)
        refine xa_iald C hw (k := 14) rfl rfl dX4_step_33 h (fun v6 h => ?_)
        refine sm_bipush (v := 10) C dX4_step_34 (by decide) ?_
        refine sm_icmp_ne C 52 dX4_step_36 (by decide) h (fun h => ?_) (fun h => ?_)
        · exact xk_X4_step_p52 C hw s0 h
        · exact xk_X4_step_p39 C hw ih s0 h
set_option maxRecDepth 4000 in
theorem xc_X4_step {w : sm_WD} {l : Launch} (hw : xo_is w)  : sm_CV w l yX4_step prog_6_method_12_code 1 none 8 229 [.ref (sm_ad w 13)] (fun s => xf_X4_step s) := by
  refine sm_CV.of (by decide +kernel) (Nat.le_of_ble_eq_true rfl) (fun X s0 R hXw hXl C h => ?_)
  subst hXw
  subst hXl
  have h : xf_X4_step s0 = some R := h
  show sm_V X (sm_QV X R) 1 s0 0 [(0, .ref (sm_ad (sm_w X) 13))] []
  unfold xf_X4_step at h
  exact xk_X4_step_p0 C hw sm_F s0 h
noncomputable def xf_X4_accept (a1 : Int32) (s0 : sm_St) : Option (Int32 × sm_St) :=
  sm_b (s0.1 13 2) fun v1 =>
  if v1 = a1 then (
  sm_c (xf_X4_step s0) fun _ s3 =>
  some ((1 : Int32), s3))
  else (
  some ((0 : Int32), s0))
set_option maxRecDepth 4000 in
theorem xc_X4_accept {w : sm_WD} {l : Launch} (hw : xo_is w) (a1 : Int32) : sm_CI w l yX4_accept prog_6_method_5_code 2 (some .boolean) 9 249 [.ref (sm_ad w 13), .int a1] (fun s => xf_X4_accept a1 s) := by
  refine sm_CI.of (by decide +kernel) (Nat.le_of_ble_eq_true rfl) (fun X s0 R hXw hXl C h => ?_)
  subst hXw
  subst hXl
  have h : xf_X4_accept a1 s0 = some R := h
  show sm_V X (sm_QI X R) 2 s0 0 [(0, .ref (sm_ad (sm_w X) 13)), (1, .int a1)] []
  unfold xf_X4_accept at h
  refine sm_aload_n C 0 dX4_accept_0 rfl rfl ?_
  refine xr_Reader_token C hw (k := 13) rfl gf_Reader_21 dX4_accept_1 h (fun v1 h => ?_)
  refine sm_iload_n C 1 dX4_accept_4 rfl rfl ?_
  refine sm_icmp_eq C 10 dX4_accept_5 (by decide) h (fun h => ?_) (fun h => ?_)
  · refine sm_aload_n C 0 dX4_accept_10 rfl rfl ?_
    refine sm_callVV (k := 13) C [] (xc_X4_step hw) gm_X4_step gl_Reader_40 gi_X4_step ge_X4_step (xob_Reader hw rfl) rfl ⟨Nat.le_of_ble_eq_true rfl, Nat.le_of_ble_eq_true rfl⟩ rfl (Nat.le_of_ble_eq_true rfl) dX4_accept_11 h (fun v2 s3 h => ?_)
    refine sm_iconst (v := 1) C dX4_accept_14 (by decide) ?_
    exact sm_zretK C rfl dX4_accept_15 h
  · refine sm_iconst (v := 0) C dX4_accept_8 (by decide) ?_
    exact sm_zretK C rfl dX4_accept_9 h
noncomputable def xf_X4_readOne_p66 (rec : Nat → Int32 → sm_St → Option (Int32 × sm_St)) (a1 : Int32) (s0 : sm_St) : Option (Int32 × sm_St) :=
  if a1 < (5 : Int32) then (
  sm_b (s0.1 13 2) fun v1 =>
  if v1 = (45 : Int32) then (
  sm_c (xf_X4_step s0) fun _ s10 =>
  sm_b (a1 + (1 : Int32)) fun v11 =>
  sm_c (rec 0 v11 s10) fun v12 s13 =>
  if v12 = 0 then (
  some ((0 : Int32), s13))
  else (
  sm_b (s13.2.2 13 6) fun r14 =>
  sm_o r14 fun c15 => sm_g (decide (xo_tag c15 = 3)) <|
  sm_c (xf_X6_addOperator c15 (128 : Int32) s13) fun _ s17 =>
  some ((1 : Int32), s17)))
  else (
  sm_c (xf_X4_accept (40 : Int32) s0) fun v2 s3 =>
  if v2 = 0 then (
  some ((0 : Int32), s3))
  else (
  sm_b (a1 + (1 : Int32)) fun v4 =>
  sm_c (rec 5 v4 s3) fun v5 s6 =>
  if v5 = 0 then (
  some ((0 : Int32), s6))
  else (
  sm_c (xf_X4_accept (41 : Int32) s6) fun v7 s8 =>
  if v7 = 0 then (
  some ((0 : Int32), s8))
  else (
  some ((1 : Int32), s8))))))
  else (
  some ((0 : Int32), s0))
noncomputable def xf_X4_readOne (rec : Nat → Int32 → sm_St → Option (Int32 × sm_St)) (a1 : Int32) (s0 : sm_St) : Option (Int32 × sm_St) :=
  sm_b (s0.1 13 2) fun v1 =>
  if v1 = (2 : Int32) then (
  sm_b (s0.2.2 13 6) fun r12 =>
  sm_b (s0.1 13 5) fun v13 =>
  sm_o r12 fun c14 => sm_g (decide (xo_tag c14 = 3)) <|
  sm_c (xf_X6_addNumber c14 v13 s0) fun _ s16 =>
  sm_c (xf_X4_step s16) fun _ s18 =>
  some ((1 : Int32), s18))
  else (
  sm_b (s0.1 13 2) fun v2 =>
  if v2 < (256 : Int32) then (
  xf_X4_readOne_p66 rec a1 s0)
  else (
  sm_b (s0.1 13 2) fun v3 =>
  if (262 : Int32) ≤ v3 then (
  xf_X4_readOne_p66 rec a1 s0)
  else (
  sm_b (s0.2.2 13 6) fun r4 =>
  sm_b (s0.1 13 2) fun v5 =>
  sm_b (v5 - (256 : Int32)) fun v6 =>
  sm_o r4 fun c7 => sm_g (decide (xo_tag c7 = 3)) <|
  sm_c (xf_X6_addName c7 v6 s0) fun _ s9 =>
  sm_c (xf_X4_step s9) fun _ s11 =>
  some ((1 : Int32), s11))))
set_option maxRecDepth 4000 in
theorem xk_X4_readOne_p66 {X : sm_VC} {nn : Nat} (C : sm_Cx X prog_6_method_11_code 2 "SmokeGoesTo$Reader" (10 + (nn + 1)) (270 + (nn + 1) * 23) (some .boolean)) (hw : xo_is (sm_w X)) {rec : Nat → Int32 → sm_St → Option (Int32 × sm_St)} {a1 : Int32}  {R : Int32 × sm_St} (hrec : (∀ (a1 : Int32), sm_CI (sm_w X) (sm_l X) yX4_readOne prog_6_method_11_code 2 (some .boolean) (10 + nn) (270 + nn * 23) [.ref (sm_ad (sm_w X) 13), .int a1] (fun s => rec 0 a1 s)) ∧ (∀ (a1 : Int32), sm_CI (sm_w X) (sm_l X) yX4_readTerm prog_6_method_10_code 3 (some .boolean) (10 + nn) (270 + nn * 23) [.ref (sm_ad (sm_w X) 13), .int a1] (fun s => rec 1 a1 s)) ∧ (∀ (a1 : Int32), sm_CI (sm_w X) (sm_l X) yX4_readSum prog_6_method_9_code 4 (some .boolean) (10 + nn) (270 + nn * 23) [.ref (sm_ad (sm_w X) 13), .int a1] (fun s => rec 2 a1 s)) ∧ (∀ (a1 : Int32), sm_CI (sm_w X) (sm_l X) yX4_readNot prog_6_method_8_code 3 (some .boolean) (10 + nn) (270 + nn * 23) [.ref (sm_ad (sm_w X) 13), .int a1] (fun s => rec 3 a1 s)) ∧ (∀ (a1 : Int32), sm_CI (sm_w X) (sm_l X) yX4_readAnd prog_6_method_7_code 3 (some .boolean) (10 + nn) (270 + nn * 23) [.ref (sm_ad (sm_w X) 13), .int a1] (fun s => rec 4 a1 s)) ∧ (∀ (a1 : Int32), sm_CI (sm_w X) (sm_l X) yX4_readOr prog_6_method_6_code 3 (some .boolean) (10 + nn) (270 + nn * 23) [.ref (sm_ad (sm_w X) 13), .int a1] (fun s => rec 5 a1 s)))   (s0 : sm_St)   (h : xf_X4_readOne_p66 rec a1 s0 = some R) : sm_V X (sm_QI X R) 2 s0 66 [(0, .ref (sm_ad (sm_w X) 13)), (1, .int a1)] [] := by
  unfold xf_X4_readOne_p66 at h
  refine sm_iload_n C 1 dX4_readOne_66 rfl rfl ?_
  refine sm_iconst (v := 5) C dX4_readOne_67 (by decide) ?_
  refine sm_icmp_lt C 73 dX4_readOne_68 (by decide) h (fun h => ?_) (fun h => ?_)
  · refine sm_aload_n C 0 dX4_readOne_73 rfl rfl ?_
    refine xr_Reader_token C hw (k := 13) rfl gf_Reader_21 dX4_readOne_74 h (fun v1 h => ?_)
    refine sm_bipush (v := 45) C dX4_readOne_77 (by decide) ?_
    refine sm_icmp_ne C 110 dX4_readOne_79 (by decide) h (fun h => ?_) (fun h => ?_)
    · refine sm_aload_n C 0 dX4_readOne_110 rfl rfl ?_
      refine sm_bipush (v := 40) C dX4_readOne_111 (by decide) ?_
      refine sm_callVI (k := 13) C [.int (40 : Int32)] (xc_X4_accept hw (40 : Int32)) gm_X4_accept gl_Reader_43 gi_X4_accept ge_X4_accept (xob_Reader hw rfl) rfl ⟨by omega, by omega⟩ rfl (Nat.le_of_ble_eq_true rfl) dX4_readOne_113 h (fun v2 s3 h => ?_)
      refine sm_if_eq C 142 dX4_readOne_116 (by decide) h (fun h => ?_) (fun h => ?_)
      · refine sm_iconst (v := 0) C dX4_readOne_142 (by decide) ?_
        exact sm_zretK C rfl dX4_readOne_143 h
      · refine sm_aload_n C 0 dX4_readOne_119 rfl rfl ?_
        refine sm_iload_n C 1 dX4_readOne_120 rfl rfl ?_
        refine sm_iconst (v := 1) C dX4_readOne_121 (by decide) ?_
        refine sm_iadd C dX4_readOne_122 h (fun v4 h => ?_)
        refine sm_callVI (k := 13) C [.int v4] (hrec.2.2.2.2.2 v4) gm_X4_readOr gl_Reader_47 gi_X4_readOr ge_X4_readOr (xob_Reader hw rfl) rfl ⟨by omega, by omega⟩ rfl (Nat.le_of_ble_eq_true rfl) dX4_readOne_123 h (fun v5 s6 h => ?_)
        refine sm_if_eq C 142 dX4_readOne_126 (by decide) h (fun h => ?_) (fun h => ?_)
        · refine sm_iconst (v := 0) C dX4_readOne_142 (by decide) ?_
          exact sm_zretK C rfl dX4_readOne_143 h
        · refine sm_aload_n C 0 dX4_readOne_129 rfl rfl ?_
          refine sm_bipush (v := 41) C dX4_readOne_130 (by decide) ?_
          refine sm_callVI (k := 13) C [.int (41 : Int32)] (xc_X4_accept hw (41 : Int32)) gm_X4_accept gl_Reader_43 gi_X4_accept ge_X4_accept (xob_Reader hw rfl) rfl ⟨by omega, by omega⟩ rfl (Nat.le_of_ble_eq_true rfl) dX4_readOne_132 h (fun v7 s8 h => ?_)
          refine sm_if_eq C 142 dX4_readOne_135 (by decide) h (fun h => ?_) (fun h => ?_)
          · refine sm_iconst (v := 0) C dX4_readOne_142 (by decide) ?_
            exact sm_zretK C rfl dX4_readOne_143 h
          · refine sm_iconst (v := 1) C dX4_readOne_138 (by decide) ?_
            refine sm_goto C 143 dX4_readOne_139 (by decide) ?_
            exact sm_zretK C rfl dX4_readOne_143 h
    · refine sm_aload_n C 0 dX4_readOne_82 rfl rfl ?_
      refine sm_callVV (k := 13) C [] (xc_X4_step hw) gm_X4_step gl_Reader_40 gi_X4_step ge_X4_step (xob_Reader hw rfl) rfl ⟨by omega, by omega⟩ rfl (Nat.le_of_ble_eq_true rfl) dX4_readOne_83 h (fun v9 s10 h => ?_)
      refine sm_aload_n C 0 dX4_readOne_86 rfl rfl ?_
      refine sm_iload_n C 1 dX4_readOne_87 rfl rfl ?_
      refine sm_iconst (v := 1) C dX4_readOne_88 (by decide) ?_
      refine sm_iadd C dX4_readOne_89 h (fun v11 h => ?_)
      refine sm_callVI (k := 13) C [.int v11] (hrec.1 v11) gm_X4_readOne gl_Reader_69 gi_X4_readOne ge_X4_readOne (xob_Reader hw rfl) rfl ⟨by omega, by omega⟩ rfl (Nat.le_of_ble_eq_true rfl) dX4_readOne_90 h (fun v12 s13 h => ?_)
      refine sm_if_ne C 98 dX4_readOne_93 (by decide) h (fun h => ?_) (fun h => ?_)
      · refine sm_aload_n C 0 dX4_readOne_98 rfl rfl ?_
        refine xr_Reader_out C hw (k := 13) rfl gf_Reader_33 dX4_readOne_99 h (fun r14 h => ?_)
        refine sm_sipush (v := 128) C dX4_readOne_102 (by decide) ?_
        obtain ⟨c15, rfl, h⟩ := sm_oE h
        obtain ⟨hc15, h⟩ := sm_gE h
        have hc15 := of_decide_eq_true hc15
        refine sm_callVV (k := c15) C [.int (128 : Int32)] (xc_X6_addOperator hw c15 (128 : Int32) hc15) gm_X6_addOperator gl_Reader_57 gi_X6_addOperator ge_X6_addOperator (xob_Text hw hc15) rfl ⟨by omega, by omega⟩ rfl (Nat.le_of_ble_eq_true rfl) dX4_readOne_105 h (fun v16 s17 h => ?_)
        refine sm_iconst (v := 1) C dX4_readOne_108 (by decide) ?_
        exact sm_zretK C rfl dX4_readOne_109 h
      · refine sm_iconst (v := 0) C dX4_readOne_96 (by decide) ?_
        exact sm_zretK C rfl dX4_readOne_97 h
  · refine sm_iconst (v := 0) C dX4_readOne_71 (by decide) ?_
    exact sm_zretK C rfl dX4_readOne_72 h
set_option maxRecDepth 4000 in
theorem xc_X4_readOne_open {w : sm_WD} {l : Launch} (hw : xo_is w) {nn : Nat} (rec : Nat → Int32 → sm_St → Option (Int32 × sm_St)) (a1 : Int32) (hrec : (∀ (a1 : Int32), sm_CI w l yX4_readOne prog_6_method_11_code 2 (some .boolean) (10 + nn) (270 + nn * 23) [.ref (sm_ad w 13), .int a1] (fun s => rec 0 a1 s)) ∧ (∀ (a1 : Int32), sm_CI w l yX4_readTerm prog_6_method_10_code 3 (some .boolean) (10 + nn) (270 + nn * 23) [.ref (sm_ad w 13), .int a1] (fun s => rec 1 a1 s)) ∧ (∀ (a1 : Int32), sm_CI w l yX4_readSum prog_6_method_9_code 4 (some .boolean) (10 + nn) (270 + nn * 23) [.ref (sm_ad w 13), .int a1] (fun s => rec 2 a1 s)) ∧ (∀ (a1 : Int32), sm_CI w l yX4_readNot prog_6_method_8_code 3 (some .boolean) (10 + nn) (270 + nn * 23) [.ref (sm_ad w 13), .int a1] (fun s => rec 3 a1 s)) ∧ (∀ (a1 : Int32), sm_CI w l yX4_readAnd prog_6_method_7_code 3 (some .boolean) (10 + nn) (270 + nn * 23) [.ref (sm_ad w 13), .int a1] (fun s => rec 4 a1 s)) ∧ (∀ (a1 : Int32), sm_CI w l yX4_readOr prog_6_method_6_code 3 (some .boolean) (10 + nn) (270 + nn * 23) [.ref (sm_ad w 13), .int a1] (fun s => rec 5 a1 s))) : sm_CI w l yX4_readOne prog_6_method_11_code 2 (some .boolean) (10 + (nn + 1)) (270 + (nn + 1) * 23) [.ref (sm_ad w 13), .int a1] (fun s => xf_X4_readOne rec a1 s) := by
  refine sm_CI.of (by decide +kernel) (Nat.le_of_ble_eq_true rfl) (fun X s0 R hXw hXl C h => ?_)
  subst hXw
  subst hXl
  have h : xf_X4_readOne rec a1 s0 = some R := h
  show sm_V X (sm_QI X R) 2 s0 0 [(0, .ref (sm_ad (sm_w X) 13)), (1, .int a1)] []
  unfold xf_X4_readOne at h
  refine sm_aload_n C 0 dX4_readOne_0 rfl rfl ?_
  refine xr_Reader_token C hw (k := 13) rfl gf_Reader_21 dX4_readOne_1 h (fun v1 h => ?_)
  refine sm_iconst (v := 2) C dX4_readOne_4 (by decide) ?_
  refine sm_icmp_ne C 25 dX4_readOne_5 (by decide) h (fun h => ?_) (fun h => ?_)
  · refine sm_aload_n C 0 dX4_readOne_25 rfl rfl ?_
    refine xr_Reader_token C hw (k := 13) rfl gf_Reader_21 dX4_readOne_26 h (fun v2 h => ?_)
    refine sm_sipush (v := 256) C dX4_readOne_29 (by decide) ?_
    refine sm_icmp_lt C 66 dX4_readOne_32 (by decide) h (fun h => ?_) (fun h => ?_)
    · exact xk_X4_readOne_p66 C hw hrec s0 h
    · refine sm_aload_n C 0 dX4_readOne_35 rfl rfl ?_
      refine xr_Reader_token C hw (k := 13) rfl gf_Reader_21 dX4_readOne_36 h (fun v3 h => ?_)
      refine sm_sipush (v := 262) C dX4_readOne_39 (by decide) ?_
      refine sm_icmp_ge C 66 dX4_readOne_42 (by decide) h (fun h => ?_) (fun h => ?_)
      · exact xk_X4_readOne_p66 C hw hrec s0 h
      · refine sm_aload_n C 0 dX4_readOne_45 rfl rfl ?_
        refine xr_Reader_out C hw (k := 13) rfl gf_Reader_33 dX4_readOne_46 h (fun r4 h => ?_)
        refine sm_aload_n C 0 dX4_readOne_49 rfl rfl ?_
        refine xr_Reader_token C hw (k := 13) rfl gf_Reader_21 dX4_readOne_50 h (fun v5 h => ?_)
        refine sm_sipush (v := 256) C dX4_readOne_53 (by decide) ?_
        refine sm_isub C dX4_readOne_56 h (fun v6 h => ?_)
        obtain ⟨c7, rfl, h⟩ := sm_oE h
        obtain ⟨hc7, h⟩ := sm_gE h
        have hc7 := of_decide_eq_true hc7
        refine sm_callVV (k := c7) C [.int v6] (xc_X6_addName hw c7 v6 hc7) gm_X6_addName gl_Reader_75 gi_X6_addName ge_X6_addName (xob_Text hw hc7) rfl ⟨by omega, by omega⟩ rfl (Nat.le_of_ble_eq_true rfl) dX4_readOne_57 h (fun v8 s9 h => ?_)
        refine sm_aload_n C 0 dX4_readOne_60 rfl rfl ?_
        refine sm_callVV (k := 13) C [] (xc_X4_step hw) gm_X4_step gl_Reader_40 gi_X4_step ge_X4_step (xob_Reader hw rfl) rfl ⟨by omega, by omega⟩ rfl (Nat.le_of_ble_eq_true rfl) dX4_readOne_61 h (fun v10 s11 h => ?_)
        refine sm_iconst (v := 1) C dX4_readOne_64 (by decide) ?_
        exact sm_zretK C rfl dX4_readOne_65 h
  · refine sm_aload_n C 0 dX4_readOne_8 rfl rfl ?_
    refine xr_Reader_out C hw (k := 13) rfl gf_Reader_33 dX4_readOne_9 h (fun r12 h => ?_)
    refine sm_aload_n C 0 dX4_readOne_12 rfl rfl ?_
    refine xr_Reader_number C hw (k := 13) rfl gf_Reader_30 dX4_readOne_13 h (fun v13 h => ?_)
    obtain ⟨c14, rfl, h⟩ := sm_oE h
    obtain ⟨hc14, h⟩ := sm_gE h
    have hc14 := of_decide_eq_true hc14
    refine sm_callVV (k := c14) C [.int v13] (xc_X6_addNumber hw c14 v13 hc14) gm_X6_addNumber gl_Reader_72 gi_X6_addNumber ge_X6_addNumber (xob_Text hw hc14) rfl ⟨by omega, by omega⟩ rfl (Nat.le_of_ble_eq_true rfl) dX4_readOne_16 h (fun v15 s16 h => ?_)
    refine sm_aload_n C 0 dX4_readOne_19 rfl rfl ?_
    refine sm_callVV (k := 13) C [] (xc_X4_step hw) gm_X4_step gl_Reader_40 gi_X4_step ge_X4_step (xob_Reader hw rfl) rfl ⟨by omega, by omega⟩ rfl (Nat.le_of_ble_eq_true rfl) dX4_readOne_20 h (fun v17 s18 h => ?_)
    refine sm_iconst (v := 1) C dX4_readOne_23 (by decide) ?_
    exact sm_zretK C rfl dX4_readOne_24 h
noncomputable def xf_X4_readTerm_p12 (rec : Nat → Int32 → sm_St → Option (Int32 × sm_St)) (a1 : Int32) : Nat → sm_St → Int32 → Option (Int32 × sm_St)
  | 0, _, _ => none
  | n + 1, s0, l2 =>
  if (160 : Int32) ≤ l2 then (
  some ((1 : Int32), s0))
  else (
  sm_b (s0.1 13 2) fun v1 =>
  if v1 = (42 : Int32) then (
  sm_c (xf_X4_step s0) fun _ s3 =>
  sm_c (rec 0 a1 s3) fun v4 s5 =>
  if v4 = 0 then (
  some ((0 : Int32), s5))
  else (
  sm_b (s5.2.2 13 6) fun r6 =>
  sm_o r6 fun c7 => sm_g (decide (xo_tag c7 = 3)) <|
  sm_c (xf_X6_addOperator c7 (42 : Int32) s5) fun _ s9 =>
  sm_b (l2 + Int32.ofInt 1) fun v10 =>
  (xf_X4_readTerm_p12 rec a1 n) s9 v10))
  else (
  some ((1 : Int32), s0)))
noncomputable def xf_X4_readTerm (rec : Nat → Int32 → sm_St → Option (Int32 × sm_St)) (a1 : Int32) (s0 : sm_St) : Option (Int32 × sm_St) :=
  sm_c (rec 0 a1 s0) fun v1 s2 =>
  if v1 = 0 then (
  some ((0 : Int32), s2))
  else (
  xf_X4_readTerm_p12 rec a1 sm_F s2 (0 : Int32))
set_option maxRecDepth 4000 in
theorem xk_X4_readTerm_p12 {X : sm_VC} {nn : Nat} (C : sm_Cx X prog_6_method_10_code 3 "SmokeGoesTo$Reader" (10 + (nn + 1)) (270 + (nn + 1) * 23) (some .boolean)) (hw : xo_is (sm_w X)) {rec : Nat → Int32 → sm_St → Option (Int32 × sm_St)} {a1 : Int32}  {R : Int32 × sm_St} (hrec : (∀ (a1 : Int32), sm_CI (sm_w X) (sm_l X) yX4_readOne prog_6_method_11_code 2 (some .boolean) (10 + nn) (270 + nn * 23) [.ref (sm_ad (sm_w X) 13), .int a1] (fun s => rec 0 a1 s)) ∧ (∀ (a1 : Int32), sm_CI (sm_w X) (sm_l X) yX4_readTerm prog_6_method_10_code 3 (some .boolean) (10 + nn) (270 + nn * 23) [.ref (sm_ad (sm_w X) 13), .int a1] (fun s => rec 1 a1 s)) ∧ (∀ (a1 : Int32), sm_CI (sm_w X) (sm_l X) yX4_readSum prog_6_method_9_code 4 (some .boolean) (10 + nn) (270 + nn * 23) [.ref (sm_ad (sm_w X) 13), .int a1] (fun s => rec 2 a1 s)) ∧ (∀ (a1 : Int32), sm_CI (sm_w X) (sm_l X) yX4_readNot prog_6_method_8_code 3 (some .boolean) (10 + nn) (270 + nn * 23) [.ref (sm_ad (sm_w X) 13), .int a1] (fun s => rec 3 a1 s)) ∧ (∀ (a1 : Int32), sm_CI (sm_w X) (sm_l X) yX4_readAnd prog_6_method_7_code 3 (some .boolean) (10 + nn) (270 + nn * 23) [.ref (sm_ad (sm_w X) 13), .int a1] (fun s => rec 4 a1 s)) ∧ (∀ (a1 : Int32), sm_CI (sm_w X) (sm_l X) yX4_readOr prog_6_method_6_code 3 (some .boolean) (10 + nn) (270 + nn * 23) [.ref (sm_ad (sm_w X) 13), .int a1] (fun s => rec 5 a1 s)))   : ∀ (n : Nat) (s0 : sm_St) (l2 : Int32) , xf_X4_readTerm_p12 rec a1 n s0 l2 = some R → sm_V X (sm_QI X R) 3 s0 12 [(0, .ref (sm_ad (sm_w X) 13)), (1, .int a1), (2, .int l2)] [] := by
  intro n
  induction n with
  | zero =>
    intro s0 l2 h
    have h : (none : Option (Int32 × sm_St)) = some R := h
    cases h
  | succ n ih =>
    intro s0 l2 h
    unfold xf_X4_readTerm_p12 at h
    refine sm_iload_n C 2 dX4_readTerm_12 rfl rfl ?_
    refine sm_sipush (v := 160) C dX4_readTerm_13 (by decide) ?_
    refine sm_icmp_ge C 57 dX4_readTerm_16 (by decide) h (fun h => ?_) (fun h => ?_)
    · refine sm_iconst (v := 1) C dX4_readTerm_57 (by decide) ?_
      exact sm_zretK C rfl dX4_readTerm_58 h
    · refine sm_aload_n C 0 dX4_readTerm_19 rfl rfl ?_
      refine xr_Reader_token C hw (k := 13) rfl gf_Reader_21 dX4_readTerm_20 h (fun v1 h => ?_)
      refine sm_bipush (v := 42) C dX4_readTerm_23 (by decide) ?_
      refine sm_icmp_ne C 57 dX4_readTerm_25 (by decide) h (fun h => ?_) (fun h => ?_)
      · refine sm_iconst (v := 1) C dX4_readTerm_57 (by decide) ?_
        exact sm_zretK C rfl dX4_readTerm_58 h
      · refine sm_aload_n C 0 dX4_readTerm_28 rfl rfl ?_
        refine sm_callVV (k := 13) C [] (xc_X4_step hw) gm_X4_step gl_Reader_40 gi_X4_step ge_X4_step (xob_Reader hw rfl) rfl ⟨by omega, by omega⟩ rfl (Nat.le_of_ble_eq_true rfl) dX4_readTerm_29 h (fun v2 s3 h => ?_)
        refine sm_aload_n C 0 dX4_readTerm_32 rfl rfl ?_
        refine sm_iload_n C 1 dX4_readTerm_33 rfl rfl ?_
        refine sm_callVI (k := 13) C [.int a1] (hrec.1 a1) gm_X4_readOne gl_Reader_69 gi_X4_readOne ge_X4_readOne (xob_Reader hw rfl) rfl ⟨by omega, by omega⟩ rfl (Nat.le_of_ble_eq_true rfl) dX4_readTerm_34 h (fun v4 s5 h => ?_)
        refine sm_if_ne C 42 dX4_readTerm_37 (by decide) h (fun h => ?_) (fun h => ?_)
        · refine sm_aload_n C 0 dX4_readTerm_42 rfl rfl ?_
          refine xr_Reader_out C hw (k := 13) rfl gf_Reader_33 dX4_readTerm_43 h (fun r6 h => ?_)
          refine sm_bipush (v := 42) C dX4_readTerm_46 (by decide) ?_
          obtain ⟨c7, rfl, h⟩ := sm_oE h
          obtain ⟨hc7, h⟩ := sm_gE h
          have hc7 := of_decide_eq_true hc7
          refine sm_callVV (k := c7) C [.int (42 : Int32)] (xc_X6_addOperator hw c7 (42 : Int32) hc7) gm_X6_addOperator gl_Reader_57 gi_X6_addOperator ge_X6_addOperator (xob_Text hw hc7) rfl ⟨by omega, by omega⟩ rfl (Nat.le_of_ble_eq_true rfl) dX4_readTerm_48 h (fun v8 s9 h => ?_)
          refine sm_iinc (lv' := fun v10 => [(2, .int v10), (0, .ref (sm_ad (sm_w X) 13)), (1, .int a1)]) C 2 dX4_readTerm_51 rfl (by decide) (fun _ => rfl) h (fun v10 h => ?_)
          refine sm_goto C 12 dX4_readTerm_54 (by decide) ?_
          refine sm_sub (lv' := [(0, .ref (sm_ad (sm_w X) 13)), (1, .int a1), (2, .int v10)]) [1, 2, 0] rfl ?_
          exact ih s9 v10 h
        · refine sm_iconst (v := 0) C dX4_readTerm_40 (by decide) ?_
          exact sm_zretK C rfl dX4_readTerm_41 h
set_option maxRecDepth 4000 in
theorem xc_X4_readTerm_open {w : sm_WD} {l : Launch} (hw : xo_is w) {nn : Nat} (rec : Nat → Int32 → sm_St → Option (Int32 × sm_St)) (a1 : Int32) (hrec : (∀ (a1 : Int32), sm_CI w l yX4_readOne prog_6_method_11_code 2 (some .boolean) (10 + nn) (270 + nn * 23) [.ref (sm_ad w 13), .int a1] (fun s => rec 0 a1 s)) ∧ (∀ (a1 : Int32), sm_CI w l yX4_readTerm prog_6_method_10_code 3 (some .boolean) (10 + nn) (270 + nn * 23) [.ref (sm_ad w 13), .int a1] (fun s => rec 1 a1 s)) ∧ (∀ (a1 : Int32), sm_CI w l yX4_readSum prog_6_method_9_code 4 (some .boolean) (10 + nn) (270 + nn * 23) [.ref (sm_ad w 13), .int a1] (fun s => rec 2 a1 s)) ∧ (∀ (a1 : Int32), sm_CI w l yX4_readNot prog_6_method_8_code 3 (some .boolean) (10 + nn) (270 + nn * 23) [.ref (sm_ad w 13), .int a1] (fun s => rec 3 a1 s)) ∧ (∀ (a1 : Int32), sm_CI w l yX4_readAnd prog_6_method_7_code 3 (some .boolean) (10 + nn) (270 + nn * 23) [.ref (sm_ad w 13), .int a1] (fun s => rec 4 a1 s)) ∧ (∀ (a1 : Int32), sm_CI w l yX4_readOr prog_6_method_6_code 3 (some .boolean) (10 + nn) (270 + nn * 23) [.ref (sm_ad w 13), .int a1] (fun s => rec 5 a1 s))) : sm_CI w l yX4_readTerm prog_6_method_10_code 3 (some .boolean) (10 + (nn + 1)) (270 + (nn + 1) * 23) [.ref (sm_ad w 13), .int a1] (fun s => xf_X4_readTerm rec a1 s) := by
  refine sm_CI.of (by decide +kernel) (Nat.le_of_ble_eq_true rfl) (fun X s0 R hXw hXl C h => ?_)
  subst hXw
  subst hXl
  have h : xf_X4_readTerm rec a1 s0 = some R := h
  show sm_V X (sm_QI X R) 3 s0 0 [(0, .ref (sm_ad (sm_w X) 13)), (1, .int a1)] []
  unfold xf_X4_readTerm at h
  refine sm_aload_n C 0 dX4_readTerm_0 rfl rfl ?_
  refine sm_iload_n C 1 dX4_readTerm_1 rfl rfl ?_
  refine sm_callVI (k := 13) C [.int a1] (hrec.1 a1) gm_X4_readOne gl_Reader_69 gi_X4_readOne ge_X4_readOne (xob_Reader hw rfl) rfl ⟨by omega, by omega⟩ rfl (Nat.le_of_ble_eq_true rfl) dX4_readTerm_2 h (fun v1 s2 h => ?_)
  refine sm_if_ne C 10 dX4_readTerm_5 (by decide) h (fun h => ?_) (fun h => ?_)
  · refine sm_iconst (v := 0) C dX4_readTerm_10 (by decide) ?_
    refine sm_istore_n (lv' := [(2, .int (0 : Int32)), (0, .ref (sm_ad (sm_w X) 13)), (1, .int a1)]) C dX4_readTerm_11 rfl (by decide) rfl ?_
    refine sm_sub (lv' := [(0, .ref (sm_ad (sm_w X) 13)), (1, .int a1), (2, .int (0 : Int32))]) [1, 2, 0] rfl ?_
    exact xk_X4_readTerm_p12 C hw hrec sm_F s2 (0 : Int32) h
  · refine sm_iconst (v := 0) C dX4_readTerm_8 (by decide) ?_
    exact sm_zretK C rfl dX4_readTerm_9 h
noncomputable def xf_X4_readSum_p37 (rec : Nat → Int32 → sm_St → Option (Int32 × sm_St)) (a1 : Int32) (k12 : sm_St → Int32 → Option (Int32 × sm_St)) (s0 : sm_St) (l2 : Int32) : Option (Int32 × sm_St) :=
  sm_b (s0.1 13 2) fun v1 =>
  sm_c (xf_X4_step s0) fun _ s3 =>
  sm_c (rec 1 a1 s3) fun v4 s5 =>
  if v4 = 0 then (
  some ((0 : Int32), s5))
  else (
  sm_b (s5.2.2 13 6) fun r6 =>
  sm_o r6 fun c7 => sm_g (decide (xo_tag c7 = 3)) <|
  sm_c (xf_X6_addOperator c7 v1 s5) fun _ s9 =>
  sm_b (l2 + Int32.ofInt 1) fun v10 =>
  k12 s9 v10)
noncomputable def xf_X4_readSum_p12 (rec : Nat → Int32 → sm_St → Option (Int32 × sm_St)) (a1 : Int32) : Nat → sm_St → Int32 → Option (Int32 × sm_St)
  | 0, _, _ => none
  | n + 1, s0, l2 =>
  if (160 : Int32) ≤ l2 then (
  some ((1 : Int32), s0))
  else (
  sm_b (s0.1 13 2) fun v1 =>
  if v1 = (43 : Int32) then (
  xf_X4_readSum_p37 rec a1 (xf_X4_readSum_p12 rec a1 n) s0 l2)
  else (
  sm_b (s0.1 13 2) fun v2 =>
  if v2 = (45 : Int32) then (
  xf_X4_readSum_p37 rec a1 (xf_X4_readSum_p12 rec a1 n) s0 l2)
  else (
  some ((1 : Int32), s0))))
noncomputable def xf_X4_readSum (rec : Nat → Int32 → sm_St → Option (Int32 × sm_St)) (a1 : Int32) (s0 : sm_St) : Option (Int32 × sm_St) :=
  sm_c (rec 1 a1 s0) fun v1 s2 =>
  if v1 = 0 then (
  some ((0 : Int32), s2))
  else (
  xf_X4_readSum_p12 rec a1 sm_F s2 (0 : Int32))
set_option maxRecDepth 4000 in
theorem xk_X4_readSum_p37 {X : sm_VC} {nn : Nat} (C : sm_Cx X prog_6_method_9_code 4 "SmokeGoesTo$Reader" (10 + (nn + 1)) (270 + (nn + 1) * 23) (some .boolean)) (hw : xo_is (sm_w X)) {rec : Nat → Int32 → sm_St → Option (Int32 × sm_St)} {a1 : Int32}  {R : Int32 × sm_St} (hrec : (∀ (a1 : Int32), sm_CI (sm_w X) (sm_l X) yX4_readOne prog_6_method_11_code 2 (some .boolean) (10 + nn) (270 + nn * 23) [.ref (sm_ad (sm_w X) 13), .int a1] (fun s => rec 0 a1 s)) ∧ (∀ (a1 : Int32), sm_CI (sm_w X) (sm_l X) yX4_readTerm prog_6_method_10_code 3 (some .boolean) (10 + nn) (270 + nn * 23) [.ref (sm_ad (sm_w X) 13), .int a1] (fun s => rec 1 a1 s)) ∧ (∀ (a1 : Int32), sm_CI (sm_w X) (sm_l X) yX4_readSum prog_6_method_9_code 4 (some .boolean) (10 + nn) (270 + nn * 23) [.ref (sm_ad (sm_w X) 13), .int a1] (fun s => rec 2 a1 s)) ∧ (∀ (a1 : Int32), sm_CI (sm_w X) (sm_l X) yX4_readNot prog_6_method_8_code 3 (some .boolean) (10 + nn) (270 + nn * 23) [.ref (sm_ad (sm_w X) 13), .int a1] (fun s => rec 3 a1 s)) ∧ (∀ (a1 : Int32), sm_CI (sm_w X) (sm_l X) yX4_readAnd prog_6_method_7_code 3 (some .boolean) (10 + nn) (270 + nn * 23) [.ref (sm_ad (sm_w X) 13), .int a1] (fun s => rec 4 a1 s)) ∧ (∀ (a1 : Int32), sm_CI (sm_w X) (sm_l X) yX4_readOr prog_6_method_6_code 3 (some .boolean) (10 + nn) (270 + nn * 23) [.ref (sm_ad (sm_w X) 13), .int a1] (fun s => rec 5 a1 s))) {k12 : sm_St → Int32 → Option (Int32 × sm_St)} (hk12 : ∀ (s : sm_St) (l2 : Int32), k12 s l2 = some R → sm_V X (sm_QI X R) 4 s 12 [(0, .ref (sm_ad (sm_w X) 13)), (1, .int a1), (2, .int l2)] []) (s0 : sm_St) (l2 : Int32)  (h : xf_X4_readSum_p37 rec a1 k12 s0 l2 = some R) : sm_V X (sm_QI X R) 4 s0 37 [(0, .ref (sm_ad (sm_w X) 13)), (1, .int a1), (2, .int l2)] [] := by
  unfold xf_X4_readSum_p37 at h
  refine sm_aload_n C 0 dX4_readSum_37 rfl rfl ?_
  refine xr_Reader_token C hw (k := 13) rfl gf_Reader_21 dX4_readSum_38 h (fun v1 h => ?_)
  refine sm_istore_n (lv' := [(3, .int v1), (0, .ref (sm_ad (sm_w X) 13)), (1, .int a1), (2, .int l2)]) C dX4_readSum_41 rfl (by decide) rfl ?_
  refine sm_aload_n C 1 dX4_readSum_42 rfl rfl ?_
  refine sm_callVV (k := 13) C [] (xc_X4_step hw) gm_X4_step gl_Reader_40 gi_X4_step ge_X4_step (xob_Reader hw rfl) rfl ⟨by omega, by omega⟩ rfl (Nat.le_of_ble_eq_true rfl) dX4_readSum_43 h (fun v2 s3 h => ?_)
  refine sm_aload_n C 1 dX4_readSum_46 rfl rfl ?_
  refine sm_iload_n C 2 dX4_readSum_47 rfl rfl ?_
  refine sm_callVI (k := 13) C [.int a1] (hrec.2.1 a1) gm_X4_readTerm gl_Reader_66 gi_X4_readTerm ge_X4_readTerm (xob_Reader hw rfl) rfl ⟨by omega, by omega⟩ rfl (Nat.le_of_ble_eq_true rfl) dX4_readSum_48 h (fun v4 s5 h => ?_)
  refine sm_if_ne C 56 dX4_readSum_51 (by decide) h (fun h => ?_) (fun h => ?_)
  · refine sm_aload_n C 1 dX4_readSum_56 rfl rfl ?_
    refine xr_Reader_out C hw (k := 13) rfl gf_Reader_33 dX4_readSum_57 h (fun r6 h => ?_)
    refine sm_iload_n C 0 dX4_readSum_60 rfl rfl ?_
    obtain ⟨c7, rfl, h⟩ := sm_oE h
    obtain ⟨hc7, h⟩ := sm_gE h
    have hc7 := of_decide_eq_true hc7
    refine sm_callVV (k := c7) C [.int v1] (xc_X6_addOperator hw c7 v1 hc7) gm_X6_addOperator gl_Reader_57 gi_X6_addOperator ge_X6_addOperator (xob_Text hw hc7) rfl ⟨by omega, by omega⟩ rfl (Nat.le_of_ble_eq_true rfl) dX4_readSum_61 h (fun v8 s9 h => ?_)
    refine sm_iinc (lv' := fun v10 => [(2, .int v10), (3, .int v1), (0, .ref (sm_ad (sm_w X) 13)), (1, .int a1)]) C 3 dX4_readSum_64 rfl (by decide) (fun _ => rfl) h (fun v10 h => ?_)
    refine sm_goto C 12 dX4_readSum_67 (by decide) ?_
    refine sm_sub (lv' := [(0, .ref (sm_ad (sm_w X) 13)), (1, .int a1), (2, .int v10)]) [2, 3, 0] rfl ?_
    exact hk12 s9 v10 h
  · refine sm_iconst (v := 0) C dX4_readSum_54 (by decide) ?_
    exact sm_zretK C rfl dX4_readSum_55 h
set_option maxRecDepth 4000 in
theorem xk_X4_readSum_p12 {X : sm_VC} {nn : Nat} (C : sm_Cx X prog_6_method_9_code 4 "SmokeGoesTo$Reader" (10 + (nn + 1)) (270 + (nn + 1) * 23) (some .boolean)) (hw : xo_is (sm_w X)) {rec : Nat → Int32 → sm_St → Option (Int32 × sm_St)} {a1 : Int32}  {R : Int32 × sm_St} (hrec : (∀ (a1 : Int32), sm_CI (sm_w X) (sm_l X) yX4_readOne prog_6_method_11_code 2 (some .boolean) (10 + nn) (270 + nn * 23) [.ref (sm_ad (sm_w X) 13), .int a1] (fun s => rec 0 a1 s)) ∧ (∀ (a1 : Int32), sm_CI (sm_w X) (sm_l X) yX4_readTerm prog_6_method_10_code 3 (some .boolean) (10 + nn) (270 + nn * 23) [.ref (sm_ad (sm_w X) 13), .int a1] (fun s => rec 1 a1 s)) ∧ (∀ (a1 : Int32), sm_CI (sm_w X) (sm_l X) yX4_readSum prog_6_method_9_code 4 (some .boolean) (10 + nn) (270 + nn * 23) [.ref (sm_ad (sm_w X) 13), .int a1] (fun s => rec 2 a1 s)) ∧ (∀ (a1 : Int32), sm_CI (sm_w X) (sm_l X) yX4_readNot prog_6_method_8_code 3 (some .boolean) (10 + nn) (270 + nn * 23) [.ref (sm_ad (sm_w X) 13), .int a1] (fun s => rec 3 a1 s)) ∧ (∀ (a1 : Int32), sm_CI (sm_w X) (sm_l X) yX4_readAnd prog_6_method_7_code 3 (some .boolean) (10 + nn) (270 + nn * 23) [.ref (sm_ad (sm_w X) 13), .int a1] (fun s => rec 4 a1 s)) ∧ (∀ (a1 : Int32), sm_CI (sm_w X) (sm_l X) yX4_readOr prog_6_method_6_code 3 (some .boolean) (10 + nn) (270 + nn * 23) [.ref (sm_ad (sm_w X) 13), .int a1] (fun s => rec 5 a1 s)))   : ∀ (n : Nat) (s0 : sm_St) (l2 : Int32) , xf_X4_readSum_p12 rec a1 n s0 l2 = some R → sm_V X (sm_QI X R) 4 s0 12 [(0, .ref (sm_ad (sm_w X) 13)), (1, .int a1), (2, .int l2)] [] := by
  intro n
  induction n with
  | zero =>
    intro s0 l2 h
    have h : (none : Option (Int32 × sm_St)) = some R := h
    cases h
  | succ n ih =>
    intro s0 l2 h
    unfold xf_X4_readSum_p12 at h
    refine sm_iload_n C 2 dX4_readSum_12 rfl rfl ?_
    refine sm_sipush (v := 160) C dX4_readSum_13 (by decide) ?_
    refine sm_icmp_ge C 70 dX4_readSum_16 (by decide) h (fun h => ?_) (fun h => ?_)
    · refine sm_iconst (v := 1) C dX4_readSum_70 (by decide) ?_
      exact sm_zretK C rfl dX4_readSum_71 h
    · refine sm_aload_n C 0 dX4_readSum_19 rfl rfl ?_
      refine xr_Reader_token C hw (k := 13) rfl gf_Reader_21 dX4_readSum_20 h (fun v1 h => ?_)
      refine sm_bipush (v := 43) C dX4_readSum_23 (by decide) ?_
      refine sm_icmp_eq C 37 dX4_readSum_25 (by decide) h (fun h => ?_) (fun h => ?_)
      · exact xk_X4_readSum_p37 C hw hrec ih s0 l2 h
      · refine sm_aload_n C 0 dX4_readSum_28 rfl rfl ?_
        refine xr_Reader_token C hw (k := 13) rfl gf_Reader_21 dX4_readSum_29 h (fun v2 h => ?_)
        refine sm_bipush (v := 45) C dX4_readSum_32 (by decide) ?_
        refine sm_icmp_ne C 70 dX4_readSum_34 (by decide) h (fun h => ?_) (fun h => ?_)
        · refine sm_iconst (v := 1) C dX4_readSum_70 (by decide) ?_
          exact sm_zretK C rfl dX4_readSum_71 h
        · exact xk_X4_readSum_p37 C hw hrec ih s0 l2 h
set_option maxRecDepth 4000 in
theorem xc_X4_readSum_open {w : sm_WD} {l : Launch} (hw : xo_is w) {nn : Nat} (rec : Nat → Int32 → sm_St → Option (Int32 × sm_St)) (a1 : Int32) (hrec : (∀ (a1 : Int32), sm_CI w l yX4_readOne prog_6_method_11_code 2 (some .boolean) (10 + nn) (270 + nn * 23) [.ref (sm_ad w 13), .int a1] (fun s => rec 0 a1 s)) ∧ (∀ (a1 : Int32), sm_CI w l yX4_readTerm prog_6_method_10_code 3 (some .boolean) (10 + nn) (270 + nn * 23) [.ref (sm_ad w 13), .int a1] (fun s => rec 1 a1 s)) ∧ (∀ (a1 : Int32), sm_CI w l yX4_readSum prog_6_method_9_code 4 (some .boolean) (10 + nn) (270 + nn * 23) [.ref (sm_ad w 13), .int a1] (fun s => rec 2 a1 s)) ∧ (∀ (a1 : Int32), sm_CI w l yX4_readNot prog_6_method_8_code 3 (some .boolean) (10 + nn) (270 + nn * 23) [.ref (sm_ad w 13), .int a1] (fun s => rec 3 a1 s)) ∧ (∀ (a1 : Int32), sm_CI w l yX4_readAnd prog_6_method_7_code 3 (some .boolean) (10 + nn) (270 + nn * 23) [.ref (sm_ad w 13), .int a1] (fun s => rec 4 a1 s)) ∧ (∀ (a1 : Int32), sm_CI w l yX4_readOr prog_6_method_6_code 3 (some .boolean) (10 + nn) (270 + nn * 23) [.ref (sm_ad w 13), .int a1] (fun s => rec 5 a1 s))) : sm_CI w l yX4_readSum prog_6_method_9_code 4 (some .boolean) (10 + (nn + 1)) (270 + (nn + 1) * 23) [.ref (sm_ad w 13), .int a1] (fun s => xf_X4_readSum rec a1 s) := by
  refine sm_CI.of (by decide +kernel) (Nat.le_of_ble_eq_true rfl) (fun X s0 R hXw hXl C h => ?_)
  subst hXw
  subst hXl
  have h : xf_X4_readSum rec a1 s0 = some R := h
  show sm_V X (sm_QI X R) 4 s0 0 [(0, .ref (sm_ad (sm_w X) 13)), (1, .int a1)] []
  unfold xf_X4_readSum at h
  refine sm_aload_n C 0 dX4_readSum_0 rfl rfl ?_
  refine sm_iload_n C 1 dX4_readSum_1 rfl rfl ?_
  refine sm_callVI (k := 13) C [.int a1] (hrec.2.1 a1) gm_X4_readTerm gl_Reader_66 gi_X4_readTerm ge_X4_readTerm (xob_Reader hw rfl) rfl ⟨by omega, by omega⟩ rfl (Nat.le_of_ble_eq_true rfl) dX4_readSum_2 h (fun v1 s2 h => ?_)
  refine sm_if_ne C 10 dX4_readSum_5 (by decide) h (fun h => ?_) (fun h => ?_)
  · refine sm_iconst (v := 0) C dX4_readSum_10 (by decide) ?_
    refine sm_istore_n (lv' := [(2, .int (0 : Int32)), (0, .ref (sm_ad (sm_w X) 13)), (1, .int a1)]) C dX4_readSum_11 rfl (by decide) rfl ?_
    refine sm_sub (lv' := [(0, .ref (sm_ad (sm_w X) 13)), (1, .int a1), (2, .int (0 : Int32))]) [1, 2, 0] rfl ?_
    exact xk_X4_readSum_p12 C hw hrec sm_F s2 (0 : Int32) h
  · refine sm_iconst (v := 0) C dX4_readSum_8 (by decide) ?_
    exact sm_zretK C rfl dX4_readSum_9 h
noncomputable def xf_X4_readNot_p75 (rec : Nat → Int32 → sm_St → Option (Int32 × sm_St)) (a1 : Int32) (s0 : sm_St) : Option (Int32 × sm_St) :=
  sm_b (s0.1 13 2) fun v1 =>
  sm_c (xf_X4_step s0) fun _ s3 =>
  sm_c (rec 2 a1 s3) fun v4 s5 =>
  if v4 = 0 then (
  some ((0 : Int32), s5))
  else (
  sm_b (s5.2.2 13 6) fun r6 =>
  sm_o r6 fun c7 => sm_g (decide (xo_tag c7 = 3)) <|
  sm_c (xf_X6_addOperator c7 v1 s5) fun _ s9 =>
  some ((1 : Int32), s9))
noncomputable def xf_X4_readNot (rec : Nat → Int32 → sm_St → Option (Int32 × sm_St)) (a1 : Int32) (s0 : sm_St) : Option (Int32 × sm_St) :=
  sm_b (s0.1 13 2) fun v1 =>
  if v1 = (267 : Int32) then (
  if a1 < (5 : Int32) then (
  sm_c (xf_X4_step s0) fun _ s7 =>
  sm_b (a1 + (1 : Int32)) fun v8 =>
  sm_c (rec 3 v8 s7) fun v9 s10 =>
  if v9 = 0 then (
  some ((0 : Int32), s10))
  else (
  sm_b (s10.2.2 13 6) fun r11 =>
  sm_o r11 fun c12 => sm_g (decide (xo_tag c12 = 3)) <|
  sm_c (xf_X6_addOperator c12 (267 : Int32) s10) fun _ s14 =>
  some ((1 : Int32), s14)))
  else (
  some ((0 : Int32), s0)))
  else (
  sm_c (rec 2 a1 s0) fun v2 s3 =>
  if v2 = 0 then (
  some ((0 : Int32), s3))
  else (
  sm_b (s3.1 13 2) fun v4 =>
  if v4 = (60 : Int32) then (
  xf_X4_readNot_p75 rec a1 s3)
  else (
  sm_b (s3.1 13 2) fun v5 =>
  if v5 = (61 : Int32) then (
  xf_X4_readNot_p75 rec a1 s3)
  else (
  some ((1 : Int32), s3)))))
set_option maxRecDepth 4000 in
theorem xk_X4_readNot_p75 {X : sm_VC} {nn : Nat} (C : sm_Cx X prog_6_method_8_code 3 "SmokeGoesTo$Reader" (10 + (nn + 1)) (270 + (nn + 1) * 23) (some .boolean)) (hw : xo_is (sm_w X)) {rec : Nat → Int32 → sm_St → Option (Int32 × sm_St)} {a1 : Int32}  {R : Int32 × sm_St} (hrec : (∀ (a1 : Int32), sm_CI (sm_w X) (sm_l X) yX4_readOne prog_6_method_11_code 2 (some .boolean) (10 + nn) (270 + nn * 23) [.ref (sm_ad (sm_w X) 13), .int a1] (fun s => rec 0 a1 s)) ∧ (∀ (a1 : Int32), sm_CI (sm_w X) (sm_l X) yX4_readTerm prog_6_method_10_code 3 (some .boolean) (10 + nn) (270 + nn * 23) [.ref (sm_ad (sm_w X) 13), .int a1] (fun s => rec 1 a1 s)) ∧ (∀ (a1 : Int32), sm_CI (sm_w X) (sm_l X) yX4_readSum prog_6_method_9_code 4 (some .boolean) (10 + nn) (270 + nn * 23) [.ref (sm_ad (sm_w X) 13), .int a1] (fun s => rec 2 a1 s)) ∧ (∀ (a1 : Int32), sm_CI (sm_w X) (sm_l X) yX4_readNot prog_6_method_8_code 3 (some .boolean) (10 + nn) (270 + nn * 23) [.ref (sm_ad (sm_w X) 13), .int a1] (fun s => rec 3 a1 s)) ∧ (∀ (a1 : Int32), sm_CI (sm_w X) (sm_l X) yX4_readAnd prog_6_method_7_code 3 (some .boolean) (10 + nn) (270 + nn * 23) [.ref (sm_ad (sm_w X) 13), .int a1] (fun s => rec 4 a1 s)) ∧ (∀ (a1 : Int32), sm_CI (sm_w X) (sm_l X) yX4_readOr prog_6_method_6_code 3 (some .boolean) (10 + nn) (270 + nn * 23) [.ref (sm_ad (sm_w X) 13), .int a1] (fun s => rec 5 a1 s)))   (s0 : sm_St)   (h : xf_X4_readNot_p75 rec a1 s0 = some R) : sm_V X (sm_QI X R) 3 s0 75 [(0, .ref (sm_ad (sm_w X) 13)), (1, .int a1)] [] := by
  unfold xf_X4_readNot_p75 at h
  refine sm_aload_n C 0 dX4_readNot_75 rfl rfl ?_
  refine xr_Reader_token C hw (k := 13) rfl gf_Reader_21 dX4_readNot_76 h (fun v1 h => ?_)
  refine sm_istore_n (lv' := [(2, .int v1), (0, .ref (sm_ad (sm_w X) 13)), (1, .int a1)]) C dX4_readNot_79 rfl (by decide) rfl ?_
  refine sm_aload_n C 1 dX4_readNot_80 rfl rfl ?_
  refine sm_callVV (k := 13) C [] (xc_X4_step hw) gm_X4_step gl_Reader_40 gi_X4_step ge_X4_step (xob_Reader hw rfl) rfl ⟨by omega, by omega⟩ rfl (Nat.le_of_ble_eq_true rfl) dX4_readNot_81 h (fun v2 s3 h => ?_)
  refine sm_aload_n C 1 dX4_readNot_84 rfl rfl ?_
  refine sm_iload_n C 2 dX4_readNot_85 rfl rfl ?_
  refine sm_callVI (k := 13) C [.int a1] (hrec.2.2.1 a1) gm_X4_readSum gl_Reader_63 gi_X4_readSum ge_X4_readSum (xob_Reader hw rfl) rfl ⟨by omega, by omega⟩ rfl (Nat.le_of_ble_eq_true rfl) dX4_readNot_86 h (fun v4 s5 h => ?_)
  refine sm_if_ne C 94 dX4_readNot_89 (by decide) h (fun h => ?_) (fun h => ?_)
  · refine sm_aload_n C 1 dX4_readNot_94 rfl rfl ?_
    refine xr_Reader_out C hw (k := 13) rfl gf_Reader_33 dX4_readNot_95 h (fun r6 h => ?_)
    refine sm_iload_n C 0 dX4_readNot_98 rfl rfl ?_
    obtain ⟨c7, rfl, h⟩ := sm_oE h
    obtain ⟨hc7, h⟩ := sm_gE h
    have hc7 := of_decide_eq_true hc7
    refine sm_callVV (k := c7) C [.int v1] (xc_X6_addOperator hw c7 v1 hc7) gm_X6_addOperator gl_Reader_57 gi_X6_addOperator ge_X6_addOperator (xob_Text hw hc7) rfl ⟨by omega, by omega⟩ rfl (Nat.le_of_ble_eq_true rfl) dX4_readNot_99 h (fun v8 s9 h => ?_)
    refine sm_iconst (v := 1) C dX4_readNot_102 (by decide) ?_
    exact sm_zretK C rfl dX4_readNot_103 h
  · refine sm_iconst (v := 0) C dX4_readNot_92 (by decide) ?_
    exact sm_zretK C rfl dX4_readNot_93 h
set_option maxRecDepth 4000 in
theorem xc_X4_readNot_open {w : sm_WD} {l : Launch} (hw : xo_is w) {nn : Nat} (rec : Nat → Int32 → sm_St → Option (Int32 × sm_St)) (a1 : Int32) (hrec : (∀ (a1 : Int32), sm_CI w l yX4_readOne prog_6_method_11_code 2 (some .boolean) (10 + nn) (270 + nn * 23) [.ref (sm_ad w 13), .int a1] (fun s => rec 0 a1 s)) ∧ (∀ (a1 : Int32), sm_CI w l yX4_readTerm prog_6_method_10_code 3 (some .boolean) (10 + nn) (270 + nn * 23) [.ref (sm_ad w 13), .int a1] (fun s => rec 1 a1 s)) ∧ (∀ (a1 : Int32), sm_CI w l yX4_readSum prog_6_method_9_code 4 (some .boolean) (10 + nn) (270 + nn * 23) [.ref (sm_ad w 13), .int a1] (fun s => rec 2 a1 s)) ∧ (∀ (a1 : Int32), sm_CI w l yX4_readNot prog_6_method_8_code 3 (some .boolean) (10 + nn) (270 + nn * 23) [.ref (sm_ad w 13), .int a1] (fun s => rec 3 a1 s)) ∧ (∀ (a1 : Int32), sm_CI w l yX4_readAnd prog_6_method_7_code 3 (some .boolean) (10 + nn) (270 + nn * 23) [.ref (sm_ad w 13), .int a1] (fun s => rec 4 a1 s)) ∧ (∀ (a1 : Int32), sm_CI w l yX4_readOr prog_6_method_6_code 3 (some .boolean) (10 + nn) (270 + nn * 23) [.ref (sm_ad w 13), .int a1] (fun s => rec 5 a1 s))) : sm_CI w l yX4_readNot prog_6_method_8_code 3 (some .boolean) (10 + (nn + 1)) (270 + (nn + 1) * 23) [.ref (sm_ad w 13), .int a1] (fun s => xf_X4_readNot rec a1 s) := by
  refine sm_CI.of (by decide +kernel) (Nat.le_of_ble_eq_true rfl) (fun X s0 R hXw hXl C h => ?_)
  subst hXw
  subst hXl
  have h : xf_X4_readNot rec a1 s0 = some R := h
  show sm_V X (sm_QI X R) 3 s0 0 [(0, .ref (sm_ad (sm_w X) 13)), (1, .int a1)] []
  unfold xf_X4_readNot at h
  refine sm_aload_n C 0 dX4_readNot_0 rfl rfl ?_
  refine xr_Reader_token C hw (k := 13) rfl gf_Reader_21 dX4_readNot_1 h (fun v1 h => ?_)
  refine sm_sipush (v := 267) C dX4_readNot_4 (by decide) ?_
  refine sm_icmp_ne C 45 dX4_readNot_7 (by decide) h (fun h => ?_) (fun h => ?_)
  · refine sm_aload_n C 0 dX4_readNot_45 rfl rfl ?_
    refine sm_iload_n C 1 dX4_readNot_46 rfl rfl ?_
    refine sm_callVI (k := 13) C [.int a1] (hrec.2.2.1 a1) gm_X4_readSum gl_Reader_63 gi_X4_readSum ge_X4_readSum (xob_Reader hw rfl) rfl ⟨by omega, by omega⟩ rfl (Nat.le_of_ble_eq_true rfl) dX4_readNot_47 h (fun v2 s3 h => ?_)
    refine sm_if_ne C 55 dX4_readNot_50 (by decide) h (fun h => ?_) (fun h => ?_)
    · refine sm_aload_n C 0 dX4_readNot_55 rfl rfl ?_
      refine xr_Reader_token C hw (k := 13) rfl gf_Reader_21 dX4_readNot_56 h (fun v4 h => ?_)
      refine sm_bipush (v := 60) C dX4_readNot_59 (by decide) ?_
      refine sm_icmp_eq C 75 dX4_readNot_61 (by decide) h (fun h => ?_) (fun h => ?_)
      · exact xk_X4_readNot_p75 C hw hrec s3 h
      · refine sm_aload_n C 0 dX4_readNot_64 rfl rfl ?_
        refine xr_Reader_token C hw (k := 13) rfl gf_Reader_21 dX4_readNot_65 h (fun v5 h => ?_)
        refine sm_bipush (v := 61) C dX4_readNot_68 (by decide) ?_
        refine sm_icmp_eq C 75 dX4_readNot_70 (by decide) h (fun h => ?_) (fun h => ?_)
        · exact xk_X4_readNot_p75 C hw hrec s3 h
        · refine sm_iconst (v := 1) C dX4_readNot_73 (by decide) ?_
          exact sm_zretK C rfl dX4_readNot_74 h
    · refine sm_iconst (v := 0) C dX4_readNot_53 (by decide) ?_
      exact sm_zretK C rfl dX4_readNot_54 h
  · refine sm_iload_n C 1 dX4_readNot_10 rfl rfl ?_
    refine sm_iconst (v := 5) C dX4_readNot_11 (by decide) ?_
    refine sm_icmp_lt C 17 dX4_readNot_12 (by decide) h (fun h => ?_) (fun h => ?_)
    · refine sm_aload_n C 0 dX4_readNot_17 rfl rfl ?_
      refine sm_callVV (k := 13) C [] (xc_X4_step hw) gm_X4_step gl_Reader_40 gi_X4_step ge_X4_step (xob_Reader hw rfl) rfl ⟨by omega, by omega⟩ rfl (Nat.le_of_ble_eq_true rfl) dX4_readNot_18 h (fun v6 s7 h => ?_)
      refine sm_aload_n C 0 dX4_readNot_21 rfl rfl ?_
      refine sm_iload_n C 1 dX4_readNot_22 rfl rfl ?_
      refine sm_iconst (v := 1) C dX4_readNot_23 (by decide) ?_
      refine sm_iadd C dX4_readNot_24 h (fun v8 h => ?_)
      refine sm_callVI (k := 13) C [.int v8] (hrec.2.2.2.1 v8) gm_X4_readNot gl_Reader_60 gi_X4_readNot ge_X4_readNot (xob_Reader hw rfl) rfl ⟨by omega, by omega⟩ rfl (Nat.le_of_ble_eq_true rfl) dX4_readNot_25 h (fun v9 s10 h => ?_)
      refine sm_if_ne C 33 dX4_readNot_28 (by decide) h (fun h => ?_) (fun h => ?_)
      · refine sm_aload_n C 0 dX4_readNot_33 rfl rfl ?_
        refine xr_Reader_out C hw (k := 13) rfl gf_Reader_33 dX4_readNot_34 h (fun r11 h => ?_)
        refine sm_sipush (v := 267) C dX4_readNot_37 (by decide) ?_
        obtain ⟨c12, rfl, h⟩ := sm_oE h
        obtain ⟨hc12, h⟩ := sm_gE h
        have hc12 := of_decide_eq_true hc12
        refine sm_callVV (k := c12) C [.int (267 : Int32)] (xc_X6_addOperator hw c12 (267 : Int32) hc12) gm_X6_addOperator gl_Reader_57 gi_X6_addOperator ge_X6_addOperator (xob_Text hw hc12) rfl ⟨by omega, by omega⟩ rfl (Nat.le_of_ble_eq_true rfl) dX4_readNot_40 h (fun v13 s14 h => ?_)
        refine sm_iconst (v := 1) C dX4_readNot_43 (by decide) ?_
        exact sm_zretK C rfl dX4_readNot_44 h
      · refine sm_iconst (v := 0) C dX4_readNot_31 (by decide) ?_
        exact sm_zretK C rfl dX4_readNot_32 h
    · refine sm_iconst (v := 0) C dX4_readNot_15 (by decide) ?_
      exact sm_zretK C rfl dX4_readNot_16 h
noncomputable def xf_X4_readAnd_p12 (rec : Nat → Int32 → sm_St → Option (Int32 × sm_St)) (a1 : Int32) : Nat → sm_St → Int32 → Option (Int32 × sm_St)
  | 0, _, _ => none
  | n + 1, s0, l2 =>
  if (160 : Int32) ≤ l2 then (
  some ((1 : Int32), s0))
  else (
  sm_b (s0.1 13 2) fun v1 =>
  if v1 = (266 : Int32) then (
  sm_c (xf_X4_step s0) fun _ s3 =>
  sm_c (rec 3 a1 s3) fun v4 s5 =>
  if v4 = 0 then (
  some ((0 : Int32), s5))
  else (
  sm_b (s5.2.2 13 6) fun r6 =>
  sm_o r6 fun c7 => sm_g (decide (xo_tag c7 = 3)) <|
  sm_c (xf_X6_addOperator c7 (266 : Int32) s5) fun _ s9 =>
  sm_b (l2 + Int32.ofInt 1) fun v10 =>
  (xf_X4_readAnd_p12 rec a1 n) s9 v10))
  else (
  some ((1 : Int32), s0)))
noncomputable def xf_X4_readAnd (rec : Nat → Int32 → sm_St → Option (Int32 × sm_St)) (a1 : Int32) (s0 : sm_St) : Option (Int32 × sm_St) :=
  sm_c (rec 3 a1 s0) fun v1 s2 =>
  if v1 = 0 then (
  some ((0 : Int32), s2))
  else (
  xf_X4_readAnd_p12 rec a1 sm_F s2 (0 : Int32))
set_option maxRecDepth 4000 in
theorem xk_X4_readAnd_p12 {X : sm_VC} {nn : Nat} (C : sm_Cx X prog_6_method_7_code 3 "SmokeGoesTo$Reader" (10 + (nn + 1)) (270 + (nn + 1) * 23) (some .boolean)) (hw : xo_is (sm_w X)) {rec : Nat → Int32 → sm_St → Option (Int32 × sm_St)} {a1 : Int32}  {R : Int32 × sm_St} (hrec : (∀ (a1 : Int32), sm_CI (sm_w X) (sm_l X) yX4_readOne prog_6_method_11_code 2 (some .boolean) (10 + nn) (270 + nn * 23) [.ref (sm_ad (sm_w X) 13), .int a1] (fun s => rec 0 a1 s)) ∧ (∀ (a1 : Int32), sm_CI (sm_w X) (sm_l X) yX4_readTerm prog_6_method_10_code 3 (some .boolean) (10 + nn) (270 + nn * 23) [.ref (sm_ad (sm_w X) 13), .int a1] (fun s => rec 1 a1 s)) ∧ (∀ (a1 : Int32), sm_CI (sm_w X) (sm_l X) yX4_readSum prog_6_method_9_code 4 (some .boolean) (10 + nn) (270 + nn * 23) [.ref (sm_ad (sm_w X) 13), .int a1] (fun s => rec 2 a1 s)) ∧ (∀ (a1 : Int32), sm_CI (sm_w X) (sm_l X) yX4_readNot prog_6_method_8_code 3 (some .boolean) (10 + nn) (270 + nn * 23) [.ref (sm_ad (sm_w X) 13), .int a1] (fun s => rec 3 a1 s)) ∧ (∀ (a1 : Int32), sm_CI (sm_w X) (sm_l X) yX4_readAnd prog_6_method_7_code 3 (some .boolean) (10 + nn) (270 + nn * 23) [.ref (sm_ad (sm_w X) 13), .int a1] (fun s => rec 4 a1 s)) ∧ (∀ (a1 : Int32), sm_CI (sm_w X) (sm_l X) yX4_readOr prog_6_method_6_code 3 (some .boolean) (10 + nn) (270 + nn * 23) [.ref (sm_ad (sm_w X) 13), .int a1] (fun s => rec 5 a1 s)))   : ∀ (n : Nat) (s0 : sm_St) (l2 : Int32) , xf_X4_readAnd_p12 rec a1 n s0 l2 = some R → sm_V X (sm_QI X R) 3 s0 12 [(0, .ref (sm_ad (sm_w X) 13)), (1, .int a1), (2, .int l2)] [] := by
  intro n
  induction n with
  | zero =>
    intro s0 l2 h
    have h : (none : Option (Int32 × sm_St)) = some R := h
    cases h
  | succ n ih =>
    intro s0 l2 h
    unfold xf_X4_readAnd_p12 at h
    refine sm_iload_n C 2 dX4_readAnd_12 rfl rfl ?_
    refine sm_sipush (v := 160) C dX4_readAnd_13 (by decide) ?_
    refine sm_icmp_ge C 59 dX4_readAnd_16 (by decide) h (fun h => ?_) (fun h => ?_)
    · refine sm_iconst (v := 1) C dX4_readAnd_59 (by decide) ?_
      exact sm_zretK C rfl dX4_readAnd_60 h
    · refine sm_aload_n C 0 dX4_readAnd_19 rfl rfl ?_
      refine xr_Reader_token C hw (k := 13) rfl gf_Reader_21 dX4_readAnd_20 h (fun v1 h => ?_)
      refine sm_sipush (v := 266) C dX4_readAnd_23 (by decide) ?_
      refine sm_icmp_ne C 59 dX4_readAnd_26 (by decide) h (fun h => ?_) (fun h => ?_)
      · refine sm_iconst (v := 1) C dX4_readAnd_59 (by decide) ?_
        exact sm_zretK C rfl dX4_readAnd_60 h
      · refine sm_aload_n C 0 dX4_readAnd_29 rfl rfl ?_
        refine sm_callVV (k := 13) C [] (xc_X4_step hw) gm_X4_step gl_Reader_40 gi_X4_step ge_X4_step (xob_Reader hw rfl) rfl ⟨by omega, by omega⟩ rfl (Nat.le_of_ble_eq_true rfl) dX4_readAnd_30 h (fun v2 s3 h => ?_)
        refine sm_aload_n C 0 dX4_readAnd_33 rfl rfl ?_
        refine sm_iload_n C 1 dX4_readAnd_34 rfl rfl ?_
        refine sm_callVI (k := 13) C [.int a1] (hrec.2.2.2.1 a1) gm_X4_readNot gl_Reader_60 gi_X4_readNot ge_X4_readNot (xob_Reader hw rfl) rfl ⟨by omega, by omega⟩ rfl (Nat.le_of_ble_eq_true rfl) dX4_readAnd_35 h (fun v4 s5 h => ?_)
        refine sm_if_ne C 43 dX4_readAnd_38 (by decide) h (fun h => ?_) (fun h => ?_)
        · refine sm_aload_n C 0 dX4_readAnd_43 rfl rfl ?_
          refine xr_Reader_out C hw (k := 13) rfl gf_Reader_33 dX4_readAnd_44 h (fun r6 h => ?_)
          refine sm_sipush (v := 266) C dX4_readAnd_47 (by decide) ?_
          obtain ⟨c7, rfl, h⟩ := sm_oE h
          obtain ⟨hc7, h⟩ := sm_gE h
          have hc7 := of_decide_eq_true hc7
          refine sm_callVV (k := c7) C [.int (266 : Int32)] (xc_X6_addOperator hw c7 (266 : Int32) hc7) gm_X6_addOperator gl_Reader_57 gi_X6_addOperator ge_X6_addOperator (xob_Text hw hc7) rfl ⟨by omega, by omega⟩ rfl (Nat.le_of_ble_eq_true rfl) dX4_readAnd_50 h (fun v8 s9 h => ?_)
          refine sm_iinc (lv' := fun v10 => [(2, .int v10), (0, .ref (sm_ad (sm_w X) 13)), (1, .int a1)]) C 2 dX4_readAnd_53 rfl (by decide) (fun _ => rfl) h (fun v10 h => ?_)
          refine sm_goto C 12 dX4_readAnd_56 (by decide) ?_
          refine sm_sub (lv' := [(0, .ref (sm_ad (sm_w X) 13)), (1, .int a1), (2, .int v10)]) [1, 2, 0] rfl ?_
          exact ih s9 v10 h
        · refine sm_iconst (v := 0) C dX4_readAnd_41 (by decide) ?_
          exact sm_zretK C rfl dX4_readAnd_42 h
set_option maxRecDepth 4000 in
theorem xc_X4_readAnd_open {w : sm_WD} {l : Launch} (hw : xo_is w) {nn : Nat} (rec : Nat → Int32 → sm_St → Option (Int32 × sm_St)) (a1 : Int32) (hrec : (∀ (a1 : Int32), sm_CI w l yX4_readOne prog_6_method_11_code 2 (some .boolean) (10 + nn) (270 + nn * 23) [.ref (sm_ad w 13), .int a1] (fun s => rec 0 a1 s)) ∧ (∀ (a1 : Int32), sm_CI w l yX4_readTerm prog_6_method_10_code 3 (some .boolean) (10 + nn) (270 + nn * 23) [.ref (sm_ad w 13), .int a1] (fun s => rec 1 a1 s)) ∧ (∀ (a1 : Int32), sm_CI w l yX4_readSum prog_6_method_9_code 4 (some .boolean) (10 + nn) (270 + nn * 23) [.ref (sm_ad w 13), .int a1] (fun s => rec 2 a1 s)) ∧ (∀ (a1 : Int32), sm_CI w l yX4_readNot prog_6_method_8_code 3 (some .boolean) (10 + nn) (270 + nn * 23) [.ref (sm_ad w 13), .int a1] (fun s => rec 3 a1 s)) ∧ (∀ (a1 : Int32), sm_CI w l yX4_readAnd prog_6_method_7_code 3 (some .boolean) (10 + nn) (270 + nn * 23) [.ref (sm_ad w 13), .int a1] (fun s => rec 4 a1 s)) ∧ (∀ (a1 : Int32), sm_CI w l yX4_readOr prog_6_method_6_code 3 (some .boolean) (10 + nn) (270 + nn * 23) [.ref (sm_ad w 13), .int a1] (fun s => rec 5 a1 s))) : sm_CI w l yX4_readAnd prog_6_method_7_code 3 (some .boolean) (10 + (nn + 1)) (270 + (nn + 1) * 23) [.ref (sm_ad w 13), .int a1] (fun s => xf_X4_readAnd rec a1 s) := by
  refine sm_CI.of (by decide +kernel) (Nat.le_of_ble_eq_true rfl) (fun X s0 R hXw hXl C h => ?_)
  subst hXw
  subst hXl
  have h : xf_X4_readAnd rec a1 s0 = some R := h
  show sm_V X (sm_QI X R) 3 s0 0 [(0, .ref (sm_ad (sm_w X) 13)), (1, .int a1)] []
  unfold xf_X4_readAnd at h
  refine sm_aload_n C 0 dX4_readAnd_0 rfl rfl ?_
  refine sm_iload_n C 1 dX4_readAnd_1 rfl rfl ?_
  refine sm_callVI (k := 13) C [.int a1] (hrec.2.2.2.1 a1) gm_X4_readNot gl_Reader_60 gi_X4_readNot ge_X4_readNot (xob_Reader hw rfl) rfl ⟨by omega, by omega⟩ rfl (Nat.le_of_ble_eq_true rfl) dX4_readAnd_2 h (fun v1 s2 h => ?_)
  refine sm_if_ne C 10 dX4_readAnd_5 (by decide) h (fun h => ?_) (fun h => ?_)
  · refine sm_iconst (v := 0) C dX4_readAnd_10 (by decide) ?_
    refine sm_istore_n (lv' := [(2, .int (0 : Int32)), (0, .ref (sm_ad (sm_w X) 13)), (1, .int a1)]) C dX4_readAnd_11 rfl (by decide) rfl ?_
    refine sm_sub (lv' := [(0, .ref (sm_ad (sm_w X) 13)), (1, .int a1), (2, .int (0 : Int32))]) [1, 2, 0] rfl ?_
    exact xk_X4_readAnd_p12 C hw hrec sm_F s2 (0 : Int32) h
  · refine sm_iconst (v := 0) C dX4_readAnd_8 (by decide) ?_
    exact sm_zretK C rfl dX4_readAnd_9 h
noncomputable def xf_X4_readOr_p12 (rec : Nat → Int32 → sm_St → Option (Int32 × sm_St)) (a1 : Int32) : Nat → sm_St → Int32 → Option (Int32 × sm_St)
  | 0, _, _ => none
  | n + 1, s0, l2 =>
  if (160 : Int32) ≤ l2 then (
  some ((1 : Int32), s0))
  else (
  sm_b (s0.1 13 2) fun v1 =>
  if v1 = (265 : Int32) then (
  sm_c (xf_X4_step s0) fun _ s3 =>
  sm_c (rec 4 a1 s3) fun v4 s5 =>
  if v4 = 0 then (
  some ((0 : Int32), s5))
  else (
  sm_b (s5.2.2 13 6) fun r6 =>
  sm_o r6 fun c7 => sm_g (decide (xo_tag c7 = 3)) <|
  sm_c (xf_X6_addOperator c7 (265 : Int32) s5) fun _ s9 =>
  sm_b (l2 + Int32.ofInt 1) fun v10 =>
  (xf_X4_readOr_p12 rec a1 n) s9 v10))
  else (
  some ((1 : Int32), s0)))
noncomputable def xf_X4_readOr (rec : Nat → Int32 → sm_St → Option (Int32 × sm_St)) (a1 : Int32) (s0 : sm_St) : Option (Int32 × sm_St) :=
  sm_c (rec 4 a1 s0) fun v1 s2 =>
  if v1 = 0 then (
  some ((0 : Int32), s2))
  else (
  xf_X4_readOr_p12 rec a1 sm_F s2 (0 : Int32))
set_option maxRecDepth 4000 in
theorem xk_X4_readOr_p12 {X : sm_VC} {nn : Nat} (C : sm_Cx X prog_6_method_6_code 3 "SmokeGoesTo$Reader" (10 + (nn + 1)) (270 + (nn + 1) * 23) (some .boolean)) (hw : xo_is (sm_w X)) {rec : Nat → Int32 → sm_St → Option (Int32 × sm_St)} {a1 : Int32}  {R : Int32 × sm_St} (hrec : (∀ (a1 : Int32), sm_CI (sm_w X) (sm_l X) yX4_readOne prog_6_method_11_code 2 (some .boolean) (10 + nn) (270 + nn * 23) [.ref (sm_ad (sm_w X) 13), .int a1] (fun s => rec 0 a1 s)) ∧ (∀ (a1 : Int32), sm_CI (sm_w X) (sm_l X) yX4_readTerm prog_6_method_10_code 3 (some .boolean) (10 + nn) (270 + nn * 23) [.ref (sm_ad (sm_w X) 13), .int a1] (fun s => rec 1 a1 s)) ∧ (∀ (a1 : Int32), sm_CI (sm_w X) (sm_l X) yX4_readSum prog_6_method_9_code 4 (some .boolean) (10 + nn) (270 + nn * 23) [.ref (sm_ad (sm_w X) 13), .int a1] (fun s => rec 2 a1 s)) ∧ (∀ (a1 : Int32), sm_CI (sm_w X) (sm_l X) yX4_readNot prog_6_method_8_code 3 (some .boolean) (10 + nn) (270 + nn * 23) [.ref (sm_ad (sm_w X) 13), .int a1] (fun s => rec 3 a1 s)) ∧ (∀ (a1 : Int32), sm_CI (sm_w X) (sm_l X) yX4_readAnd prog_6_method_7_code 3 (some .boolean) (10 + nn) (270 + nn * 23) [.ref (sm_ad (sm_w X) 13), .int a1] (fun s => rec 4 a1 s)) ∧ (∀ (a1 : Int32), sm_CI (sm_w X) (sm_l X) yX4_readOr prog_6_method_6_code 3 (some .boolean) (10 + nn) (270 + nn * 23) [.ref (sm_ad (sm_w X) 13), .int a1] (fun s => rec 5 a1 s)))   : ∀ (n : Nat) (s0 : sm_St) (l2 : Int32) , xf_X4_readOr_p12 rec a1 n s0 l2 = some R → sm_V X (sm_QI X R) 3 s0 12 [(0, .ref (sm_ad (sm_w X) 13)), (1, .int a1), (2, .int l2)] [] := by
  intro n
  induction n with
  | zero =>
    intro s0 l2 h
    have h : (none : Option (Int32 × sm_St)) = some R := h
    cases h
  | succ n ih =>
    intro s0 l2 h
    unfold xf_X4_readOr_p12 at h
    refine sm_iload_n C 2 dX4_readOr_12 rfl rfl ?_
    refine sm_sipush (v := 160) C dX4_readOr_13 (by decide) ?_
    refine sm_icmp_ge C 59 dX4_readOr_16 (by decide) h (fun h => ?_) (fun h => ?_)
    · refine sm_iconst (v := 1) C dX4_readOr_59 (by decide) ?_
      exact sm_zretK C rfl dX4_readOr_60 h
    · refine sm_aload_n C 0 dX4_readOr_19 rfl rfl ?_
      refine xr_Reader_token C hw (k := 13) rfl gf_Reader_21 dX4_readOr_20 h (fun v1 h => ?_)
      refine sm_sipush (v := 265) C dX4_readOr_23 (by decide) ?_
      refine sm_icmp_ne C 59 dX4_readOr_26 (by decide) h (fun h => ?_) (fun h => ?_)
      · refine sm_iconst (v := 1) C dX4_readOr_59 (by decide) ?_
        exact sm_zretK C rfl dX4_readOr_60 h
      · refine sm_aload_n C 0 dX4_readOr_29 rfl rfl ?_
        refine sm_callVV (k := 13) C [] (xc_X4_step hw) gm_X4_step gl_Reader_40 gi_X4_step ge_X4_step (xob_Reader hw rfl) rfl ⟨by omega, by omega⟩ rfl (Nat.le_of_ble_eq_true rfl) dX4_readOr_30 h (fun v2 s3 h => ?_)
        refine sm_aload_n C 0 dX4_readOr_33 rfl rfl ?_
        refine sm_iload_n C 1 dX4_readOr_34 rfl rfl ?_
        refine sm_callVI (k := 13) C [.int a1] (hrec.2.2.2.2.1 a1) gm_X4_readAnd gl_Reader_54 gi_X4_readAnd ge_X4_readAnd (xob_Reader hw rfl) rfl ⟨by omega, by omega⟩ rfl (Nat.le_of_ble_eq_true rfl) dX4_readOr_35 h (fun v4 s5 h => ?_)
        refine sm_if_ne C 43 dX4_readOr_38 (by decide) h (fun h => ?_) (fun h => ?_)
        · refine sm_aload_n C 0 dX4_readOr_43 rfl rfl ?_
          refine xr_Reader_out C hw (k := 13) rfl gf_Reader_33 dX4_readOr_44 h (fun r6 h => ?_)
          refine sm_sipush (v := 265) C dX4_readOr_47 (by decide) ?_
          obtain ⟨c7, rfl, h⟩ := sm_oE h
          obtain ⟨hc7, h⟩ := sm_gE h
          have hc7 := of_decide_eq_true hc7
          refine sm_callVV (k := c7) C [.int (265 : Int32)] (xc_X6_addOperator hw c7 (265 : Int32) hc7) gm_X6_addOperator gl_Reader_57 gi_X6_addOperator ge_X6_addOperator (xob_Text hw hc7) rfl ⟨by omega, by omega⟩ rfl (Nat.le_of_ble_eq_true rfl) dX4_readOr_50 h (fun v8 s9 h => ?_)
          refine sm_iinc (lv' := fun v10 => [(2, .int v10), (0, .ref (sm_ad (sm_w X) 13)), (1, .int a1)]) C 2 dX4_readOr_53 rfl (by decide) (fun _ => rfl) h (fun v10 h => ?_)
          refine sm_goto C 12 dX4_readOr_56 (by decide) ?_
          refine sm_sub (lv' := [(0, .ref (sm_ad (sm_w X) 13)), (1, .int a1), (2, .int v10)]) [1, 2, 0] rfl ?_
          exact ih s9 v10 h
        · refine sm_iconst (v := 0) C dX4_readOr_41 (by decide) ?_
          exact sm_zretK C rfl dX4_readOr_42 h
set_option maxRecDepth 4000 in
theorem xc_X4_readOr_open {w : sm_WD} {l : Launch} (hw : xo_is w) {nn : Nat} (rec : Nat → Int32 → sm_St → Option (Int32 × sm_St)) (a1 : Int32) (hrec : (∀ (a1 : Int32), sm_CI w l yX4_readOne prog_6_method_11_code 2 (some .boolean) (10 + nn) (270 + nn * 23) [.ref (sm_ad w 13), .int a1] (fun s => rec 0 a1 s)) ∧ (∀ (a1 : Int32), sm_CI w l yX4_readTerm prog_6_method_10_code 3 (some .boolean) (10 + nn) (270 + nn * 23) [.ref (sm_ad w 13), .int a1] (fun s => rec 1 a1 s)) ∧ (∀ (a1 : Int32), sm_CI w l yX4_readSum prog_6_method_9_code 4 (some .boolean) (10 + nn) (270 + nn * 23) [.ref (sm_ad w 13), .int a1] (fun s => rec 2 a1 s)) ∧ (∀ (a1 : Int32), sm_CI w l yX4_readNot prog_6_method_8_code 3 (some .boolean) (10 + nn) (270 + nn * 23) [.ref (sm_ad w 13), .int a1] (fun s => rec 3 a1 s)) ∧ (∀ (a1 : Int32), sm_CI w l yX4_readAnd prog_6_method_7_code 3 (some .boolean) (10 + nn) (270 + nn * 23) [.ref (sm_ad w 13), .int a1] (fun s => rec 4 a1 s)) ∧ (∀ (a1 : Int32), sm_CI w l yX4_readOr prog_6_method_6_code 3 (some .boolean) (10 + nn) (270 + nn * 23) [.ref (sm_ad w 13), .int a1] (fun s => rec 5 a1 s))) : sm_CI w l yX4_readOr prog_6_method_6_code 3 (some .boolean) (10 + (nn + 1)) (270 + (nn + 1) * 23) [.ref (sm_ad w 13), .int a1] (fun s => xf_X4_readOr rec a1 s) := by
  refine sm_CI.of (by decide +kernel) (Nat.le_of_ble_eq_true rfl) (fun X s0 R hXw hXl C h => ?_)
  subst hXw
  subst hXl
  have h : xf_X4_readOr rec a1 s0 = some R := h
  show sm_V X (sm_QI X R) 3 s0 0 [(0, .ref (sm_ad (sm_w X) 13)), (1, .int a1)] []
  unfold xf_X4_readOr at h
  refine sm_aload_n C 0 dX4_readOr_0 rfl rfl ?_
  refine sm_iload_n C 1 dX4_readOr_1 rfl rfl ?_
  refine sm_callVI (k := 13) C [.int a1] (hrec.2.2.2.2.1 a1) gm_X4_readAnd gl_Reader_54 gi_X4_readAnd ge_X4_readAnd (xob_Reader hw rfl) rfl ⟨by omega, by omega⟩ rfl (Nat.le_of_ble_eq_true rfl) dX4_readOr_2 h (fun v1 s2 h => ?_)
  refine sm_if_ne C 10 dX4_readOr_5 (by decide) h (fun h => ?_) (fun h => ?_)
  · refine sm_iconst (v := 0) C dX4_readOr_10 (by decide) ?_
    refine sm_istore_n (lv' := [(2, .int (0 : Int32)), (0, .ref (sm_ad (sm_w X) 13)), (1, .int a1)]) C dX4_readOr_11 rfl (by decide) rfl ?_
    refine sm_sub (lv' := [(0, .ref (sm_ad (sm_w X) 13)), (1, .int a1), (2, .int (0 : Int32))]) [1, 2, 0] rfl ?_
    exact xk_X4_readOr_p12 C hw hrec sm_F s2 (0 : Int32) h
  · refine sm_iconst (v := 0) C dX4_readOr_8 (by decide) ?_
    exact sm_zretK C rfl dX4_readOr_9 h
noncomputable def xg_read : Nat → Nat → Int32 → sm_St → Option (Int32 × sm_St)
  | 0, _, _, _ => none
  | n + 1, 0, a, s => xf_X4_readOne (xg_read n) a s
  | n + 1, 1, a, s => xf_X4_readTerm (xg_read n) a s
  | n + 1, 2, a, s => xf_X4_readSum (xg_read n) a s
  | n + 1, 3, a, s => xf_X4_readNot (xg_read n) a s
  | n + 1, 4, a, s => xf_X4_readAnd (xg_read n) a s
  | n + 1, 5, a, s => xf_X4_readOr (xg_read n) a s
  | _ + 1, _, _, _ => none
set_option maxRecDepth 4000 in
theorem xc_read {w : sm_WD} {l : Launch} (hw : xo_is w) : ∀ n : Nat, (∀ (a1 : Int32), sm_CI w l yX4_readOne prog_6_method_11_code 2 (some .boolean) (10 + n) (270 + n * 23) [.ref (sm_ad w 13), .int a1] (fun s => xg_read n 0 a1 s)) ∧ (∀ (a1 : Int32), sm_CI w l yX4_readTerm prog_6_method_10_code 3 (some .boolean) (10 + n) (270 + n * 23) [.ref (sm_ad w 13), .int a1] (fun s => xg_read n 1 a1 s)) ∧ (∀ (a1 : Int32), sm_CI w l yX4_readSum prog_6_method_9_code 4 (some .boolean) (10 + n) (270 + n * 23) [.ref (sm_ad w 13), .int a1] (fun s => xg_read n 2 a1 s)) ∧ (∀ (a1 : Int32), sm_CI w l yX4_readNot prog_6_method_8_code 3 (some .boolean) (10 + n) (270 + n * 23) [.ref (sm_ad w 13), .int a1] (fun s => xg_read n 3 a1 s)) ∧ (∀ (a1 : Int32), sm_CI w l yX4_readAnd prog_6_method_7_code 3 (some .boolean) (10 + n) (270 + n * 23) [.ref (sm_ad w 13), .int a1] (fun s => xg_read n 4 a1 s)) ∧ (∀ (a1 : Int32), sm_CI w l yX4_readOr prog_6_method_6_code 3 (some .boolean) (10 + n) (270 + n * 23) [.ref (sm_ad w 13), .int a1] (fun s => xg_read n 5 a1 s)) := by
  intro n
  induction n with
  | zero =>
    refine ⟨?_, ?_, ?_, ?_, ?_, ?_⟩ <;> (intro a1 σ R h; cases h)
  | succ n ih =>
    exact ⟨fun a1 => xc_X4_readOne_open hw (xg_read n) a1 ih, fun a1 => xc_X4_readTerm_open hw (xg_read n) a1 ih, fun a1 => xc_X4_readSum_open hw (xg_read n) a1 ih, fun a1 => xc_X4_readNot_open hw (xg_read n) a1 ih, fun a1 => xc_X4_readAnd_open hw (xg_read n) a1 ih, fun a1 => xc_X4_readOr_open hw (xg_read n) a1 ih⟩
noncomputable def xf_X4_readOne_r (a1 : Int32) (s : sm_St) : Option (Int32 × sm_St) := xg_read 64 0 a1 s
set_option maxRecDepth 4000 in
theorem xc_X4_readOne {w : sm_WD} {l : Launch} (hw : xo_is w) (a1 : Int32) : sm_CI w l yX4_readOne prog_6_method_11_code 2 (some .boolean) (10 + 64) (270 + 64 * 23) [.ref (sm_ad w 13), .int a1] (fun s => xf_X4_readOne_r a1 s) := (xc_read hw 64).1 a1
noncomputable def xf_X4_readTerm_r (a1 : Int32) (s : sm_St) : Option (Int32 × sm_St) := xg_read 64 1 a1 s
set_option maxRecDepth 4000 in
theorem xc_X4_readTerm {w : sm_WD} {l : Launch} (hw : xo_is w) (a1 : Int32) : sm_CI w l yX4_readTerm prog_6_method_10_code 3 (some .boolean) (10 + 64) (270 + 64 * 23) [.ref (sm_ad w 13), .int a1] (fun s => xf_X4_readTerm_r a1 s) := (xc_read hw 64).2.1 a1
noncomputable def xf_X4_readSum_r (a1 : Int32) (s : sm_St) : Option (Int32 × sm_St) := xg_read 64 2 a1 s
set_option maxRecDepth 4000 in
theorem xc_X4_readSum {w : sm_WD} {l : Launch} (hw : xo_is w) (a1 : Int32) : sm_CI w l yX4_readSum prog_6_method_9_code 4 (some .boolean) (10 + 64) (270 + 64 * 23) [.ref (sm_ad w 13), .int a1] (fun s => xf_X4_readSum_r a1 s) := (xc_read hw 64).2.2.1 a1
noncomputable def xf_X4_readNot_r (a1 : Int32) (s : sm_St) : Option (Int32 × sm_St) := xg_read 64 3 a1 s
set_option maxRecDepth 4000 in
theorem xc_X4_readNot {w : sm_WD} {l : Launch} (hw : xo_is w) (a1 : Int32) : sm_CI w l yX4_readNot prog_6_method_8_code 3 (some .boolean) (10 + 64) (270 + 64 * 23) [.ref (sm_ad w 13), .int a1] (fun s => xf_X4_readNot_r a1 s) := (xc_read hw 64).2.2.2.1 a1
noncomputable def xf_X4_readAnd_r (a1 : Int32) (s : sm_St) : Option (Int32 × sm_St) := xg_read 64 4 a1 s
set_option maxRecDepth 4000 in
theorem xc_X4_readAnd {w : sm_WD} {l : Launch} (hw : xo_is w) (a1 : Int32) : sm_CI w l yX4_readAnd prog_6_method_7_code 3 (some .boolean) (10 + 64) (270 + 64 * 23) [.ref (sm_ad w 13), .int a1] (fun s => xf_X4_readAnd_r a1 s) := (xc_read hw 64).2.2.2.2.1 a1
noncomputable def xf_X4_readOr_r (a1 : Int32) (s : sm_St) : Option (Int32 × sm_St) := xg_read 64 5 a1 s
set_option maxRecDepth 4000 in
theorem xc_X4_readOr {w : sm_WD} {l : Launch} (hw : xo_is w) (a1 : Int32) : sm_CI w l yX4_readOr prog_6_method_6_code 3 (some .boolean) (10 + 64) (270 + 64 * 23) [.ref (sm_ad w 13), .int a1] (fun s => xf_X4_readOr_r a1 s) := (xc_read hw 64).2.2.2.2.2 a1
noncomputable def xf_X4_read_p20 (a1 : Nat) : Nat → sm_St → Int32 → Option (Int32 × sm_St)
  | 0, _, _ => none
  | n + 1, s0, l2 =>
  if (3 : Int32) ≤ l2 then (
  sm_b (s0.1 13 2) fun v1 =>
  if v1 = 0 then (
  some ((-1 : Int32), s0))
  else (
  sm_b (s0.1 13 3) fun v2 =>
  some (v2, s0)))
  else (
  sm_b ((262 : Int32) + l2) fun v3 =>
  sm_c (xf_X4_accept v3 s0) fun v4 s5 =>
  if v4 = 0 then (
  sm_b (s5.1 13 3) fun v6 =>
  some (v6, s5))
  else (
  sm_c (xf_X4_readOr_r (0 : Int32) s5) fun v7 s8 =>
  if v7 = 0 then (
  sm_b (s8.1 13 3) fun v9 =>
  some (v9, s8))
  else (
  sm_c (xf_X4_accept (59 : Int32) s8) fun v10 s11 =>
  if v10 = 0 then (
  sm_b (s11.1 13 3) fun v15 =>
  some (v15, s11))
  else (
  sm_c (xf_X6_endPart a1 l2 s11) fun _ s13 =>
  sm_b (l2 + Int32.ofInt 1) fun v14 =>
  (xf_X4_read_p20 a1 n) s13 v14))))
noncomputable def xf_X4_read (a1 : Nat) (s0 : sm_St) : Option (Int32 × sm_St) :=
  sm_b (sm_sR s0 13 6 (some a1)) fun s1 =>
  sm_c (xf_X6_clear a1 s1) fun _ s3 =>
  sm_b (sm_sI s3 13 4 (0 : Int32)) fun s4 =>
  sm_c (xf_X4_step s4) fun _ s6 =>
  xf_X4_read_p20 a1 sm_F s6 (0 : Int32)
set_option maxRecDepth 4000 in
theorem xk_X4_read_p20 {X : sm_VC} (C : sm_Cx X prog_6_method_4_code 3 "SmokeGoesTo$Reader" 75 1764 (some .int)) (hw : xo_is (sm_w X)) {a1 : Nat} (ha1 : xo_tag a1 = 3) {R : Int32 × sm_St}   : ∀ (n : Nat) (s0 : sm_St) (l2 : Int32) , xf_X4_read_p20 a1 n s0 l2 = some R → sm_V X (sm_QI X R) 3 s0 20 [(0, .ref (sm_ad (sm_w X) 13)), (1, .ref (sm_ad (sm_w X) a1)), (2, .int l2)] [] := by
  intro n
  induction n with
  | zero =>
    intro s0 l2 h
    have h : (none : Option (Int32 × sm_St)) = some R := h
    cases h
  | succ n ih =>
    intro s0 l2 h
    unfold xf_X4_read_p20 at h
    refine sm_iload_n C 2 dX4_read_20 rfl rfl ?_
    refine sm_iconst (v := 3) C dX4_read_21 (by decide) ?_
    refine sm_icmp_ge C 70 dX4_read_22 (by decide) h (fun h => ?_) (fun h => ?_)
    · refine sm_aload_n C 0 dX4_read_70 rfl rfl ?_
      refine xr_Reader_token C hw (k := 13) rfl gf_Reader_21 dX4_read_71 h (fun v1 h => ?_)
      refine sm_if_ne C 81 dX4_read_74 (by decide) h (fun h => ?_) (fun h => ?_)
      · refine sm_aload_n C 0 dX4_read_81 rfl rfl ?_
        refine xr_Reader_tokenStart C hw (k := 13) rfl gf_Reader_24 dX4_read_82 h (fun v2 h => ?_)
        exact sm_iret C dX4_read_85 h
      · refine sm_iconst (v := (-1)) C dX4_read_77 (by decide) ?_
        refine sm_goto C 85 dX4_read_78 (by decide) ?_
        exact sm_iret C dX4_read_85 h
    · refine sm_aload_n C 0 dX4_read_25 rfl rfl ?_
      refine sm_sipush (v := 262) C dX4_read_26 (by decide) ?_
      refine sm_iload_n C 2 dX4_read_29 rfl rfl ?_
      refine sm_iadd C dX4_read_30 h (fun v3 h => ?_)
      refine sm_callVI (k := 13) C [.int v3] (xc_X4_accept hw v3) gm_X4_accept gl_Reader_43 gi_X4_accept ge_X4_accept (xob_Reader hw rfl) rfl ⟨Nat.le_of_ble_eq_true rfl, Nat.le_of_ble_eq_true rfl⟩ rfl (Nat.le_of_ble_eq_true rfl) dX4_read_31 h (fun v4 s5 h => ?_)
      refine sm_if_eq C 54 dX4_read_34 (by decide) h (fun h => ?_) (fun h => ?_)
      · refine sm_aload_n C 0 dX4_read_54 rfl rfl ?_
        refine xr_Reader_tokenStart C hw (k := 13) rfl gf_Reader_24 dX4_read_55 h (fun v6 h => ?_)
        exact sm_iret C dX4_read_58 h
      · refine sm_aload_n C 0 dX4_read_37 rfl rfl ?_
        refine sm_iconst (v := 0) C dX4_read_38 (by decide) ?_
        refine sm_callVI (k := 13) C [.int (0 : Int32)] (xc_X4_readOr hw (0 : Int32)) gm_X4_readOr gl_Reader_47 gi_X4_readOr ge_X4_readOr (xob_Reader hw rfl) rfl ⟨Nat.le_of_ble_eq_true rfl, Nat.le_of_ble_eq_true rfl⟩ rfl (Nat.le_of_ble_eq_true rfl) dX4_read_39 h (fun v7 s8 h => ?_)
        refine sm_if_eq C 54 dX4_read_42 (by decide) h (fun h => ?_) (fun h => ?_)
        · refine sm_aload_n C 0 dX4_read_54 rfl rfl ?_
          refine xr_Reader_tokenStart C hw (k := 13) rfl gf_Reader_24 dX4_read_55 h (fun v9 h => ?_)
          exact sm_iret C dX4_read_58 h
        · refine sm_aload_n C 0 dX4_read_45 rfl rfl ?_
          refine sm_bipush (v := 59) C dX4_read_46 (by decide) ?_
          refine sm_callVI (k := 13) C [.int (59 : Int32)] (xc_X4_accept hw (59 : Int32)) gm_X4_accept gl_Reader_43 gi_X4_accept ge_X4_accept (xob_Reader hw rfl) rfl ⟨Nat.le_of_ble_eq_true rfl, Nat.le_of_ble_eq_true rfl⟩ rfl (Nat.le_of_ble_eq_true rfl) dX4_read_48 h (fun v10 s11 h => ?_)
          refine sm_if_ne C 59 dX4_read_51 (by decide) h (fun h => ?_) (fun h => ?_)
          · refine sm_aload_n C 1 dX4_read_59 rfl rfl ?_
            refine sm_iload_n C 2 dX4_read_60 rfl rfl ?_
            refine sm_callVV (k := a1) C [.int l2] (xc_X6_endPart hw a1 l2 ha1) gm_X6_endPart gl_Reader_50 gi_X6_endPart ge_X6_endPart (xob_Text hw ha1) rfl ⟨Nat.le_of_ble_eq_true rfl, Nat.le_of_ble_eq_true rfl⟩ rfl (Nat.le_of_ble_eq_true rfl) dX4_read_61 h (fun v12 s13 h => ?_)
            refine sm_iinc (lv' := fun v14 => [(2, .int v14), (0, .ref (sm_ad (sm_w X) 13)), (1, .ref (sm_ad (sm_w X) a1))]) C 2 dX4_read_64 rfl (by decide) (fun _ => rfl) h (fun v14 h => ?_)
            refine sm_goto C 20 dX4_read_67 (by decide) ?_
            refine sm_sub (lv' := [(0, .ref (sm_ad (sm_w X) 13)), (1, .ref (sm_ad (sm_w X) a1)), (2, .int v14)]) [1, 2, 0] rfl ?_
            exact ih s13 v14 h
          · refine sm_aload_n C 0 dX4_read_54 rfl rfl ?_
            refine xr_Reader_tokenStart C hw (k := 13) rfl gf_Reader_24 dX4_read_55 h (fun v15 h => ?_)
            exact sm_iret C dX4_read_58 h
set_option maxRecDepth 4000 in
theorem xc_X4_read {w : sm_WD} {l : Launch} (hw : xo_is w) (a1 : Nat) (ha1 : xo_tag a1 = 3) : sm_CI w l yX4_read prog_6_method_4_code 3 (some .int) 75 1764 [.ref (sm_ad w 13), .ref (sm_ad w a1)] (fun s => xf_X4_read a1 s) := by
  refine sm_CI.of (by decide +kernel) (Nat.le_of_ble_eq_true rfl) (fun X s0 R hXw hXl C h => ?_)
  subst hXw
  subst hXl
  have h : xf_X4_read a1 s0 = some R := h
  show sm_V X (sm_QI X R) 3 s0 0 [(0, .ref (sm_ad (sm_w X) 13)), (1, .ref (sm_ad (sm_w X) a1))] []
  unfold xf_X4_read at h
  refine sm_aload_n C 0 dX4_read_0 rfl rfl ?_
  refine sm_aload_n C 1 dX4_read_1 rfl rfl ?_
  refine xp_Reader_out C hw (k := 13) (r := (some a1)) rfl gf_Reader_33 dX4_read_2 h (fun s1 h => ?_)
  refine sm_aload_n C 1 dX4_read_5 rfl rfl ?_
  refine sm_callVV (k := a1) C [] (xc_X6_clear hw a1 ha1) gm_X6_clear gl_Reader_37 gi_X6_clear ge_X6_clear (xob_Text hw ha1) rfl ⟨Nat.le_of_ble_eq_true rfl, Nat.le_of_ble_eq_true rfl⟩ rfl (Nat.le_of_ble_eq_true rfl) dX4_read_6 h (fun v2 s3 h => ?_)
  refine sm_aload_n C 0 dX4_read_9 rfl rfl ?_
  refine sm_iconst (v := 0) C dX4_read_10 (by decide) ?_
  refine xp_Reader_next C hw (k := 13) rfl gf_Reader_27 dX4_read_11 h (fun s4 h => ?_)
  refine sm_aload_n C 0 dX4_read_14 rfl rfl ?_
  refine sm_callVV (k := 13) C [] (xc_X4_step hw) gm_X4_step gl_Reader_40 gi_X4_step ge_X4_step (xob_Reader hw rfl) rfl ⟨Nat.le_of_ble_eq_true rfl, Nat.le_of_ble_eq_true rfl⟩ rfl (Nat.le_of_ble_eq_true rfl) dX4_read_15 h (fun v5 s6 h => ?_)
  refine sm_iconst (v := 0) C dX4_read_18 (by decide) ?_
  refine sm_istore_n (lv' := [(2, .int (0 : Int32)), (0, .ref (sm_ad (sm_w X) 13)), (1, .ref (sm_ad (sm_w X) a1))]) C dX4_read_19 rfl (by decide) rfl ?_
  refine sm_sub (lv' := [(0, .ref (sm_ad (sm_w X) 13)), (1, .ref (sm_ad (sm_w X) a1)), (2, .int (0 : Int32))]) [1, 2, 0] rfl ?_
  exact xk_X4_read_p20 C hw ha1 sm_F s6 (0 : Int32) h
noncomputable def xf_X4_empty (s0 : sm_St) : Option (Unit × sm_St) :=
  sm_b (sm_sI s0 13 0 (0 : Int32)) fun s1 =>
  some ((), s1)
set_option maxRecDepth 4000 in
theorem xc_X4_empty {w : sm_WD} {l : Launch} (hw : xo_is w)  : sm_CV w l yX4_empty prog_6_method_3_code 1 none 2 100 [.ref (sm_ad w 13)] (fun s => xf_X4_empty s) := by
  refine sm_CV.of (by decide +kernel) (Nat.le_of_ble_eq_true rfl) (fun X s0 R hXw hXl C h => ?_)
  subst hXw
  subst hXl
  have h : xf_X4_empty s0 = some R := h
  show sm_V X (sm_QV X R) 1 s0 0 [(0, .ref (sm_ad (sm_w X) 13))] []
  unfold xf_X4_empty at h
  refine sm_aload_n C 0 dX4_empty_0 rfl rfl ?_
  refine sm_iconst (v := 0) C dX4_empty_1 (by decide) ?_
  refine xp_Reader_size C hw (k := 13) rfl gf_Reader_13 dX4_empty_2 h (fun s1 h => ?_)
  exact sm_vret C dX4_empty_5 h
