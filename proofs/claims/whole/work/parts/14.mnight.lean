/-! 14.mnight: pure words by program, and their contracts -/
noncomputable def mf_X8_text_p14  : Nat → sm_St → Int32 → Option (Int32 × sm_St)
  | 0, _, _ => none
  | n + 1, s0, l1 =>
  sm_b (s0.1 0 6) fun v1 =>
  if v1 ≤ l1 then (
  sm_b (s0.1 0 3) fun v2 =>
  sm_b (s0.1 0 6) fun v3 =>
  sm_g (sm_in v2 6) <| sm_b (sm_sI s0 2 v2.toNatClampNeg v3) fun s4 =>
  sm_b (sm_sI s4 0 6 (0 : Int32)) fun s5 =>
  sm_b (s5.1 0 3) fun v6 =>
  sm_c (mf_X8_read v6 (0 : Int32) s5) fun v7 s8 =>
  sm_b (s8.1 0 29) fun v9 =>
  if v9 = 0 then (
  sm_b (s8.1 0 3) fun v10 =>
  sm_b (v10 + (1 : Int32)) fun v11 =>
  sm_b (sm_sI s8 0 3 v11) fun s12 =>
  sm_b (s12.1 0 3) fun v13 =>
  sm_b (v13 - (1 : Int32)) fun v14 =>
  some (v14, s12))
  else (
  sm_b (s8.1 0 30) fun v15 =>
  sm_b ((-100 : Int32) - v15) fun v16 =>
  some (v16, s8)))
  else (
  sm_b (s0.1 0 3) fun v17 =>
  sm_b ((160 : Int32) * v17) fun v18 =>
  sm_b (v18 + l1) fun v19 =>
  sm_g (sm_in l1 160) <| sm_b (s0.1 3 l1.toNatClampNeg) fun v20 =>
  sm_g (sm_in v19 960) <| sm_b (sm_sI s0 1 v19.toNatClampNeg v20) fun s21 =>
  sm_b (l1 + Int32.ofInt 1) fun v22 =>
  (mf_X8_text_p14 n) s21 v22)
noncomputable def mf_X8_text (s0 : sm_St) : Option (Int32 × sm_St) :=
  sm_b (s0.1 0 3) fun v1 =>
  if v1 = (6 : Int32) then (
  some ((-4 : Int32), s0))
  else (
  mf_X8_text_p14 sm_F s0 (0 : Int32))
set_option maxRecDepth 4000 in
theorem mk_X8_text_p14 {X : sm_VC} (C : sm_Cx X prog_10_method_32_code 2 "SmokeGoesToModel" 73 1732 (some .int)) (hw : mo_is (sm_w X))   {R : Int32 × sm_St}   : ∀ (n : Nat) (s0 : sm_St) (l1 : Int32) , mf_X8_text_p14 n s0 l1 = some R → sm_V X (sm_QI X R) 2 s0 14 [(0, .ref (sm_ad (sm_w X) 0)), (1, .int l1)] [] := by
  intro n
  induction n with
  | zero =>
    intro s0 l1 h
    have h : (none : Option (Int32 × sm_St)) = some R := h
    cases h
  | succ n ih =>
    intro s0 l1 h
    unfold mf_X8_text_p14 at h
    refine sm_iload_n C 1 dX8_text_14 rfl rfl ?_
    refine sm_aload_n C 0 dX8_text_15 rfl rfl ?_
    refine mr_M_taped C hw (k := 0) rfl gf_M_150 dX8_text_16 h (fun v1 h => ?_)
    refine sm_icmp_ge C 49 dX8_text_19 (by decide) h (fun h => ?_) (fun h => ?_)
    · refine sm_aload_n C 0 dX8_text_49 rfl rfl ?_
      refine mr_M_textSize C hw (k := 0) rfl gf_M_17 dX8_text_50 ?_
      refine sm_aload_n C 0 dX8_text_53 rfl rfl ?_
      refine mr_M_textCount C hw (k := 0) rfl gf_M_98 dX8_text_54 h (fun v2 h => ?_)
      refine sm_aload_n C 0 dX8_text_57 rfl rfl ?_
      refine mr_M_taped C hw (k := 0) rfl gf_M_150 dX8_text_58 h (fun v3 h => ?_)
      refine ma_iast C hw (k := 2) rfl rfl dX8_text_61 h (fun s4 h => ?_)
      refine sm_aload_n C 0 dX8_text_62 rfl rfl ?_
      refine sm_iconst (v := 0) C dX8_text_63 (by decide) ?_
      refine mp_M_taped C hw (k := 0) rfl gf_M_150 dX8_text_64 h (fun s5 h => ?_)
      refine sm_aload_n C 0 dX8_text_67 rfl rfl ?_
      refine sm_aload_n C 0 dX8_text_68 rfl rfl ?_
      refine mr_M_textCount C hw (k := 0) rfl gf_M_98 dX8_text_69 h (fun v6 h => ?_)
      refine sm_iconst (v := 0) C dX8_text_72 (by decide) ?_
      refine sm_callVI (k := 0) C [.int v6, .int (0 : Int32)] (mc_X8_read hw v6 (0 : Int32)) gm_X8_read gl_M_263 gi_X8_read ge_X8_read (mob_M hw rfl) rfl ⟨Nat.le_of_ble_eq_true rfl, Nat.le_of_ble_eq_true rfl⟩ rfl (Nat.le_of_ble_eq_true rfl) dX8_text_73 h (fun v7 s8 h => ?_)
      refine sm_istore_n (lv' := [(1, .int v7), (0, .ref (sm_ad (sm_w X) 0))]) C dX8_text_76 rfl (by decide) rfl ?_
      refine sm_aload_n C 1 dX8_text_77 rfl rfl ?_
      refine mr_M_bad C hw (k := 0) rfl gf_M_185 dX8_text_78 h (fun v9 h => ?_)
      refine sm_if_eq C 92 dX8_text_81 (by decide) h (fun h => ?_) (fun h => ?_)
      · refine sm_aload_n C 1 dX8_text_92 rfl rfl ?_
        refine sm_dup C dX8_text_93 rfl ?_
        refine mr_M_textCount C hw (k := 0) rfl gf_M_98 dX8_text_94 h (fun v10 h => ?_)
        refine sm_iconst (v := 1) C dX8_text_97 (by decide) ?_
        refine sm_iadd C dX8_text_98 h (fun v11 h => ?_)
        refine mp_M_textCount C hw (k := 0) rfl gf_M_98 dX8_text_99 h (fun s12 h => ?_)
        refine sm_aload_n C 1 dX8_text_102 rfl rfl ?_
        refine mr_M_textCount C hw (k := 0) rfl gf_M_98 dX8_text_103 h (fun v13 h => ?_)
        refine sm_iconst (v := 1) C dX8_text_106 (by decide) ?_
        refine sm_isub C dX8_text_107 h (fun v14 h => ?_)
        exact sm_iret C dX8_text_108 h
      · refine sm_bipush (v := (-100)) C dX8_text_84 (by decide) ?_
        refine sm_aload_n C 1 dX8_text_86 rfl rfl ?_
        refine mr_M_fault C hw (k := 0) rfl gf_M_189 dX8_text_87 h (fun v15 h => ?_)
        refine sm_isub C dX8_text_90 h (fun v16 h => ?_)
        exact sm_iret C dX8_text_91 h
    · refine sm_aload_n C 0 dX8_text_22 rfl rfl ?_
      refine mr_M_texts C hw (k := 0) rfl gf_M_13 dX8_text_23 ?_
      refine sm_sipush (v := 160) C dX8_text_26 (by decide) ?_
      refine sm_aload_n C 0 dX8_text_29 rfl rfl ?_
      refine mr_M_textCount C hw (k := 0) rfl gf_M_98 dX8_text_30 h (fun v17 h => ?_)
      refine sm_imul C dX8_text_33 h (fun v18 h => ?_)
      refine sm_iload_n C 1 dX8_text_34 rfl rfl ?_
      refine sm_iadd C dX8_text_35 h (fun v19 h => ?_)
      refine sm_aload_n C 0 dX8_text_36 rfl rfl ?_
      refine mr_M_tape C hw (k := 0) rfl gf_M_20 dX8_text_37 ?_
      refine sm_iload_n C 1 dX8_text_40 rfl rfl ?_
      refine ma_iald C hw (k := 3) rfl rfl dX8_text_41 h (fun v20 h => ?_)
      refine ma_iast C hw (k := 1) rfl rfl dX8_text_42 h (fun s21 h => ?_)
      refine sm_iinc (lv' := fun v22 => [(1, .int v22), (0, .ref (sm_ad (sm_w X) 0))]) C 1 dX8_text_43 rfl (by decide) (fun _ => rfl) h (fun v22 h => ?_)
      refine sm_goto C 14 dX8_text_46 (by decide) ?_
      refine sm_sub (lv' := [(0, .ref (sm_ad (sm_w X) 0)), (1, .int v22)]) [1, 0] rfl ?_
      exact ih s21 v22 h
set_option maxRecDepth 4000 in
theorem mc_X8_text {w : sm_WD} {l : Launch} (hw : mo_is w)  : sm_CI w l yX8_text prog_10_method_32_code 2 (some .int) 73 1732 [.ref (sm_ad w 0)] (fun s => mf_X8_text s) := by
  refine sm_CI.of (by decide +kernel) (Nat.le_of_ble_eq_true rfl) (fun X s0 R hXw hXl C h => ?_)
  subst hXw
  subst hXl
  have h : mf_X8_text s0 = some R := h
  show sm_V X (sm_QI X R) 2 s0 0 [(0, .ref (sm_ad (sm_w X) 0))] []
  unfold mf_X8_text at h
  refine sm_aload_n C 0 dX8_text_0 rfl rfl ?_
  refine mr_M_textCount C hw (k := 0) rfl gf_M_98 dX8_text_1 h (fun v1 h => ?_)
  refine sm_bipush (v := 6) C dX8_text_4 (by decide) ?_
  refine sm_icmp_ne C 12 dX8_text_6 (by decide) h (fun h => ?_) (fun h => ?_)
  · refine sm_iconst (v := 0) C dX8_text_12 (by decide) ?_
    refine sm_istore_n (lv' := [(1, .int (0 : Int32)), (0, .ref (sm_ad (sm_w X) 0))]) C dX8_text_13 rfl (by decide) rfl ?_
    refine sm_sub (lv' := [(0, .ref (sm_ad (sm_w X) 0)), (1, .int (0 : Int32))]) [1, 0] rfl ?_
    exact mk_X8_text_p14 C hw sm_F s0 (0 : Int32) h
  · refine sm_bipush (v := (-4)) C dX8_text_9 (by decide) ?_
    exact sm_iret C dX8_text_11 h
noncomputable def mf_X8_force (a1 : Int32) (s0 : sm_St) : Option (Int32 × sm_St) :=
  sm_b (a1.toInt64) fun v1 =>
  sm_b (s0.1 0 3) fun v2 =>
  sm_b (v2 - (1 : Int32)) fun v3 =>
  sm_b (v3.toInt64) fun v4 =>
  sm_c (mf_X8_in v1 (0 : Int64) v4 s0) fun v5 s6 =>
  if v5 = 0 then (
  some ((-2 : Int32), s6))
  else (
  sm_b (s6.1 0 4) fun v7 =>
  sm_b (sm_sI s6 0 4 a1) fun s8 =>
  some (v7, s8))
set_option maxRecDepth 4000 in
theorem mc_X8_force {w : sm_WD} {l : Launch} (hw : mo_is w) (a1 : Int32) : sm_CI w l yX8_force prog_10_method_33_code 3 (some .int) 3 125 [.ref (sm_ad w 0), .int a1] (fun s => mf_X8_force a1 s) := by
  refine sm_CI.of (by decide +kernel) (Nat.le_of_ble_eq_true rfl) (fun X s0 R hXw hXl C h => ?_)
  subst hXw
  subst hXl
  have h : mf_X8_force a1 s0 = some R := h
  show sm_V X (sm_QI X R) 3 s0 0 [(0, .ref (sm_ad (sm_w X) 0)), (1, .int a1)] []
  unfold mf_X8_force at h
  refine sm_iload_n C 1 dX8_force_0 rfl rfl ?_
  refine sm_i2l C dX8_force_1 h (fun v1 h => ?_)
  refine sm_lconst (v := 0) C dX8_force_2 (by decide) ?_
  refine sm_aload_n C 0 dX8_force_3 rfl rfl ?_
  refine mr_M_textCount C hw (k := 0) rfl gf_M_98 dX8_force_4 h (fun v2 h => ?_)
  refine sm_iconst (v := 1) C dX8_force_7 (by decide) ?_
  refine sm_isub C dX8_force_8 h (fun v3 h => ?_)
  refine sm_i2l C dX8_force_9 h (fun v4 h => ?_)
  refine sm_callSI C [.long v1, .long (0 : Int64), .long v4] (mc_X8_in hw v1 (0 : Int64) v4) gm_X8_in gl_M_104 gs_X8_in rfl ⟨Nat.le_of_ble_eq_true rfl, Nat.le_of_ble_eq_true rfl⟩ rfl (Nat.le_of_ble_eq_true rfl) dX8_force_10 h (fun v5 s6 h => ?_)
  refine sm_if_ne C 19 dX8_force_13 (by decide) h (fun h => ?_) (fun h => ?_)
  · refine sm_aload_n C 0 dX8_force_19 rfl rfl ?_
    refine mr_M_rule C hw (k := 0) rfl gf_M_266 dX8_force_20 h (fun v7 h => ?_)
    refine sm_istore_n (lv' := [(2, .int v7), (0, .ref (sm_ad (sm_w X) 0)), (1, .int a1)]) C dX8_force_23 rfl (by decide) rfl ?_
    refine sm_aload_n C 1 dX8_force_24 rfl rfl ?_
    refine sm_iload_n C 2 dX8_force_25 rfl rfl ?_
    refine mp_M_rule C hw (k := 0) rfl gf_M_266 dX8_force_26 h (fun s8 h => ?_)
    refine sm_iload_n C 0 dX8_force_29 rfl rfl ?_
    exact sm_iret C dX8_force_30 h
  · refine sm_bipush (v := (-2)) C dX8_force_16 (by decide) ?_
    exact sm_iret C dX8_force_18 h
noncomputable def mf_X8_isSheet (a1 : Int32) (s0 : sm_St) : Option (Int32 × sm_St) :=
  sm_b (a1.toInt64) fun v1 =>
  sm_c (mf_X8_in v1 (0 : Int64) (3 : Int64) s0) fun v2 s3 =>
  sm_g (decide (narrow .boolean (.int v2) = .int v2)) (some (v2, s3))
set_option maxRecDepth 4000 in
theorem mc_X8_isSheet {w : sm_WD} {l : Launch} (hw : mo_is w) (a1 : Int32) : sm_CI w l yX8_isSheet prog_10_method_67_code 1 (some .boolean) 3 125 [.int a1] (fun s => mf_X8_isSheet a1 s) := by
  refine sm_CI.of (by decide +kernel) (Nat.le_of_ble_eq_true rfl) (fun X s0 R hXw hXl C h => ?_)
  subst hXw
  subst hXl
  have h : mf_X8_isSheet a1 s0 = some R := h
  show sm_V X (sm_QI X R) 1 s0 0 [(0, .int a1)] []
  unfold mf_X8_isSheet at h
  refine sm_iload_n C 0 dX8_isSheet_0 rfl rfl ?_
  refine sm_i2l C dX8_isSheet_1 h (fun v1 h => ?_)
  refine sm_lconst (v := 0) C dX8_isSheet_2 (by decide) ?_
  refine sm_ldc2 C gk_M_318 dX8_isSheet_3 ?_
  refine sm_callSI C [.long v1, .long (0 : Int64), .long (3 : Int64)] (mc_X8_in hw v1 (0 : Int64) (3 : Int64)) gm_X8_in gl_M_104 gs_X8_in rfl ⟨Nat.le_of_ble_eq_true rfl, Nat.le_of_ble_eq_true rfl⟩ rfl (Nat.le_of_ble_eq_true rfl) dX8_isSheet_6 h (fun v2 s3 h => ?_)
  exact sm_zret C dX8_isSheet_9 h
noncomputable def mf_X8_layAside_p2  : Nat → sm_St → Int32 → Option (Unit × sm_St)
  | 0, _, _ => none
  | n + 1, s0, l1 =>
  if (5 : Int32) ≤ l1 then (
  sm_b (s0.1 0 7) fun v1 =>
  sm_g (sm_in (5 : Int32) 6) <| sm_b (sm_sI s0 13 (5 : Int32).toNatClampNeg v1) fun s2 =>
  some ((), s2))
  else (
  sm_g (sm_in l1 5) <| sm_b (s0.1 6 l1.toNatClampNeg) fun v3 =>
  sm_g (sm_in l1 6) <| sm_b (sm_sI s0 13 l1.toNatClampNeg v3) fun s4 =>
  sm_b (l1 + Int32.ofInt 1) fun v5 =>
  (mf_X8_layAside_p2 n) s4 v5)
noncomputable def mf_X8_layAside (s0 : sm_St) : Option (Unit × sm_St) :=
  mf_X8_layAside_p2 sm_F s0 (0 : Int32)
set_option maxRecDepth 4000 in
theorem mk_X8_layAside_p2 {X : sm_VC} (C : sm_Cx X prog_10_method_40_code 2 "SmokeGoesToModel" 2 100 none) (hw : mo_is (sm_w X))   {R : Unit × sm_St}   : ∀ (n : Nat) (s0 : sm_St) (l1 : Int32) , mf_X8_layAside_p2 n s0 l1 = some R → sm_V X (sm_QV X R) 2 s0 2 [(0, .ref (sm_ad (sm_w X) 0)), (1, .int l1)] [] := by
  intro n
  induction n with
  | zero =>
    intro s0 l1 h
    have h : (none : Option (Unit × sm_St)) = some R := h
    cases h
  | succ n ih =>
    intro s0 l1 h
    unfold mf_X8_layAside_p2 at h
    refine sm_iload_n C 1 dX8_layAside_2 rfl rfl ?_
    refine sm_iconst (v := 5) C dX8_layAside_3 (by decide) ?_
    refine sm_icmp_ge C 25 dX8_layAside_4 (by decide) h (fun h => ?_) (fun h => ?_)
    · refine sm_aload_n C 0 dX8_layAside_25 rfl rfl ?_
      refine mr_M_aside C hw (k := 0) rfl gf_M_56 dX8_layAside_26 ?_
      refine sm_iconst (v := 5) C dX8_layAside_29 (by decide) ?_
      refine sm_aload_n C 0 dX8_layAside_30 rfl rfl ?_
      refine mr_M_smoke C hw (k := 0) rfl gf_M_120 dX8_layAside_31 h (fun v1 h => ?_)
      refine ma_iast C hw (k := 13) rfl rfl dX8_layAside_34 h (fun s2 h => ?_)
      exact sm_vret C dX8_layAside_35 h
    · refine sm_aload_n C 0 dX8_layAside_7 rfl rfl ?_
      refine mr_M_aside C hw (k := 0) rfl gf_M_56 dX8_layAside_8 ?_
      refine sm_iload_n C 1 dX8_layAside_11 rfl rfl ?_
      refine sm_aload_n C 0 dX8_layAside_12 rfl rfl ?_
      refine mr_M_places C hw (k := 0) rfl gf_M_35 dX8_layAside_13 ?_
      refine sm_iload_n C 1 dX8_layAside_16 rfl rfl ?_
      refine ma_iald C hw (k := 6) rfl rfl dX8_layAside_17 h (fun v3 h => ?_)
      refine ma_iast C hw (k := 13) rfl rfl dX8_layAside_18 h (fun s4 h => ?_)
      refine sm_iinc (lv' := fun v5 => [(1, .int v5), (0, .ref (sm_ad (sm_w X) 0))]) C 1 dX8_layAside_19 rfl (by decide) (fun _ => rfl) h (fun v5 h => ?_)
      refine sm_goto C 2 dX8_layAside_22 (by decide) ?_
      refine sm_sub (lv' := [(0, .ref (sm_ad (sm_w X) 0)), (1, .int v5)]) [1, 0] rfl ?_
      exact ih s4 v5 h
set_option maxRecDepth 4000 in
theorem mc_X8_layAside {w : sm_WD} {l : Launch} (hw : mo_is w)  : sm_CV w l yX8_layAside prog_10_method_40_code 2 none 2 100 [.ref (sm_ad w 0)] (fun s => mf_X8_layAside s) := by
  refine sm_CV.of (by decide +kernel) (Nat.le_of_ble_eq_true rfl) (fun X s0 R hXw hXl C h => ?_)
  subst hXw
  subst hXl
  have h : mf_X8_layAside s0 = some R := h
  show sm_V X (sm_QV X R) 2 s0 0 [(0, .ref (sm_ad (sm_w X) 0))] []
  unfold mf_X8_layAside at h
  refine sm_iconst (v := 0) C dX8_layAside_0 (by decide) ?_
  refine sm_istore_n (lv' := [(1, .int (0 : Int32)), (0, .ref (sm_ad (sm_w X) 0))]) C dX8_layAside_1 rfl (by decide) rfl ?_
  refine sm_sub (lv' := [(0, .ref (sm_ad (sm_w X) 0)), (1, .int (0 : Int32))]) [1, 0] rfl ?_
  exact mk_X8_layAside_p2 C hw sm_F s0 (0 : Int32) h
noncomputable def mf_X8_begins_p2  : Nat → sm_St → Int32 → Option (Unit × sm_St)
  | 0, _, _ => none
  | n + 1, s0, l1 =>
  if (5 : Int32) ≤ l1 then (
  sm_b (sm_sI s0 0 37 (0 : Int32)) fun s1 =>
  sm_b (sm_sI s1 0 38 (0 : Int32)) fun s2 =>
  some ((), s2))
  else (
  sm_g (sm_in l1 5) <| sm_b (sm_sI s0 7 l1.toNatClampNeg (0 : Int32)) fun s3 =>
  sm_g (sm_in l1 5) <| sm_b (sm_sI s3 8 l1.toNatClampNeg (0 : Int32)) fun s4 =>
  sm_g (sm_in l1 5) <| sm_b (sm_sI s4 9 l1.toNatClampNeg (0 : Int32)) fun s5 =>
  sm_g (sm_in l1 5) <| sm_b (sm_sI s5 10 l1.toNatClampNeg (0 : Int32)) fun s6 =>
  sm_g (sm_in l1 5) <| sm_b (sm_sI s6 11 l1.toNatClampNeg (0 : Int32)) fun s7 =>
  sm_b (l1 + Int32.ofInt 1) fun v8 =>
  (mf_X8_begins_p2 n) s7 v8)
noncomputable def mf_X8_begins (s0 : sm_St) : Option (Unit × sm_St) :=
  mf_X8_begins_p2 sm_F s0 (0 : Int32)
set_option maxRecDepth 4000 in
theorem mk_X8_begins_p2 {X : sm_VC} (C : sm_Cx X prog_10_method_36_code 2 "SmokeGoesToModel" 2 100 none) (hw : mo_is (sm_w X))   {R : Unit × sm_St}   : ∀ (n : Nat) (s0 : sm_St) (l1 : Int32) , mf_X8_begins_p2 n s0 l1 = some R → sm_V X (sm_QV X R) 2 s0 2 [(0, .ref (sm_ad (sm_w X) 0)), (1, .int l1)] [] := by
  intro n
  induction n with
  | zero =>
    intro s0 l1 h
    have h : (none : Option (Unit × sm_St)) = some R := h
    cases h
  | succ n ih =>
    intro s0 l1 h
    unfold mf_X8_begins_p2 at h
    refine sm_iload_n C 1 dX8_begins_2 rfl rfl ?_
    refine sm_iconst (v := 5) C dX8_begins_3 (by decide) ?_
    refine sm_icmp_ge C 48 dX8_begins_4 (by decide) h (fun h => ?_) (fun h => ?_)
    · refine sm_aload_n C 0 dX8_begins_48 rfl rfl ?_
      refine sm_iconst (v := 0) C dX8_begins_49 (by decide) ?_
      refine mp_M_upNow C hw (k := 0) rfl gf_M_276 dX8_begins_50 h (fun s1 h => ?_)
      refine sm_aload_n C 0 dX8_begins_53 rfl rfl ?_
      refine sm_iconst (v := 0) C dX8_begins_54 (by decide) ?_
      refine mp_M_needless C hw (k := 0) rfl gf_M_279 dX8_begins_55 h (fun s2 h => ?_)
      exact sm_vret C dX8_begins_58 h
    · refine sm_aload_n C 0 dX8_begins_7 rfl rfl ?_
      refine mr_M_longNow C hw (k := 0) rfl gf_M_38 dX8_begins_8 ?_
      refine sm_iload_n C 1 dX8_begins_11 rfl rfl ?_
      refine sm_iconst (v := 0) C dX8_begins_12 (by decide) ?_
      refine ma_iast C hw (k := 7) rfl rfl dX8_begins_13 h (fun s3 h => ?_)
      refine sm_aload_n C 0 dX8_begins_14 rfl rfl ?_
      refine mr_M_costs C hw (k := 0) rfl gf_M_41 dX8_begins_15 ?_
      refine sm_iload_n C 1 dX8_begins_18 rfl rfl ?_
      refine sm_iconst (v := 0) C dX8_begins_19 (by decide) ?_
      refine ma_iast C hw (k := 8) rfl rfl dX8_begins_20 h (fun s4 h => ?_)
      refine sm_aload_n C 0 dX8_begins_21 rfl rfl ?_
      refine mr_M_smoked C hw (k := 0) rfl gf_M_44 dX8_begins_22 ?_
      refine sm_iload_n C 1 dX8_begins_25 rfl rfl ?_
      refine sm_iconst (v := 0) C dX8_begins_26 (by decide) ?_
      refine ma_iast C hw (k := 9) rfl rfl dX8_begins_27 h (fun s5 h => ?_)
      refine sm_aload_n C 0 dX8_begins_28 rfl rfl ?_
      refine mr_M_longest C hw (k := 0) rfl gf_M_47 dX8_begins_29 ?_
      refine sm_iload_n C 1 dX8_begins_32 rfl rfl ?_
      refine sm_iconst (v := 0) C dX8_begins_33 (by decide) ?_
      refine ma_iast C hw (k := 10) rfl rfl dX8_begins_34 h (fun s6 h => ?_)
      refine sm_aload_n C 0 dX8_begins_35 rfl rfl ?_
      refine mr_M_risen C hw (k := 0) rfl gf_M_50 dX8_begins_36 ?_
      refine sm_iload_n C 1 dX8_begins_39 rfl rfl ?_
      refine sm_iconst (v := 0) C dX8_begins_40 (by decide) ?_
      refine ma_iast C hw (k := 11) rfl rfl dX8_begins_41 h (fun s7 h => ?_)
      refine sm_iinc (lv' := fun v8 => [(1, .int v8), (0, .ref (sm_ad (sm_w X) 0))]) C 1 dX8_begins_42 rfl (by decide) (fun _ => rfl) h (fun v8 h => ?_)
      refine sm_goto C 2 dX8_begins_45 (by decide) ?_
      refine sm_sub (lv' := [(0, .ref (sm_ad (sm_w X) 0)), (1, .int v8)]) [1, 0] rfl ?_
      exact ih s7 v8 h
set_option maxRecDepth 4000 in
theorem mc_X8_begins {w : sm_WD} {l : Launch} (hw : mo_is w)  : sm_CV w l yX8_begins prog_10_method_36_code 2 none 2 100 [.ref (sm_ad w 0)] (fun s => mf_X8_begins s) := by
  refine sm_CV.of (by decide +kernel) (Nat.le_of_ble_eq_true rfl) (fun X s0 R hXw hXl C h => ?_)
  subst hXw
  subst hXl
  have h : mf_X8_begins s0 = some R := h
  show sm_V X (sm_QV X R) 2 s0 0 [(0, .ref (sm_ad (sm_w X) 0))] []
  unfold mf_X8_begins at h
  refine sm_iconst (v := 0) C dX8_begins_0 (by decide) ?_
  refine sm_istore_n (lv' := [(1, .int (0 : Int32)), (0, .ref (sm_ad (sm_w X) 0))]) C dX8_begins_1 rfl (by decide) rfl ?_
  refine sm_sub (lv' := [(0, .ref (sm_ad (sm_w X) 0)), (1, .int (0 : Int32))]) [1, 0] rfl ?_
  exact mk_X8_begins_p2 C hw sm_F s0 (0 : Int32) h
noncomputable def mf_X8_windOf (a1 : Int32) (s0 : sm_St) : Option (Int32 × sm_St) :=
  if 0 ≤ a1 then (
  if a1 ≤ 0 then (
  some ((0 : Int32), s0))
  else (
  some ((1 : Int32), s0)))
  else (
  some ((-1 : Int32), s0))
set_option maxRecDepth 4000 in
theorem mc_X8_windOf {w : sm_WD} {l : Launch} (hw : mo_is w) (a1 : Int32) : sm_CI w l yX8_windOf prog_10_method_42_code 1 (some .int) 2 100 [.int a1] (fun s => mf_X8_windOf a1 s) := by
  refine sm_CI.of (by decide +kernel) (Nat.le_of_ble_eq_true rfl) (fun X s0 R hXw hXl C h => ?_)
  subst hXw
  subst hXl
  have h : mf_X8_windOf a1 s0 = some R := h
  show sm_V X (sm_QI X R) 1 s0 0 [(0, .int a1)] []
  unfold mf_X8_windOf at h
  refine sm_iload_n C 0 dX8_windOf_0 rfl rfl ?_
  refine sm_if_ge C 8 dX8_windOf_1 (by decide) h (fun h => ?_) (fun h => ?_)
  · refine sm_iload_n C 0 dX8_windOf_8 rfl rfl ?_
    refine sm_if_le C 16 dX8_windOf_9 (by decide) h (fun h => ?_) (fun h => ?_)
    · refine sm_iconst (v := 0) C dX8_windOf_16 (by decide) ?_
      exact sm_iret C dX8_windOf_17 h
    · refine sm_iconst (v := 1) C dX8_windOf_12 (by decide) ?_
      refine sm_goto C 17 dX8_windOf_13 (by decide) ?_
      exact sm_iret C dX8_windOf_17 h
  · refine sm_iconst (v := (-1)) C dX8_windOf_4 (by decide) ?_
    refine sm_goto C 17 dX8_windOf_5 (by decide) ?_
    exact sm_iret C dX8_windOf_17 h
noncomputable def mf_X8_turns_p137 (a1 : Int32) (k94 : sm_St → Int32 → Option (Unit × sm_St)) (s0 : sm_St) (l2 : Int32) (t0 : Int32) (t1 : Int32) : Option (Unit × sm_St) :=
  sm_b (t1 + t0) fun v1 =>
  sm_b (sm_sI s0 0 38 v1) fun s2 =>
  sm_b (l2 + Int32.ofInt 1) fun v3 =>
  k94 s2 v3
noncomputable def mf_X8_turns_p136 (a1 : Int32) (k94 : sm_St → Int32 → Option (Unit × sm_St)) (s0 : sm_St) (l2 : Int32) (t0 : Int32) : Option (Unit × sm_St) :=
  mf_X8_turns_p137 a1 k94 s0 l2 (0 : Int32) t0
noncomputable def mf_X8_turns_p94 (a1 : Int32) : Nat → sm_St → Int32 → Option (Unit × sm_St)
  | 0, _, _ => none
  | n + 1, s0, l2 =>
  sm_b (s0.1 0 15) fun v1 =>
  if v1 ≤ l2 then (
  some ((), s0))
  else (
  sm_b (s0.1 0 38) fun v2 =>
  sm_b (s0.1 0 37) fun v3 =>
  sm_b (v3 >>> (l2 &&& 31)) fun v4 =>
  sm_b (v4 &&& (1 : Int32)) fun v5 =>
  if v5 = (1 : Int32) then (
  sm_g (sm_in l2 5) <| sm_b (s0.1 12 l2.toNatClampNeg) fun v6 =>
  sm_b (s0.1 0 7) fun v7 =>
  if v6 = v7 then (
  mf_X8_turns_p136 a1 (mf_X8_turns_p94 a1 n) s0 l2 v2)
  else (
  mf_X8_turns_p137 a1 (mf_X8_turns_p94 a1 n) s0 l2 (1 : Int32) v2))
  else (
  mf_X8_turns_p136 a1 (mf_X8_turns_p94 a1 n) s0 l2 v2))
noncomputable def mf_X8_turns_p92 (a1 : Int32) (s0 : sm_St) : Option (Unit × sm_St) :=
  mf_X8_turns_p94 a1 sm_F s0 (0 : Int32)
noncomputable def mf_X8_turns_p85 (a1 : Int32) (s0 : sm_St) (t0 : Int32) (t1 : Int32) : Option (Unit × sm_St) :=
  sm_b (t1 + t0) fun v1 =>
  sm_c (mf_X8_round v1 s0) fun v2 s3 =>
  sm_b (sm_sI s3 0 7 v2) fun s4 =>
  mf_X8_turns_p92 a1 s4
noncomputable def mf_X8_turns_p30 (a1 : Int32) : Nat → sm_St → Int32 → Option (Unit × sm_St)
  | 0, _, _ => none
  | n + 1, s0, l2 =>
  sm_b (s0.1 0 37) fun v1 =>
  sm_b (v1 >>> (l2 &&& 31)) fun v2 =>
  sm_b (v2 &&& (1 : Int32)) fun v3 =>
  if v3 = 0 then (
  sm_b (l2 + Int32.ofInt 1) fun v10 =>
  (mf_X8_turns_p30 a1 n) s0 v10)
  else (
  sm_g (sm_in l2 5) <| sm_b (s0.1 6 l2.toNatClampNeg) fun v4 =>
  sm_b (s0.1 0 7) fun v5 =>
  sm_b (v4 - v5) fun v6 =>
  sm_c (mf_X8_round v6 s0) fun v7 s8 =>
  sm_b (s8.1 0 7) fun v9 =>
  if v7 = 0 then (
  mf_X8_turns_p85 a1 s8 (0 : Int32) v9)
  else (
  if (4 : Int32) < v7 then (
  mf_X8_turns_p85 a1 s8 (-1 : Int32) v9)
  else (
  mf_X8_turns_p85 a1 s8 (1 : Int32) v9)))
noncomputable def mf_X8_turns (a1 : Int32) (s0 : sm_St) : Option (Unit × sm_St) :=
  sm_b (s0.1 0 7) fun v1 =>
  sm_b (v1 + a1) fun v2 =>
  sm_c (mf_X8_round v2 s0) fun v3 s4 =>
  sm_b (sm_sI s4 0 7 v3) fun s5 =>
  sm_b (s5.1 0 11) fun v6 =>
  if v6 = (1 : Int32) then (
  sm_b (s5.1 0 37) fun v7 =>
  if v7 = 0 then (
  mf_X8_turns_p92 a1 s5)
  else (
  mf_X8_turns_p30 a1 sm_F s5 (0 : Int32)))
  else (
  mf_X8_turns_p92 a1 s5)
set_option maxRecDepth 4000 in
theorem mk_X8_turns_p137 {X : sm_VC} (C : sm_Cx X prog_10_method_37_code 4 "SmokeGoesToModel" 3 120 none) (hw : mo_is (sm_w X)) {a1 : Int32}  {R : Unit × sm_St} {k94 : sm_St → Int32 → Option (Unit × sm_St)} (hk94 : ∀ (s : sm_St) (l2 : Int32), k94 s l2 = some R → sm_V X (sm_QV X R) 4 s 94 [(0, .ref (sm_ad (sm_w X) 0)), (2, .int l2)] []) (s0 : sm_St) (l2 : Int32) (t0 : Int32) (t1 : Int32)  (h : mf_X8_turns_p137 a1 k94 s0 l2 t0 t1 = some R) : sm_V X (sm_QV X R) 4 s0 137 [(0, .ref (sm_ad (sm_w X) 0)), (2, .int l2)] [.int t0, .int t1, .ref (sm_ad (sm_w X) 0)] := by
  unfold mf_X8_turns_p137 at h
  refine sm_iadd C dX8_turns_137 h (fun v1 h => ?_)
  refine mp_M_needless C hw (k := 0) rfl gf_M_279 dX8_turns_138 h (fun s2 h => ?_)
  refine sm_iinc (lv' := fun v3 => [(2, .int v3), (0, .ref (sm_ad (sm_w X) 0))]) C 1 dX8_turns_141 rfl (by decide) (fun _ => rfl) h (fun v3 h => ?_)
  refine sm_goto C 94 dX8_turns_144 (by decide) ?_
  refine sm_sub (lv' := [(0, .ref (sm_ad (sm_w X) 0)), (2, .int v3)]) [1, 0] rfl ?_
  exact hk94 s2 v3 h
set_option maxRecDepth 4000 in
theorem mk_X8_turns_p136 {X : sm_VC} (C : sm_Cx X prog_10_method_37_code 4 "SmokeGoesToModel" 3 120 none) (hw : mo_is (sm_w X)) {a1 : Int32}  {R : Unit × sm_St} {k94 : sm_St → Int32 → Option (Unit × sm_St)} (hk94 : ∀ (s : sm_St) (l2 : Int32), k94 s l2 = some R → sm_V X (sm_QV X R) 4 s 94 [(0, .ref (sm_ad (sm_w X) 0)), (2, .int l2)] []) (s0 : sm_St) (l2 : Int32) (t0 : Int32)  (h : mf_X8_turns_p136 a1 k94 s0 l2 t0 = some R) : sm_V X (sm_QV X R) 4 s0 136 [(0, .ref (sm_ad (sm_w X) 0)), (2, .int l2)] [.int t0, .ref (sm_ad (sm_w X) 0)] := by
  unfold mf_X8_turns_p136 at h
  refine sm_iconst (v := 0) C dX8_turns_136 (by decide) ?_
  exact mk_X8_turns_p137 C hw hk94 s0 l2 (0 : Int32) t0 h
set_option maxRecDepth 4000 in
theorem mk_X8_turns_p94 {X : sm_VC} (C : sm_Cx X prog_10_method_37_code 4 "SmokeGoesToModel" 3 120 none) (hw : mo_is (sm_w X)) {a1 : Int32}  {R : Unit × sm_St}   : ∀ (n : Nat) (s0 : sm_St) (l2 : Int32) , mf_X8_turns_p94 a1 n s0 l2 = some R → sm_V X (sm_QV X R) 4 s0 94 [(0, .ref (sm_ad (sm_w X) 0)), (2, .int l2)] [] := by
  intro n
  induction n with
  | zero =>
    intro s0 l2 h
    have h : (none : Option (Unit × sm_St)) = some R := h
    cases h
  | succ n ih =>
    intro s0 l2 h
    unfold mf_X8_turns_p94 at h
    refine sm_iload_n C 1 dX8_turns_94 rfl rfl ?_
    refine sm_aload_n C 0 dX8_turns_95 rfl rfl ?_
    refine mr_M_sitterMany C hw (k := 0) rfl gf_M_101 dX8_turns_96 h (fun v1 h => ?_)
    refine sm_icmp_ge C 147 dX8_turns_99 (by decide) h (fun h => ?_) (fun h => ?_)
    · exact sm_vret C dX8_turns_147 h
    · refine sm_aload_n C 0 dX8_turns_102 rfl rfl ?_
      refine sm_dup C dX8_turns_103 rfl ?_
      refine mr_M_needless C hw (k := 0) rfl gf_M_279 dX8_turns_104 h (fun v2 h => ?_)
      refine sm_aload_n C 0 dX8_turns_107 rfl rfl ?_
      refine mr_M_upNow C hw (k := 0) rfl gf_M_276 dX8_turns_108 h (fun v3 h => ?_)
      refine sm_iload_n C 1 dX8_turns_111 rfl rfl ?_
      refine sm_ishr C dX8_turns_112 h (fun v4 h => ?_)
      refine sm_iconst (v := 1) C dX8_turns_113 (by decide) ?_
      refine sm_iand C dX8_turns_114 h (fun v5 h => ?_)
      refine sm_iconst (v := 1) C dX8_turns_115 (by decide) ?_
      refine sm_icmp_ne C 136 dX8_turns_116 (by decide) h (fun h => ?_) (fun h => ?_)
      · exact mk_X8_turns_p136 C hw ih s0 l2 v2 h
      · refine sm_aload_n C 0 dX8_turns_119 rfl rfl ?_
        refine mr_M_leftPlace C hw (k := 0) rfl gf_M_53 dX8_turns_120 ?_
        refine sm_iload_n C 1 dX8_turns_123 rfl rfl ?_
        refine ma_iald C hw (k := 12) rfl rfl dX8_turns_124 h (fun v6 h => ?_)
        refine sm_aload_n C 0 dX8_turns_125 rfl rfl ?_
        refine mr_M_smoke C hw (k := 0) rfl gf_M_120 dX8_turns_126 h (fun v7 h => ?_)
        refine sm_icmp_eq C 136 dX8_turns_129 (by decide) h (fun h => ?_) (fun h => ?_)
        · exact mk_X8_turns_p136 C hw ih s0 l2 v2 h
        · refine sm_iconst (v := 1) C dX8_turns_132 (by decide) ?_
          refine sm_goto C 137 dX8_turns_133 (by decide) ?_
          exact mk_X8_turns_p137 C hw ih s0 l2 (1 : Int32) v2 h
set_option maxRecDepth 4000 in
theorem mk_X8_turns_p92 {X : sm_VC} (C : sm_Cx X prog_10_method_37_code 4 "SmokeGoesToModel" 3 120 none) (hw : mo_is (sm_w X)) {a1 : Int32}  {R : Unit × sm_St}   (s0 : sm_St)   (h : mf_X8_turns_p92 a1 s0 = some R) : sm_V X (sm_QV X R) 4 s0 92 [(0, .ref (sm_ad (sm_w X) 0))] [] := by
  unfold mf_X8_turns_p92 at h
  refine sm_iconst (v := 0) C dX8_turns_92 (by decide) ?_
  refine sm_istore_n (lv' := [(2, .int (0 : Int32)), (0, .ref (sm_ad (sm_w X) 0))]) C dX8_turns_93 rfl (by decide) rfl ?_
  refine sm_sub (lv' := [(0, .ref (sm_ad (sm_w X) 0)), (2, .int (0 : Int32))]) [1, 0] rfl ?_
  exact mk_X8_turns_p94 C hw sm_F s0 (0 : Int32) h
set_option maxRecDepth 4000 in
theorem mk_X8_turns_p85 {X : sm_VC} (C : sm_Cx X prog_10_method_37_code 4 "SmokeGoesToModel" 3 120 none) (hw : mo_is (sm_w X)) {a1 : Int32}  {R : Unit × sm_St}   (s0 : sm_St) (t0 : Int32) (t1 : Int32)  (h : mf_X8_turns_p85 a1 s0 t0 t1 = some R) : sm_V X (sm_QV X R) 4 s0 85 [(0, .ref (sm_ad (sm_w X) 0))] [.int t0, .int t1, .ref (sm_ad (sm_w X) 0)] := by
  unfold mf_X8_turns_p85 at h
  refine sm_iadd C dX8_turns_85 h (fun v1 h => ?_)
  refine sm_callSI C [.int v1] (mc_X8_round hw v1) gm_X8_round gl_M_136 gs_X8_round rfl ⟨Nat.le_of_ble_eq_true rfl, Nat.le_of_ble_eq_true rfl⟩ rfl (Nat.le_of_ble_eq_true rfl) dX8_turns_86 h (fun v2 s3 h => ?_)
  refine mp_M_smoke C hw (k := 0) rfl gf_M_120 dX8_turns_89 h (fun s4 h => ?_)
  exact mk_X8_turns_p92 C hw s4 h
set_option maxRecDepth 4000 in
theorem mk_X8_turns_p30 {X : sm_VC} (C : sm_Cx X prog_10_method_37_code 4 "SmokeGoesToModel" 3 120 none) (hw : mo_is (sm_w X)) {a1 : Int32}  {R : Unit × sm_St}   : ∀ (n : Nat) (s0 : sm_St) (l2 : Int32) , mf_X8_turns_p30 a1 n s0 l2 = some R → sm_V X (sm_QV X R) 4 s0 30 [(0, .ref (sm_ad (sm_w X) 0)), (2, .int l2)] [] := by
  intro n
  induction n with
  | zero =>
    intro s0 l2 h
    have h : (none : Option (Unit × sm_St)) = some R := h
    cases h
  | succ n ih =>
    intro s0 l2 h
    unfold mf_X8_turns_p30 at h
    refine sm_aload_n C 0 dX8_turns_30 rfl rfl ?_
    refine mr_M_upNow C hw (k := 0) rfl gf_M_276 dX8_turns_31 h (fun v1 h => ?_)
    refine sm_iload_n C 1 dX8_turns_34 rfl rfl ?_
    refine sm_ishr C dX8_turns_35 h (fun v2 h => ?_)
    refine sm_iconst (v := 1) C dX8_turns_36 (by decide) ?_
    refine sm_iand C dX8_turns_37 h (fun v3 h => ?_)
    refine sm_if_ne C 47 dX8_turns_38 (by decide) h (fun h => ?_) (fun h => ?_)
    · refine sm_aload_n C 0 dX8_turns_47 rfl rfl ?_
      refine mr_M_places C hw (k := 0) rfl gf_M_35 dX8_turns_48 ?_
      refine sm_iload_n C 1 dX8_turns_51 rfl rfl ?_
      refine ma_iald C hw (k := 6) rfl rfl dX8_turns_52 h (fun v4 h => ?_)
      refine sm_aload_n C 0 dX8_turns_53 rfl rfl ?_
      refine mr_M_smoke C hw (k := 0) rfl gf_M_120 dX8_turns_54 h (fun v5 h => ?_)
      refine sm_isub C dX8_turns_57 h (fun v6 h => ?_)
      refine sm_callSI C [.int v6] (mc_X8_round hw v6) gm_X8_round gl_M_136 gs_X8_round rfl ⟨Nat.le_of_ble_eq_true rfl, Nat.le_of_ble_eq_true rfl⟩ rfl (Nat.le_of_ble_eq_true rfl) dX8_turns_58 h (fun v7 s8 h => ?_)
      refine sm_istore_n (lv' := [(3, .int v7), (0, .ref (sm_ad (sm_w X) 0)), (2, .int l2)]) C dX8_turns_61 rfl (by decide) rfl ?_
      refine sm_aload_n C 1 dX8_turns_62 rfl rfl ?_
      refine sm_aload_n C 1 dX8_turns_63 rfl rfl ?_
      refine mr_M_smoke C hw (k := 0) rfl gf_M_120 dX8_turns_64 h (fun v9 h => ?_)
      refine sm_iload_n C 0 dX8_turns_67 rfl rfl ?_
      refine sm_if_ne C 75 dX8_turns_68 (by decide) h (fun h => ?_) (fun h => ?_)
      · refine sm_iload_n C 0 dX8_turns_75 rfl rfl ?_
        refine sm_iconst (v := 4) C dX8_turns_76 (by decide) ?_
        refine sm_icmp_gt C 84 dX8_turns_77 (by decide) h (fun h => ?_) (fun h => ?_)
        · refine sm_iconst (v := (-1)) C dX8_turns_84 (by decide) ?_
          refine sm_sub (lv' := [(0, .ref (sm_ad (sm_w X) 0))]) [1] rfl ?_
          exact mk_X8_turns_p85 C hw s8 (-1 : Int32) v9 h
        · refine sm_iconst (v := 1) C dX8_turns_80 (by decide) ?_
          refine sm_goto C 85 dX8_turns_81 (by decide) ?_
          refine sm_sub (lv' := [(0, .ref (sm_ad (sm_w X) 0))]) [1] rfl ?_
          exact mk_X8_turns_p85 C hw s8 (1 : Int32) v9 h
      · refine sm_iconst (v := 0) C dX8_turns_71 (by decide) ?_
        refine sm_goto C 85 dX8_turns_72 (by decide) ?_
        refine sm_sub (lv' := [(0, .ref (sm_ad (sm_w X) 0))]) [1] rfl ?_
        exact mk_X8_turns_p85 C hw s8 (0 : Int32) v9 h
    · refine sm_iinc (lv' := fun v10 => [(2, .int v10), (0, .ref (sm_ad (sm_w X) 0))]) C 1 dX8_turns_41 rfl (by decide) (fun _ => rfl) h (fun v10 h => ?_)
      refine sm_goto C 30 dX8_turns_44 (by decide) ?_
      refine sm_sub (lv' := [(0, .ref (sm_ad (sm_w X) 0)), (2, .int v10)]) [1, 0] rfl ?_
      exact ih s0 v10 h
set_option maxRecDepth 4000 in
theorem mc_X8_turns {w : sm_WD} {l : Launch} (hw : mo_is w) (a1 : Int32) : sm_CV w l yX8_turns prog_10_method_37_code 4 none 3 120 [.ref (sm_ad w 0), .int a1] (fun s => mf_X8_turns a1 s) := by
  refine sm_CV.of (by decide +kernel) (Nat.le_of_ble_eq_true rfl) (fun X s0 R hXw hXl C h => ?_)
  subst hXw
  subst hXl
  have h : mf_X8_turns a1 s0 = some R := h
  show sm_V X (sm_QV X R) 4 s0 0 [(0, .ref (sm_ad (sm_w X) 0)), (1, .int a1)] []
  unfold mf_X8_turns at h
  refine sm_aload_n C 0 dX8_turns_0 rfl rfl ?_
  refine sm_aload_n C 0 dX8_turns_1 rfl rfl ?_
  refine mr_M_smoke C hw (k := 0) rfl gf_M_120 dX8_turns_2 h (fun v1 h => ?_)
  refine sm_iload_n C 1 dX8_turns_5 rfl rfl ?_
  refine sm_iadd C dX8_turns_6 h (fun v2 h => ?_)
  refine sm_callSI C [.int v2] (mc_X8_round hw v2) gm_X8_round gl_M_136 gs_X8_round rfl ⟨Nat.le_of_ble_eq_true rfl, Nat.le_of_ble_eq_true rfl⟩ rfl (Nat.le_of_ble_eq_true rfl) dX8_turns_7 h (fun v3 s4 h => ?_)
  refine mp_M_smoke C hw (k := 0) rfl gf_M_120 dX8_turns_10 h (fun s5 h => ?_)
  refine sm_aload_n C 0 dX8_turns_13 rfl rfl ?_
  refine mr_M_eddy C hw (k := 0) rfl gf_M_126 dX8_turns_14 h (fun v6 h => ?_)
  refine sm_iconst (v := 1) C dX8_turns_17 (by decide) ?_
  refine sm_icmp_ne C 92 dX8_turns_18 (by decide) h (fun h => ?_) (fun h => ?_)
  · refine sm_sub (lv' := [(0, .ref (sm_ad (sm_w X) 0))]) [0] rfl ?_
    exact mk_X8_turns_p92 C hw s5 h
  · refine sm_aload_n C 0 dX8_turns_21 rfl rfl ?_
    refine mr_M_upNow C hw (k := 0) rfl gf_M_276 dX8_turns_22 h (fun v7 h => ?_)
    refine sm_if_eq C 92 dX8_turns_25 (by decide) h (fun h => ?_) (fun h => ?_)
    · refine sm_sub (lv' := [(0, .ref (sm_ad (sm_w X) 0))]) [0] rfl ?_
      exact mk_X8_turns_p92 C hw s5 h
    · refine sm_iconst (v := 0) C dX8_turns_28 (by decide) ?_
      refine sm_istore_n (lv' := [(2, .int (0 : Int32)), (0, .ref (sm_ad (sm_w X) 0)), (1, .int a1)]) C dX8_turns_29 rfl (by decide) rfl ?_
      refine sm_sub (lv' := [(0, .ref (sm_ad (sm_w X) 0)), (2, .int (0 : Int32))]) [1, 0] rfl ?_
      exact mk_X8_turns_p30 C hw sm_F s5 (0 : Int32) h
noncomputable def mf_X8_within (a1 : Int32) (a2 : Int32) (a3 : Int32) (s0 : sm_St) : Option (Int32 × sm_St) :=
  if a2 ≤ a1 then (
  if a1 ≤ a3 then (
  some (a1, s0))
  else (
  some (a3, s0)))
  else (
  some (a2, s0))
set_option maxRecDepth 4000 in
theorem mc_X8_within {w : sm_WD} {l : Launch} (hw : mo_is w) (a1 : Int32) (a2 : Int32) (a3 : Int32) : sm_CI w l yX8_within prog_10_method_3_code 3 (some .int) 2 100 [.int a1, .int a2, .int a3] (fun s => mf_X8_within a1 a2 a3 s) := by
  refine sm_CI.of (by decide +kernel) (Nat.le_of_ble_eq_true rfl) (fun X s0 R hXw hXl C h => ?_)
  subst hXw
  subst hXl
  have h : mf_X8_within a1 a2 a3 s0 = some R := h
  show sm_V X (sm_QI X R) 3 s0 0 [(0, .int a1), (1, .int a2), (2, .int a3)] []
  unfold mf_X8_within at h
  refine sm_iload_n C 0 dX8_within_0 rfl rfl ?_
  refine sm_iload_n C 1 dX8_within_1 rfl rfl ?_
  refine sm_icmp_ge C 9 dX8_within_2 (by decide) h (fun h => ?_) (fun h => ?_)
  · refine sm_iload_n C 0 dX8_within_9 rfl rfl ?_
    refine sm_iload_n C 2 dX8_within_10 rfl rfl ?_
    refine sm_icmp_le C 18 dX8_within_11 (by decide) h (fun h => ?_) (fun h => ?_)
    · refine sm_iload_n C 0 dX8_within_18 rfl rfl ?_
      exact sm_iret C dX8_within_19 h
    · refine sm_iload_n C 2 dX8_within_14 rfl rfl ?_
      refine sm_goto C 19 dX8_within_15 (by decide) ?_
      exact sm_iret C dX8_within_19 h
  · refine sm_iload_n C 1 dX8_within_5 rfl rfl ?_
    refine sm_goto C 19 dX8_within_6 (by decide) ?_
    exact sm_iret C dX8_within_19 h
noncomputable def mf_X8_says (a1 : Int32) (a2 : Int32) (a3 : Int32) (a4 : Int32) (s0 : sm_St) : Option (Int32 × sm_St) :=
  sm_g (sm_in a2 5) <| sm_b (s0.1 6 a2.toNatClampNeg) fun v1 =>
  sm_b (sm_sI s0 0 16 v1) fun s2 =>
  sm_b (s2.1 0 7) fun v3 =>
  sm_b (sm_sI s2 0 17 v3) fun s4 =>
  sm_b (sm_sI s4 0 18 a3) fun s5 =>
  sm_b (sm_sI s5 0 19 a4) fun s6 =>
  sm_g (sm_in a2 5) <| sm_b (s6.1 5 a2.toNatClampNeg) fun v7 =>
  sm_b (sm_sI s6 0 20 v7) fun s8 =>
  sm_b (sm_sI s8 0 21 a2) fun s9 =>
  sm_b (s9.1 0 4) fun v10 =>
  sm_c (mf_X8_read v10 a1 s9) fun v11 s12 =>
  sm_c (mf_X8_within v11 (0 : Int32) (99 : Int32) s12) fun v13 s14 =>
  some (v13, s14)
set_option maxRecDepth 4000 in
theorem mc_X8_says {w : sm_WD} {l : Launch} (hw : mo_is w) (a1 : Int32) (a2 : Int32) (a3 : Int32) (a4 : Int32) : sm_CI w l yX8_says prog_10_method_34_code 5 (some .int) 73 1732 [.ref (sm_ad w 0), .int a1, .int a2, .int a3, .int a4] (fun s => mf_X8_says a1 a2 a3 a4 s) := by
  refine sm_CI.of (by decide +kernel) (Nat.le_of_ble_eq_true rfl) (fun X s0 R hXw hXl C h => ?_)
  subst hXw
  subst hXl
  have h : mf_X8_says a1 a2 a3 a4 s0 = some R := h
  show sm_V X (sm_QI X R) 5 s0 0 [(0, .ref (sm_ad (sm_w X) 0)), (1, .int a1), (2, .int a2), (3, .int a3), (4, .int a4)] []
  unfold mf_X8_says at h
  refine sm_aload_n C 0 dX8_says_0 rfl rfl ?_
  refine sm_aload_n C 0 dX8_says_1 rfl rfl ?_
  refine mr_M_places C hw (k := 0) rfl gf_M_35 dX8_says_2 ?_
  refine sm_iload_n C 2 dX8_says_5 rfl rfl ?_
  refine ma_iald C hw (k := 6) rfl rfl dX8_says_6 h (fun v1 h => ?_)
  refine mp_M_ofPlace C hw (k := 0) rfl gf_M_208 dX8_says_7 h (fun s2 h => ?_)
  refine sm_aload_n C 0 dX8_says_10 rfl rfl ?_
  refine sm_aload_n C 0 dX8_says_11 rfl rfl ?_
  refine mr_M_smoke C hw (k := 0) rfl gf_M_120 dX8_says_12 h (fun v3 h => ?_)
  refine mp_M_ofSmoke C hw (k := 0) rfl gf_M_211 dX8_says_15 h (fun s4 h => ?_)
  refine sm_aload_n C 0 dX8_says_18 rfl rfl ?_
  refine sm_iload_n C 3 dX8_says_19 rfl rfl ?_
  refine mp_M_ofMinute C hw (k := 0) rfl gf_M_214 dX8_says_20 h (fun s5 h => ?_)
  refine sm_aload_n C 0 dX8_says_23 rfl rfl ?_
  refine sm_iload C 4 dX8_says_24 rfl ?_
  refine mp_M_ofLong C hw (k := 0) rfl gf_M_217 dX8_says_26 h (fun s6 h => ?_)
  refine sm_aload_n C 0 dX8_says_29 rfl rfl ?_
  refine sm_aload_n C 0 dX8_says_30 rfl rfl ?_
  refine mr_M_numbers C hw (k := 0) rfl gf_M_32 dX8_says_31 ?_
  refine sm_iload_n C 2 dX8_says_34 rfl rfl ?_
  refine ma_iald C hw (k := 5) rfl rfl dX8_says_35 h (fun v7 h => ?_)
  refine mp_M_ofNumber C hw (k := 0) rfl gf_M_220 dX8_says_36 h (fun s8 h => ?_)
  refine sm_aload_n C 0 dX8_says_39 rfl rfl ?_
  refine sm_iload_n C 2 dX8_says_40 rfl rfl ?_
  refine mp_M_ofSitter C hw (k := 0) rfl gf_M_223 dX8_says_41 h (fun s9 h => ?_)
  refine sm_aload_n C 0 dX8_says_44 rfl rfl ?_
  refine sm_aload_n C 0 dX8_says_45 rfl rfl ?_
  refine mr_M_rule C hw (k := 0) rfl gf_M_266 dX8_says_46 h (fun v10 h => ?_)
  refine sm_iload_n C 1 dX8_says_49 rfl rfl ?_
  refine sm_callVI (k := 0) C [.int v10, .int a1] (mc_X8_read hw v10 a1) gm_X8_read gl_M_263 gi_X8_read ge_X8_read (mob_M hw rfl) rfl ⟨Nat.le_of_ble_eq_true rfl, Nat.le_of_ble_eq_true rfl⟩ rfl (Nat.le_of_ble_eq_true rfl) dX8_says_50 h (fun v11 s12 h => ?_)
  refine sm_iconst (v := 0) C dX8_says_53 (by decide) ?_
  refine sm_bipush (v := 99) C dX8_says_54 (by decide) ?_
  refine sm_callSI C [.int v11, .int (0 : Int32), .int (99 : Int32)] (mc_X8_within hw v11 (0 : Int32) (99 : Int32)) gm_X8_within gl_M_269 gs_X8_within rfl ⟨Nat.le_of_ble_eq_true rfl, Nat.le_of_ble_eq_true rfl⟩ rfl (Nat.le_of_ble_eq_true rfl) dX8_says_56 h (fun v13 s14 h => ?_)
  exact sm_iret C dX8_says_59 h
noncomputable def mf_X8_bearsOf_p86 (a1 : Int32) (a2 : Int32) (a3 : Int32) (s0 : sm_St) (t0 : Int32) : Option (Int32 × sm_St) :=
  if 0 ≤ t0 then (
  some (t0, s0))
  else (
  some ((0 : Int32), s0))
noncomputable def mf_X8_bearsOf (a1 : Int32) (a2 : Int32) (a3 : Int32) (s0 : sm_St) : Option (Int32 × sm_St) :=
  sm_g (sm_in a1 5) <| sm_b (s0.1 4 a1.toNatClampNeg) fun v1 =>
  sm_c (mf_X8_says (0 : Int32) a1 a2 a3 s0) fun v2 s3 =>
  if v1 = (1 : Int32) then (
  sm_b ((2 : Int32) * v2) fun v9 =>
  mf_X8_bearsOf_p86 a1 a2 a3 s3 v9)
  else (
  if v1 = (2 : Int32) then (
  sm_b (v2 + a3) fun v8 =>
  mf_X8_bearsOf_p86 a1 a2 a3 s3 v8)
  else (
  if v1 = (3 : Int32) then (
  sm_b ((2 : Int32) * v2) fun v6 =>
  sm_b (v6 - (1 : Int32)) fun v7 =>
  mf_X8_bearsOf_p86 a1 a2 a3 s3 v7)
  else (
  if v1 = (4 : Int32) then (
  sm_b (v2 + a3) fun v4 =>
  sm_g (!decide ((2 : Int32) = 0)) <| sm_b (v4 / (2 : Int32)) fun v5 =>
  mf_X8_bearsOf_p86 a1 a2 a3 s3 v5)
  else (
  if v1 = (5 : Int32) then (
  mf_X8_bearsOf_p86 a1 a2 a3 s3 (0 : Int32))
  else (
  mf_X8_bearsOf_p86 a1 a2 a3 s3 v2)))))
set_option maxRecDepth 4000 in
theorem mk_X8_bearsOf_p86 {X : sm_VC} (C : sm_Cx X prog_10_method_35_code 7 "SmokeGoesToModel" 74 1756 (some .int)) (hw : mo_is (sm_w X)) {a1 : Int32} {a2 : Int32} {a3 : Int32}  {R : Int32 × sm_St}   (s0 : sm_St) (t0 : Int32)  (h : mf_X8_bearsOf_p86 a1 a2 a3 s0 t0 = some R) : sm_V X (sm_QI X R) 7 s0 86 [] [.int t0] := by
  unfold mf_X8_bearsOf_p86 at h
  refine sm_istore (lv' := [(6, .int t0)]) C dX8_bearsOf_86 (by decide) rfl ?_
  refine sm_iload C 0 dX8_bearsOf_88 rfl ?_
  refine sm_if_ge C 97 dX8_bearsOf_90 (by decide) h (fun h => ?_) (fun h => ?_)
  · refine sm_iload C 0 dX8_bearsOf_97 rfl ?_
    exact sm_iret C dX8_bearsOf_99 h
  · refine sm_iconst (v := 0) C dX8_bearsOf_93 (by decide) ?_
    refine sm_goto C 99 dX8_bearsOf_94 (by decide) ?_
    exact sm_iret C dX8_bearsOf_99 h
set_option maxRecDepth 4000 in
theorem mc_X8_bearsOf {w : sm_WD} {l : Launch} (hw : mo_is w) (a1 : Int32) (a2 : Int32) (a3 : Int32) : sm_CI w l yX8_bearsOf prog_10_method_35_code 7 (some .int) 74 1756 [.ref (sm_ad w 0), .int a1, .int a2, .int a3] (fun s => mf_X8_bearsOf a1 a2 a3 s) := by
  refine sm_CI.of (by decide +kernel) (Nat.le_of_ble_eq_true rfl) (fun X s0 R hXw hXl C h => ?_)
  subst hXw
  subst hXl
  have h : mf_X8_bearsOf a1 a2 a3 s0 = some R := h
  show sm_V X (sm_QI X R) 7 s0 0 [(0, .ref (sm_ad (sm_w X) 0)), (1, .int a1), (2, .int a2), (3, .int a3)] []
  unfold mf_X8_bearsOf at h
  refine sm_aload_n C 0 dX8_bearsOf_0 rfl rfl ?_
  refine mr_M_kinds C hw (k := 0) rfl gf_M_29 dX8_bearsOf_1 ?_
  refine sm_iload_n C 1 dX8_bearsOf_4 rfl rfl ?_
  refine ma_iald C hw (k := 4) rfl rfl dX8_bearsOf_5 h (fun v1 h => ?_)
  refine sm_istore (lv' := [(4, .int v1), (0, .ref (sm_ad (sm_w X) 0)), (1, .int a1), (2, .int a2), (3, .int a3)]) C dX8_bearsOf_6 (by decide) rfl ?_
  refine sm_aload_n C 1 dX8_bearsOf_8 rfl rfl ?_
  refine sm_iconst (v := 0) C dX8_bearsOf_9 (by decide) ?_
  refine sm_iload_n C 2 dX8_bearsOf_10 rfl rfl ?_
  refine sm_iload_n C 3 dX8_bearsOf_11 rfl rfl ?_
  refine sm_iload_n C 4 dX8_bearsOf_12 rfl rfl ?_
  refine sm_callVI (k := 0) C [.int (0 : Int32), .int a1, .int a2, .int a3] (mc_X8_says hw (0 : Int32) a1 a2 a3) gm_X8_says gl_M_272 gi_X8_says ge_X8_says (mob_M hw rfl) rfl ⟨Nat.le_of_ble_eq_true rfl, Nat.le_of_ble_eq_true rfl⟩ rfl (Nat.le_of_ble_eq_true rfl) dX8_bearsOf_13 h (fun v2 s3 h => ?_)
  refine sm_istore (lv' := [(5, .int v2), (4, .int v1), (0, .ref (sm_ad (sm_w X) 0)), (1, .int a1), (2, .int a2), (3, .int a3)]) C dX8_bearsOf_16 (by decide) rfl ?_
  refine sm_iload C 1 dX8_bearsOf_18 rfl ?_
  refine sm_iconst (v := 1) C dX8_bearsOf_20 (by decide) ?_
  refine sm_icmp_ne C 31 dX8_bearsOf_21 (by decide) h (fun h => ?_) (fun h => ?_)
  · refine sm_iload C 1 dX8_bearsOf_31 rfl ?_
    refine sm_iconst (v := 2) C dX8_bearsOf_33 (by decide) ?_
    refine sm_icmp_ne C 44 dX8_bearsOf_34 (by decide) h (fun h => ?_) (fun h => ?_)
    · refine sm_iload C 1 dX8_bearsOf_44 rfl ?_
      refine sm_iconst (v := 3) C dX8_bearsOf_46 (by decide) ?_
      refine sm_icmp_ne C 59 dX8_bearsOf_47 (by decide) h (fun h => ?_) (fun h => ?_)
      · refine sm_iload C 1 dX8_bearsOf_59 rfl ?_
        refine sm_iconst (v := 4) C dX8_bearsOf_61 (by decide) ?_
        refine sm_icmp_ne C 74 dX8_bearsOf_62 (by decide) h (fun h => ?_) (fun h => ?_)
        · refine sm_iload C 1 dX8_bearsOf_74 rfl ?_
          refine sm_iconst (v := 5) C dX8_bearsOf_76 (by decide) ?_
          refine sm_icmp_ne C 84 dX8_bearsOf_77 (by decide) h (fun h => ?_) (fun h => ?_)
          · refine sm_iload C 0 dX8_bearsOf_84 rfl ?_
            refine sm_sub (lv' := []) [] rfl ?_
            exact mk_X8_bearsOf_p86 C hw s3 v2 h
          · refine sm_iconst (v := 0) C dX8_bearsOf_80 (by decide) ?_
            refine sm_goto C 86 dX8_bearsOf_81 (by decide) ?_
            refine sm_sub (lv' := []) [] rfl ?_
            exact mk_X8_bearsOf_p86 C hw s3 (0 : Int32) h
        · refine sm_iload C 0 dX8_bearsOf_65 rfl ?_
          refine sm_iload_n C 5 dX8_bearsOf_67 rfl rfl ?_
          refine sm_iadd C dX8_bearsOf_68 h (fun v4 h => ?_)
          refine sm_iconst (v := 2) C dX8_bearsOf_69 (by decide) ?_
          refine sm_idiv C dX8_bearsOf_70 h (fun v5 h => ?_)
          refine sm_goto C 86 dX8_bearsOf_71 (by decide) ?_
          refine sm_sub (lv' := []) [] rfl ?_
          exact mk_X8_bearsOf_p86 C hw s3 v5 h
      · refine sm_iconst (v := 2) C dX8_bearsOf_50 (by decide) ?_
        refine sm_iload C 0 dX8_bearsOf_51 rfl ?_
        refine sm_imul C dX8_bearsOf_53 h (fun v6 h => ?_)
        refine sm_iconst (v := 1) C dX8_bearsOf_54 (by decide) ?_
        refine sm_isub C dX8_bearsOf_55 h (fun v7 h => ?_)
        refine sm_goto C 86 dX8_bearsOf_56 (by decide) ?_
        refine sm_sub (lv' := []) [] rfl ?_
        exact mk_X8_bearsOf_p86 C hw s3 v7 h
    · refine sm_iload C 0 dX8_bearsOf_37 rfl ?_
      refine sm_iload_n C 5 dX8_bearsOf_39 rfl rfl ?_
      refine sm_iadd C dX8_bearsOf_40 h (fun v8 h => ?_)
      refine sm_goto C 86 dX8_bearsOf_41 (by decide) ?_
      refine sm_sub (lv' := []) [] rfl ?_
      exact mk_X8_bearsOf_p86 C hw s3 v8 h
  · refine sm_iconst (v := 2) C dX8_bearsOf_24 (by decide) ?_
    refine sm_iload C 0 dX8_bearsOf_25 rfl ?_
    refine sm_imul C dX8_bearsOf_27 h (fun v9 h => ?_)
    refine sm_goto C 86 dX8_bearsOf_28 (by decide) ?_
    refine sm_sub (lv' := []) [] rfl ?_
    exact mk_X8_bearsOf_p86 C hw s3 v9 h
noncomputable def mf_X8_firstFree_p2 (a1 : Int32) (a2 : Int32) : Nat → sm_St → Int32 → Option (Int32 × sm_St)
  | 0, _, _ => none
  | n + 1, s0, l3 =>
  sm_c (mf_X8_onPlace l3 a2 s0) fun v1 s2 =>
  if v1 = (-1 : Int32) then (
  some (l3, s2))
  else (
  sm_b (l3 + (1 : Int32)) fun v3 =>
  sm_c (mf_X8_round v3 s2) fun v4 s5 =>
  (mf_X8_firstFree_p2 a1 a2 n) s5 v4)
noncomputable def mf_X8_firstFree (a1 : Int32) (a2 : Int32) (s0 : sm_St) : Option (Int32 × sm_St) :=
  mf_X8_firstFree_p2 a1 a2 sm_F s0 a1
set_option maxRecDepth 4000 in
theorem mk_X8_firstFree_p2 {X : sm_VC} (C : sm_Cx X prog_10_method_38_code 4 "SmokeGoesToModel" 3 123 (some .int)) (hw : mo_is (sm_w X)) {a1 : Int32} {a2 : Int32}  {R : Int32 × sm_St}   : ∀ (n : Nat) (s0 : sm_St) (l3 : Int32) , mf_X8_firstFree_p2 a1 a2 n s0 l3 = some R → sm_V X (sm_QI X R) 4 s0 2 [(0, .ref (sm_ad (sm_w X) 0)), (2, .int a2), (3, .int l3)] [] := by
  intro n
  induction n with
  | zero =>
    intro s0 l3 h
    have h : (none : Option (Int32 × sm_St)) = some R := h
    cases h
  | succ n ih =>
    intro s0 l3 h
    unfold mf_X8_firstFree_p2 at h
    refine sm_aload_n C 0 dX8_firstFree_2 rfl rfl ?_
    refine sm_iload_n C 2 dX8_firstFree_3 rfl rfl ?_
    refine sm_iload_n C 1 dX8_firstFree_4 rfl rfl ?_
    refine sm_callVI (k := 0) C [.int l3, .int a2] (mc_X8_onPlace hw l3 a2) gm_X8_onPlace gl_M_116 gi_X8_onPlace ge_X8_onPlace (mob_M hw rfl) rfl ⟨Nat.le_of_ble_eq_true rfl, Nat.le_of_ble_eq_true rfl⟩ rfl (Nat.le_of_ble_eq_true rfl) dX8_firstFree_5 h (fun v1 s2 h => ?_)
    refine sm_iconst (v := (-1)) C dX8_firstFree_8 (by decide) ?_
    refine sm_icmp_eq C 22 dX8_firstFree_9 (by decide) h (fun h => ?_) (fun h => ?_)
    · refine sm_iload_n C 2 dX8_firstFree_22 rfl rfl ?_
      exact sm_iret C dX8_firstFree_23 h
    · refine sm_iload_n C 2 dX8_firstFree_12 rfl rfl ?_
      refine sm_iconst (v := 1) C dX8_firstFree_13 (by decide) ?_
      refine sm_iadd C dX8_firstFree_14 h (fun v3 h => ?_)
      refine sm_callSI C [.int v3] (mc_X8_round hw v3) gm_X8_round gl_M_136 gs_X8_round rfl ⟨Nat.le_of_ble_eq_true rfl, Nat.le_of_ble_eq_true rfl⟩ rfl (Nat.le_of_ble_eq_true rfl) dX8_firstFree_15 h (fun v4 s5 h => ?_)
      refine sm_istore_n (lv' := [(3, .int v4), (0, .ref (sm_ad (sm_w X) 0)), (2, .int a2)]) C dX8_firstFree_18 rfl (by decide) rfl ?_
      refine sm_goto C 2 dX8_firstFree_19 (by decide) ?_
      refine sm_sub (lv' := [(0, .ref (sm_ad (sm_w X) 0)), (2, .int a2), (3, .int v4)]) [1, 2, 0] rfl ?_
      exact ih s5 v4 h
set_option maxRecDepth 4000 in
theorem mc_X8_firstFree {w : sm_WD} {l : Launch} (hw : mo_is w) (a1 : Int32) (a2 : Int32) : sm_CI w l yX8_firstFree prog_10_method_38_code 4 (some .int) 3 123 [.ref (sm_ad w 0), .int a1, .int a2] (fun s => mf_X8_firstFree a1 a2 s) := by
  refine sm_CI.of (by decide +kernel) (Nat.le_of_ble_eq_true rfl) (fun X s0 R hXw hXl C h => ?_)
  subst hXw
  subst hXl
  have h : mf_X8_firstFree a1 a2 s0 = some R := h
  show sm_V X (sm_QI X R) 4 s0 0 [(0, .ref (sm_ad (sm_w X) 0)), (1, .int a1), (2, .int a2)] []
  unfold mf_X8_firstFree at h
  refine sm_iload_n C 1 dX8_firstFree_0 rfl rfl ?_
  refine sm_istore_n (lv' := [(3, .int a1), (0, .ref (sm_ad (sm_w X) 0)), (1, .int a1), (2, .int a2)]) C dX8_firstFree_1 rfl (by decide) rfl ?_
  refine sm_sub (lv' := [(0, .ref (sm_ad (sm_w X) 0)), (2, .int a2), (3, .int a1)]) [1, 3, 0] rfl ?_
  exact mk_X8_firstFree_p2 C hw sm_F s0 a1 h
noncomputable def mf_X8_passes_p195 (a1 : Int32) (a2 : Int32) (k10 : sm_St → Int32 → Int32 → Option (Unit × sm_St)) (s0 : sm_St) (l4 : Int32) (t0 : Int32) (t1 : Int32) : Option (Unit × sm_St) :=
  sm_b (t0 <<< (l4 &&& 31)) fun v1 =>
  sm_b (t1 ||| v1) fun v2 =>
  sm_b (l4 + Int32.ofInt 1) fun v3 =>
  k10 s0 v2 v3
noncomputable def mf_X8_passes_p183 (a1 : Int32) (a2 : Int32) (k10 : sm_St → Int32 → Int32 → Option (Unit × sm_St)) (s0 : sm_St) (l3 : Int32) (l4 : Int32) (l5 : Int32) (t0 : Int32) (t1 : Int32) : Option (Unit × sm_St) :=
  sm_g (sm_in t1 5) <| sm_b (sm_sI s0 10 t1.toNatClampNeg t0) fun s1 =>
  if l5 = 0 then (
  mf_X8_passes_p195 a1 a2 k10 s1 l4 (0 : Int32) l3)
  else (
  mf_X8_passes_p195 a1 a2 k10 s1 l4 (1 : Int32) l3)
noncomputable def mf_X8_passes_p141 (a1 : Int32) (a2 : Int32) (k10 : sm_St → Int32 → Int32 → Option (Unit × sm_St)) (s0 : sm_St) (l3 : Int32) (l4 : Int32) (l5 : Int32) (t0 : Int32) (t1 : Int32) (t2 : Int32) : Option (Unit × sm_St) :=
  sm_b (t1 + t0) fun v1 =>
  sm_g (sm_in t2 5) <| sm_b (sm_sI s0 9 t2.toNatClampNeg v1) fun s2 =>
  sm_g (sm_in l4 5) <| sm_b (s2.1 7 l4.toNatClampNeg) fun v3 =>
  sm_g (sm_in l4 5) <| sm_b (s2.1 10 l4.toNatClampNeg) fun v4 =>
  if v3 ≤ v4 then (
  sm_g (sm_in l4 5) <| sm_b (s2.1 10 l4.toNatClampNeg) fun v5 =>
  mf_X8_passes_p183 a1 a2 k10 s2 l3 l4 l5 v5 l4)
  else (
  sm_g (sm_in l4 5) <| sm_b (s2.1 7 l4.toNatClampNeg) fun v6 =>
  mf_X8_passes_p183 a1 a2 k10 s2 l3 l4 l5 v6 l4)
noncomputable def mf_X8_passes_p121 (a1 : Int32) (a2 : Int32) (k10 : sm_St → Int32 → Int32 → Option (Unit × sm_St)) (s0 : sm_St) (l3 : Int32) (l4 : Int32) (l5 : Int32) (t0 : Int32) (t1 : Int32) (t2 : Int32) : Option (Unit × sm_St) :=
  sm_b (t1 + t0) fun v1 =>
  sm_g (sm_in t2 5) <| sm_b (sm_sI s0 8 t2.toNatClampNeg v1) fun s2 =>
  sm_g (sm_in l4 5) <| sm_b (s2.1 9 l4.toNatClampNeg) fun v3 =>
  if l5 = 0 then (
  mf_X8_passes_p141 a1 a2 k10 s2 l3 l4 l5 (0 : Int32) v3 l4)
  else (
  mf_X8_passes_p141 a1 a2 k10 s2 l3 l4 l5 (1 : Int32) v3 l4)
noncomputable def mf_X8_passes_p81 (a1 : Int32) (a2 : Int32) (k10 : sm_St → Int32 → Int32 → Option (Unit × sm_St)) (s0 : sm_St) (l3 : Int32) (l4 : Int32) (l5 : Int32) (t0 : Int32) (t1 : Int32) : Option (Unit × sm_St) :=
  sm_g (sm_in t1 5) <| sm_b (sm_sI s0 7 t1.toNatClampNeg t0) fun s1 =>
  sm_g (sm_in l4 5) <| sm_b (s1.1 8 l4.toNatClampNeg) fun v2 =>
  if l5 = 0 then (
  sm_c (mf_X8_says (2 : Int32) l4 a1 (0 : Int32) s1) fun v3 s4 =>
  mf_X8_passes_p121 a1 a2 k10 s4 l3 l4 l5 v3 v2 l4)
  else (
  sm_g (sm_in l4 5) <| sm_b (s1.1 7 l4.toNatClampNeg) fun v5 =>
  sm_c (mf_X8_bearsOf l4 a1 v5 s1) fun v6 s7 =>
  mf_X8_passes_p121 a1 a2 k10 s7 l3 l4 l5 v6 v2 l4)
noncomputable def mf_X8_passes_p55 (a1 : Int32) (a2 : Int32) (k10 : sm_St → Int32 → Int32 → Option (Unit × sm_St)) (s0 : sm_St) (l3 : Int32) (l4 : Int32) (t0 : Int32) : Option (Unit × sm_St) :=
  if t0 = 0 then (
  mf_X8_passes_p81 a1 a2 k10 s0 l3 l4 t0 (0 : Int32) l4)
  else (
  sm_g (sm_in l4 5) <| sm_b (s0.1 7 l4.toNatClampNeg) fun v1 =>
  sm_b (v1 + (1 : Int32)) fun v2 =>
  mf_X8_passes_p81 a1 a2 k10 s0 l3 l4 t0 v2 l4)
noncomputable def mf_X8_passes_p54 (a1 : Int32) (a2 : Int32) (k10 : sm_St → Int32 → Int32 → Option (Unit × sm_St)) (s0 : sm_St) (l3 : Int32) (l4 : Int32) : Option (Unit × sm_St) :=
  mf_X8_passes_p55 a1 a2 k10 s0 l3 l4 (0 : Int32)
noncomputable def mf_X8_passes_p347 (a1 : Int32) (a2 : Int32) (k214 : sm_St → Int32 → Int32 → Option (Unit × sm_St)) (s0 : sm_St) (l3 : Int32) (l4 : Int32) : Option (Unit × sm_St) :=
  sm_b (l4 + Int32.ofInt 1) fun v1 =>
  k214 s0 l3 v1
noncomputable def mf_X8_passes_p214 (a1 : Int32) (a2 : Int32) : Nat → sm_St → Int32 → Int32 → Option (Unit × sm_St)
  | 0, _, _, _ => none
  | n + 1, s0, l3, l4 =>
  sm_b (s0.1 0 15) fun v1 =>
  if v1 ≤ l4 then (
  some ((), s0))
  else (
  sm_b (l3 >>> (l4 &&& 31)) fun v2 =>
  sm_b (v2 &&& (1 : Int32)) fun v3 =>
  if v3 = (1 : Int32) then (
  sm_g (sm_in l4 5) <| sm_b (s0.1 7 l4.toNatClampNeg) fun v4 =>
  sm_c (mf_X8_getsUp l4 v4 s0) fun v5 s6 =>
  if v5 = 0 then (
  mf_X8_passes_p347 a1 a2 (mf_X8_passes_p214 a1 a2 n) s6 l3 l4)
  else (
  sm_g (sm_in l4 5) <| sm_b (s6.1 8 l4.toNatClampNeg) fun v7 =>
  sm_g (sm_in l4 5) <| sm_b (s6.1 7 l4.toNatClampNeg) fun v8 =>
  sm_c (mf_X8_says (1 : Int32) l4 a1 v8 s6) fun v9 s10 =>
  sm_b (v7 + v9) fun v11 =>
  sm_g (sm_in l4 5) <| sm_b (sm_sI s10 8 l4.toNatClampNeg v11) fun s12 =>
  sm_g (sm_in l4 5) <| sm_b (s12.1 6 l4.toNatClampNeg) fun v13 =>
  sm_g (sm_in l4 5) <| sm_b (sm_sI s12 12 l4.toNatClampNeg v13) fun s14 =>
  sm_g (sm_in l4 5) <| sm_b (s14.1 6 l4.toNatClampNeg) fun v15 =>
  sm_c (mf_X8_goesTo l4 v15 a2 s14) fun v16 s17 =>
  sm_c (mf_X8_firstFree v16 l4 s17) fun v18 s19 =>
  sm_g (sm_in l4 5) <| sm_b (sm_sI s19 6 l4.toNatClampNeg v18) fun s20 =>
  sm_g (sm_in l4 5) <| sm_b (sm_sI s20 7 l4.toNatClampNeg (0 : Int32)) fun s21 =>
  sm_g (sm_in l4 5) <| sm_b (s21.1 11 l4.toNatClampNeg) fun v22 =>
  sm_b (v22 + (1 : Int32)) fun v23 =>
  sm_g (sm_in l4 5) <| sm_b (sm_sI s21 11 l4.toNatClampNeg v23) fun s24 =>
  sm_b (s24.1 0 37) fun v25 =>
  sm_b ((1 : Int32) <<< (l4 &&& 31)) fun v26 =>
  sm_b (v25 ||| v26) fun v27 =>
  sm_b (sm_sI s24 0 37 v27) fun s28 =>
  mf_X8_passes_p347 a1 a2 (mf_X8_passes_p214 a1 a2 n) s28 l3 l4))
  else (
  mf_X8_passes_p347 a1 a2 (mf_X8_passes_p214 a1 a2 n) s0 l3 l4))
noncomputable def mf_X8_passes_p10 (a1 : Int32) (a2 : Int32) : Nat → sm_St → Int32 → Int32 → Option (Unit × sm_St)
  | 0, _, _, _ => none
  | n + 1, s0, l3, l4 =>
  sm_b (s0.1 0 15) fun v1 =>
  if v1 ≤ l4 then (
  sm_b (sm_sI s0 0 37 (0 : Int32)) fun s2 =>
  mf_X8_passes_p214 a1 a2 sm_F s2 l3 (0 : Int32))
  else (
  sm_g (sm_in l4 5) <| sm_b (s0.1 6 l4.toNatClampNeg) fun v3 =>
  sm_b (s0.1 0 7) fun v4 =>
  if v3 = v4 then (
  sm_b (s0.1 0 10) fun v5 =>
  sm_g (sm_in l4 5) <| sm_b (s0.1 6 l4.toNatClampNeg) fun v6 =>
  sm_b (v5 >>> (v6 &&& 31)) fun v7 =>
  sm_b (v7 &&& (1 : Int32)) fun v8 =>
  if v8 = 0 then (
  mf_X8_passes_p55 a1 a2 (mf_X8_passes_p10 a1 a2 n) s0 l3 l4 (1 : Int32))
  else (
  mf_X8_passes_p54 a1 a2 (mf_X8_passes_p10 a1 a2 n) s0 l3 l4))
  else (
  mf_X8_passes_p54 a1 a2 (mf_X8_passes_p10 a1 a2 n) s0 l3 l4))
noncomputable def mf_X8_passes (a1 : Int32) (a2 : Int32) (s0 : sm_St) : Option (Unit × sm_St) :=
  sm_c (mf_X8_turns a2 s0) fun _ s2 =>
  mf_X8_passes_p10 a1 a2 sm_F s2 (0 : Int32) (0 : Int32)
set_option maxRecDepth 4000 in
theorem mk_X8_passes_p195 {X : sm_VC} (C : sm_Cx X prog_10_method_39_code 6 "SmokeGoesToModel" 75 1782 none) (hw : mo_is (sm_w X)) {a1 : Int32} {a2 : Int32}  {R : Unit × sm_St} {k10 : sm_St → Int32 → Int32 → Option (Unit × sm_St)} (hk10 : ∀ (s : sm_St) (l3 : Int32) (l4 : Int32), k10 s l3 l4 = some R → sm_V X (sm_QV X R) 6 s 10 [(0, .ref (sm_ad (sm_w X) 0)), (1, .int a1), (2, .int a2), (3, .int l3), (4, .int l4)] []) (s0 : sm_St) (l4 : Int32) (t0 : Int32) (t1 : Int32)  (h : mf_X8_passes_p195 a1 a2 k10 s0 l4 t0 t1 = some R) : sm_V X (sm_QV X R) 6 s0 195 [(0, .ref (sm_ad (sm_w X) 0)), (1, .int a1), (2, .int a2), (4, .int l4)] [.int t0, .int t1] := by
  unfold mf_X8_passes_p195 at h
  refine sm_iload C 3 dX8_passes_195 rfl ?_
  refine sm_ishl C dX8_passes_197 h (fun v1 h => ?_)
  refine sm_ior C dX8_passes_198 h (fun v2 h => ?_)
  refine sm_istore_n (lv' := [(3, .int v2), (0, .ref (sm_ad (sm_w X) 0)), (1, .int a1), (2, .int a2), (4, .int l4)]) C dX8_passes_199 rfl (by decide) rfl ?_
  refine sm_iinc (lv' := fun v3 => [(4, .int v3), (3, .int v2), (0, .ref (sm_ad (sm_w X) 0)), (1, .int a1), (2, .int a2)]) C 4 dX8_passes_200 rfl (by decide) (fun _ => rfl) h (fun v3 h => ?_)
  refine sm_goto C 10 dX8_passes_203 (by decide) ?_
  refine sm_sub (lv' := [(0, .ref (sm_ad (sm_w X) 0)), (1, .int a1), (2, .int a2), (3, .int v2), (4, .int v3)]) [2, 3, 4, 1, 0] rfl ?_
  exact hk10 s0 v2 v3 h
set_option maxRecDepth 4000 in
theorem mk_X8_passes_p183 {X : sm_VC} (C : sm_Cx X prog_10_method_39_code 6 "SmokeGoesToModel" 75 1782 none) (hw : mo_is (sm_w X)) {a1 : Int32} {a2 : Int32}  {R : Unit × sm_St} {k10 : sm_St → Int32 → Int32 → Option (Unit × sm_St)} (hk10 : ∀ (s : sm_St) (l3 : Int32) (l4 : Int32), k10 s l3 l4 = some R → sm_V X (sm_QV X R) 6 s 10 [(0, .ref (sm_ad (sm_w X) 0)), (1, .int a1), (2, .int a2), (3, .int l3), (4, .int l4)] []) (s0 : sm_St) (l3 : Int32) (l4 : Int32) (l5 : Int32) (t0 : Int32) (t1 : Int32)  (h : mf_X8_passes_p183 a1 a2 k10 s0 l3 l4 l5 t0 t1 = some R) : sm_V X (sm_QV X R) 6 s0 183 [(0, .ref (sm_ad (sm_w X) 0)), (1, .int a1), (2, .int a2), (3, .int l3), (4, .int l4), (5, .int l5)] [.int t0, .int t1, .ref (sm_ad (sm_w X) 10)] := by
  unfold mf_X8_passes_p183 at h
  refine ma_iast C hw (k := 10) rfl rfl dX8_passes_183 h (fun s1 h => ?_)
  refine sm_iload_n C 3 dX8_passes_184 rfl rfl ?_
  refine sm_iload C 5 dX8_passes_185 rfl ?_
  refine sm_if_eq C 194 dX8_passes_187 (by decide) h (fun h => ?_) (fun h => ?_)
  · refine sm_iconst (v := 0) C dX8_passes_194 (by decide) ?_
    refine sm_sub (lv' := [(0, .ref (sm_ad (sm_w X) 0)), (1, .int a1), (2, .int a2), (4, .int l4)]) [0, 1, 2, 4] rfl ?_
    exact mk_X8_passes_p195 C hw hk10 s1 l4 (0 : Int32) l3 h
  · refine sm_iconst (v := 1) C dX8_passes_190 (by decide) ?_
    refine sm_goto C 195 dX8_passes_191 (by decide) ?_
    refine sm_sub (lv' := [(0, .ref (sm_ad (sm_w X) 0)), (1, .int a1), (2, .int a2), (4, .int l4)]) [0, 1, 2, 4] rfl ?_
    exact mk_X8_passes_p195 C hw hk10 s1 l4 (1 : Int32) l3 h
set_option maxRecDepth 4000 in
theorem mk_X8_passes_p141 {X : sm_VC} (C : sm_Cx X prog_10_method_39_code 6 "SmokeGoesToModel" 75 1782 none) (hw : mo_is (sm_w X)) {a1 : Int32} {a2 : Int32}  {R : Unit × sm_St} {k10 : sm_St → Int32 → Int32 → Option (Unit × sm_St)} (hk10 : ∀ (s : sm_St) (l3 : Int32) (l4 : Int32), k10 s l3 l4 = some R → sm_V X (sm_QV X R) 6 s 10 [(0, .ref (sm_ad (sm_w X) 0)), (1, .int a1), (2, .int a2), (3, .int l3), (4, .int l4)] []) (s0 : sm_St) (l3 : Int32) (l4 : Int32) (l5 : Int32) (t0 : Int32) (t1 : Int32) (t2 : Int32)  (h : mf_X8_passes_p141 a1 a2 k10 s0 l3 l4 l5 t0 t1 t2 = some R) : sm_V X (sm_QV X R) 6 s0 141 [(0, .ref (sm_ad (sm_w X) 0)), (1, .int a1), (2, .int a2), (3, .int l3), (4, .int l4), (5, .int l5)] [.int t0, .int t1, .int t2, .ref (sm_ad (sm_w X) 9)] := by
  unfold mf_X8_passes_p141 at h
  refine sm_iadd C dX8_passes_141 h (fun v1 h => ?_)
  refine ma_iast C hw (k := 9) rfl rfl dX8_passes_142 h (fun s2 h => ?_)
  refine sm_aload_n C 0 dX8_passes_143 rfl rfl ?_
  refine mr_M_longest C hw (k := 0) rfl gf_M_47 dX8_passes_144 ?_
  refine sm_iload C 4 dX8_passes_147 rfl ?_
  refine sm_aload_n C 0 dX8_passes_149 rfl rfl ?_
  refine mr_M_longNow C hw (k := 0) rfl gf_M_38 dX8_passes_150 ?_
  refine sm_iload C 4 dX8_passes_153 rfl ?_
  refine ma_iald C hw (k := 7) rfl rfl dX8_passes_155 h (fun v3 h => ?_)
  refine sm_aload_n C 0 dX8_passes_156 rfl rfl ?_
  refine mr_M_longest C hw (k := 0) rfl gf_M_47 dX8_passes_157 ?_
  refine sm_iload C 4 dX8_passes_160 rfl ?_
  refine ma_iald C hw (k := 10) rfl rfl dX8_passes_162 h (fun v4 h => ?_)
  refine sm_icmp_le C 176 dX8_passes_163 (by decide) h (fun h => ?_) (fun h => ?_)
  · refine sm_aload_n C 0 dX8_passes_176 rfl rfl ?_
    refine mr_M_longest C hw (k := 0) rfl gf_M_47 dX8_passes_177 ?_
    refine sm_iload C 4 dX8_passes_180 rfl ?_
    refine ma_iald C hw (k := 10) rfl rfl dX8_passes_182 h (fun v5 h => ?_)
    exact mk_X8_passes_p183 C hw hk10 s2 l3 l4 l5 v5 l4 h
  · refine sm_aload_n C 0 dX8_passes_166 rfl rfl ?_
    refine mr_M_longNow C hw (k := 0) rfl gf_M_38 dX8_passes_167 ?_
    refine sm_iload C 4 dX8_passes_170 rfl ?_
    refine ma_iald C hw (k := 7) rfl rfl dX8_passes_172 h (fun v6 h => ?_)
    refine sm_goto C 183 dX8_passes_173 (by decide) ?_
    exact mk_X8_passes_p183 C hw hk10 s2 l3 l4 l5 v6 l4 h
set_option maxRecDepth 4000 in
theorem mk_X8_passes_p121 {X : sm_VC} (C : sm_Cx X prog_10_method_39_code 6 "SmokeGoesToModel" 75 1782 none) (hw : mo_is (sm_w X)) {a1 : Int32} {a2 : Int32}  {R : Unit × sm_St} {k10 : sm_St → Int32 → Int32 → Option (Unit × sm_St)} (hk10 : ∀ (s : sm_St) (l3 : Int32) (l4 : Int32), k10 s l3 l4 = some R → sm_V X (sm_QV X R) 6 s 10 [(0, .ref (sm_ad (sm_w X) 0)), (1, .int a1), (2, .int a2), (3, .int l3), (4, .int l4)] []) (s0 : sm_St) (l3 : Int32) (l4 : Int32) (l5 : Int32) (t0 : Int32) (t1 : Int32) (t2 : Int32)  (h : mf_X8_passes_p121 a1 a2 k10 s0 l3 l4 l5 t0 t1 t2 = some R) : sm_V X (sm_QV X R) 6 s0 121 [(0, .ref (sm_ad (sm_w X) 0)), (1, .int a1), (2, .int a2), (3, .int l3), (4, .int l4), (5, .int l5)] [.int t0, .int t1, .int t2, .ref (sm_ad (sm_w X) 8)] := by
  unfold mf_X8_passes_p121 at h
  refine sm_iadd C dX8_passes_121 h (fun v1 h => ?_)
  refine ma_iast C hw (k := 8) rfl rfl dX8_passes_122 h (fun s2 h => ?_)
  refine sm_aload_n C 0 dX8_passes_123 rfl rfl ?_
  refine mr_M_smoked C hw (k := 0) rfl gf_M_44 dX8_passes_124 ?_
  refine sm_iload C 4 dX8_passes_127 rfl ?_
  refine sm_dup2 C dX8_passes_129 rfl rfl ?_
  refine ma_iald C hw (k := 9) rfl rfl dX8_passes_130 h (fun v3 h => ?_)
  refine sm_iload C 5 dX8_passes_131 rfl ?_
  refine sm_if_eq C 140 dX8_passes_133 (by decide) h (fun h => ?_) (fun h => ?_)
  · refine sm_iconst (v := 0) C dX8_passes_140 (by decide) ?_
    exact mk_X8_passes_p141 C hw hk10 s2 l3 l4 l5 (0 : Int32) v3 l4 h
  · refine sm_iconst (v := 1) C dX8_passes_136 (by decide) ?_
    refine sm_goto C 141 dX8_passes_137 (by decide) ?_
    exact mk_X8_passes_p141 C hw hk10 s2 l3 l4 l5 (1 : Int32) v3 l4 h
set_option maxRecDepth 4000 in
theorem mk_X8_passes_p81 {X : sm_VC} (C : sm_Cx X prog_10_method_39_code 6 "SmokeGoesToModel" 75 1782 none) (hw : mo_is (sm_w X)) {a1 : Int32} {a2 : Int32}  {R : Unit × sm_St} {k10 : sm_St → Int32 → Int32 → Option (Unit × sm_St)} (hk10 : ∀ (s : sm_St) (l3 : Int32) (l4 : Int32), k10 s l3 l4 = some R → sm_V X (sm_QV X R) 6 s 10 [(0, .ref (sm_ad (sm_w X) 0)), (1, .int a1), (2, .int a2), (3, .int l3), (4, .int l4)] []) (s0 : sm_St) (l3 : Int32) (l4 : Int32) (l5 : Int32) (t0 : Int32) (t1 : Int32)  (h : mf_X8_passes_p81 a1 a2 k10 s0 l3 l4 l5 t0 t1 = some R) : sm_V X (sm_QV X R) 6 s0 81 [(0, .ref (sm_ad (sm_w X) 0)), (1, .int a1), (2, .int a2), (3, .int l3), (4, .int l4), (5, .int l5)] [.int t0, .int t1, .ref (sm_ad (sm_w X) 7)] := by
  unfold mf_X8_passes_p81 at h
  refine ma_iast C hw (k := 7) rfl rfl dX8_passes_81 h (fun s1 h => ?_)
  refine sm_aload_n C 0 dX8_passes_82 rfl rfl ?_
  refine mr_M_costs C hw (k := 0) rfl gf_M_41 dX8_passes_83 ?_
  refine sm_iload C 4 dX8_passes_86 rfl ?_
  refine sm_dup2 C dX8_passes_88 rfl rfl ?_
  refine ma_iald C hw (k := 8) rfl rfl dX8_passes_89 h (fun v2 h => ?_)
  refine sm_iload C 5 dX8_passes_90 rfl ?_
  refine sm_if_eq C 112 dX8_passes_92 (by decide) h (fun h => ?_) (fun h => ?_)
  · refine sm_aload_n C 0 dX8_passes_112 rfl rfl ?_
    refine sm_iconst (v := 2) C dX8_passes_113 (by decide) ?_
    refine sm_iload C 4 dX8_passes_114 rfl ?_
    refine sm_iload_n C 1 dX8_passes_116 rfl rfl ?_
    refine sm_iconst (v := 0) C dX8_passes_117 (by decide) ?_
    refine sm_callVI (k := 0) C [.int (2 : Int32), .int l4, .int a1, .int (0 : Int32)] (mc_X8_says hw (2 : Int32) l4 a1 (0 : Int32)) gm_X8_says gl_M_272 gi_X8_says ge_X8_says (mob_M hw rfl) rfl ⟨Nat.le_of_ble_eq_true rfl, Nat.le_of_ble_eq_true rfl⟩ rfl (Nat.le_of_ble_eq_true rfl) dX8_passes_118 h (fun v3 s4 h => ?_)
    exact mk_X8_passes_p121 C hw hk10 s4 l3 l4 l5 v3 v2 l4 h
  · refine sm_aload_n C 0 dX8_passes_95 rfl rfl ?_
    refine sm_iload C 4 dX8_passes_96 rfl ?_
    refine sm_iload_n C 1 dX8_passes_98 rfl rfl ?_
    refine sm_aload_n C 0 dX8_passes_99 rfl rfl ?_
    refine mr_M_longNow C hw (k := 0) rfl gf_M_38 dX8_passes_100 ?_
    refine sm_iload C 4 dX8_passes_103 rfl ?_
    refine ma_iald C hw (k := 7) rfl rfl dX8_passes_105 h (fun v5 h => ?_)
    refine sm_callVI (k := 0) C [.int l4, .int a1, .int v5] (mc_X8_bearsOf hw l4 a1 v5) gm_X8_bearsOf gl_M_286 gi_X8_bearsOf ge_X8_bearsOf (mob_M hw rfl) rfl ⟨Nat.le_of_ble_eq_true rfl, Nat.le_of_ble_eq_true rfl⟩ rfl (Nat.le_of_ble_eq_true rfl) dX8_passes_106 h (fun v6 s7 h => ?_)
    refine sm_goto C 121 dX8_passes_109 (by decide) ?_
    exact mk_X8_passes_p121 C hw hk10 s7 l3 l4 l5 v6 v2 l4 h
set_option maxRecDepth 4000 in
theorem mk_X8_passes_p55 {X : sm_VC} (C : sm_Cx X prog_10_method_39_code 6 "SmokeGoesToModel" 75 1782 none) (hw : mo_is (sm_w X)) {a1 : Int32} {a2 : Int32}  {R : Unit × sm_St} {k10 : sm_St → Int32 → Int32 → Option (Unit × sm_St)} (hk10 : ∀ (s : sm_St) (l3 : Int32) (l4 : Int32), k10 s l3 l4 = some R → sm_V X (sm_QV X R) 6 s 10 [(0, .ref (sm_ad (sm_w X) 0)), (1, .int a1), (2, .int a2), (3, .int l3), (4, .int l4)] []) (s0 : sm_St) (l3 : Int32) (l4 : Int32) (t0 : Int32)  (h : mf_X8_passes_p55 a1 a2 k10 s0 l3 l4 t0 = some R) : sm_V X (sm_QV X R) 6 s0 55 [(0, .ref (sm_ad (sm_w X) 0)), (1, .int a1), (2, .int a2), (3, .int l3), (4, .int l4)] [.int t0] := by
  unfold mf_X8_passes_p55 at h
  refine sm_istore (lv' := [(5, .int t0), (0, .ref (sm_ad (sm_w X) 0)), (1, .int a1), (2, .int a2), (3, .int l3), (4, .int l4)]) C dX8_passes_55 (by decide) rfl ?_
  refine sm_aload_n C 1 dX8_passes_57 rfl rfl ?_
  refine mr_M_longNow C hw (k := 0) rfl gf_M_38 dX8_passes_58 ?_
  refine sm_iload C 5 dX8_passes_61 rfl ?_
  refine sm_iload C 0 dX8_passes_63 rfl ?_
  refine sm_if_eq C 80 dX8_passes_65 (by decide) h (fun h => ?_) (fun h => ?_)
  · refine sm_iconst (v := 0) C dX8_passes_80 (by decide) ?_
    refine sm_sub (lv' := [(0, .ref (sm_ad (sm_w X) 0)), (1, .int a1), (2, .int a2), (3, .int l3), (4, .int l4), (5, .int t0)]) [1, 2, 3, 4, 5, 0] rfl ?_
    exact mk_X8_passes_p81 C hw hk10 s0 l3 l4 t0 (0 : Int32) l4 h
  · refine sm_aload_n C 1 dX8_passes_68 rfl rfl ?_
    refine mr_M_longNow C hw (k := 0) rfl gf_M_38 dX8_passes_69 ?_
    refine sm_iload C 5 dX8_passes_72 rfl ?_
    refine ma_iald C hw (k := 7) rfl rfl dX8_passes_74 h (fun v1 h => ?_)
    refine sm_iconst (v := 1) C dX8_passes_75 (by decide) ?_
    refine sm_iadd C dX8_passes_76 h (fun v2 h => ?_)
    refine sm_goto C 81 dX8_passes_77 (by decide) ?_
    refine sm_sub (lv' := [(0, .ref (sm_ad (sm_w X) 0)), (1, .int a1), (2, .int a2), (3, .int l3), (4, .int l4), (5, .int t0)]) [1, 2, 3, 4, 5, 0] rfl ?_
    exact mk_X8_passes_p81 C hw hk10 s0 l3 l4 t0 v2 l4 h
set_option maxRecDepth 4000 in
theorem mk_X8_passes_p54 {X : sm_VC} (C : sm_Cx X prog_10_method_39_code 6 "SmokeGoesToModel" 75 1782 none) (hw : mo_is (sm_w X)) {a1 : Int32} {a2 : Int32}  {R : Unit × sm_St} {k10 : sm_St → Int32 → Int32 → Option (Unit × sm_St)} (hk10 : ∀ (s : sm_St) (l3 : Int32) (l4 : Int32), k10 s l3 l4 = some R → sm_V X (sm_QV X R) 6 s 10 [(0, .ref (sm_ad (sm_w X) 0)), (1, .int a1), (2, .int a2), (3, .int l3), (4, .int l4)] []) (s0 : sm_St) (l3 : Int32) (l4 : Int32)  (h : mf_X8_passes_p54 a1 a2 k10 s0 l3 l4 = some R) : sm_V X (sm_QV X R) 6 s0 54 [(0, .ref (sm_ad (sm_w X) 0)), (1, .int a1), (2, .int a2), (3, .int l3), (4, .int l4)] [] := by
  unfold mf_X8_passes_p54 at h
  refine sm_iconst (v := 0) C dX8_passes_54 (by decide) ?_
  exact mk_X8_passes_p55 C hw hk10 s0 l3 l4 (0 : Int32) h
set_option maxRecDepth 4000 in
theorem mk_X8_passes_p347 {X : sm_VC} (C : sm_Cx X prog_10_method_39_code 6 "SmokeGoesToModel" 75 1782 none) (hw : mo_is (sm_w X)) {a1 : Int32} {a2 : Int32}  {R : Unit × sm_St} {k214 : sm_St → Int32 → Int32 → Option (Unit × sm_St)} (hk214 : ∀ (s : sm_St) (l3 : Int32) (l4 : Int32), k214 s l3 l4 = some R → sm_V X (sm_QV X R) 6 s 214 [(0, .ref (sm_ad (sm_w X) 0)), (1, .int a1), (2, .int a2), (3, .int l3), (4, .int l4)] []) (s0 : sm_St) (l3 : Int32) (l4 : Int32)  (h : mf_X8_passes_p347 a1 a2 k214 s0 l3 l4 = some R) : sm_V X (sm_QV X R) 6 s0 347 [(0, .ref (sm_ad (sm_w X) 0)), (1, .int a1), (2, .int a2), (3, .int l3), (4, .int l4)] [] := by
  unfold mf_X8_passes_p347 at h
  refine sm_iinc (lv' := fun v1 => [(4, .int v1), (0, .ref (sm_ad (sm_w X) 0)), (1, .int a1), (2, .int a2), (3, .int l3)]) C 4 dX8_passes_347 rfl (by decide) (fun _ => rfl) h (fun v1 h => ?_)
  refine sm_goto C 214 dX8_passes_350 (by decide) ?_
  refine sm_sub (lv' := [(0, .ref (sm_ad (sm_w X) 0)), (1, .int a1), (2, .int a2), (3, .int l3), (4, .int v1)]) [1, 2, 3, 4, 0] rfl ?_
  exact hk214 s0 l3 v1 h
set_option maxRecDepth 4000 in
theorem mk_X8_passes_p214 {X : sm_VC} (C : sm_Cx X prog_10_method_39_code 6 "SmokeGoesToModel" 75 1782 none) (hw : mo_is (sm_w X)) {a1 : Int32} {a2 : Int32}  {R : Unit × sm_St}   : ∀ (n : Nat) (s0 : sm_St) (l3 : Int32) (l4 : Int32) , mf_X8_passes_p214 a1 a2 n s0 l3 l4 = some R → sm_V X (sm_QV X R) 6 s0 214 [(0, .ref (sm_ad (sm_w X) 0)), (1, .int a1), (2, .int a2), (3, .int l3), (4, .int l4)] [] := by
  intro n
  induction n with
  | zero =>
    intro s0 l3 l4 h
    have h : (none : Option (Unit × sm_St)) = some R := h
    cases h
  | succ n ih =>
    intro s0 l3 l4 h
    unfold mf_X8_passes_p214 at h
    refine sm_iload C 4 dX8_passes_214 rfl ?_
    refine sm_aload_n C 0 dX8_passes_216 rfl rfl ?_
    refine mr_M_sitterMany C hw (k := 0) rfl gf_M_101 dX8_passes_217 h (fun v1 h => ?_)
    refine sm_icmp_ge C 353 dX8_passes_220 (by decide) h (fun h => ?_) (fun h => ?_)
    · exact sm_vret C dX8_passes_353 h
    · refine sm_iload_n C 3 dX8_passes_223 rfl rfl ?_
      refine sm_iload C 4 dX8_passes_224 rfl ?_
      refine sm_ishr C dX8_passes_226 h (fun v2 h => ?_)
      refine sm_iconst (v := 1) C dX8_passes_227 (by decide) ?_
      refine sm_iand C dX8_passes_228 h (fun v3 h => ?_)
      refine sm_iconst (v := 1) C dX8_passes_229 (by decide) ?_
      refine sm_icmp_ne C 347 dX8_passes_230 (by decide) h (fun h => ?_) (fun h => ?_)
      · exact mk_X8_passes_p347 C hw ih s0 l3 l4 h
      · refine sm_aload_n C 0 dX8_passes_233 rfl rfl ?_
        refine sm_iload C 4 dX8_passes_234 rfl ?_
        refine sm_aload_n C 0 dX8_passes_236 rfl rfl ?_
        refine mr_M_longNow C hw (k := 0) rfl gf_M_38 dX8_passes_237 ?_
        refine sm_iload C 4 dX8_passes_240 rfl ?_
        refine ma_iald C hw (k := 7) rfl rfl dX8_passes_242 h (fun v4 h => ?_)
        refine sm_callVI (k := 0) C [.int l4, .int v4] (mc_X8_getsUp hw l4 v4) gm_X8_getsUp gl_M_144 gi_X8_getsUp ge_X8_getsUp (mob_M hw rfl) rfl ⟨Nat.le_of_ble_eq_true rfl, Nat.le_of_ble_eq_true rfl⟩ rfl (Nat.le_of_ble_eq_true rfl) dX8_passes_243 h (fun v5 s6 h => ?_)
        refine sm_if_eq C 347 dX8_passes_246 (by decide) h (fun h => ?_) (fun h => ?_)
        · exact mk_X8_passes_p347 C hw ih s6 l3 l4 h
        · refine sm_aload_n C 0 dX8_passes_249 rfl rfl ?_
          refine mr_M_costs C hw (k := 0) rfl gf_M_41 dX8_passes_250 ?_
          refine sm_iload C 4 dX8_passes_253 rfl ?_
          refine sm_dup2 C dX8_passes_255 rfl rfl ?_
          refine ma_iald C hw (k := 8) rfl rfl dX8_passes_256 h (fun v7 h => ?_)
          refine sm_aload_n C 0 dX8_passes_257 rfl rfl ?_
          refine sm_iconst (v := 1) C dX8_passes_258 (by decide) ?_
          refine sm_iload C 4 dX8_passes_259 rfl ?_
          refine sm_iload_n C 1 dX8_passes_261 rfl rfl ?_
          refine sm_aload_n C 0 dX8_passes_262 rfl rfl ?_
          refine mr_M_longNow C hw (k := 0) rfl gf_M_38 dX8_passes_263 ?_
          refine sm_iload C 4 dX8_passes_266 rfl ?_
          refine ma_iald C hw (k := 7) rfl rfl dX8_passes_268 h (fun v8 h => ?_)
          refine sm_callVI (k := 0) C [.int (1 : Int32), .int l4, .int a1, .int v8] (mc_X8_says hw (1 : Int32) l4 a1 v8) gm_X8_says gl_M_272 gi_X8_says ge_X8_says (mob_M hw rfl) rfl ⟨Nat.le_of_ble_eq_true rfl, Nat.le_of_ble_eq_true rfl⟩ rfl (Nat.le_of_ble_eq_true rfl) dX8_passes_269 h (fun v9 s10 h => ?_)
          refine sm_iadd C dX8_passes_272 h (fun v11 h => ?_)
          refine ma_iast C hw (k := 8) rfl rfl dX8_passes_273 h (fun s12 h => ?_)
          refine sm_aload_n C 0 dX8_passes_274 rfl rfl ?_
          refine mr_M_leftPlace C hw (k := 0) rfl gf_M_53 dX8_passes_275 ?_
          refine sm_iload C 4 dX8_passes_278 rfl ?_
          refine sm_aload_n C 0 dX8_passes_280 rfl rfl ?_
          refine mr_M_places C hw (k := 0) rfl gf_M_35 dX8_passes_281 ?_
          refine sm_iload C 4 dX8_passes_284 rfl ?_
          refine ma_iald C hw (k := 6) rfl rfl dX8_passes_286 h (fun v13 h => ?_)
          refine ma_iast C hw (k := 12) rfl rfl dX8_passes_287 h (fun s14 h => ?_)
          refine sm_aload_n C 0 dX8_passes_288 rfl rfl ?_
          refine mr_M_places C hw (k := 0) rfl gf_M_35 dX8_passes_289 ?_
          refine sm_iload C 4 dX8_passes_292 rfl ?_
          refine sm_aload_n C 0 dX8_passes_294 rfl rfl ?_
          refine sm_aload_n C 0 dX8_passes_295 rfl rfl ?_
          refine sm_iload C 4 dX8_passes_296 rfl ?_
          refine sm_aload_n C 0 dX8_passes_298 rfl rfl ?_
          refine mr_M_places C hw (k := 0) rfl gf_M_35 dX8_passes_299 ?_
          refine sm_iload C 4 dX8_passes_302 rfl ?_
          refine ma_iald C hw (k := 6) rfl rfl dX8_passes_304 h (fun v15 h => ?_)
          refine sm_iload_n C 2 dX8_passes_305 rfl rfl ?_
          refine sm_callVI (k := 0) C [.int l4, .int v15, .int a2] (mc_X8_goesTo hw l4 v15 a2) gm_X8_goesTo gl_M_140 gi_X8_goesTo ge_X8_goesTo (mob_M hw rfl) rfl ⟨Nat.le_of_ble_eq_true rfl, Nat.le_of_ble_eq_true rfl⟩ rfl (Nat.le_of_ble_eq_true rfl) dX8_passes_306 h (fun v16 s17 h => ?_)
          refine sm_iload C 4 dX8_passes_309 rfl ?_
          refine sm_callVI (k := 0) C [.int v16, .int l4] (mc_X8_firstFree hw v16 l4) gm_X8_firstFree gl_M_289 gi_X8_firstFree ge_X8_firstFree (mob_M hw rfl) rfl ⟨Nat.le_of_ble_eq_true rfl, Nat.le_of_ble_eq_true rfl⟩ rfl (Nat.le_of_ble_eq_true rfl) dX8_passes_311 h (fun v18 s19 h => ?_)
          refine ma_iast C hw (k := 6) rfl rfl dX8_passes_314 h (fun s20 h => ?_)
          refine sm_aload_n C 0 dX8_passes_315 rfl rfl ?_
          refine mr_M_longNow C hw (k := 0) rfl gf_M_38 dX8_passes_316 ?_
          refine sm_iload C 4 dX8_passes_319 rfl ?_
          refine sm_iconst (v := 0) C dX8_passes_321 (by decide) ?_
          refine ma_iast C hw (k := 7) rfl rfl dX8_passes_322 h (fun s21 h => ?_)
          refine sm_aload_n C 0 dX8_passes_323 rfl rfl ?_
          refine mr_M_risen C hw (k := 0) rfl gf_M_50 dX8_passes_324 ?_
          refine sm_iload C 4 dX8_passes_327 rfl ?_
          refine sm_dup2 C dX8_passes_329 rfl rfl ?_
          refine ma_iald C hw (k := 11) rfl rfl dX8_passes_330 h (fun v22 h => ?_)
          refine sm_iconst (v := 1) C dX8_passes_331 (by decide) ?_
          refine sm_iadd C dX8_passes_332 h (fun v23 h => ?_)
          refine ma_iast C hw (k := 11) rfl rfl dX8_passes_333 h (fun s24 h => ?_)
          refine sm_aload_n C 0 dX8_passes_334 rfl rfl ?_
          refine sm_dup C dX8_passes_335 rfl ?_
          refine mr_M_upNow C hw (k := 0) rfl gf_M_276 dX8_passes_336 h (fun v25 h => ?_)
          refine sm_iconst (v := 1) C dX8_passes_339 (by decide) ?_
          refine sm_iload C 4 dX8_passes_340 rfl ?_
          refine sm_ishl C dX8_passes_342 h (fun v26 h => ?_)
          refine sm_ior C dX8_passes_343 h (fun v27 h => ?_)
          refine mp_M_upNow C hw (k := 0) rfl gf_M_276 dX8_passes_344 h (fun s28 h => ?_)
          exact mk_X8_passes_p347 C hw ih s28 l3 l4 h
set_option maxRecDepth 4000 in
theorem mk_X8_passes_p10 {X : sm_VC} (C : sm_Cx X prog_10_method_39_code 6 "SmokeGoesToModel" 75 1782 none) (hw : mo_is (sm_w X)) {a1 : Int32} {a2 : Int32}  {R : Unit × sm_St}   : ∀ (n : Nat) (s0 : sm_St) (l3 : Int32) (l4 : Int32) , mf_X8_passes_p10 a1 a2 n s0 l3 l4 = some R → sm_V X (sm_QV X R) 6 s0 10 [(0, .ref (sm_ad (sm_w X) 0)), (1, .int a1), (2, .int a2), (3, .int l3), (4, .int l4)] [] := by
  intro n
  induction n with
  | zero =>
    intro s0 l3 l4 h
    have h : (none : Option (Unit × sm_St)) = some R := h
    cases h
  | succ n ih =>
    intro s0 l3 l4 h
    unfold mf_X8_passes_p10 at h
    refine sm_iload C 4 dX8_passes_10 rfl ?_
    refine sm_aload_n C 0 dX8_passes_12 rfl rfl ?_
    refine mr_M_sitterMany C hw (k := 0) rfl gf_M_101 dX8_passes_13 h (fun v1 h => ?_)
    refine sm_icmp_ge C 206 dX8_passes_16 (by decide) h (fun h => ?_) (fun h => ?_)
    · refine sm_aload_n C 0 dX8_passes_206 rfl rfl ?_
      refine sm_iconst (v := 0) C dX8_passes_207 (by decide) ?_
      refine mp_M_upNow C hw (k := 0) rfl gf_M_276 dX8_passes_208 h (fun s2 h => ?_)
      refine sm_iconst (v := 0) C dX8_passes_211 (by decide) ?_
      refine sm_istore (lv' := [(4, .int (0 : Int32)), (0, .ref (sm_ad (sm_w X) 0)), (1, .int a1), (2, .int a2), (3, .int l3)]) C dX8_passes_212 (by decide) rfl ?_
      refine sm_sub (lv' := [(0, .ref (sm_ad (sm_w X) 0)), (1, .int a1), (2, .int a2), (3, .int l3), (4, .int (0 : Int32))]) [1, 2, 3, 4, 0] rfl ?_
      exact mk_X8_passes_p214 C hw sm_F s2 l3 (0 : Int32) h
    · refine sm_aload_n C 0 dX8_passes_19 rfl rfl ?_
      refine mr_M_places C hw (k := 0) rfl gf_M_35 dX8_passes_20 ?_
      refine sm_iload C 4 dX8_passes_23 rfl ?_
      refine ma_iald C hw (k := 6) rfl rfl dX8_passes_25 h (fun v3 h => ?_)
      refine sm_aload_n C 0 dX8_passes_26 rfl rfl ?_
      refine mr_M_smoke C hw (k := 0) rfl gf_M_120 dX8_passes_27 h (fun v4 h => ?_)
      refine sm_icmp_ne C 54 dX8_passes_30 (by decide) h (fun h => ?_) (fun h => ?_)
      · exact mk_X8_passes_p54 C hw ih s0 l3 l4 h
      · refine sm_aload_n C 0 dX8_passes_33 rfl rfl ?_
        refine mr_M_tents C hw (k := 0) rfl gf_M_123 dX8_passes_34 h (fun v5 h => ?_)
        refine sm_aload_n C 0 dX8_passes_37 rfl rfl ?_
        refine mr_M_places C hw (k := 0) rfl gf_M_35 dX8_passes_38 ?_
        refine sm_iload C 4 dX8_passes_41 rfl ?_
        refine ma_iald C hw (k := 6) rfl rfl dX8_passes_43 h (fun v6 h => ?_)
        refine sm_ishr C dX8_passes_44 h (fun v7 h => ?_)
        refine sm_iconst (v := 1) C dX8_passes_45 (by decide) ?_
        refine sm_iand C dX8_passes_46 h (fun v8 h => ?_)
        refine sm_if_ne C 54 dX8_passes_47 (by decide) h (fun h => ?_) (fun h => ?_)
        · exact mk_X8_passes_p54 C hw ih s0 l3 l4 h
        · refine sm_iconst (v := 1) C dX8_passes_50 (by decide) ?_
          refine sm_goto C 55 dX8_passes_51 (by decide) ?_
          exact mk_X8_passes_p55 C hw ih s0 l3 l4 (1 : Int32) h
set_option maxRecDepth 4000 in
theorem mc_X8_passes {w : sm_WD} {l : Launch} (hw : mo_is w) (a1 : Int32) (a2 : Int32) : sm_CV w l yX8_passes prog_10_method_39_code 6 none 75 1782 [.ref (sm_ad w 0), .int a1, .int a2] (fun s => mf_X8_passes a1 a2 s) := by
  refine sm_CV.of (by decide +kernel) (Nat.le_of_ble_eq_true rfl) (fun X s0 R hXw hXl C h => ?_)
  subst hXw
  subst hXl
  have h : mf_X8_passes a1 a2 s0 = some R := h
  show sm_V X (sm_QV X R) 6 s0 0 [(0, .ref (sm_ad (sm_w X) 0)), (1, .int a1), (2, .int a2)] []
  unfold mf_X8_passes at h
  refine sm_aload_n C 0 dX8_passes_0 rfl rfl ?_
  refine sm_iload_n C 2 dX8_passes_1 rfl rfl ?_
  refine sm_callVV (k := 0) C [.int a2] (mc_X8_turns hw a2) gm_X8_turns gl_M_282 gi_X8_turns ge_X8_turns (mob_M hw rfl) rfl ⟨Nat.le_of_ble_eq_true rfl, Nat.le_of_ble_eq_true rfl⟩ rfl (Nat.le_of_ble_eq_true rfl) dX8_passes_2 h (fun v1 s2 h => ?_)
  refine sm_iconst (v := 0) C dX8_passes_5 (by decide) ?_
  refine sm_istore_n (lv' := [(3, .int (0 : Int32)), (0, .ref (sm_ad (sm_w X) 0)), (1, .int a1), (2, .int a2)]) C dX8_passes_6 rfl (by decide) rfl ?_
  refine sm_iconst (v := 0) C dX8_passes_7 (by decide) ?_
  refine sm_istore (lv' := [(4, .int (0 : Int32)), (3, .int (0 : Int32)), (0, .ref (sm_ad (sm_w X) 0)), (1, .int a1), (2, .int a2)]) C dX8_passes_8 (by decide) rfl ?_
  refine sm_sub (lv' := [(0, .ref (sm_ad (sm_w X) 0)), (1, .int a1), (2, .int a2), (3, .int (0 : Int32)), (4, .int (0 : Int32))]) [2, 3, 4, 1, 0] rfl ?_
  exact mk_X8_passes_p10 C hw sm_F s2 (0 : Int32) (0 : Int32) h
noncomputable def mf_X8_nights_p6 (a1 : Int32) : Nat → sm_St → Int32 → Option (Unit × sm_St)
  | 0, _, _ => none
  | n + 1, s0, l2 =>
  sm_g (sm_in a1 4) <| sm_b (s0.1 22 a1.toNatClampNeg) fun v1 =>
  if v1 ≤ l2 then (
  some ((), s0))
  else (
  sm_b ((40 : Int32) * a1) fun v2 =>
  sm_b (v2 + l2) fun v3 =>
  sm_g (sm_in v3 160) <| sm_b (s0.1 23 v3.toNatClampNeg) fun v4 =>
  sm_c (mf_X8_windOf v4 s0) fun v5 s6 =>
  sm_c (mf_X8_passes l2 v5 s6) fun _ s8 =>
  sm_b (l2 + Int32.ofInt 1) fun v9 =>
  (mf_X8_nights_p6 a1 n) s8 v9)
noncomputable def mf_X8_nights (a1 : Int32) (s0 : sm_St) : Option (Unit × sm_St) :=
  sm_c (mf_X8_begins s0) fun _ s2 =>
  mf_X8_nights_p6 a1 sm_F s2 (0 : Int32)
set_option maxRecDepth 4000 in
theorem mk_X8_nights_p6 {X : sm_VC} (C : sm_Cx X prog_10_method_43_code 3 "SmokeGoesToModel" 76 1807 none) (hw : mo_is (sm_w X)) {a1 : Int32}  {R : Unit × sm_St}   : ∀ (n : Nat) (s0 : sm_St) (l2 : Int32) , mf_X8_nights_p6 a1 n s0 l2 = some R → sm_V X (sm_QV X R) 3 s0 6 [(0, .ref (sm_ad (sm_w X) 0)), (1, .int a1), (2, .int l2)] [] := by
  intro n
  induction n with
  | zero =>
    intro s0 l2 h
    have h : (none : Option (Unit × sm_St)) = some R := h
    cases h
  | succ n ih =>
    intro s0 l2 h
    unfold mf_X8_nights_p6 at h
    refine sm_iload_n C 2 dX8_nights_6 rfl rfl ?_
    refine sm_aload_n C 0 dX8_nights_7 rfl rfl ?_
    refine mr_M_sheetSize C hw (k := 0) rfl gf_M_88 dX8_nights_8 ?_
    refine sm_iload_n C 1 dX8_nights_11 rfl rfl ?_
    refine ma_iald C hw (k := 22) rfl rfl dX8_nights_12 h (fun v1 h => ?_)
    refine sm_icmp_ge C 41 dX8_nights_13 (by decide) h (fun h => ?_) (fun h => ?_)
    · exact sm_vret C dX8_nights_41 h
    · refine sm_aload_n C 0 dX8_nights_16 rfl rfl ?_
      refine sm_iload_n C 2 dX8_nights_17 rfl rfl ?_
      refine sm_aload_n C 0 dX8_nights_18 rfl rfl ?_
      refine mr_M_items C hw (k := 0) rfl gf_M_91 dX8_nights_19 ?_
      refine sm_bipush (v := 40) C dX8_nights_22 (by decide) ?_
      refine sm_iload_n C 1 dX8_nights_24 rfl rfl ?_
      refine sm_imul C dX8_nights_25 h (fun v2 h => ?_)
      refine sm_iload_n C 2 dX8_nights_26 rfl rfl ?_
      refine sm_iadd C dX8_nights_27 h (fun v3 h => ?_)
      refine ma_iald C hw (k := 23) rfl rfl dX8_nights_28 h (fun v4 h => ?_)
      refine sm_callSI C [.int v4] (mc_X8_windOf hw v4) gm_X8_windOf gl_M_295 gs_X8_windOf rfl ⟨Nat.le_of_ble_eq_true rfl, Nat.le_of_ble_eq_true rfl⟩ rfl (Nat.le_of_ble_eq_true rfl) dX8_nights_29 h (fun v5 s6 h => ?_)
      refine sm_callVV (k := 0) C [.int l2, .int v5] (mc_X8_passes hw l2 v5) gm_X8_passes gl_M_298 gi_X8_passes ge_X8_passes (mob_M hw rfl) rfl ⟨Nat.le_of_ble_eq_true rfl, Nat.le_of_ble_eq_true rfl⟩ rfl (Nat.le_of_ble_eq_true rfl) dX8_nights_32 h (fun v7 s8 h => ?_)
      refine sm_iinc (lv' := fun v9 => [(2, .int v9), (0, .ref (sm_ad (sm_w X) 0)), (1, .int a1)]) C 2 dX8_nights_35 rfl (by decide) (fun _ => rfl) h (fun v9 h => ?_)
      refine sm_goto C 6 dX8_nights_38 (by decide) ?_
      refine sm_sub (lv' := [(0, .ref (sm_ad (sm_w X) 0)), (1, .int a1), (2, .int v9)]) [1, 2, 0] rfl ?_
      exact ih s8 v9 h
set_option maxRecDepth 4000 in
theorem mc_X8_nights {w : sm_WD} {l : Launch} (hw : mo_is w) (a1 : Int32) : sm_CV w l yX8_nights prog_10_method_43_code 3 none 76 1807 [.ref (sm_ad w 0), .int a1] (fun s => mf_X8_nights a1 s) := by
  refine sm_CV.of (by decide +kernel) (Nat.le_of_ble_eq_true rfl) (fun X s0 R hXw hXl C h => ?_)
  subst hXw
  subst hXl
  have h : mf_X8_nights a1 s0 = some R := h
  show sm_V X (sm_QV X R) 3 s0 0 [(0, .ref (sm_ad (sm_w X) 0)), (1, .int a1)] []
  unfold mf_X8_nights at h
  refine sm_aload_n C 0 dX8_nights_0 rfl rfl ?_
  refine sm_callVV (k := 0) C [] (mc_X8_begins hw) gm_X8_begins gl_M_292 gi_X8_begins ge_X8_begins (mob_M hw rfl) rfl ⟨Nat.le_of_ble_eq_true rfl, Nat.le_of_ble_eq_true rfl⟩ rfl (Nat.le_of_ble_eq_true rfl) dX8_nights_1 h (fun v1 s2 h => ?_)
  refine sm_iconst (v := 0) C dX8_nights_4 (by decide) ?_
  refine sm_istore_n (lv' := [(2, .int (0 : Int32)), (0, .ref (sm_ad (sm_w X) 0)), (1, .int a1)]) C dX8_nights_5 rfl (by decide) rfl ?_
  refine sm_sub (lv' := [(0, .ref (sm_ad (sm_w X) 0)), (1, .int a1), (2, .int (0 : Int32))]) [1, 2, 0] rfl ?_
  exact mk_X8_nights_p6 C hw sm_F s2 (0 : Int32) h
noncomputable def mf_X8_sumOf_p4 (a1 : Nat) : Nat → sm_St → Int32 → Int32 → Option (Int32 × sm_St)
  | 0, _, _, _ => none
  | n + 1, s0, l2, l3 =>
  sm_b (s0.1 0 15) fun v1 =>
  if v1 ≤ l3 then (
  some (l2, s0))
  else (
  sm_g (sm_in l3 (mo_len a1)) <| sm_b (s0.1 a1 l3.toNatClampNeg) fun v2 =>
  sm_b (l2 + v2) fun v3 =>
  sm_b (l3 + Int32.ofInt 1) fun v4 =>
  (mf_X8_sumOf_p4 a1 n) s0 v3 v4)
noncomputable def mf_X8_sumOf (a1 : Nat) (s0 : sm_St) : Option (Int32 × sm_St) :=
  mf_X8_sumOf_p4 a1 sm_F s0 (0 : Int32) (0 : Int32)
set_option maxRecDepth 4000 in
theorem mk_X8_sumOf_p4 {X : sm_VC} (C : sm_Cx X prog_10_method_44_code 4 "SmokeGoesToModel" 2 100 (some .int)) (hw : mo_is (sm_w X)) {a1 : Nat} (ha1 : mo_tag a1 = 10) {R : Int32 × sm_St}   : ∀ (n : Nat) (s0 : sm_St) (l2 : Int32) (l3 : Int32) , mf_X8_sumOf_p4 a1 n s0 l2 l3 = some R → sm_V X (sm_QI X R) 4 s0 4 [(0, .ref (sm_ad (sm_w X) 0)), (1, .ref (sm_ad (sm_w X) a1)), (2, .int l2), (3, .int l3)] [] := by
  intro n
  induction n with
  | zero =>
    intro s0 l2 l3 h
    have h : (none : Option (Int32 × sm_St)) = some R := h
    cases h
  | succ n ih =>
    intro s0 l2 l3 h
    unfold mf_X8_sumOf_p4 at h
    refine sm_iload_n C 3 dX8_sumOf_4 rfl rfl ?_
    refine sm_aload_n C 0 dX8_sumOf_5 rfl rfl ?_
    refine mr_M_sitterMany C hw (k := 0) rfl gf_M_101 dX8_sumOf_6 h (fun v1 h => ?_)
    refine sm_icmp_ge C 24 dX8_sumOf_9 (by decide) h (fun h => ?_) (fun h => ?_)
    · refine sm_iload_n C 2 dX8_sumOf_24 rfl rfl ?_
      exact sm_iret C dX8_sumOf_25 h
    · refine sm_iload_n C 2 dX8_sumOf_12 rfl rfl ?_
      refine sm_aload_n C 1 dX8_sumOf_13 rfl rfl ?_
      refine sm_iload_n C 3 dX8_sumOf_14 rfl rfl ?_
      refine ma_iald C hw (k := a1) ha1 rfl dX8_sumOf_15 h (fun v2 h => ?_)
      refine sm_iadd C dX8_sumOf_16 h (fun v3 h => ?_)
      refine sm_istore_n (lv' := [(2, .int v3), (0, .ref (sm_ad (sm_w X) 0)), (1, .ref (sm_ad (sm_w X) a1)), (3, .int l3)]) C dX8_sumOf_17 rfl (by decide) rfl ?_
      refine sm_iinc (lv' := fun v4 => [(3, .int v4), (2, .int v3), (0, .ref (sm_ad (sm_w X) 0)), (1, .ref (sm_ad (sm_w X) a1))]) C 3 dX8_sumOf_18 rfl (by decide) (fun _ => rfl) h (fun v4 h => ?_)
      refine sm_goto C 4 dX8_sumOf_21 (by decide) ?_
      refine sm_sub (lv' := [(0, .ref (sm_ad (sm_w X) 0)), (1, .ref (sm_ad (sm_w X) a1)), (2, .int v3), (3, .int v4)]) [2, 3, 1, 0] rfl ?_
      exact ih s0 v3 v4 h
set_option maxRecDepth 4000 in
theorem mc_X8_sumOf {w : sm_WD} {l : Launch} (hw : mo_is w) (a1 : Nat) (ha1 : mo_tag a1 = 10) : sm_CI w l yX8_sumOf prog_10_method_44_code 4 (some .int) 2 100 [.ref (sm_ad w 0), .ref (sm_ad w a1)] (fun s => mf_X8_sumOf a1 s) := by
  refine sm_CI.of (by decide +kernel) (Nat.le_of_ble_eq_true rfl) (fun X s0 R hXw hXl C h => ?_)
  subst hXw
  subst hXl
  have h : mf_X8_sumOf a1 s0 = some R := h
  show sm_V X (sm_QI X R) 4 s0 0 [(0, .ref (sm_ad (sm_w X) 0)), (1, .ref (sm_ad (sm_w X) a1))] []
  unfold mf_X8_sumOf at h
  refine sm_iconst (v := 0) C dX8_sumOf_0 (by decide) ?_
  refine sm_istore_n (lv' := [(2, .int (0 : Int32)), (0, .ref (sm_ad (sm_w X) 0)), (1, .ref (sm_ad (sm_w X) a1))]) C dX8_sumOf_1 rfl (by decide) rfl ?_
  refine sm_iconst (v := 0) C dX8_sumOf_2 (by decide) ?_
  refine sm_istore_n (lv' := [(3, .int (0 : Int32)), (2, .int (0 : Int32)), (0, .ref (sm_ad (sm_w X) 0)), (1, .ref (sm_ad (sm_w X) a1))]) C dX8_sumOf_3 rfl (by decide) rfl ?_
  refine sm_sub (lv' := [(0, .ref (sm_ad (sm_w X) 0)), (1, .ref (sm_ad (sm_w X) a1)), (2, .int (0 : Int32)), (3, .int (0 : Int32))]) [2, 3, 1, 0] rfl ?_
  exact mk_X8_sumOf_p4 C hw ha1 sm_F s0 (0 : Int32) (0 : Int32) h
noncomputable def mf_X8_takeBack_p2  : Nat → sm_St → Int32 → Option (Unit × sm_St)
  | 0, _, _ => none
  | n + 1, s0, l1 =>
  if (5 : Int32) ≤ l1 then (
  sm_g (sm_in (5 : Int32) 6) <| sm_b (s0.1 13 (5 : Int32).toNatClampNeg) fun v1 =>
  sm_b (sm_sI s0 0 7 v1) fun s2 =>
  some ((), s2))
  else (
  sm_g (sm_in l1 6) <| sm_b (s0.1 13 l1.toNatClampNeg) fun v3 =>
  sm_g (sm_in l1 5) <| sm_b (sm_sI s0 6 l1.toNatClampNeg v3) fun s4 =>
  sm_b (l1 + Int32.ofInt 1) fun v5 =>
  (mf_X8_takeBack_p2 n) s4 v5)
noncomputable def mf_X8_takeBack (s0 : sm_St) : Option (Unit × sm_St) :=
  mf_X8_takeBack_p2 sm_F s0 (0 : Int32)
set_option maxRecDepth 4000 in
theorem mk_X8_takeBack_p2 {X : sm_VC} (C : sm_Cx X prog_10_method_41_code 2 "SmokeGoesToModel" 2 100 none) (hw : mo_is (sm_w X))   {R : Unit × sm_St}   : ∀ (n : Nat) (s0 : sm_St) (l1 : Int32) , mf_X8_takeBack_p2 n s0 l1 = some R → sm_V X (sm_QV X R) 2 s0 2 [(0, .ref (sm_ad (sm_w X) 0)), (1, .int l1)] [] := by
  intro n
  induction n with
  | zero =>
    intro s0 l1 h
    have h : (none : Option (Unit × sm_St)) = some R := h
    cases h
  | succ n ih =>
    intro s0 l1 h
    unfold mf_X8_takeBack_p2 at h
    refine sm_iload_n C 1 dX8_takeBack_2 rfl rfl ?_
    refine sm_iconst (v := 5) C dX8_takeBack_3 (by decide) ?_
    refine sm_icmp_ge C 25 dX8_takeBack_4 (by decide) h (fun h => ?_) (fun h => ?_)
    · refine sm_aload_n C 0 dX8_takeBack_25 rfl rfl ?_
      refine sm_aload_n C 0 dX8_takeBack_26 rfl rfl ?_
      refine mr_M_aside C hw (k := 0) rfl gf_M_56 dX8_takeBack_27 ?_
      refine sm_iconst (v := 5) C dX8_takeBack_30 (by decide) ?_
      refine ma_iald C hw (k := 13) rfl rfl dX8_takeBack_31 h (fun v1 h => ?_)
      refine mp_M_smoke C hw (k := 0) rfl gf_M_120 dX8_takeBack_32 h (fun s2 h => ?_)
      exact sm_vret C dX8_takeBack_35 h
    · refine sm_aload_n C 0 dX8_takeBack_7 rfl rfl ?_
      refine mr_M_places C hw (k := 0) rfl gf_M_35 dX8_takeBack_8 ?_
      refine sm_iload_n C 1 dX8_takeBack_11 rfl rfl ?_
      refine sm_aload_n C 0 dX8_takeBack_12 rfl rfl ?_
      refine mr_M_aside C hw (k := 0) rfl gf_M_56 dX8_takeBack_13 ?_
      refine sm_iload_n C 1 dX8_takeBack_16 rfl rfl ?_
      refine ma_iald C hw (k := 13) rfl rfl dX8_takeBack_17 h (fun v3 h => ?_)
      refine ma_iast C hw (k := 6) rfl rfl dX8_takeBack_18 h (fun s4 h => ?_)
      refine sm_iinc (lv' := fun v5 => [(1, .int v5), (0, .ref (sm_ad (sm_w X) 0))]) C 1 dX8_takeBack_19 rfl (by decide) (fun _ => rfl) h (fun v5 h => ?_)
      refine sm_goto C 2 dX8_takeBack_22 (by decide) ?_
      refine sm_sub (lv' := [(0, .ref (sm_ad (sm_w X) 0)), (1, .int v5)]) [1, 0] rfl ?_
      exact ih s4 v5 h
set_option maxRecDepth 4000 in
theorem mc_X8_takeBack {w : sm_WD} {l : Launch} (hw : mo_is w)  : sm_CV w l yX8_takeBack prog_10_method_41_code 2 none 2 100 [.ref (sm_ad w 0)] (fun s => mf_X8_takeBack s) := by
  refine sm_CV.of (by decide +kernel) (Nat.le_of_ble_eq_true rfl) (fun X s0 R hXw hXl C h => ?_)
  subst hXw
  subst hXl
  have h : mf_X8_takeBack s0 = some R := h
  show sm_V X (sm_QV X R) 2 s0 0 [(0, .ref (sm_ad (sm_w X) 0))] []
  unfold mf_X8_takeBack at h
  refine sm_iconst (v := 0) C dX8_takeBack_0 (by decide) ?_
  refine sm_istore_n (lv' := [(1, .int (0 : Int32)), (0, .ref (sm_ad (sm_w X) 0))]) C dX8_takeBack_1 rfl (by decide) rfl ?_
  refine sm_sub (lv' := [(0, .ref (sm_ad (sm_w X) 0)), (1, .int (0 : Int32))]) [1, 0] rfl ?_
  exact mk_X8_takeBack_p2 C hw sm_F s0 (0 : Int32) h
noncomputable def mf_X8_night_p191 (a1 : Int32) (a2 : Int32) (s0 : sm_St) (t0 : Int32) : Option (Int32 × sm_St) :=
  sm_c (mf_X8_takeBack s0) fun _ s2 =>
  some (t0, s2)
noncomputable def mf_X8_night_p44 (a1 : Int32) (a2 : Int32) (s0 : sm_St) : Option (Int32 × sm_St) :=
  sm_g (sm_in a1 4) <| sm_b (s0.1 20 a1.toNatClampNeg) fun v1 =>
  if v1 = 0 then (
  some ((-100 : Int32), s0))
  else (
  sm_c (mf_X8_layAside s0) fun _ s3 =>
  sm_c (mf_X8_nights a1 s3) fun _ s5 =>
  sm_g (!decide ((10 : Int32) = 0)) <| sm_b (a2 - a2 / (10 : Int32) * (10 : Int32)) fun v6 =>
  if a2 = 0 then (
  sm_c (mf_X8_sumOf 8 s5) fun v16 s17 =>
  mf_X8_night_p191 a1 a2 s17 v16)
  else (
  if a2 = (1 : Int32) then (
  sm_b (s5.1 0 7) fun v15 =>
  mf_X8_night_p191 a1 a2 s5 v15)
  else (
  if a2 = (2 : Int32) then (
  sm_c (mf_X8_sumOf 11 s5) fun v13 s14 =>
  mf_X8_night_p191 a1 a2 s14 v13)
  else (
  if a2 = (3 : Int32) then (
  sm_b (s5.1 0 38) fun v12 =>
  mf_X8_night_p191 a1 a2 s5 v12)
  else (
  if (20 : Int32) ≤ a2 then (
  if (30 : Int32) ≤ a2 then (
  if (40 : Int32) ≤ a2 then (
  if (50 : Int32) ≤ a2 then (
  sm_g (sm_in v6 5) <| sm_b (s5.1 6 v6.toNatClampNeg) fun v7 =>
  mf_X8_night_p191 a1 a2 s5 v7)
  else (
  sm_g (sm_in v6 5) <| sm_b (s5.1 11 v6.toNatClampNeg) fun v8 =>
  mf_X8_night_p191 a1 a2 s5 v8))
  else (
  sm_g (sm_in v6 5) <| sm_b (s5.1 10 v6.toNatClampNeg) fun v9 =>
  mf_X8_night_p191 a1 a2 s5 v9))
  else (
  sm_g (sm_in v6 5) <| sm_b (s5.1 9 v6.toNatClampNeg) fun v10 =>
  mf_X8_night_p191 a1 a2 s5 v10))
  else (
  sm_g (sm_in v6 5) <| sm_b (s5.1 8 v6.toNatClampNeg) fun v11 =>
  mf_X8_night_p191 a1 a2 s5 v11))))))
noncomputable def mf_X8_night (a1 : Int32) (a2 : Int32) (s0 : sm_St) : Option (Int32 × sm_St) :=
  sm_c (mf_X8_isSheet a1 s0) fun v1 s2 =>
  if v1 = 0 then (
  some ((-100 : Int32), s2))
  else (
  sm_b (a2.toInt64) fun v3 =>
  sm_c (mf_X8_in v3 (0 : Int64) (3 : Int64) s2) fun v4 s5 =>
  if v4 = 0 then (
  sm_b (a2.toInt64) fun v6 =>
  sm_c (mf_X8_in v6 (10 : Int64) (59 : Int64) s5) fun v7 s8 =>
  if v7 = 0 then (
  some ((-100 : Int32), s8))
  else (
  sm_g (!decide ((10 : Int32) = 0)) <| sm_b (a2 - a2 / (10 : Int32) * (10 : Int32)) fun v9 =>
  sm_c (mf_X8_isSitter v9 s8) fun v10 s11 =>
  if v10 = 0 then (
  some ((-100 : Int32), s11))
  else (
  mf_X8_night_p44 a1 a2 s11)))
  else (
  mf_X8_night_p44 a1 a2 s5))
set_option maxRecDepth 4000 in
theorem mk_X8_night_p191 {X : sm_VC} (C : sm_Cx X prog_10_method_46_code 5 "SmokeGoesToModel" 77 1829 (some .int)) (hw : mo_is (sm_w X)) {a1 : Int32} {a2 : Int32}  {R : Int32 × sm_St}   (s0 : sm_St) (t0 : Int32)  (h : mf_X8_night_p191 a1 a2 s0 t0 = some R) : sm_V X (sm_QI X R) 5 s0 191 [(0, .ref (sm_ad (sm_w X) 0))] [.int t0] := by
  unfold mf_X8_night_p191 at h
  refine sm_istore (lv' := [(4, .int t0), (0, .ref (sm_ad (sm_w X) 0))]) C dX8_night_191 (by decide) rfl ?_
  refine sm_aload_n C 1 dX8_night_193 rfl rfl ?_
  refine sm_callVV (k := 0) C [] (mc_X8_takeBack hw) gm_X8_takeBack gl_M_308 gi_X8_takeBack ge_X8_takeBack (mob_M hw rfl) rfl ⟨Nat.le_of_ble_eq_true rfl, Nat.le_of_ble_eq_true rfl⟩ rfl (Nat.le_of_ble_eq_true rfl) dX8_night_194 h (fun v1 s2 h => ?_)
  refine sm_iload C 0 dX8_night_197 rfl ?_
  exact sm_iret C dX8_night_199 h
set_option maxRecDepth 4000 in
theorem mk_X8_night_p44 {X : sm_VC} (C : sm_Cx X prog_10_method_46_code 5 "SmokeGoesToModel" 77 1829 (some .int)) (hw : mo_is (sm_w X)) {a1 : Int32} {a2 : Int32}  {R : Int32 × sm_St}   (s0 : sm_St)   (h : mf_X8_night_p44 a1 a2 s0 = some R) : sm_V X (sm_QI X R) 5 s0 44 [(0, .ref (sm_ad (sm_w X) 0)), (1, .int a1), (2, .int a2)] [] := by
  unfold mf_X8_night_p44 at h
  refine sm_aload_n C 0 dX8_night_44 rfl rfl ?_
  refine mr_M_isThere C hw (k := 0) rfl gf_M_81 dX8_night_45 ?_
  refine sm_iload_n C 1 dX8_night_48 rfl rfl ?_
  refine ma_zald C hw (k := 20) rfl rfl dX8_night_49 h (fun v1 h => ?_)
  refine sm_if_ne C 56 dX8_night_50 (by decide) h (fun h => ?_) (fun h => ?_)
  · refine sm_aload_n C 0 dX8_night_56 rfl rfl ?_
    refine sm_callVV (k := 0) C [] (mc_X8_layAside hw) gm_X8_layAside gl_M_302 gi_X8_layAside ge_X8_layAside (mob_M hw rfl) rfl ⟨Nat.le_of_ble_eq_true rfl, Nat.le_of_ble_eq_true rfl⟩ rfl (Nat.le_of_ble_eq_true rfl) dX8_night_57 h (fun v2 s3 h => ?_)
    refine sm_aload_n C 0 dX8_night_60 rfl rfl ?_
    refine sm_iload_n C 1 dX8_night_61 rfl rfl ?_
    refine sm_callVV (k := 0) C [.int a1] (mc_X8_nights hw a1) gm_X8_nights gl_M_305 gi_X8_nights ge_X8_nights (mob_M hw rfl) rfl ⟨Nat.le_of_ble_eq_true rfl, Nat.le_of_ble_eq_true rfl⟩ rfl (Nat.le_of_ble_eq_true rfl) dX8_night_62 h (fun v4 s5 h => ?_)
    refine sm_iload_n C 2 dX8_night_65 rfl rfl ?_
    refine sm_bipush (v := 10) C dX8_night_66 (by decide) ?_
    refine sm_irem C dX8_night_68 h (fun v6 h => ?_)
    refine sm_istore_n (lv' := [(3, .int v6), (0, .ref (sm_ad (sm_w X) 0)), (1, .int a1), (2, .int a2)]) C dX8_night_69 rfl (by decide) rfl ?_
    refine sm_iload_n C 3 dX8_night_70 rfl rfl ?_
    refine sm_if_ne C 85 dX8_night_71 (by decide) h (fun h => ?_) (fun h => ?_)
    · refine sm_iload_n C 3 dX8_night_85 rfl rfl ?_
      refine sm_iconst (v := 1) C dX8_night_86 (by decide) ?_
      refine sm_icmp_ne C 97 dX8_night_87 (by decide) h (fun h => ?_) (fun h => ?_)
      · refine sm_iload_n C 3 dX8_night_97 rfl rfl ?_
        refine sm_iconst (v := 2) C dX8_night_98 (by decide) ?_
        refine sm_icmp_ne C 113 dX8_night_99 (by decide) h (fun h => ?_) (fun h => ?_)
        · refine sm_iload_n C 3 dX8_night_113 rfl rfl ?_
          refine sm_iconst (v := 3) C dX8_night_114 (by decide) ?_
          refine sm_icmp_ne C 125 dX8_night_115 (by decide) h (fun h => ?_) (fun h => ?_)
          · refine sm_iload_n C 3 dX8_night_125 rfl rfl ?_
            refine sm_bipush (v := 20) C dX8_night_126 (by decide) ?_
            refine sm_icmp_ge C 140 dX8_night_128 (by decide) h (fun h => ?_) (fun h => ?_)
            · refine sm_iload_n C 3 dX8_night_140 rfl rfl ?_
              refine sm_bipush (v := 30) C dX8_night_141 (by decide) ?_
              refine sm_icmp_ge C 155 dX8_night_143 (by decide) h (fun h => ?_) (fun h => ?_)
              · refine sm_iload_n C 3 dX8_night_155 rfl rfl ?_
                refine sm_bipush (v := 40) C dX8_night_156 (by decide) ?_
                refine sm_icmp_ge C 170 dX8_night_158 (by decide) h (fun h => ?_) (fun h => ?_)
                · refine sm_iload_n C 3 dX8_night_170 rfl rfl ?_
                  refine sm_bipush (v := 50) C dX8_night_171 (by decide) ?_
                  refine sm_icmp_ge C 185 dX8_night_173 (by decide) h (fun h => ?_) (fun h => ?_)
                  · refine sm_aload_n C 1 dX8_night_185 rfl rfl ?_
                    refine mr_M_places C hw (k := 0) rfl gf_M_35 dX8_night_186 ?_
                    refine sm_iload_n C 0 dX8_night_189 rfl rfl ?_
                    refine ma_iald C hw (k := 6) rfl rfl dX8_night_190 h (fun v7 h => ?_)
                    refine sm_sub (lv' := [(0, .ref (sm_ad (sm_w X) 0))]) [1] rfl ?_
                    exact mk_X8_night_p191 C hw s5 v7 h
                  · refine sm_aload_n C 1 dX8_night_176 rfl rfl ?_
                    refine mr_M_risen C hw (k := 0) rfl gf_M_50 dX8_night_177 ?_
                    refine sm_iload_n C 0 dX8_night_180 rfl rfl ?_
                    refine ma_iald C hw (k := 11) rfl rfl dX8_night_181 h (fun v8 h => ?_)
                    refine sm_goto C 191 dX8_night_182 (by decide) ?_
                    refine sm_sub (lv' := [(0, .ref (sm_ad (sm_w X) 0))]) [1] rfl ?_
                    exact mk_X8_night_p191 C hw s5 v8 h
                · refine sm_aload_n C 1 dX8_night_161 rfl rfl ?_
                  refine mr_M_longest C hw (k := 0) rfl gf_M_47 dX8_night_162 ?_
                  refine sm_iload_n C 0 dX8_night_165 rfl rfl ?_
                  refine ma_iald C hw (k := 10) rfl rfl dX8_night_166 h (fun v9 h => ?_)
                  refine sm_goto C 191 dX8_night_167 (by decide) ?_
                  refine sm_sub (lv' := [(0, .ref (sm_ad (sm_w X) 0))]) [1] rfl ?_
                  exact mk_X8_night_p191 C hw s5 v9 h
              · refine sm_aload_n C 1 dX8_night_146 rfl rfl ?_
                refine mr_M_smoked C hw (k := 0) rfl gf_M_44 dX8_night_147 ?_
                refine sm_iload_n C 0 dX8_night_150 rfl rfl ?_
                refine ma_iald C hw (k := 9) rfl rfl dX8_night_151 h (fun v10 h => ?_)
                refine sm_goto C 191 dX8_night_152 (by decide) ?_
                refine sm_sub (lv' := [(0, .ref (sm_ad (sm_w X) 0))]) [1] rfl ?_
                exact mk_X8_night_p191 C hw s5 v10 h
            · refine sm_aload_n C 1 dX8_night_131 rfl rfl ?_
              refine mr_M_costs C hw (k := 0) rfl gf_M_41 dX8_night_132 ?_
              refine sm_iload_n C 0 dX8_night_135 rfl rfl ?_
              refine ma_iald C hw (k := 8) rfl rfl dX8_night_136 h (fun v11 h => ?_)
              refine sm_goto C 191 dX8_night_137 (by decide) ?_
              refine sm_sub (lv' := [(0, .ref (sm_ad (sm_w X) 0))]) [1] rfl ?_
              exact mk_X8_night_p191 C hw s5 v11 h
          · refine sm_aload_n C 1 dX8_night_118 rfl rfl ?_
            refine mr_M_needless C hw (k := 0) rfl gf_M_279 dX8_night_119 h (fun v12 h => ?_)
            refine sm_goto C 191 dX8_night_122 (by decide) ?_
            refine sm_sub (lv' := [(0, .ref (sm_ad (sm_w X) 0))]) [1] rfl ?_
            exact mk_X8_night_p191 C hw s5 v12 h
        · refine sm_aload_n C 1 dX8_night_102 rfl rfl ?_
          refine sm_aload_n C 1 dX8_night_103 rfl rfl ?_
          refine mr_M_risen C hw (k := 0) rfl gf_M_50 dX8_night_104 ?_
          refine sm_callVI (k := 0) C [.ref (sm_ad (sm_w X) 11)] (mc_X8_sumOf hw 11 rfl) gm_X8_sumOf gl_M_311 gi_X8_sumOf ge_X8_sumOf (mob_M hw rfl) rfl ⟨Nat.le_of_ble_eq_true rfl, Nat.le_of_ble_eq_true rfl⟩ rfl (Nat.le_of_ble_eq_true rfl) dX8_night_107 h (fun v13 s14 h => ?_)
          refine sm_goto C 191 dX8_night_110 (by decide) ?_
          refine sm_sub (lv' := [(0, .ref (sm_ad (sm_w X) 0))]) [1] rfl ?_
          exact mk_X8_night_p191 C hw s14 v13 h
      · refine sm_aload_n C 1 dX8_night_90 rfl rfl ?_
        refine mr_M_smoke C hw (k := 0) rfl gf_M_120 dX8_night_91 h (fun v15 h => ?_)
        refine sm_goto C 191 dX8_night_94 (by decide) ?_
        refine sm_sub (lv' := [(0, .ref (sm_ad (sm_w X) 0))]) [1] rfl ?_
        exact mk_X8_night_p191 C hw s5 v15 h
    · refine sm_aload_n C 1 dX8_night_74 rfl rfl ?_
      refine sm_aload_n C 1 dX8_night_75 rfl rfl ?_
      refine mr_M_costs C hw (k := 0) rfl gf_M_41 dX8_night_76 ?_
      refine sm_callVI (k := 0) C [.ref (sm_ad (sm_w X) 8)] (mc_X8_sumOf hw 8 rfl) gm_X8_sumOf gl_M_311 gi_X8_sumOf ge_X8_sumOf (mob_M hw rfl) rfl ⟨Nat.le_of_ble_eq_true rfl, Nat.le_of_ble_eq_true rfl⟩ rfl (Nat.le_of_ble_eq_true rfl) dX8_night_79 h (fun v16 s17 h => ?_)
      refine sm_goto C 191 dX8_night_82 (by decide) ?_
      refine sm_sub (lv' := [(0, .ref (sm_ad (sm_w X) 0))]) [1] rfl ?_
      exact mk_X8_night_p191 C hw s17 v16 h
  · refine sm_bipush (v := (-100)) C dX8_night_53 (by decide) ?_
    exact sm_iret C dX8_night_55 h
set_option maxRecDepth 4000 in
theorem mc_X8_night {w : sm_WD} {l : Launch} (hw : mo_is w) (a1 : Int32) (a2 : Int32) : sm_CI w l yX8_night prog_10_method_46_code 5 (some .int) 77 1829 [.ref (sm_ad w 0), .int a1, .int a2] (fun s => mf_X8_night a1 a2 s) := by
  refine sm_CI.of (by decide +kernel) (Nat.le_of_ble_eq_true rfl) (fun X s0 R hXw hXl C h => ?_)
  subst hXw
  subst hXl
  have h : mf_X8_night a1 a2 s0 = some R := h
  show sm_V X (sm_QI X R) 5 s0 0 [(0, .ref (sm_ad (sm_w X) 0)), (1, .int a1), (2, .int a2)] []
  unfold mf_X8_night at h
  refine sm_iload_n C 1 dX8_night_0 rfl rfl ?_
  refine sm_callSI C [.int a1] (mc_X8_isSheet hw a1) gm_X8_isSheet gl_M_315 gs_X8_isSheet rfl ⟨Nat.le_of_ble_eq_true rfl, Nat.le_of_ble_eq_true rfl⟩ rfl (Nat.le_of_ble_eq_true rfl) dX8_night_1 h (fun v1 s2 h => ?_)
  refine sm_if_eq C 53 dX8_night_4 (by decide) h (fun h => ?_) (fun h => ?_)
  · refine sm_bipush (v := (-100)) C dX8_night_53 (by decide) ?_
    exact sm_iret C dX8_night_55 h
  · refine sm_iload_n C 2 dX8_night_7 rfl rfl ?_
    refine sm_i2l C dX8_night_8 h (fun v3 h => ?_)
    refine sm_lconst (v := 0) C dX8_night_9 (by decide) ?_
    refine sm_ldc2 C gk_M_318 dX8_night_10 ?_
    refine sm_callSI C [.long v3, .long (0 : Int64), .long (3 : Int64)] (mc_X8_in hw v3 (0 : Int64) (3 : Int64)) gm_X8_in gl_M_104 gs_X8_in rfl ⟨Nat.le_of_ble_eq_true rfl, Nat.le_of_ble_eq_true rfl⟩ rfl (Nat.le_of_ble_eq_true rfl) dX8_night_13 h (fun v4 s5 h => ?_)
    refine sm_if_ne C 44 dX8_night_16 (by decide) h (fun h => ?_) (fun h => ?_)
    · exact mk_X8_night_p44 C hw s5 h
    · refine sm_iload_n C 2 dX8_night_19 rfl rfl ?_
      refine sm_i2l C dX8_night_20 h (fun v6 h => ?_)
      refine sm_ldc2 C gk_M_183 dX8_night_21 ?_
      refine sm_ldc2 C gk_M_320 dX8_night_24 ?_
      refine sm_callSI C [.long v6, .long (10 : Int64), .long (59 : Int64)] (mc_X8_in hw v6 (10 : Int64) (59 : Int64)) gm_X8_in gl_M_104 gs_X8_in rfl ⟨Nat.le_of_ble_eq_true rfl, Nat.le_of_ble_eq_true rfl⟩ rfl (Nat.le_of_ble_eq_true rfl) dX8_night_27 h (fun v7 s8 h => ?_)
      refine sm_if_eq C 53 dX8_night_30 (by decide) h (fun h => ?_) (fun h => ?_)
      · refine sm_bipush (v := (-100)) C dX8_night_53 (by decide) ?_
        exact sm_iret C dX8_night_55 h
      · refine sm_aload_n C 0 dX8_night_33 rfl rfl ?_
        refine sm_iload_n C 2 dX8_night_34 rfl rfl ?_
        refine sm_bipush (v := 10) C dX8_night_35 (by decide) ?_
        refine sm_irem C dX8_night_37 h (fun v9 h => ?_)
        refine sm_callVI (k := 0) C [.int v9] (mc_X8_isSitter hw v9) gm_X8_isSitter gl_M_112 gi_X8_isSitter ge_X8_isSitter (mob_M hw rfl) rfl ⟨Nat.le_of_ble_eq_true rfl, Nat.le_of_ble_eq_true rfl⟩ rfl (Nat.le_of_ble_eq_true rfl) dX8_night_38 h (fun v10 s11 h => ?_)
        refine sm_if_eq C 53 dX8_night_41 (by decide) h (fun h => ?_) (fun h => ?_)
        · refine sm_bipush (v := (-100)) C dX8_night_53 (by decide) ?_
          exact sm_iret C dX8_night_55 h
        · exact mk_X8_night_p44 C hw s11 h
noncomputable def mf_X8_sit (a1 : Int32) (s0 : sm_St) : Option (Int32 × sm_St) :=
  sm_c (mf_X8_isSheet a1 s0) fun v1 s2 =>
  if v1 = 0 then (
  some ((-2 : Int32), s2))
  else (
  sm_g (sm_in a1 4) <| sm_b (s2.1 20 a1.toNatClampNeg) fun v3 =>
  if v3 = 0 then (
  some ((-11 : Int32), s2))
  else (
  sm_c (mf_X8_nights a1 s2) fun _ s5 =>
  sm_c (mf_X8_sumOf 8 s5) fun v6 s7 =>
  some (v6, s7)))
set_option maxRecDepth 4000 in
theorem mc_X8_sit {w : sm_WD} {l : Launch} (hw : mo_is w) (a1 : Int32) : sm_CI w l yX8_sit prog_10_method_47_code 2 (some .int) 77 1829 [.ref (sm_ad w 0), .int a1] (fun s => mf_X8_sit a1 s) := by
  refine sm_CI.of (by decide +kernel) (Nat.le_of_ble_eq_true rfl) (fun X s0 R hXw hXl C h => ?_)
  subst hXw
  subst hXl
  have h : mf_X8_sit a1 s0 = some R := h
  show sm_V X (sm_QI X R) 2 s0 0 [(0, .ref (sm_ad (sm_w X) 0)), (1, .int a1)] []
  unfold mf_X8_sit at h
  refine sm_iload_n C 1 dX8_sit_0 rfl rfl ?_
  refine sm_callSI C [.int a1] (mc_X8_isSheet hw a1) gm_X8_isSheet gl_M_315 gs_X8_isSheet rfl ⟨Nat.le_of_ble_eq_true rfl, Nat.le_of_ble_eq_true rfl⟩ rfl (Nat.le_of_ble_eq_true rfl) dX8_sit_1 h (fun v1 s2 h => ?_)
  refine sm_if_ne C 10 dX8_sit_4 (by decide) h (fun h => ?_) (fun h => ?_)
  · refine sm_aload_n C 0 dX8_sit_10 rfl rfl ?_
    refine mr_M_isThere C hw (k := 0) rfl gf_M_81 dX8_sit_11 ?_
    refine sm_iload_n C 1 dX8_sit_14 rfl rfl ?_
    refine ma_zald C hw (k := 20) rfl rfl dX8_sit_15 h (fun v3 h => ?_)
    refine sm_if_ne C 22 dX8_sit_16 (by decide) h (fun h => ?_) (fun h => ?_)
    · refine sm_aload_n C 0 dX8_sit_22 rfl rfl ?_
      refine sm_iload_n C 1 dX8_sit_23 rfl rfl ?_
      refine sm_callVV (k := 0) C [.int a1] (mc_X8_nights hw a1) gm_X8_nights gl_M_305 gi_X8_nights ge_X8_nights (mob_M hw rfl) rfl ⟨Nat.le_of_ble_eq_true rfl, Nat.le_of_ble_eq_true rfl⟩ rfl (Nat.le_of_ble_eq_true rfl) dX8_sit_24 h (fun v4 s5 h => ?_)
      refine sm_aload_n C 0 dX8_sit_27 rfl rfl ?_
      refine sm_aload_n C 0 dX8_sit_28 rfl rfl ?_
      refine mr_M_costs C hw (k := 0) rfl gf_M_41 dX8_sit_29 ?_
      refine sm_callVI (k := 0) C [.ref (sm_ad (sm_w X) 8)] (mc_X8_sumOf hw 8 rfl) gm_X8_sumOf gl_M_311 gi_X8_sumOf ge_X8_sumOf (mob_M hw rfl) rfl ⟨Nat.le_of_ble_eq_true rfl, Nat.le_of_ble_eq_true rfl⟩ rfl (Nat.le_of_ble_eq_true rfl) dX8_sit_32 h (fun v6 s7 h => ?_)
      exact sm_iret C dX8_sit_35 h
    · refine sm_bipush (v := (-11)) C dX8_sit_19 (by decide) ?_
      exact sm_iret C dX8_sit_21 h
  · refine sm_bipush (v := (-2)) C dX8_sit_7 (by decide) ?_
    exact sm_iret C dX8_sit_9 h
noncomputable def mf_X8_spreads_p31 (a1 : Int32) (k7 : sm_St → Int32 → Option (Unit × sm_St)) (s0 : sm_St) (l2 : Int32) (t0 : Int64) (t1 : Int32) : Option (Unit × sm_St) :=
  sm_g (sm_in t1 8) <| sm_b (sm_sL s0 14 t1.toNatClampNeg t0) fun s1 =>
  sm_g (sm_in l2 8) <| sm_b (sm_sL s1 16 l2.toNatClampNeg (0 : Int64)) fun s2 =>
  sm_b (l2 + Int32.ofInt 1) fun v3 =>
  k7 s2 v3
noncomputable def mf_X8_spreads_p130 (a1 : Int32) (k47 : sm_St → Int32 → Option (Unit × sm_St)) : Nat → sm_St → Int32 → Int32 → Option (Unit × sm_St)
  | 0, _, _, _ => none
  | n + 1, s0, l2, l3 =>
  if (8 : Int32) ≤ l3 then (
  sm_b (s0.2.1 0 43) fun v1 =>
  sm_b (v1 * (100 : Int64)) fun v2 =>
  sm_b (sm_sL s0 0 43 v2) fun s3 =>
  sm_b (l2 + Int32.ofInt 1) fun v4 =>
  k47 s3 v4)
  else (
  sm_g (sm_in l3 8) <| sm_b (s0.2.1 15 l3.toNatClampNeg) fun v5 =>
  sm_g (sm_in l3 8) <| sm_b (sm_sL s0 14 l3.toNatClampNeg v5) fun s6 =>
  sm_g (sm_in l3 8) <| sm_b (s6.2.1 16 l3.toNatClampNeg) fun v7 =>
  sm_b (v7 * (100 : Int64)) fun v8 =>
  sm_g (sm_in l3 8) <| sm_b (s6.2.1 15 l3.toNatClampNeg) fun v9 =>
  sm_b (v8 + v9) fun v10 =>
  sm_g (sm_in l3 8) <| sm_b (sm_sL s6 16 l3.toNatClampNeg v10) fun s11 =>
  sm_b (l3 + Int32.ofInt 1) fun v12 =>
  (mf_X8_spreads_p130 a1 k47 n) s11 l2 v12)
noncomputable def mf_X8_spreads_p54 (a1 : Int32) (k47 : sm_St → Int32 → Option (Unit × sm_St)) : Nat → sm_St → Int32 → Int32 → Option (Unit × sm_St)
  | 0, _, _, _ => none
  | n + 1, s0, l2, l3 =>
  if (8 : Int32) ≤ l3 then (
  mf_X8_spreads_p130 a1 k47 sm_F s0 l2 (0 : Int32))
  else (
  sm_b (l3 + (1 : Int32)) fun v1 =>
  sm_c (mf_X8_round v1 s0) fun v2 s3 =>
  sm_g (sm_in v2 8) <| sm_b (s3.2.1 14 v2.toNatClampNeg) fun v4 =>
  sm_b (s3.1 0 8) fun v5 =>
  sm_b (v5.toInt64) fun v6 =>
  sm_b (v4 * v6) fun v7 =>
  sm_b (l3 - (1 : Int32)) fun v8 =>
  sm_c (mf_X8_round v8 s3) fun v9 s10 =>
  sm_g (sm_in v9 8) <| sm_b (s10.2.1 14 v9.toNatClampNeg) fun v11 =>
  sm_b (s10.1 0 9) fun v12 =>
  sm_b (v12.toInt64) fun v13 =>
  sm_b (v11 * v13) fun v14 =>
  sm_b (v7 + v14) fun v15 =>
  sm_g (sm_in l3 8) <| sm_b (s10.2.1 14 l3.toNatClampNeg) fun v16 =>
  sm_b (s10.1 0 8) fun v17 =>
  sm_b ((100 : Int32) - v17) fun v18 =>
  sm_b (s10.1 0 9) fun v19 =>
  sm_b (v18 - v19) fun v20 =>
  sm_b (v20.toInt64) fun v21 =>
  sm_b (v16 * v21) fun v22 =>
  sm_b (v15 + v22) fun v23 =>
  sm_g (sm_in l3 8) <| sm_b (sm_sL s10 15 l3.toNatClampNeg v23) fun s24 =>
  sm_b (l3 + Int32.ofInt 1) fun v25 =>
  (mf_X8_spreads_p54 a1 k47 n) s24 l2 v25)
noncomputable def mf_X8_spreads_p47 (a1 : Int32) : Nat → sm_St → Int32 → Option (Unit × sm_St)
  | 0, _, _ => none
  | n + 1, s0, l2 =>
  if a1 ≤ l2 then (
  some ((), s0))
  else (
  mf_X8_spreads_p54 a1 (mf_X8_spreads_p47 a1 n) sm_F s0 l2 (0 : Int32))
noncomputable def mf_X8_spreads_p7 (a1 : Int32) : Nat → sm_St → Int32 → Option (Unit × sm_St)
  | 0, _, _ => none
  | n + 1, s0, l2 =>
  if (8 : Int32) ≤ l2 then (
  mf_X8_spreads_p47 a1 sm_F s0 (0 : Int32))
  else (
  sm_b (s0.1 0 7) fun v1 =>
  if l2 = v1 then (
  mf_X8_spreads_p31 a1 (mf_X8_spreads_p7 a1 n) s0 l2 (1 : Int64) l2)
  else (
  mf_X8_spreads_p31 a1 (mf_X8_spreads_p7 a1 n) s0 l2 (0 : Int64) l2))
noncomputable def mf_X8_spreads (a1 : Int32) (s0 : sm_St) : Option (Unit × sm_St) :=
  sm_b (sm_sL s0 0 43 (1 : Int64)) fun s1 =>
  mf_X8_spreads_p7 a1 sm_F s1 (0 : Int32)
set_option maxRecDepth 4000 in
theorem mk_X8_spreads_p31 {X : sm_VC} (C : sm_Cx X prog_10_method_48_code 4 "SmokeGoesToModel" 3 120 none) (hw : mo_is (sm_w X)) {a1 : Int32}  {R : Unit × sm_St} {k7 : sm_St → Int32 → Option (Unit × sm_St)} (hk7 : ∀ (s : sm_St) (l2 : Int32), k7 s l2 = some R → sm_V X (sm_QV X R) 4 s 7 [(0, .ref (sm_ad (sm_w X) 0)), (1, .int a1), (2, .int l2)] []) (s0 : sm_St) (l2 : Int32) (t0 : Int64) (t1 : Int32)  (h : mf_X8_spreads_p31 a1 k7 s0 l2 t0 t1 = some R) : sm_V X (sm_QV X R) 4 s0 31 [(0, .ref (sm_ad (sm_w X) 0)), (1, .int a1), (2, .int l2)] [.long t0, .int t1, .ref (sm_ad (sm_w X) 14)] := by
  unfold mf_X8_spreads_p31 at h
  refine ma_last C hw (k := 14) rfl rfl dX8_spreads_31 h (fun s1 h => ?_)
  refine sm_aload_n C 0 dX8_spreads_32 rfl rfl ?_
  refine mr_M_means C hw (k := 0) rfl gf_M_66 dX8_spreads_33 ?_
  refine sm_iload_n C 2 dX8_spreads_36 rfl rfl ?_
  refine sm_lconst (v := 0) C dX8_spreads_37 (by decide) ?_
  refine ma_last C hw (k := 16) rfl rfl dX8_spreads_38 h (fun s2 h => ?_)
  refine sm_iinc (lv' := fun v3 => [(2, .int v3), (0, .ref (sm_ad (sm_w X) 0)), (1, .int a1)]) C 2 dX8_spreads_39 rfl (by decide) (fun _ => rfl) h (fun v3 h => ?_)
  refine sm_goto C 7 dX8_spreads_42 (by decide) ?_
  refine sm_sub (lv' := [(0, .ref (sm_ad (sm_w X) 0)), (1, .int a1), (2, .int v3)]) [1, 2, 0] rfl ?_
  exact hk7 s2 v3 h
set_option maxRecDepth 4000 in
theorem mk_X8_spreads_p130 {X : sm_VC} (C : sm_Cx X prog_10_method_48_code 4 "SmokeGoesToModel" 3 120 none) (hw : mo_is (sm_w X)) {a1 : Int32}  {R : Unit × sm_St} {k47 : sm_St → Int32 → Option (Unit × sm_St)} (hk47 : ∀ (s : sm_St) (l2 : Int32), k47 s l2 = some R → sm_V X (sm_QV X R) 4 s 47 [(0, .ref (sm_ad (sm_w X) 0)), (1, .int a1), (2, .int l2)] []) : ∀ (n : Nat) (s0 : sm_St) (l2 : Int32) (l3 : Int32) , mf_X8_spreads_p130 a1 k47 n s0 l2 l3 = some R → sm_V X (sm_QV X R) 4 s0 130 [(0, .ref (sm_ad (sm_w X) 0)), (1, .int a1), (2, .int l2), (3, .int l3)] [] := by
  intro n
  induction n with
  | zero =>
    intro s0 l2 l3 h
    have h : (none : Option (Unit × sm_St)) = some R := h
    cases h
  | succ n ih =>
    intro s0 l2 l3 h
    unfold mf_X8_spreads_p130 at h
    refine sm_iload_n C 3 dX8_spreads_130 rfl rfl ?_
    refine sm_bipush (v := 8) C dX8_spreads_131 (by decide) ?_
    refine sm_icmp_ge C 177 dX8_spreads_133 (by decide) h (fun h => ?_) (fun h => ?_)
    · refine sm_aload_n C 0 dX8_spreads_177 rfl rfl ?_
      refine sm_dup C dX8_spreads_178 rfl ?_
      refine mr_M_below C hw (k := 0) rfl gf_M_322 dX8_spreads_179 h (fun v1 h => ?_)
      refine sm_ldc2 C gk_M_325 dX8_spreads_182 ?_
      refine sm_lmul C dX8_spreads_185 h (fun v2 h => ?_)
      refine mp_M_below C hw (k := 0) rfl gf_M_322 dX8_spreads_186 h (fun s3 h => ?_)
      refine sm_iinc (lv' := fun v4 => [(2, .int v4), (0, .ref (sm_ad (sm_w X) 0)), (1, .int a1), (3, .int l3)]) C 2 dX8_spreads_189 rfl (by decide) (fun _ => rfl) h (fun v4 h => ?_)
      refine sm_goto C 47 dX8_spreads_192 (by decide) ?_
      refine sm_sub (lv' := [(0, .ref (sm_ad (sm_w X) 0)), (1, .int a1), (2, .int v4)]) [1, 2, 0] rfl ?_
      exact hk47 s3 v4 h
    · refine sm_aload_n C 0 dX8_spreads_136 rfl rfl ?_
      refine mr_M_parts C hw (k := 0) rfl gf_M_59 dX8_spreads_137 ?_
      refine sm_iload_n C 3 dX8_spreads_140 rfl rfl ?_
      refine sm_aload_n C 0 dX8_spreads_141 rfl rfl ?_
      refine mr_M_then C hw (k := 0) rfl gf_M_63 dX8_spreads_142 ?_
      refine sm_iload_n C 3 dX8_spreads_145 rfl rfl ?_
      refine ma_lald C hw (k := 15) rfl rfl dX8_spreads_146 h (fun v5 h => ?_)
      refine ma_last C hw (k := 14) rfl rfl dX8_spreads_147 h (fun s6 h => ?_)
      refine sm_aload_n C 0 dX8_spreads_148 rfl rfl ?_
      refine mr_M_means C hw (k := 0) rfl gf_M_66 dX8_spreads_149 ?_
      refine sm_iload_n C 3 dX8_spreads_152 rfl rfl ?_
      refine sm_aload_n C 0 dX8_spreads_153 rfl rfl ?_
      refine mr_M_means C hw (k := 0) rfl gf_M_66 dX8_spreads_154 ?_
      refine sm_iload_n C 3 dX8_spreads_157 rfl rfl ?_
      refine ma_lald C hw (k := 16) rfl rfl dX8_spreads_158 h (fun v7 h => ?_)
      refine sm_ldc2 C gk_M_325 dX8_spreads_159 ?_
      refine sm_lmul C dX8_spreads_162 h (fun v8 h => ?_)
      refine sm_aload_n C 0 dX8_spreads_163 rfl rfl ?_
      refine mr_M_then C hw (k := 0) rfl gf_M_63 dX8_spreads_164 ?_
      refine sm_iload_n C 3 dX8_spreads_167 rfl rfl ?_
      refine ma_lald C hw (k := 15) rfl rfl dX8_spreads_168 h (fun v9 h => ?_)
      refine sm_ladd C dX8_spreads_169 h (fun v10 h => ?_)
      refine ma_last C hw (k := 16) rfl rfl dX8_spreads_170 h (fun s11 h => ?_)
      refine sm_iinc (lv' := fun v12 => [(3, .int v12), (0, .ref (sm_ad (sm_w X) 0)), (1, .int a1), (2, .int l2)]) C 3 dX8_spreads_171 rfl (by decide) (fun _ => rfl) h (fun v12 h => ?_)
      refine sm_goto C 130 dX8_spreads_174 (by decide) ?_
      refine sm_sub (lv' := [(0, .ref (sm_ad (sm_w X) 0)), (1, .int a1), (2, .int l2), (3, .int v12)]) [1, 2, 3, 0] rfl ?_
      exact ih s11 l2 v12 h
set_option maxRecDepth 4000 in
theorem mk_X8_spreads_p54 {X : sm_VC} (C : sm_Cx X prog_10_method_48_code 4 "SmokeGoesToModel" 3 120 none) (hw : mo_is (sm_w X)) {a1 : Int32}  {R : Unit × sm_St} {k47 : sm_St → Int32 → Option (Unit × sm_St)} (hk47 : ∀ (s : sm_St) (l2 : Int32), k47 s l2 = some R → sm_V X (sm_QV X R) 4 s 47 [(0, .ref (sm_ad (sm_w X) 0)), (1, .int a1), (2, .int l2)] []) : ∀ (n : Nat) (s0 : sm_St) (l2 : Int32) (l3 : Int32) , mf_X8_spreads_p54 a1 k47 n s0 l2 l3 = some R → sm_V X (sm_QV X R) 4 s0 54 [(0, .ref (sm_ad (sm_w X) 0)), (1, .int a1), (2, .int l2), (3, .int l3)] [] := by
  intro n
  induction n with
  | zero =>
    intro s0 l2 l3 h
    have h : (none : Option (Unit × sm_St)) = some R := h
    cases h
  | succ n ih =>
    intro s0 l2 l3 h
    unfold mf_X8_spreads_p54 at h
    refine sm_iload_n C 3 dX8_spreads_54 rfl rfl ?_
    refine sm_bipush (v := 8) C dX8_spreads_55 (by decide) ?_
    refine sm_icmp_ge C 128 dX8_spreads_57 (by decide) h (fun h => ?_) (fun h => ?_)
    · refine sm_iconst (v := 0) C dX8_spreads_128 (by decide) ?_
      refine sm_istore_n (lv' := [(3, .int (0 : Int32)), (0, .ref (sm_ad (sm_w X) 0)), (1, .int a1), (2, .int l2)]) C dX8_spreads_129 rfl (by decide) rfl ?_
      refine sm_sub (lv' := [(0, .ref (sm_ad (sm_w X) 0)), (1, .int a1), (2, .int l2), (3, .int (0 : Int32))]) [1, 2, 3, 0] rfl ?_
      exact mk_X8_spreads_p130 C hw hk47 sm_F s0 l2 (0 : Int32) h
    · refine sm_aload_n C 0 dX8_spreads_60 rfl rfl ?_
      refine mr_M_then C hw (k := 0) rfl gf_M_63 dX8_spreads_61 ?_
      refine sm_iload_n C 3 dX8_spreads_64 rfl rfl ?_
      refine sm_aload_n C 0 dX8_spreads_65 rfl rfl ?_
      refine mr_M_parts C hw (k := 0) rfl gf_M_59 dX8_spreads_66 ?_
      refine sm_iload_n C 3 dX8_spreads_69 rfl rfl ?_
      refine sm_iconst (v := 1) C dX8_spreads_70 (by decide) ?_
      refine sm_iadd C dX8_spreads_71 h (fun v1 h => ?_)
      refine sm_callSI C [.int v1] (mc_X8_round hw v1) gm_X8_round gl_M_136 gs_X8_round rfl ⟨Nat.le_of_ble_eq_true rfl, Nat.le_of_ble_eq_true rfl⟩ rfl (Nat.le_of_ble_eq_true rfl) dX8_spreads_72 h (fun v2 s3 h => ?_)
      refine ma_lald C hw (k := 14) rfl rfl dX8_spreads_75 h (fun v4 h => ?_)
      refine sm_aload_n C 0 dX8_spreads_76 rfl rfl ?_
      refine mr_M_left C hw (k := 0) rfl gf_M_23 dX8_spreads_77 h (fun v5 h => ?_)
      refine sm_i2l C dX8_spreads_80 h (fun v6 h => ?_)
      refine sm_lmul C dX8_spreads_81 h (fun v7 h => ?_)
      refine sm_aload_n C 0 dX8_spreads_82 rfl rfl ?_
      refine mr_M_parts C hw (k := 0) rfl gf_M_59 dX8_spreads_83 ?_
      refine sm_iload_n C 3 dX8_spreads_86 rfl rfl ?_
      refine sm_iconst (v := 1) C dX8_spreads_87 (by decide) ?_
      refine sm_isub C dX8_spreads_88 h (fun v8 h => ?_)
      refine sm_callSI C [.int v8] (mc_X8_round hw v8) gm_X8_round gl_M_136 gs_X8_round rfl ⟨Nat.le_of_ble_eq_true rfl, Nat.le_of_ble_eq_true rfl⟩ rfl (Nat.le_of_ble_eq_true rfl) dX8_spreads_89 h (fun v9 s10 h => ?_)
      refine ma_lald C hw (k := 14) rfl rfl dX8_spreads_92 h (fun v11 h => ?_)
      refine sm_aload_n C 0 dX8_spreads_93 rfl rfl ?_
      refine mr_M_right C hw (k := 0) rfl gf_M_26 dX8_spreads_94 h (fun v12 h => ?_)
      refine sm_i2l C dX8_spreads_97 h (fun v13 h => ?_)
      refine sm_lmul C dX8_spreads_98 h (fun v14 h => ?_)
      refine sm_ladd C dX8_spreads_99 h (fun v15 h => ?_)
      refine sm_aload_n C 0 dX8_spreads_100 rfl rfl ?_
      refine mr_M_parts C hw (k := 0) rfl gf_M_59 dX8_spreads_101 ?_
      refine sm_iload_n C 3 dX8_spreads_104 rfl rfl ?_
      refine ma_lald C hw (k := 14) rfl rfl dX8_spreads_105 h (fun v16 h => ?_)
      refine sm_bipush (v := 100) C dX8_spreads_106 (by decide) ?_
      refine sm_aload_n C 0 dX8_spreads_108 rfl rfl ?_
      refine mr_M_left C hw (k := 0) rfl gf_M_23 dX8_spreads_109 h (fun v17 h => ?_)
      refine sm_isub C dX8_spreads_112 h (fun v18 h => ?_)
      refine sm_aload_n C 0 dX8_spreads_113 rfl rfl ?_
      refine mr_M_right C hw (k := 0) rfl gf_M_26 dX8_spreads_114 h (fun v19 h => ?_)
      refine sm_isub C dX8_spreads_117 h (fun v20 h => ?_)
      refine sm_i2l C dX8_spreads_118 h (fun v21 h => ?_)
      refine sm_lmul C dX8_spreads_119 h (fun v22 h => ?_)
      refine sm_ladd C dX8_spreads_120 h (fun v23 h => ?_)
      refine ma_last C hw (k := 15) rfl rfl dX8_spreads_121 h (fun s24 h => ?_)
      refine sm_iinc (lv' := fun v25 => [(3, .int v25), (0, .ref (sm_ad (sm_w X) 0)), (1, .int a1), (2, .int l2)]) C 3 dX8_spreads_122 rfl (by decide) (fun _ => rfl) h (fun v25 h => ?_)
      refine sm_goto C 54 dX8_spreads_125 (by decide) ?_
      refine sm_sub (lv' := [(0, .ref (sm_ad (sm_w X) 0)), (1, .int a1), (2, .int l2), (3, .int v25)]) [1, 2, 3, 0] rfl ?_
      exact ih s24 l2 v25 h
set_option maxRecDepth 4000 in
theorem mk_X8_spreads_p47 {X : sm_VC} (C : sm_Cx X prog_10_method_48_code 4 "SmokeGoesToModel" 3 120 none) (hw : mo_is (sm_w X)) {a1 : Int32}  {R : Unit × sm_St}   : ∀ (n : Nat) (s0 : sm_St) (l2 : Int32) , mf_X8_spreads_p47 a1 n s0 l2 = some R → sm_V X (sm_QV X R) 4 s0 47 [(0, .ref (sm_ad (sm_w X) 0)), (1, .int a1), (2, .int l2)] [] := by
  intro n
  induction n with
  | zero =>
    intro s0 l2 h
    have h : (none : Option (Unit × sm_St)) = some R := h
    cases h
  | succ n ih =>
    intro s0 l2 h
    unfold mf_X8_spreads_p47 at h
    refine sm_iload_n C 2 dX8_spreads_47 rfl rfl ?_
    refine sm_iload_n C 1 dX8_spreads_48 rfl rfl ?_
    refine sm_icmp_ge C 195 dX8_spreads_49 (by decide) h (fun h => ?_) (fun h => ?_)
    · exact sm_vret C dX8_spreads_195 h
    · refine sm_iconst (v := 0) C dX8_spreads_52 (by decide) ?_
      refine sm_istore_n (lv' := [(3, .int (0 : Int32)), (0, .ref (sm_ad (sm_w X) 0)), (1, .int a1), (2, .int l2)]) C dX8_spreads_53 rfl (by decide) rfl ?_
      refine sm_sub (lv' := [(0, .ref (sm_ad (sm_w X) 0)), (1, .int a1), (2, .int l2), (3, .int (0 : Int32))]) [1, 2, 3, 0] rfl ?_
      exact mk_X8_spreads_p54 C hw ih sm_F s0 l2 (0 : Int32) h
set_option maxRecDepth 4000 in
theorem mk_X8_spreads_p7 {X : sm_VC} (C : sm_Cx X prog_10_method_48_code 4 "SmokeGoesToModel" 3 120 none) (hw : mo_is (sm_w X)) {a1 : Int32}  {R : Unit × sm_St}   : ∀ (n : Nat) (s0 : sm_St) (l2 : Int32) , mf_X8_spreads_p7 a1 n s0 l2 = some R → sm_V X (sm_QV X R) 4 s0 7 [(0, .ref (sm_ad (sm_w X) 0)), (1, .int a1), (2, .int l2)] [] := by
  intro n
  induction n with
  | zero =>
    intro s0 l2 h
    have h : (none : Option (Unit × sm_St)) = some R := h
    cases h
  | succ n ih =>
    intro s0 l2 h
    unfold mf_X8_spreads_p7 at h
    refine sm_iload_n C 2 dX8_spreads_7 rfl rfl ?_
    refine sm_bipush (v := 8) C dX8_spreads_8 (by decide) ?_
    refine sm_icmp_ge C 45 dX8_spreads_10 (by decide) h (fun h => ?_) (fun h => ?_)
    · refine sm_iconst (v := 0) C dX8_spreads_45 (by decide) ?_
      refine sm_istore_n (lv' := [(2, .int (0 : Int32)), (0, .ref (sm_ad (sm_w X) 0)), (1, .int a1)]) C dX8_spreads_46 rfl (by decide) rfl ?_
      refine sm_sub (lv' := [(0, .ref (sm_ad (sm_w X) 0)), (1, .int a1), (2, .int (0 : Int32))]) [1, 2, 0] rfl ?_
      exact mk_X8_spreads_p47 C hw sm_F s0 (0 : Int32) h
    · refine sm_aload_n C 0 dX8_spreads_13 rfl rfl ?_
      refine mr_M_parts C hw (k := 0) rfl gf_M_59 dX8_spreads_14 ?_
      refine sm_iload_n C 2 dX8_spreads_17 rfl rfl ?_
      refine sm_iload_n C 2 dX8_spreads_18 rfl rfl ?_
      refine sm_aload_n C 0 dX8_spreads_19 rfl rfl ?_
      refine mr_M_smoke C hw (k := 0) rfl gf_M_120 dX8_spreads_20 h (fun v1 h => ?_)
      refine sm_icmp_ne C 30 dX8_spreads_23 (by decide) h (fun h => ?_) (fun h => ?_)
      · refine sm_lconst (v := 0) C dX8_spreads_30 (by decide) ?_
        exact mk_X8_spreads_p31 C hw ih s0 l2 (0 : Int64) l2 h
      · refine sm_lconst (v := 1) C dX8_spreads_26 (by decide) ?_
        refine sm_goto C 31 dX8_spreads_27 (by decide) ?_
        exact mk_X8_spreads_p31 C hw ih s0 l2 (1 : Int64) l2 h
set_option maxRecDepth 4000 in
theorem mc_X8_spreads {w : sm_WD} {l : Launch} (hw : mo_is w) (a1 : Int32) : sm_CV w l yX8_spreads prog_10_method_48_code 4 none 3 120 [.ref (sm_ad w 0), .int a1] (fun s => mf_X8_spreads a1 s) := by
  refine sm_CV.of (by decide +kernel) (Nat.le_of_ble_eq_true rfl) (fun X s0 R hXw hXl C h => ?_)
  subst hXw
  subst hXl
  have h : mf_X8_spreads a1 s0 = some R := h
  show sm_V X (sm_QV X R) 4 s0 0 [(0, .ref (sm_ad (sm_w X) 0)), (1, .int a1)] []
  unfold mf_X8_spreads at h
  refine sm_aload_n C 0 dX8_spreads_0 rfl rfl ?_
  refine sm_lconst (v := 1) C dX8_spreads_1 (by decide) ?_
  refine mp_M_below C hw (k := 0) rfl gf_M_322 dX8_spreads_2 h (fun s1 h => ?_)
  refine sm_iconst (v := 0) C dX8_spreads_5 (by decide) ?_
  refine sm_istore_n (lv' := [(2, .int (0 : Int32)), (0, .ref (sm_ad (sm_w X) 0)), (1, .int a1)]) C dX8_spreads_6 rfl (by decide) rfl ?_
  refine sm_sub (lv' := [(0, .ref (sm_ad (sm_w X) 0)), (1, .int a1), (2, .int (0 : Int32))]) [1, 2, 0] rfl ?_
  exact mk_X8_spreads_p7 C hw sm_F s1 (0 : Int32) h
noncomputable def mf_X8_lowest_p6 (a1 : Int64) (a2 : Int64) (a3 : Int32) : Nat → sm_St → Int64 → Int64 → Option (Int64 × sm_St)
  | 0, _, _, _ => none
  | n + 1, s0, l5, l7 =>
  sm_b (lg_cmp l7 (0 : Int64)) fun v1 =>
  if v1 = 0 then (
  if a3 = 0 then (
  sm_g (!decide (l5 = 0)) <| sm_b (a1 / l5) fun v3 =>
  some (v3, s0))
  else (
  sm_g (!decide (l5 = 0)) <| sm_b (a2 / l5) fun v2 =>
  some (v2, s0)))
  else (
  sm_g (!decide (l7 = 0)) <| sm_b (l5 - l5 / l7 * l7) fun v4 =>
  (mf_X8_lowest_p6 a1 a2 a3 n) s0 l7 v4)
noncomputable def mf_X8_lowest (a1 : Int64) (a2 : Int64) (a3 : Int32) (s0 : sm_St) : Option (Int64 × sm_St) :=
  mf_X8_lowest_p6 a1 a2 a3 sm_F s0 a1 a2
set_option maxRecDepth 4000 in
theorem mk_X8_lowest_p6 {X : sm_VC} (C : sm_Cx X prog_10_method_49_code 11 "SmokeGoesToModel" 2 100 (some .long)) (hw : mo_is (sm_w X)) {a1 : Int64} {a2 : Int64} {a3 : Int32}  {R : Int64 × sm_St}   : ∀ (n : Nat) (s0 : sm_St) (l5 : Int64) (l7 : Int64) , mf_X8_lowest_p6 a1 a2 a3 n s0 l5 l7 = some R → sm_V X (sm_QL X R) 11 s0 6 [(0, .long a1), (2, .long a2), (4, .int a3), (5, .long l5), (7, .long l7)] [] := by
  intro n
  induction n with
  | zero =>
    intro s0 l5 l7 h
    have h : (none : Option (Int64 × sm_St)) = some R := h
    cases h
  | succ n ih =>
    intro s0 l5 l7 h
    unfold mf_X8_lowest_p6 at h
    refine sm_lload C 4 dX8_lowest_6 rfl ?_
    refine sm_lconst (v := 0) C dX8_lowest_8 (by decide) ?_
    refine sm_lcmp C dX8_lowest_9 h (fun v1 h => ?_)
    refine sm_if_eq C 31 dX8_lowest_10 (by decide) h (fun h => ?_) (fun h => ?_)
    · refine sm_iload C 2 dX8_lowest_31 rfl ?_
      refine sm_if_ne C 43 dX8_lowest_33 (by decide) h (fun h => ?_) (fun h => ?_)
      · refine sm_lload_n C 1 dX8_lowest_43 rfl rfl ?_
        refine sm_lload C 3 dX8_lowest_44 rfl ?_
        refine sm_ldiv C dX8_lowest_46 h (fun v2 h => ?_)
        exact sm_lret C dX8_lowest_47 h
      · refine sm_lload_n C 0 dX8_lowest_36 rfl rfl ?_
        refine sm_lload C 3 dX8_lowest_37 rfl ?_
        refine sm_ldiv C dX8_lowest_39 h (fun v3 h => ?_)
        refine sm_goto C 47 dX8_lowest_40 (by decide) ?_
        exact sm_lret C dX8_lowest_47 h
    · refine sm_lload C 3 dX8_lowest_13 rfl ?_
      refine sm_lload C 4 dX8_lowest_15 rfl ?_
      refine sm_lrem C dX8_lowest_17 h (fun v4 h => ?_)
      refine sm_lstore (lv' := [(9, .long v4), (0, .long a1), (2, .long a2), (4, .int a3), (5, .long l5), (7, .long l7)]) C dX8_lowest_18 (by decide) rfl ?_
      refine sm_lload C 5 dX8_lowest_20 rfl ?_
      refine sm_lstore (lv' := [(5, .long l7), (9, .long v4), (0, .long a1), (2, .long a2), (4, .int a3), (7, .long l7)]) C dX8_lowest_22 (by decide) rfl ?_
      refine sm_lload C 1 dX8_lowest_24 rfl ?_
      refine sm_lstore (lv' := [(7, .long v4), (5, .long l7), (9, .long v4), (0, .long a1), (2, .long a2), (4, .int a3)]) C dX8_lowest_26 (by decide) rfl ?_
      refine sm_goto C 6 dX8_lowest_28 (by decide) ?_
      refine sm_sub (lv' := [(0, .long a1), (2, .long a2), (4, .int a3), (5, .long l7), (7, .long v4)]) [3, 4, 5, 1, 0] rfl ?_
      exact ih s0 l7 v4 h
set_option maxRecDepth 4000 in
theorem mc_X8_lowest {w : sm_WD} {l : Launch} (hw : mo_is w) (a1 : Int64) (a2 : Int64) (a3 : Int32) : sm_CL w l yX8_lowest prog_10_method_49_code 11 (some .long) 2 100 [.long a1, .long a2, .int a3] (fun s => mf_X8_lowest a1 a2 a3 s) := by
  refine sm_CL.of (by decide +kernel) (Nat.le_of_ble_eq_true rfl) (fun X s0 R hXw hXl C h => ?_)
  subst hXw
  subst hXl
  have h : mf_X8_lowest a1 a2 a3 s0 = some R := h
  show sm_V X (sm_QL X R) 11 s0 0 [(0, .long a1), (2, .long a2), (4, .int a3)] []
  unfold mf_X8_lowest at h
  refine sm_lload_n C 0 dX8_lowest_0 rfl rfl ?_
  refine sm_lstore (lv' := [(5, .long a1), (0, .long a1), (2, .long a2), (4, .int a3)]) C dX8_lowest_1 (by decide) rfl ?_
  refine sm_lload_n C 2 dX8_lowest_3 rfl rfl ?_
  refine sm_lstore (lv' := [(7, .long a2), (5, .long a1), (0, .long a1), (2, .long a2), (4, .int a3)]) C dX8_lowest_4 (by decide) rfl ?_
  refine sm_sub (lv' := [(0, .long a1), (2, .long a2), (4, .int a3), (5, .long a1), (7, .long a2)]) [2, 3, 4, 1, 0] rfl ?_
  exact mk_X8_lowest_p6 C hw sm_F s0 a1 a2 h
noncomputable def mf_X8_likely (a1 : Int32) (a2 : Int32) (a3 : Int32) (s0 : sm_St) : Option (Int64 × sm_St) :=
  sm_b (a1.toInt64) fun v1 =>
  sm_c (mf_X8_in v1 (0 : Int64) (8 : Int64) s0) fun v2 s3 =>
  if v2 = 0 then (
  some ((-4611686018427387904 : Int64), s3))
  else (
  sm_c (mf_X8_isPlace a2 s3) fun v4 s5 =>
  if v4 = 0 then (
  some ((-4611686018427387904 : Int64), s5))
  else (
  sm_b (a3.toInt64) fun v6 =>
  sm_c (mf_X8_in v6 (0 : Int64) (1 : Int64) s5) fun v7 s8 =>
  if v7 = 0 then (
  some ((-4611686018427387904 : Int64), s8))
  else (
  sm_c (mf_X8_spreads a1 s8) fun _ s10 =>
  sm_g (sm_in a2 8) <| sm_b (s10.2.1 14 a2.toNatClampNeg) fun v11 =>
  sm_b (s10.2.1 0 43) fun v12 =>
  sm_c (mf_X8_lowest v11 v12 a3 s10) fun v13 s14 =>
  some (v13, s14))))
set_option maxRecDepth 4000 in
theorem mc_X8_likely {w : sm_WD} {l : Launch} (hw : mo_is w) (a1 : Int32) (a2 : Int32) (a3 : Int32) : sm_CL w l yX8_likely prog_10_method_50_code 4 (some .long) 4 145 [.ref (sm_ad w 0), .int a1, .int a2, .int a3] (fun s => mf_X8_likely a1 a2 a3 s) := by
  refine sm_CL.of (by decide +kernel) (Nat.le_of_ble_eq_true rfl) (fun X s0 R hXw hXl C h => ?_)
  subst hXw
  subst hXl
  have h : mf_X8_likely a1 a2 a3 s0 = some R := h
  show sm_V X (sm_QL X R) 4 s0 0 [(0, .ref (sm_ad (sm_w X) 0)), (1, .int a1), (2, .int a2), (3, .int a3)] []
  unfold mf_X8_likely at h
  refine sm_iload_n C 1 dX8_likely_0 rfl rfl ?_
  refine sm_i2l C dX8_likely_1 h (fun v1 h => ?_)
  refine sm_lconst (v := 0) C dX8_likely_2 (by decide) ?_
  refine sm_ldc2 C gk_M_327 dX8_likely_3 ?_
  refine sm_callSI C [.long v1, .long (0 : Int64), .long (8 : Int64)] (mc_X8_in hw v1 (0 : Int64) (8 : Int64)) gm_X8_in gl_M_104 gs_X8_in rfl ⟨Nat.le_of_ble_eq_true rfl, Nat.le_of_ble_eq_true rfl⟩ rfl (Nat.le_of_ble_eq_true rfl) dX8_likely_6 h (fun v2 s3 h => ?_)
  refine sm_if_eq C 29 dX8_likely_9 (by decide) h (fun h => ?_) (fun h => ?_)
  · refine sm_ldc2 C gk_M_329 dX8_likely_29 ?_
    exact sm_lret C dX8_likely_32 h
  · refine sm_iload_n C 2 dX8_likely_12 rfl rfl ?_
    refine sm_callSI C [.int a2] (mc_X8_isPlace hw a2) gm_X8_isPlace gl_M_133 gs_X8_isPlace rfl ⟨Nat.le_of_ble_eq_true rfl, Nat.le_of_ble_eq_true rfl⟩ rfl (Nat.le_of_ble_eq_true rfl) dX8_likely_13 h (fun v4 s5 h => ?_)
    refine sm_if_eq C 29 dX8_likely_16 (by decide) h (fun h => ?_) (fun h => ?_)
    · refine sm_ldc2 C gk_M_329 dX8_likely_29 ?_
      exact sm_lret C dX8_likely_32 h
    · refine sm_iload_n C 3 dX8_likely_19 rfl rfl ?_
      refine sm_i2l C dX8_likely_20 h (fun v6 h => ?_)
      refine sm_lconst (v := 0) C dX8_likely_21 (by decide) ?_
      refine sm_lconst (v := 1) C dX8_likely_22 (by decide) ?_
      refine sm_callSI C [.long v6, .long (0 : Int64), .long (1 : Int64)] (mc_X8_in hw v6 (0 : Int64) (1 : Int64)) gm_X8_in gl_M_104 gs_X8_in rfl ⟨Nat.le_of_ble_eq_true rfl, Nat.le_of_ble_eq_true rfl⟩ rfl (Nat.le_of_ble_eq_true rfl) dX8_likely_23 h (fun v7 s8 h => ?_)
      refine sm_if_ne C 33 dX8_likely_26 (by decide) h (fun h => ?_) (fun h => ?_)
      · refine sm_aload_n C 0 dX8_likely_33 rfl rfl ?_
        refine sm_iload_n C 1 dX8_likely_34 rfl rfl ?_
        refine sm_callVV (k := 0) C [.int a1] (mc_X8_spreads hw a1) gm_X8_spreads gl_M_331 gi_X8_spreads ge_X8_spreads (mob_M hw rfl) rfl ⟨Nat.le_of_ble_eq_true rfl, Nat.le_of_ble_eq_true rfl⟩ rfl (Nat.le_of_ble_eq_true rfl) dX8_likely_35 h (fun v9 s10 h => ?_)
        refine sm_aload_n C 0 dX8_likely_38 rfl rfl ?_
        refine mr_M_parts C hw (k := 0) rfl gf_M_59 dX8_likely_39 ?_
        refine sm_iload_n C 2 dX8_likely_42 rfl rfl ?_
        refine ma_lald C hw (k := 14) rfl rfl dX8_likely_43 h (fun v11 h => ?_)
        refine sm_aload_n C 0 dX8_likely_44 rfl rfl ?_
        refine mr_M_below C hw (k := 0) rfl gf_M_322 dX8_likely_45 h (fun v12 h => ?_)
        refine sm_iload_n C 3 dX8_likely_48 rfl rfl ?_
        refine sm_callSL C [.long v11, .long v12, .int a3] (mc_X8_lowest hw v11 v12 a3) gm_X8_lowest gl_M_334 gs_X8_lowest rfl ⟨Nat.le_of_ble_eq_true rfl, Nat.le_of_ble_eq_true rfl⟩ rfl (Nat.le_of_ble_eq_true rfl) dX8_likely_49 h (fun v13 s14 h => ?_)
        exact sm_lret C dX8_likely_52 h
      · refine sm_ldc2 C gk_M_329 dX8_likely_29 ?_
        exact sm_lret C dX8_likely_32 h
noncomputable def mf_X8_mean (a1 : Int32) (a2 : Int32) (a3 : Int32) (s0 : sm_St) : Option (Int64 × sm_St) :=
  sm_b (a1.toInt64) fun v1 =>
  sm_c (mf_X8_in v1 (1 : Int64) (8 : Int64) s0) fun v2 s3 =>
  if v2 = 0 then (
  some ((-4611686018427387904 : Int64), s3))
  else (
  sm_c (mf_X8_isPlace a2 s3) fun v4 s5 =>
  if v4 = 0 then (
  some ((-4611686018427387904 : Int64), s5))
  else (
  sm_b (a3.toInt64) fun v6 =>
  sm_c (mf_X8_in v6 (0 : Int64) (1 : Int64) s5) fun v7 s8 =>
  if v7 = 0 then (
  some ((-4611686018427387904 : Int64), s8))
  else (
  sm_c (mf_X8_spreads a1 s8) fun _ s10 =>
  sm_g (sm_in a2 8) <| sm_b (s10.2.1 16 a2.toNatClampNeg) fun v11 =>
  sm_b (s10.2.1 0 43) fun v12 =>
  sm_c (mf_X8_lowest v11 v12 a3 s10) fun v13 s14 =>
  some (v13, s14))))
set_option maxRecDepth 4000 in
theorem mc_X8_mean {w : sm_WD} {l : Launch} (hw : mo_is w) (a1 : Int32) (a2 : Int32) (a3 : Int32) : sm_CL w l yX8_mean prog_10_method_51_code 4 (some .long) 4 145 [.ref (sm_ad w 0), .int a1, .int a2, .int a3] (fun s => mf_X8_mean a1 a2 a3 s) := by
  refine sm_CL.of (by decide +kernel) (Nat.le_of_ble_eq_true rfl) (fun X s0 R hXw hXl C h => ?_)
  subst hXw
  subst hXl
  have h : mf_X8_mean a1 a2 a3 s0 = some R := h
  show sm_V X (sm_QL X R) 4 s0 0 [(0, .ref (sm_ad (sm_w X) 0)), (1, .int a1), (2, .int a2), (3, .int a3)] []
  unfold mf_X8_mean at h
  refine sm_iload_n C 1 dX8_mean_0 rfl rfl ?_
  refine sm_i2l C dX8_mean_1 h (fun v1 h => ?_)
  refine sm_lconst (v := 1) C dX8_mean_2 (by decide) ?_
  refine sm_ldc2 C gk_M_327 dX8_mean_3 ?_
  refine sm_callSI C [.long v1, .long (1 : Int64), .long (8 : Int64)] (mc_X8_in hw v1 (1 : Int64) (8 : Int64)) gm_X8_in gl_M_104 gs_X8_in rfl ⟨Nat.le_of_ble_eq_true rfl, Nat.le_of_ble_eq_true rfl⟩ rfl (Nat.le_of_ble_eq_true rfl) dX8_mean_6 h (fun v2 s3 h => ?_)
  refine sm_if_eq C 29 dX8_mean_9 (by decide) h (fun h => ?_) (fun h => ?_)
  · refine sm_ldc2 C gk_M_329 dX8_mean_29 ?_
    exact sm_lret C dX8_mean_32 h
  · refine sm_iload_n C 2 dX8_mean_12 rfl rfl ?_
    refine sm_callSI C [.int a2] (mc_X8_isPlace hw a2) gm_X8_isPlace gl_M_133 gs_X8_isPlace rfl ⟨Nat.le_of_ble_eq_true rfl, Nat.le_of_ble_eq_true rfl⟩ rfl (Nat.le_of_ble_eq_true rfl) dX8_mean_13 h (fun v4 s5 h => ?_)
    refine sm_if_eq C 29 dX8_mean_16 (by decide) h (fun h => ?_) (fun h => ?_)
    · refine sm_ldc2 C gk_M_329 dX8_mean_29 ?_
      exact sm_lret C dX8_mean_32 h
    · refine sm_iload_n C 3 dX8_mean_19 rfl rfl ?_
      refine sm_i2l C dX8_mean_20 h (fun v6 h => ?_)
      refine sm_lconst (v := 0) C dX8_mean_21 (by decide) ?_
      refine sm_lconst (v := 1) C dX8_mean_22 (by decide) ?_
      refine sm_callSI C [.long v6, .long (0 : Int64), .long (1 : Int64)] (mc_X8_in hw v6 (0 : Int64) (1 : Int64)) gm_X8_in gl_M_104 gs_X8_in rfl ⟨Nat.le_of_ble_eq_true rfl, Nat.le_of_ble_eq_true rfl⟩ rfl (Nat.le_of_ble_eq_true rfl) dX8_mean_23 h (fun v7 s8 h => ?_)
      refine sm_if_ne C 33 dX8_mean_26 (by decide) h (fun h => ?_) (fun h => ?_)
      · refine sm_aload_n C 0 dX8_mean_33 rfl rfl ?_
        refine sm_iload_n C 1 dX8_mean_34 rfl rfl ?_
        refine sm_callVV (k := 0) C [.int a1] (mc_X8_spreads hw a1) gm_X8_spreads gl_M_331 gi_X8_spreads ge_X8_spreads (mob_M hw rfl) rfl ⟨Nat.le_of_ble_eq_true rfl, Nat.le_of_ble_eq_true rfl⟩ rfl (Nat.le_of_ble_eq_true rfl) dX8_mean_35 h (fun v9 s10 h => ?_)
        refine sm_aload_n C 0 dX8_mean_38 rfl rfl ?_
        refine mr_M_means C hw (k := 0) rfl gf_M_66 dX8_mean_39 ?_
        refine sm_iload_n C 2 dX8_mean_42 rfl rfl ?_
        refine ma_lald C hw (k := 16) rfl rfl dX8_mean_43 h (fun v11 h => ?_)
        refine sm_aload_n C 0 dX8_mean_44 rfl rfl ?_
        refine mr_M_below C hw (k := 0) rfl gf_M_322 dX8_mean_45 h (fun v12 h => ?_)
        refine sm_iload_n C 3 dX8_mean_48 rfl rfl ?_
        refine sm_callSL C [.long v11, .long v12, .int a3] (mc_X8_lowest hw v11 v12 a3) gm_X8_lowest gl_M_334 gs_X8_lowest rfl ⟨Nat.le_of_ble_eq_true rfl, Nat.le_of_ble_eq_true rfl⟩ rfl (Nat.le_of_ble_eq_true rfl) dX8_mean_49 h (fun v13 s14 h => ?_)
        exact sm_lret C dX8_mean_52 h
      · refine sm_ldc2 C gk_M_329 dX8_mean_29 ?_
        exact sm_lret C dX8_mean_32 h
noncomputable def mf_X8_seat_p103 (a1 : Int32) (a2 : Int32) (k33 : sm_St → Int32 → Int32 → Option (Int32 × sm_St)) (s0 : sm_St) (l4 : Int32) (t0 : Int32) : Option (Int32 × sm_St) :=
  sm_b (l4 + Int32.ofInt 1) fun v1 =>
  k33 s0 t0 v1
noncomputable def mf_X8_seat_p97 (a1 : Int32) (a2 : Int32) (k33 : sm_St → Int32 → Int32 → Option (Int32 × sm_St)) (s0 : sm_St) (l4 : Int32) : Option (Int32 × sm_St) :=
  mf_X8_seat_p103 a1 a2 k33 s0 l4 l4
noncomputable def mf_X8_seat_p102 (a1 : Int32) (a2 : Int32) (k33 : sm_St → Int32 → Int32 → Option (Int32 × sm_St)) (s0 : sm_St) (l3 : Int32) (l4 : Int32) : Option (Int32 × sm_St) :=
  mf_X8_seat_p103 a1 a2 k33 s0 l4 l3
noncomputable def mf_X8_seat_p68 (a1 : Int32) (a2 : Int32) (k33 : sm_St → Int32 → Int32 → Option (Int32 × sm_St)) (s0 : sm_St) (l3 : Int32) (l4 : Int32) (t0 : Int32) : Option (Int32 × sm_St) :=
  if t0 = 0 then (
  mf_X8_seat_p102 a1 a2 k33 s0 l3 l4)
  else (
  if l3 = (-1 : Int32) then (
  mf_X8_seat_p97 a1 a2 k33 s0 l4)
  else (
  sm_g (sm_in l4 8) <| sm_b (s0.2.1 16 l4.toNatClampNeg) fun v1 =>
  sm_g (sm_in l3 8) <| sm_b (s0.2.1 16 l3.toNatClampNeg) fun v2 =>
  sm_b (lg_cmp v1 v2) fun v3 =>
  if 0 ≤ v3 then (
  mf_X8_seat_p102 a1 a2 k33 s0 l3 l4)
  else (
  mf_X8_seat_p97 a1 a2 k33 s0 l4)))
noncomputable def mf_X8_seat_p67 (a1 : Int32) (a2 : Int32) (k33 : sm_St → Int32 → Int32 → Option (Int32 × sm_St)) (s0 : sm_St) (l3 : Int32) (l4 : Int32) : Option (Int32 × sm_St) :=
  mf_X8_seat_p68 a1 a2 k33 s0 l3 l4 (0 : Int32)
noncomputable def mf_X8_seat_p33 (a1 : Int32) (a2 : Int32) : Nat → sm_St → Int32 → Int32 → Option (Int32 × sm_St)
  | 0, _, _, _ => none
  | n + 1, s0, l3, l4 =>
  if (8 : Int32) ≤ l4 then (
  some (l3, s0))
  else (
  sm_c (mf_X8_onPlace l4 a1 s0) fun v1 s2 =>
  if v1 = (-1 : Int32) then (
  sm_b (s2.1 0 10) fun v3 =>
  sm_b (v3 >>> (l4 &&& 31)) fun v4 =>
  sm_b (v4 &&& (1 : Int32)) fun v5 =>
  if v5 = 0 then (
  mf_X8_seat_p68 a1 a2 (mf_X8_seat_p33 a1 a2 n) s2 l3 l4 (1 : Int32))
  else (
  mf_X8_seat_p67 a1 a2 (mf_X8_seat_p33 a1 a2 n) s2 l3 l4))
  else (
  mf_X8_seat_p67 a1 a2 (mf_X8_seat_p33 a1 a2 n) s2 l3 l4))
noncomputable def mf_X8_seat (a1 : Int32) (a2 : Int32) (s0 : sm_St) : Option (Int32 × sm_St) :=
  sm_c (mf_X8_isSitter a1 s0) fun v1 s2 =>
  if v1 = 0 then (
  some ((-2 : Int32), s2))
  else (
  sm_b (a2.toInt64) fun v3 =>
  sm_c (mf_X8_in v3 (1 : Int64) (8 : Int64) s2) fun v4 s5 =>
  if v4 = 0 then (
  some ((-2 : Int32), s5))
  else (
  sm_c (mf_X8_spreads a2 s5) fun _ s7 =>
  mf_X8_seat_p33 a1 a2 sm_F s7 (-1 : Int32) (0 : Int32)))
set_option maxRecDepth 4000 in
theorem mk_X8_seat_p103 {X : sm_VC} (C : sm_Cx X prog_10_method_52_code 6 "SmokeGoesToModel" 4 146 (some .int)) (hw : mo_is (sm_w X)) {a1 : Int32} {a2 : Int32}  {R : Int32 × sm_St} {k33 : sm_St → Int32 → Int32 → Option (Int32 × sm_St)} (hk33 : ∀ (s : sm_St) (l3 : Int32) (l4 : Int32), k33 s l3 l4 = some R → sm_V X (sm_QI X R) 6 s 33 [(0, .ref (sm_ad (sm_w X) 0)), (1, .int a1), (3, .int l3), (4, .int l4)] []) (s0 : sm_St) (l4 : Int32) (t0 : Int32)  (h : mf_X8_seat_p103 a1 a2 k33 s0 l4 t0 = some R) : sm_V X (sm_QI X R) 6 s0 103 [(0, .ref (sm_ad (sm_w X) 0)), (1, .int a1), (4, .int l4)] [.int t0] := by
  unfold mf_X8_seat_p103 at h
  refine sm_istore_n (lv' := [(3, .int t0), (0, .ref (sm_ad (sm_w X) 0)), (1, .int a1), (4, .int l4)]) C dX8_seat_103 rfl (by decide) rfl ?_
  refine sm_iinc (lv' := fun v1 => [(4, .int v1), (3, .int t0), (0, .ref (sm_ad (sm_w X) 0)), (1, .int a1)]) C 3 dX8_seat_104 rfl (by decide) (fun _ => rfl) h (fun v1 h => ?_)
  refine sm_goto C 33 dX8_seat_107 (by decide) ?_
  refine sm_sub (lv' := [(0, .ref (sm_ad (sm_w X) 0)), (1, .int a1), (3, .int t0), (4, .int v1)]) [2, 3, 1, 0] rfl ?_
  exact hk33 s0 t0 v1 h
set_option maxRecDepth 4000 in
theorem mk_X8_seat_p97 {X : sm_VC} (C : sm_Cx X prog_10_method_52_code 6 "SmokeGoesToModel" 4 146 (some .int)) (hw : mo_is (sm_w X)) {a1 : Int32} {a2 : Int32}  {R : Int32 × sm_St} {k33 : sm_St → Int32 → Int32 → Option (Int32 × sm_St)} (hk33 : ∀ (s : sm_St) (l3 : Int32) (l4 : Int32), k33 s l3 l4 = some R → sm_V X (sm_QI X R) 6 s 33 [(0, .ref (sm_ad (sm_w X) 0)), (1, .int a1), (3, .int l3), (4, .int l4)] []) (s0 : sm_St) (l4 : Int32)  (h : mf_X8_seat_p97 a1 a2 k33 s0 l4 = some R) : sm_V X (sm_QI X R) 6 s0 97 [(0, .ref (sm_ad (sm_w X) 0)), (1, .int a1), (4, .int l4)] [] := by
  unfold mf_X8_seat_p97 at h
  refine sm_iload C 2 dX8_seat_97 rfl ?_
  refine sm_goto C 103 dX8_seat_99 (by decide) ?_
  exact mk_X8_seat_p103 C hw hk33 s0 l4 l4 h
set_option maxRecDepth 4000 in
theorem mk_X8_seat_p102 {X : sm_VC} (C : sm_Cx X prog_10_method_52_code 6 "SmokeGoesToModel" 4 146 (some .int)) (hw : mo_is (sm_w X)) {a1 : Int32} {a2 : Int32}  {R : Int32 × sm_St} {k33 : sm_St → Int32 → Int32 → Option (Int32 × sm_St)} (hk33 : ∀ (s : sm_St) (l3 : Int32) (l4 : Int32), k33 s l3 l4 = some R → sm_V X (sm_QI X R) 6 s 33 [(0, .ref (sm_ad (sm_w X) 0)), (1, .int a1), (3, .int l3), (4, .int l4)] []) (s0 : sm_St) (l3 : Int32) (l4 : Int32)  (h : mf_X8_seat_p102 a1 a2 k33 s0 l3 l4 = some R) : sm_V X (sm_QI X R) 6 s0 102 [(0, .ref (sm_ad (sm_w X) 0)), (1, .int a1), (3, .int l3), (4, .int l4)] [] := by
  unfold mf_X8_seat_p102 at h
  refine sm_iload_n C 2 dX8_seat_102 rfl rfl ?_
  refine sm_sub (lv' := [(0, .ref (sm_ad (sm_w X) 0)), (1, .int a1), (4, .int l4)]) [0, 1, 3] rfl ?_
  exact mk_X8_seat_p103 C hw hk33 s0 l4 l3 h
set_option maxRecDepth 4000 in
theorem mk_X8_seat_p68 {X : sm_VC} (C : sm_Cx X prog_10_method_52_code 6 "SmokeGoesToModel" 4 146 (some .int)) (hw : mo_is (sm_w X)) {a1 : Int32} {a2 : Int32}  {R : Int32 × sm_St} {k33 : sm_St → Int32 → Int32 → Option (Int32 × sm_St)} (hk33 : ∀ (s : sm_St) (l3 : Int32) (l4 : Int32), k33 s l3 l4 = some R → sm_V X (sm_QI X R) 6 s 33 [(0, .ref (sm_ad (sm_w X) 0)), (1, .int a1), (3, .int l3), (4, .int l4)] []) (s0 : sm_St) (l3 : Int32) (l4 : Int32) (t0 : Int32)  (h : mf_X8_seat_p68 a1 a2 k33 s0 l3 l4 t0 = some R) : sm_V X (sm_QI X R) 6 s0 68 [(0, .ref (sm_ad (sm_w X) 0)), (1, .int a1), (3, .int l3), (4, .int l4)] [.int t0] := by
  unfold mf_X8_seat_p68 at h
  refine sm_istore (lv' := [(5, .int t0), (0, .ref (sm_ad (sm_w X) 0)), (1, .int a1), (3, .int l3), (4, .int l4)]) C dX8_seat_68 (by decide) rfl ?_
  refine sm_iload C 0 dX8_seat_70 rfl ?_
  refine sm_if_eq C 102 dX8_seat_72 (by decide) h (fun h => ?_) (fun h => ?_)
  · refine sm_sub (lv' := [(0, .ref (sm_ad (sm_w X) 0)), (1, .int a1), (3, .int l3), (4, .int l4)]) [1, 2, 3, 4] rfl ?_
    exact mk_X8_seat_p102 C hw hk33 s0 l3 l4 h
  · refine sm_iload_n C 3 dX8_seat_75 rfl rfl ?_
    refine sm_iconst (v := (-1)) C dX8_seat_76 (by decide) ?_
    refine sm_icmp_eq C 97 dX8_seat_77 (by decide) h (fun h => ?_) (fun h => ?_)
    · refine sm_sub (lv' := [(0, .ref (sm_ad (sm_w X) 0)), (1, .int a1), (4, .int l4)]) [1, 2, 4] rfl ?_
      exact mk_X8_seat_p97 C hw hk33 s0 l4 h
    · refine sm_aload_n C 1 dX8_seat_80 rfl rfl ?_
      refine mr_M_means C hw (k := 0) rfl gf_M_66 dX8_seat_81 ?_
      refine sm_iload C 4 dX8_seat_84 rfl ?_
      refine ma_lald C hw (k := 16) rfl rfl dX8_seat_86 h (fun v1 h => ?_)
      refine sm_aload_n C 1 dX8_seat_87 rfl rfl ?_
      refine mr_M_means C hw (k := 0) rfl gf_M_66 dX8_seat_88 ?_
      refine sm_iload_n C 3 dX8_seat_91 rfl rfl ?_
      refine ma_lald C hw (k := 16) rfl rfl dX8_seat_92 h (fun v2 h => ?_)
      refine sm_lcmp C dX8_seat_93 h (fun v3 h => ?_)
      refine sm_if_ge C 102 dX8_seat_94 (by decide) h (fun h => ?_) (fun h => ?_)
      · refine sm_sub (lv' := [(0, .ref (sm_ad (sm_w X) 0)), (1, .int a1), (3, .int l3), (4, .int l4)]) [1, 2, 3, 4] rfl ?_
        exact mk_X8_seat_p102 C hw hk33 s0 l3 l4 h
      · refine sm_sub (lv' := [(0, .ref (sm_ad (sm_w X) 0)), (1, .int a1), (4, .int l4)]) [1, 2, 4] rfl ?_
        exact mk_X8_seat_p97 C hw hk33 s0 l4 h
set_option maxRecDepth 4000 in
theorem mk_X8_seat_p67 {X : sm_VC} (C : sm_Cx X prog_10_method_52_code 6 "SmokeGoesToModel" 4 146 (some .int)) (hw : mo_is (sm_w X)) {a1 : Int32} {a2 : Int32}  {R : Int32 × sm_St} {k33 : sm_St → Int32 → Int32 → Option (Int32 × sm_St)} (hk33 : ∀ (s : sm_St) (l3 : Int32) (l4 : Int32), k33 s l3 l4 = some R → sm_V X (sm_QI X R) 6 s 33 [(0, .ref (sm_ad (sm_w X) 0)), (1, .int a1), (3, .int l3), (4, .int l4)] []) (s0 : sm_St) (l3 : Int32) (l4 : Int32)  (h : mf_X8_seat_p67 a1 a2 k33 s0 l3 l4 = some R) : sm_V X (sm_QI X R) 6 s0 67 [(0, .ref (sm_ad (sm_w X) 0)), (1, .int a1), (3, .int l3), (4, .int l4)] [] := by
  unfold mf_X8_seat_p67 at h
  refine sm_iconst (v := 0) C dX8_seat_67 (by decide) ?_
  exact mk_X8_seat_p68 C hw hk33 s0 l3 l4 (0 : Int32) h
set_option maxRecDepth 4000 in
theorem mk_X8_seat_p33 {X : sm_VC} (C : sm_Cx X prog_10_method_52_code 6 "SmokeGoesToModel" 4 146 (some .int)) (hw : mo_is (sm_w X)) {a1 : Int32} {a2 : Int32}  {R : Int32 × sm_St}   : ∀ (n : Nat) (s0 : sm_St) (l3 : Int32) (l4 : Int32) , mf_X8_seat_p33 a1 a2 n s0 l3 l4 = some R → sm_V X (sm_QI X R) 6 s0 33 [(0, .ref (sm_ad (sm_w X) 0)), (1, .int a1), (3, .int l3), (4, .int l4)] [] := by
  intro n
  induction n with
  | zero =>
    intro s0 l3 l4 h
    have h : (none : Option (Int32 × sm_St)) = some R := h
    cases h
  | succ n ih =>
    intro s0 l3 l4 h
    unfold mf_X8_seat_p33 at h
    refine sm_iload C 3 dX8_seat_33 rfl ?_
    refine sm_bipush (v := 8) C dX8_seat_35 (by decide) ?_
    refine sm_icmp_ge C 110 dX8_seat_37 (by decide) h (fun h => ?_) (fun h => ?_)
    · refine sm_iload_n C 2 dX8_seat_110 rfl rfl ?_
      exact sm_iret C dX8_seat_111 h
    · refine sm_aload_n C 0 dX8_seat_40 rfl rfl ?_
      refine sm_iload C 3 dX8_seat_41 rfl ?_
      refine sm_iload_n C 1 dX8_seat_43 rfl rfl ?_
      refine sm_callVI (k := 0) C [.int l4, .int a1] (mc_X8_onPlace hw l4 a1) gm_X8_onPlace gl_M_116 gi_X8_onPlace ge_X8_onPlace (mob_M hw rfl) rfl ⟨Nat.le_of_ble_eq_true rfl, Nat.le_of_ble_eq_true rfl⟩ rfl (Nat.le_of_ble_eq_true rfl) dX8_seat_44 h (fun v1 s2 h => ?_)
      refine sm_iconst (v := (-1)) C dX8_seat_47 (by decide) ?_
      refine sm_icmp_ne C 67 dX8_seat_48 (by decide) h (fun h => ?_) (fun h => ?_)
      · exact mk_X8_seat_p67 C hw ih s2 l3 l4 h
      · refine sm_aload_n C 0 dX8_seat_51 rfl rfl ?_
        refine mr_M_tents C hw (k := 0) rfl gf_M_123 dX8_seat_52 h (fun v3 h => ?_)
        refine sm_iload C 3 dX8_seat_55 rfl ?_
        refine sm_ishr C dX8_seat_57 h (fun v4 h => ?_)
        refine sm_iconst (v := 1) C dX8_seat_58 (by decide) ?_
        refine sm_iand C dX8_seat_59 h (fun v5 h => ?_)
        refine sm_if_ne C 67 dX8_seat_60 (by decide) h (fun h => ?_) (fun h => ?_)
        · exact mk_X8_seat_p67 C hw ih s2 l3 l4 h
        · refine sm_iconst (v := 1) C dX8_seat_63 (by decide) ?_
          refine sm_goto C 68 dX8_seat_64 (by decide) ?_
          exact mk_X8_seat_p68 C hw ih s2 l3 l4 (1 : Int32) h
set_option maxRecDepth 4000 in
theorem mc_X8_seat {w : sm_WD} {l : Launch} (hw : mo_is w) (a1 : Int32) (a2 : Int32) : sm_CI w l yX8_seat prog_10_method_52_code 6 (some .int) 4 146 [.ref (sm_ad w 0), .int a1, .int a2] (fun s => mf_X8_seat a1 a2 s) := by
  refine sm_CI.of (by decide +kernel) (Nat.le_of_ble_eq_true rfl) (fun X s0 R hXw hXl C h => ?_)
  subst hXw
  subst hXl
  have h : mf_X8_seat a1 a2 s0 = some R := h
  show sm_V X (sm_QI X R) 6 s0 0 [(0, .ref (sm_ad (sm_w X) 0)), (1, .int a1), (2, .int a2)] []
  unfold mf_X8_seat at h
  refine sm_aload_n C 0 dX8_seat_0 rfl rfl ?_
  refine sm_iload_n C 1 dX8_seat_1 rfl rfl ?_
  refine sm_callVI (k := 0) C [.int a1] (mc_X8_isSitter hw a1) gm_X8_isSitter gl_M_112 gi_X8_isSitter ge_X8_isSitter (mob_M hw rfl) rfl ⟨Nat.le_of_ble_eq_true rfl, Nat.le_of_ble_eq_true rfl⟩ rfl (Nat.le_of_ble_eq_true rfl) dX8_seat_2 h (fun v1 s2 h => ?_)
  refine sm_if_eq C 20 dX8_seat_5 (by decide) h (fun h => ?_) (fun h => ?_)
  · refine sm_bipush (v := (-2)) C dX8_seat_20 (by decide) ?_
    exact sm_iret C dX8_seat_22 h
  · refine sm_iload_n C 2 dX8_seat_8 rfl rfl ?_
    refine sm_i2l C dX8_seat_9 h (fun v3 h => ?_)
    refine sm_lconst (v := 1) C dX8_seat_10 (by decide) ?_
    refine sm_ldc2 C gk_M_327 dX8_seat_11 ?_
    refine sm_callSI C [.long v3, .long (1 : Int64), .long (8 : Int64)] (mc_X8_in hw v3 (1 : Int64) (8 : Int64)) gm_X8_in gl_M_104 gs_X8_in rfl ⟨Nat.le_of_ble_eq_true rfl, Nat.le_of_ble_eq_true rfl⟩ rfl (Nat.le_of_ble_eq_true rfl) dX8_seat_14 h (fun v4 s5 h => ?_)
    refine sm_if_ne C 23 dX8_seat_17 (by decide) h (fun h => ?_) (fun h => ?_)
    · refine sm_aload_n C 0 dX8_seat_23 rfl rfl ?_
      refine sm_iload_n C 2 dX8_seat_24 rfl rfl ?_
      refine sm_callVV (k := 0) C [.int a2] (mc_X8_spreads hw a2) gm_X8_spreads gl_M_331 gi_X8_spreads ge_X8_spreads (mob_M hw rfl) rfl ⟨Nat.le_of_ble_eq_true rfl, Nat.le_of_ble_eq_true rfl⟩ rfl (Nat.le_of_ble_eq_true rfl) dX8_seat_25 h (fun v6 s7 h => ?_)
      refine sm_iconst (v := (-1)) C dX8_seat_28 (by decide) ?_
      refine sm_istore_n (lv' := [(3, .int (-1 : Int32)), (0, .ref (sm_ad (sm_w X) 0)), (1, .int a1), (2, .int a2)]) C dX8_seat_29 rfl (by decide) rfl ?_
      refine sm_iconst (v := 0) C dX8_seat_30 (by decide) ?_
      refine sm_istore (lv' := [(4, .int (0 : Int32)), (3, .int (-1 : Int32)), (0, .ref (sm_ad (sm_w X) 0)), (1, .int a1), (2, .int a2)]) C dX8_seat_31 (by decide) rfl ?_
      refine sm_sub (lv' := [(0, .ref (sm_ad (sm_w X) 0)), (1, .int a1), (3, .int (-1 : Int32)), (4, .int (0 : Int32))]) [2, 3, 1, 0] rfl ?_
      exact mk_X8_seat_p33 C hw sm_F s7 (-1 : Int32) (0 : Int32) h
    · refine sm_bipush (v := (-2)) C dX8_seat_20 (by decide) ?_
      exact sm_iret C dX8_seat_22 h
noncomputable def mf_X8_seatsFrom_p37 (rec : Int32 → Int32 → Int64 → sm_St → Option (Unit × sm_St)) (a1 : Int32) (a2 : Int32) (a3 : Int64) : Nat → sm_St → Int32 → Option (Unit × sm_St)
  | 0, _, _ => none
  | n + 1, s0, l5 =>
  sm_b (s0.1 0 15) fun v1 =>
  if v1 ≤ l5 then (
  some ((), s0))
  else (
  sm_g (sm_in l5 5) <| sm_b (s0.1 17 l5.toNatClampNeg) fun v2 =>
  sm_g (sm_in l5 5) <| sm_b (sm_sI s0 18 l5.toNatClampNeg v2) fun s3 =>
  sm_b (l5 + Int32.ofInt 1) fun v4 =>
  (mf_X8_seatsFrom_p37 rec a1 a2 a3 n) s3 v4)
noncomputable def mf_X8_seatsFrom_p24 (rec : Int32 → Int32 → Int64 → sm_St → Option (Unit × sm_St)) (a1 : Int32) (a2 : Int32) (a3 : Int64) (s0 : sm_St) : Option (Unit × sm_St) :=
  sm_b (sm_sI s0 0 47 (1 : Int32)) fun s1 =>
  sm_b (sm_sL s1 0 46 a3) fun s2 =>
  mf_X8_seatsFrom_p37 rec a1 a2 a3 sm_F s2 (0 : Int32)
noncomputable def mf_X8_seatsFrom_p133 (rec : Int32 → Int32 → Int64 → sm_St → Option (Unit × sm_St)) (a1 : Int32) (a2 : Int32) (a3 : Int64) (k70 : sm_St → Int32 → Option (Unit × sm_St)) (s0 : sm_St) (l5 : Int32) : Option (Unit × sm_St) :=
  sm_b (l5 + Int32.ofInt 1) fun v1 =>
  k70 s0 v1
noncomputable def mf_X8_seatsFrom_p130 (rec : Int32 → Int32 → Int64 → sm_St → Option (Unit × sm_St)) (a1 : Int32) (a2 : Int32) (a3 : Int64) (k70 : sm_St → Int32 → Option (Unit × sm_St)) (s0 : sm_St) (l5 : Int32) (t0 : Int64) (t1 : Int32) (t2 : Int32) : Option (Unit × sm_St) :=
  sm_c (rec t2 t1 t0 s0) fun _ s2 =>
  mf_X8_seatsFrom_p133 rec a1 a2 a3 k70 s2 l5
noncomputable def mf_X8_seatsFrom_p70 (rec : Int32 → Int32 → Int64 → sm_St → Option (Unit × sm_St)) (a1 : Int32) (a2 : Int32) (a3 : Int64) : Nat → sm_St → Int32 → Option (Unit × sm_St)
  | 0, _, _ => none
  | n + 1, s0, l5 =>
  if (8 : Int32) ≤ l5 then (
  some ((), s0))
  else (
  sm_b (a2 >>> (l5 &&& 31)) fun v1 =>
  sm_b (v1 &&& (1 : Int32)) fun v2 =>
  if v2 = 0 then (
  sm_g (sm_in a1 5) <| sm_b (sm_sI s0 17 a1.toNatClampNeg l5) fun s3 =>
  sm_b (a1 + (1 : Int32)) fun v4 =>
  sm_b ((1 : Int32) <<< (l5 &&& 31)) fun v5 =>
  sm_b (a2 ||| v5) fun v6 =>
  sm_b (s3.1 0 10) fun v7 =>
  sm_b (v7 >>> (l5 &&& 31)) fun v8 =>
  sm_b (v8 &&& (1 : Int32)) fun v9 =>
  if v9 = (1 : Int32) then (
  mf_X8_seatsFrom_p130 rec a1 a2 a3 (mf_X8_seatsFrom_p70 rec a1 a2 a3 n) s3 l5 a3 v6 v4)
  else (
  sm_g (sm_in l5 8) <| sm_b (s3.2.1 16 l5.toNatClampNeg) fun v10 =>
  sm_b (a3 + v10) fun v11 =>
  mf_X8_seatsFrom_p130 rec a1 a2 a3 (mf_X8_seatsFrom_p70 rec a1 a2 a3 n) s3 l5 v11 v6 v4))
  else (
  mf_X8_seatsFrom_p133 rec a1 a2 a3 (mf_X8_seatsFrom_p70 rec a1 a2 a3 n) s0 l5))
noncomputable def mf_X8_seatsFrom (rec : Int32 → Int32 → Int64 → sm_St → Option (Unit × sm_St)) (a1 : Int32) (a2 : Int32) (a3 : Int64) (s0 : sm_St) : Option (Unit × sm_St) :=
  sm_b (s0.1 0 15) fun v1 =>
  if a1 = v1 then (
  sm_b (s0.1 0 47) fun v2 =>
  if v2 = 0 then (
  mf_X8_seatsFrom_p24 rec a1 a2 a3 s0)
  else (
  sm_b (s0.2.1 0 46) fun v3 =>
  sm_b (lg_cmp a3 v3) fun v4 =>
  if 0 ≤ v4 then (
  some ((), s0))
  else (
  mf_X8_seatsFrom_p24 rec a1 a2 a3 s0)))
  else (
  mf_X8_seatsFrom_p70 rec a1 a2 a3 sm_F s0 (0 : Int32))
set_option maxRecDepth 4000 in
theorem mk_X8_seatsFrom_p37 {X : sm_VC} {nn : Nat} (C : sm_Cx X prog_10_method_53_code 6 "SmokeGoesToModel" (2 + (nn + 1)) (100 + (nn + 1) * 25) none) (hw : mo_is (sm_w X)) {rec : Int32 → Int32 → Int64 → sm_St → Option (Unit × sm_St)} {a1 : Int32} {a2 : Int32} {a3 : Int64}  {R : Unit × sm_St} (hrec : (∀ (a1 : Int32) (a2 : Int32) (a3 : Int64), sm_CV (sm_w X) (sm_l X) yX8_seatsFrom prog_10_method_53_code 6 none (2 + nn) (100 + nn * 25) [.ref (sm_ad (sm_w X) 0), .int a1, .int a2, .long a3] (fun s => rec a1 a2 a3 s)))   : ∀ (n : Nat) (s0 : sm_St) (l5 : Int32) , mf_X8_seatsFrom_p37 rec a1 a2 a3 n s0 l5 = some R → sm_V X (sm_QV X R) 6 s0 37 [(0, .ref (sm_ad (sm_w X) 0)), (5, .int l5)] [] := by
  intro n
  induction n with
  | zero =>
    intro s0 l5 h
    have h : (none : Option (Unit × sm_St)) = some R := h
    cases h
  | succ n ih =>
    intro s0 l5 h
    unfold mf_X8_seatsFrom_p37 at h
    refine sm_iload C 1 dX8_seatsFrom_37 rfl ?_
    refine sm_aload_n C 0 dX8_seatsFrom_39 rfl rfl ?_
    refine mr_M_sitterMany C hw (k := 0) rfl gf_M_101 dX8_seatsFrom_40 h (fun v1 h => ?_)
    refine sm_icmp_ge C 66 dX8_seatsFrom_43 (by decide) h (fun h => ?_) (fun h => ?_)
    · exact sm_vret C dX8_seatsFrom_66 h
    · refine sm_aload_n C 0 dX8_seatsFrom_46 rfl rfl ?_
      refine mr_M_bestSeats C hw (k := 0) rfl gf_M_72 dX8_seatsFrom_47 ?_
      refine sm_iload C 1 dX8_seatsFrom_50 rfl ?_
      refine sm_aload_n C 0 dX8_seatsFrom_52 rfl rfl ?_
      refine mr_M_seats C hw (k := 0) rfl gf_M_69 dX8_seatsFrom_53 ?_
      refine sm_iload C 1 dX8_seatsFrom_56 rfl ?_
      refine ma_iald C hw (k := 17) rfl rfl dX8_seatsFrom_58 h (fun v2 h => ?_)
      refine ma_iast C hw (k := 18) rfl rfl dX8_seatsFrom_59 h (fun s3 h => ?_)
      refine sm_iinc (lv' := fun v4 => [(5, .int v4), (0, .ref (sm_ad (sm_w X) 0))]) C 1 dX8_seatsFrom_60 rfl (by decide) (fun _ => rfl) h (fun v4 h => ?_)
      refine sm_goto C 37 dX8_seatsFrom_63 (by decide) ?_
      refine sm_sub (lv' := [(0, .ref (sm_ad (sm_w X) 0)), (5, .int v4)]) [1, 0] rfl ?_
      exact ih s3 v4 h
set_option maxRecDepth 4000 in
theorem mk_X8_seatsFrom_p24 {X : sm_VC} {nn : Nat} (C : sm_Cx X prog_10_method_53_code 6 "SmokeGoesToModel" (2 + (nn + 1)) (100 + (nn + 1) * 25) none) (hw : mo_is (sm_w X)) {rec : Int32 → Int32 → Int64 → sm_St → Option (Unit × sm_St)} {a1 : Int32} {a2 : Int32} {a3 : Int64}  {R : Unit × sm_St} (hrec : (∀ (a1 : Int32) (a2 : Int32) (a3 : Int64), sm_CV (sm_w X) (sm_l X) yX8_seatsFrom prog_10_method_53_code 6 none (2 + nn) (100 + nn * 25) [.ref (sm_ad (sm_w X) 0), .int a1, .int a2, .long a3] (fun s => rec a1 a2 a3 s)))   (s0 : sm_St)   (h : mf_X8_seatsFrom_p24 rec a1 a2 a3 s0 = some R) : sm_V X (sm_QV X R) 6 s0 24 [(0, .ref (sm_ad (sm_w X) 0)), (3, .long a3)] [] := by
  unfold mf_X8_seatsFrom_p24 at h
  refine sm_aload_n C 0 dX8_seatsFrom_24 rfl rfl ?_
  refine sm_iconst (v := 1) C dX8_seatsFrom_25 (by decide) ?_
  refine mp_M_isFound C hw (k := 0) rfl gf_M_338 dX8_seatsFrom_26 (Or.inr rfl) h (fun s1 h => ?_)
  refine sm_aload_n C 0 dX8_seatsFrom_29 rfl rfl ?_
  refine sm_lload_n C 1 dX8_seatsFrom_30 rfl rfl ?_
  refine mp_M_bestSum C hw (k := 0) rfl gf_M_341 dX8_seatsFrom_31 h (fun s2 h => ?_)
  refine sm_iconst (v := 0) C dX8_seatsFrom_34 (by decide) ?_
  refine sm_istore (lv' := [(5, .int (0 : Int32)), (0, .ref (sm_ad (sm_w X) 0)), (3, .long a3)]) C dX8_seatsFrom_35 (by decide) rfl ?_
  refine sm_sub (lv' := [(0, .ref (sm_ad (sm_w X) 0)), (5, .int (0 : Int32))]) [1, 0] rfl ?_
  exact mk_X8_seatsFrom_p37 C hw hrec sm_F s2 (0 : Int32) h
set_option maxRecDepth 4000 in
theorem mk_X8_seatsFrom_p133 {X : sm_VC} {nn : Nat} (C : sm_Cx X prog_10_method_53_code 6 "SmokeGoesToModel" (2 + (nn + 1)) (100 + (nn + 1) * 25) none) (hw : mo_is (sm_w X)) {rec : Int32 → Int32 → Int64 → sm_St → Option (Unit × sm_St)} {a1 : Int32} {a2 : Int32} {a3 : Int64}  {R : Unit × sm_St} (hrec : (∀ (a1 : Int32) (a2 : Int32) (a3 : Int64), sm_CV (sm_w X) (sm_l X) yX8_seatsFrom prog_10_method_53_code 6 none (2 + nn) (100 + nn * 25) [.ref (sm_ad (sm_w X) 0), .int a1, .int a2, .long a3] (fun s => rec a1 a2 a3 s))) {k70 : sm_St → Int32 → Option (Unit × sm_St)} (hk70 : ∀ (s : sm_St) (l5 : Int32), k70 s l5 = some R → sm_V X (sm_QV X R) 6 s 70 [(0, .ref (sm_ad (sm_w X) 0)), (1, .int a1), (2, .int a2), (3, .long a3), (5, .int l5)] []) (s0 : sm_St) (l5 : Int32)  (h : mf_X8_seatsFrom_p133 rec a1 a2 a3 k70 s0 l5 = some R) : sm_V X (sm_QV X R) 6 s0 133 [(0, .ref (sm_ad (sm_w X) 0)), (1, .int a1), (2, .int a2), (3, .long a3), (5, .int l5)] [] := by
  unfold mf_X8_seatsFrom_p133 at h
  refine sm_iinc (lv' := fun v1 => [(5, .int v1), (0, .ref (sm_ad (sm_w X) 0)), (1, .int a1), (2, .int a2), (3, .long a3)]) C 4 dX8_seatsFrom_133 rfl (by decide) (fun _ => rfl) h (fun v1 h => ?_)
  refine sm_goto C 70 dX8_seatsFrom_136 (by decide) ?_
  refine sm_sub (lv' := [(0, .ref (sm_ad (sm_w X) 0)), (1, .int a1), (2, .int a2), (3, .long a3), (5, .int v1)]) [1, 2, 3, 4, 0] rfl ?_
  exact hk70 s0 v1 h
set_option maxRecDepth 4000 in
theorem mk_X8_seatsFrom_p130 {X : sm_VC} {nn : Nat} (C : sm_Cx X prog_10_method_53_code 6 "SmokeGoesToModel" (2 + (nn + 1)) (100 + (nn + 1) * 25) none) (hw : mo_is (sm_w X)) {rec : Int32 → Int32 → Int64 → sm_St → Option (Unit × sm_St)} {a1 : Int32} {a2 : Int32} {a3 : Int64}  {R : Unit × sm_St} (hrec : (∀ (a1 : Int32) (a2 : Int32) (a3 : Int64), sm_CV (sm_w X) (sm_l X) yX8_seatsFrom prog_10_method_53_code 6 none (2 + nn) (100 + nn * 25) [.ref (sm_ad (sm_w X) 0), .int a1, .int a2, .long a3] (fun s => rec a1 a2 a3 s))) {k70 : sm_St → Int32 → Option (Unit × sm_St)} (hk70 : ∀ (s : sm_St) (l5 : Int32), k70 s l5 = some R → sm_V X (sm_QV X R) 6 s 70 [(0, .ref (sm_ad (sm_w X) 0)), (1, .int a1), (2, .int a2), (3, .long a3), (5, .int l5)] []) (s0 : sm_St) (l5 : Int32) (t0 : Int64) (t1 : Int32) (t2 : Int32)  (h : mf_X8_seatsFrom_p130 rec a1 a2 a3 k70 s0 l5 t0 t1 t2 = some R) : sm_V X (sm_QV X R) 6 s0 130 [(0, .ref (sm_ad (sm_w X) 0)), (1, .int a1), (2, .int a2), (3, .long a3), (5, .int l5)] [.long t0, .int t1, .int t2, .ref (sm_ad (sm_w X) 0)] := by
  unfold mf_X8_seatsFrom_p130 at h
  refine sm_callVV (k := 0) C [.int t2, .int t1, .long t0] (hrec t2 t1 t0) gm_X8_seatsFrom gl_M_344 gi_X8_seatsFrom ge_X8_seatsFrom (mob_M hw rfl) rfl ⟨by omega, by omega⟩ rfl (Nat.le_of_ble_eq_true rfl) dX8_seatsFrom_130 h (fun v1 s2 h => ?_)
  exact mk_X8_seatsFrom_p133 C hw hrec hk70 s2 l5 h
set_option maxRecDepth 4000 in
theorem mk_X8_seatsFrom_p70 {X : sm_VC} {nn : Nat} (C : sm_Cx X prog_10_method_53_code 6 "SmokeGoesToModel" (2 + (nn + 1)) (100 + (nn + 1) * 25) none) (hw : mo_is (sm_w X)) {rec : Int32 → Int32 → Int64 → sm_St → Option (Unit × sm_St)} {a1 : Int32} {a2 : Int32} {a3 : Int64}  {R : Unit × sm_St} (hrec : (∀ (a1 : Int32) (a2 : Int32) (a3 : Int64), sm_CV (sm_w X) (sm_l X) yX8_seatsFrom prog_10_method_53_code 6 none (2 + nn) (100 + nn * 25) [.ref (sm_ad (sm_w X) 0), .int a1, .int a2, .long a3] (fun s => rec a1 a2 a3 s)))   : ∀ (n : Nat) (s0 : sm_St) (l5 : Int32) , mf_X8_seatsFrom_p70 rec a1 a2 a3 n s0 l5 = some R → sm_V X (sm_QV X R) 6 s0 70 [(0, .ref (sm_ad (sm_w X) 0)), (1, .int a1), (2, .int a2), (3, .long a3), (5, .int l5)] [] := by
  intro n
  induction n with
  | zero =>
    intro s0 l5 h
    have h : (none : Option (Unit × sm_St)) = some R := h
    cases h
  | succ n ih =>
    intro s0 l5 h
    unfold mf_X8_seatsFrom_p70 at h
    refine sm_iload C 4 dX8_seatsFrom_70 rfl ?_
    refine sm_bipush (v := 8) C dX8_seatsFrom_72 (by decide) ?_
    refine sm_icmp_ge C 139 dX8_seatsFrom_74 (by decide) h (fun h => ?_) (fun h => ?_)
    · exact sm_vret C dX8_seatsFrom_139 h
    · refine sm_iload_n C 2 dX8_seatsFrom_77 rfl rfl ?_
      refine sm_iload C 4 dX8_seatsFrom_78 rfl ?_
      refine sm_ishr C dX8_seatsFrom_80 h (fun v1 h => ?_)
      refine sm_iconst (v := 1) C dX8_seatsFrom_81 (by decide) ?_
      refine sm_iand C dX8_seatsFrom_82 h (fun v2 h => ?_)
      refine sm_if_ne C 133 dX8_seatsFrom_83 (by decide) h (fun h => ?_) (fun h => ?_)
      · exact mk_X8_seatsFrom_p133 C hw hrec ih s0 l5 h
      · refine sm_aload_n C 0 dX8_seatsFrom_86 rfl rfl ?_
        refine mr_M_seats C hw (k := 0) rfl gf_M_69 dX8_seatsFrom_87 ?_
        refine sm_iload_n C 1 dX8_seatsFrom_90 rfl rfl ?_
        refine sm_iload C 4 dX8_seatsFrom_91 rfl ?_
        refine ma_iast C hw (k := 17) rfl rfl dX8_seatsFrom_93 h (fun s3 h => ?_)
        refine sm_aload_n C 0 dX8_seatsFrom_94 rfl rfl ?_
        refine sm_iload_n C 1 dX8_seatsFrom_95 rfl rfl ?_
        refine sm_iconst (v := 1) C dX8_seatsFrom_96 (by decide) ?_
        refine sm_iadd C dX8_seatsFrom_97 h (fun v4 h => ?_)
        refine sm_iload_n C 2 dX8_seatsFrom_98 rfl rfl ?_
        refine sm_iconst (v := 1) C dX8_seatsFrom_99 (by decide) ?_
        refine sm_iload C 4 dX8_seatsFrom_100 rfl ?_
        refine sm_ishl C dX8_seatsFrom_102 h (fun v5 h => ?_)
        refine sm_ior C dX8_seatsFrom_103 h (fun v6 h => ?_)
        refine sm_aload_n C 0 dX8_seatsFrom_104 rfl rfl ?_
        refine mr_M_tents C hw (k := 0) rfl gf_M_123 dX8_seatsFrom_105 h (fun v7 h => ?_)
        refine sm_iload C 4 dX8_seatsFrom_108 rfl ?_
        refine sm_ishr C dX8_seatsFrom_110 h (fun v8 h => ?_)
        refine sm_iconst (v := 1) C dX8_seatsFrom_111 (by decide) ?_
        refine sm_iand C dX8_seatsFrom_112 h (fun v9 h => ?_)
        refine sm_iconst (v := 1) C dX8_seatsFrom_113 (by decide) ?_
        refine sm_icmp_ne C 121 dX8_seatsFrom_114 (by decide) h (fun h => ?_) (fun h => ?_)
        · refine sm_lload_n C 3 dX8_seatsFrom_121 rfl rfl ?_
          refine sm_aload_n C 0 dX8_seatsFrom_122 rfl rfl ?_
          refine mr_M_means C hw (k := 0) rfl gf_M_66 dX8_seatsFrom_123 ?_
          refine sm_iload C 4 dX8_seatsFrom_126 rfl ?_
          refine ma_lald C hw (k := 16) rfl rfl dX8_seatsFrom_128 h (fun v10 h => ?_)
          refine sm_ladd C dX8_seatsFrom_129 h (fun v11 h => ?_)
          exact mk_X8_seatsFrom_p130 C hw hrec ih s3 l5 v11 v6 v4 h
        · refine sm_lload_n C 3 dX8_seatsFrom_117 rfl rfl ?_
          refine sm_goto C 130 dX8_seatsFrom_118 (by decide) ?_
          exact mk_X8_seatsFrom_p130 C hw hrec ih s3 l5 a3 v6 v4 h
set_option maxRecDepth 4000 in
theorem mc_X8_seatsFrom_open {w : sm_WD} {l : Launch} (hw : mo_is w) {nn : Nat} (rec : Int32 → Int32 → Int64 → sm_St → Option (Unit × sm_St)) (a1 : Int32) (a2 : Int32) (a3 : Int64) (hrec : (∀ (a1 : Int32) (a2 : Int32) (a3 : Int64), sm_CV w l yX8_seatsFrom prog_10_method_53_code 6 none (2 + nn) (100 + nn * 25) [.ref (sm_ad w 0), .int a1, .int a2, .long a3] (fun s => rec a1 a2 a3 s))) : sm_CV w l yX8_seatsFrom prog_10_method_53_code 6 none (2 + (nn + 1)) (100 + (nn + 1) * 25) [.ref (sm_ad w 0), .int a1, .int a2, .long a3] (fun s => mf_X8_seatsFrom rec a1 a2 a3 s) := by
  refine sm_CV.of (by decide +kernel) (Nat.le_of_ble_eq_true rfl) (fun X s0 R hXw hXl C h => ?_)
  subst hXw
  subst hXl
  have h : mf_X8_seatsFrom rec a1 a2 a3 s0 = some R := h
  show sm_V X (sm_QV X R) 6 s0 0 [(0, .ref (sm_ad (sm_w X) 0)), (1, .int a1), (2, .int a2), (3, .long a3)] []
  unfold mf_X8_seatsFrom at h
  refine sm_iload_n C 1 dX8_seatsFrom_0 rfl rfl ?_
  refine sm_aload_n C 0 dX8_seatsFrom_1 rfl rfl ?_
  refine mr_M_sitterMany C hw (k := 0) rfl gf_M_101 dX8_seatsFrom_2 h (fun v1 h => ?_)
  refine sm_icmp_ne C 67 dX8_seatsFrom_5 (by decide) h (fun h => ?_) (fun h => ?_)
  · refine sm_iconst (v := 0) C dX8_seatsFrom_67 (by decide) ?_
    refine sm_istore (lv' := [(5, .int (0 : Int32)), (0, .ref (sm_ad (sm_w X) 0)), (1, .int a1), (2, .int a2), (3, .long a3)]) C dX8_seatsFrom_68 (by decide) rfl ?_
    refine sm_sub (lv' := [(0, .ref (sm_ad (sm_w X) 0)), (1, .int a1), (2, .int a2), (3, .long a3), (5, .int (0 : Int32))]) [1, 2, 3, 4, 0] rfl ?_
    exact mk_X8_seatsFrom_p70 C hw hrec sm_F s0 (0 : Int32) h
  · refine sm_aload_n C 0 dX8_seatsFrom_8 rfl rfl ?_
    refine mr_M_isFound C hw (k := 0) rfl gf_M_338 dX8_seatsFrom_9 h (fun v2 h => ?_)
    refine sm_if_eq C 24 dX8_seatsFrom_12 (by decide) h (fun h => ?_) (fun h => ?_)
    · refine sm_sub (lv' := [(0, .ref (sm_ad (sm_w X) 0)), (3, .long a3)]) [0, 3] rfl ?_
      exact mk_X8_seatsFrom_p24 C hw hrec s0 h
    · refine sm_lload_n C 3 dX8_seatsFrom_15 rfl rfl ?_
      refine sm_aload_n C 0 dX8_seatsFrom_16 rfl rfl ?_
      refine mr_M_bestSum C hw (k := 0) rfl gf_M_341 dX8_seatsFrom_17 h (fun v3 h => ?_)
      refine sm_lcmp C dX8_seatsFrom_20 h (fun v4 h => ?_)
      refine sm_if_ge C 66 dX8_seatsFrom_21 (by decide) h (fun h => ?_) (fun h => ?_)
      · exact sm_vret C dX8_seatsFrom_66 h
      · refine sm_sub (lv' := [(0, .ref (sm_ad (sm_w X) 0)), (3, .long a3)]) [0, 3] rfl ?_
        exact mk_X8_seatsFrom_p24 C hw hrec s0 h
noncomputable def mg_seats : Nat → Int32 → Int32 → Int64 → sm_St → Option (Unit × sm_St)
  | 0, _, _, _, _ => none
  | n + 1, a, b, c, s => mf_X8_seatsFrom (mg_seats n) a b c s
set_option maxRecDepth 4000 in
theorem mc_seats {w : sm_WD} {l : Launch} (hw : mo_is w) : ∀ n : Nat, (∀ (a1 : Int32) (a2 : Int32) (a3 : Int64), sm_CV w l yX8_seatsFrom prog_10_method_53_code 6 none (2 + n) (100 + n * 25) [.ref (sm_ad w 0), .int a1, .int a2, .long a3] (fun s => mg_seats n a1 a2 a3 s)) := by
  intro n
  induction n with
  | zero =>
    intro a1 a2 a3 σ R h
    cases h
  | succ n ih =>
    intro a1 a2 a3
    exact mc_X8_seatsFrom_open hw (mg_seats n) a1 a2 a3 ih
noncomputable def mf_X8_seatsFrom_r (a1 a2 : Int32) (a3 : Int64) (s : sm_St) : Option (Unit × sm_St) := mg_seats 64 a1 a2 a3 s
set_option maxRecDepth 4000 in
theorem mc_X8_seatsFrom {w : sm_WD} {l : Launch} (hw : mo_is w) (a1 a2 : Int32) (a3 : Int64) : sm_CV w l yX8_seatsFrom prog_10_method_53_code 6 none (2 + 64) (100 + 64 * 25) [.ref (sm_ad w 0), .int a1, .int a2, .long a3] (fun s => mf_X8_seatsFrom_r a1 a2 a3 s) := mc_seats hw 64 a1 a2 a3
noncomputable def mf_X8_gap (a1 : Int32) (a2 : Int32) (s0 : sm_St) : Option (Int32 × sm_St) :=
  sm_b (a1.toInt64) fun v1 =>
  sm_c (mf_X8_in v1 (1 : Int64) (8 : Int64) s0) fun v2 s3 =>
  if v2 = 0 then (
  some ((-2 : Int32), s3))
  else (
  sm_c (mf_X8_isSitter a2 s3) fun v4 s5 =>
  if v4 = 0 then (
  some ((-2 : Int32), s5))
  else (
  sm_c (mf_X8_spreads a1 s5) fun _ s7 =>
  sm_b (sm_sI s7 0 47 (0 : Int32)) fun s8 =>
  sm_c (mf_X8_seatsFrom_r (0 : Int32) (0 : Int32) (0 : Int64) s8) fun _ s10 =>
  sm_g (sm_in a2 5) <| sm_b (s10.1 18 a2.toNatClampNeg) fun v11 =>
  some (v11, s10)))
set_option maxRecDepth 4000 in
theorem mc_X8_gap {w : sm_WD} {l : Launch} (hw : mo_is w) (a1 : Int32) (a2 : Int32) : sm_CI w l yX8_gap prog_10_method_54_code 3 (some .int) 67 1725 [.ref (sm_ad w 0), .int a1, .int a2] (fun s => mf_X8_gap a1 a2 s) := by
  refine sm_CI.of (by decide +kernel) (Nat.le_of_ble_eq_true rfl) (fun X s0 R hXw hXl C h => ?_)
  subst hXw
  subst hXl
  have h : mf_X8_gap a1 a2 s0 = some R := h
  show sm_V X (sm_QI X R) 3 s0 0 [(0, .ref (sm_ad (sm_w X) 0)), (1, .int a1), (2, .int a2)] []
  unfold mf_X8_gap at h
  refine sm_iload_n C 1 dX8_gap_0 rfl rfl ?_
  refine sm_i2l C dX8_gap_1 h (fun v1 h => ?_)
  refine sm_lconst (v := 1) C dX8_gap_2 (by decide) ?_
  refine sm_ldc2 C gk_M_327 dX8_gap_3 ?_
  refine sm_callSI C [.long v1, .long (1 : Int64), .long (8 : Int64)] (mc_X8_in hw v1 (1 : Int64) (8 : Int64)) gm_X8_in gl_M_104 gs_X8_in rfl ⟨Nat.le_of_ble_eq_true rfl, Nat.le_of_ble_eq_true rfl⟩ rfl (Nat.le_of_ble_eq_true rfl) dX8_gap_6 h (fun v2 s3 h => ?_)
  refine sm_if_eq C 20 dX8_gap_9 (by decide) h (fun h => ?_) (fun h => ?_)
  · refine sm_bipush (v := (-2)) C dX8_gap_20 (by decide) ?_
    exact sm_iret C dX8_gap_22 h
  · refine sm_aload_n C 0 dX8_gap_12 rfl rfl ?_
    refine sm_iload_n C 2 dX8_gap_13 rfl rfl ?_
    refine sm_callVI (k := 0) C [.int a2] (mc_X8_isSitter hw a2) gm_X8_isSitter gl_M_112 gi_X8_isSitter ge_X8_isSitter (mob_M hw rfl) rfl ⟨Nat.le_of_ble_eq_true rfl, Nat.le_of_ble_eq_true rfl⟩ rfl (Nat.le_of_ble_eq_true rfl) dX8_gap_14 h (fun v4 s5 h => ?_)
    refine sm_if_ne C 23 dX8_gap_17 (by decide) h (fun h => ?_) (fun h => ?_)
    · refine sm_aload_n C 0 dX8_gap_23 rfl rfl ?_
      refine sm_iload_n C 1 dX8_gap_24 rfl rfl ?_
      refine sm_callVV (k := 0) C [.int a1] (mc_X8_spreads hw a1) gm_X8_spreads gl_M_331 gi_X8_spreads ge_X8_spreads (mob_M hw rfl) rfl ⟨Nat.le_of_ble_eq_true rfl, Nat.le_of_ble_eq_true rfl⟩ rfl (Nat.le_of_ble_eq_true rfl) dX8_gap_25 h (fun v6 s7 h => ?_)
      refine sm_aload_n C 0 dX8_gap_28 rfl rfl ?_
      refine sm_iconst (v := 0) C dX8_gap_29 (by decide) ?_
      refine mp_M_isFound C hw (k := 0) rfl gf_M_338 dX8_gap_30 (Or.inl rfl) h (fun s8 h => ?_)
      refine sm_aload_n C 0 dX8_gap_33 rfl rfl ?_
      refine sm_iconst (v := 0) C dX8_gap_34 (by decide) ?_
      refine sm_iconst (v := 0) C dX8_gap_35 (by decide) ?_
      refine sm_lconst (v := 0) C dX8_gap_36 (by decide) ?_
      refine sm_callVV (k := 0) C [.int (0 : Int32), .int (0 : Int32), .long (0 : Int64)] (mc_X8_seatsFrom hw (0 : Int32) (0 : Int32) (0 : Int64)) gm_X8_seatsFrom gl_M_344 gi_X8_seatsFrom ge_X8_seatsFrom (mob_M hw rfl) rfl ⟨Nat.le_of_ble_eq_true rfl, Nat.le_of_ble_eq_true rfl⟩ rfl (Nat.le_of_ble_eq_true rfl) dX8_gap_37 h (fun v9 s10 h => ?_)
      refine sm_aload_n C 0 dX8_gap_40 rfl rfl ?_
      refine mr_M_bestSeats C hw (k := 0) rfl gf_M_72 dX8_gap_41 ?_
      refine sm_iload_n C 2 dX8_gap_44 rfl rfl ?_
      refine ma_iald C hw (k := 18) rfl rfl dX8_gap_45 h (fun v11 h => ?_)
      exact sm_iret C dX8_gap_46 h
    · refine sm_bipush (v := (-2)) C dX8_gap_20 (by decide) ?_
      exact sm_iret C dX8_gap_22 h
noncomputable def mf_X8_costOf (a1 : Int32) (s0 : sm_St) : Option (Int32 × sm_St) :=
  sm_c (mf_X8_layAside s0) fun _ s2 =>
  sm_c (mf_X8_nights a1 s2) fun _ s4 =>
  sm_c (mf_X8_takeBack s4) fun _ s6 =>
  sm_c (mf_X8_sumOf 8 s6) fun v7 s8 =>
  some (v7, s8)
set_option maxRecDepth 4000 in
theorem mc_X8_costOf {w : sm_WD} {l : Launch} (hw : mo_is w) (a1 : Int32) : sm_CI w l yX8_costOf prog_10_method_45_code 2 (some .int) 77 1829 [.ref (sm_ad w 0), .int a1] (fun s => mf_X8_costOf a1 s) := by
  refine sm_CI.of (by decide +kernel) (Nat.le_of_ble_eq_true rfl) (fun X s0 R hXw hXl C h => ?_)
  subst hXw
  subst hXl
  have h : mf_X8_costOf a1 s0 = some R := h
  show sm_V X (sm_QI X R) 2 s0 0 [(0, .ref (sm_ad (sm_w X) 0)), (1, .int a1)] []
  unfold mf_X8_costOf at h
  refine sm_aload_n C 0 dX8_costOf_0 rfl rfl ?_
  refine sm_callVV (k := 0) C [] (mc_X8_layAside hw) gm_X8_layAside gl_M_302 gi_X8_layAside ge_X8_layAside (mob_M hw rfl) rfl ⟨Nat.le_of_ble_eq_true rfl, Nat.le_of_ble_eq_true rfl⟩ rfl (Nat.le_of_ble_eq_true rfl) dX8_costOf_1 h (fun v1 s2 h => ?_)
  refine sm_aload_n C 0 dX8_costOf_4 rfl rfl ?_
  refine sm_iload_n C 1 dX8_costOf_5 rfl rfl ?_
  refine sm_callVV (k := 0) C [.int a1] (mc_X8_nights hw a1) gm_X8_nights gl_M_305 gi_X8_nights ge_X8_nights (mob_M hw rfl) rfl ⟨Nat.le_of_ble_eq_true rfl, Nat.le_of_ble_eq_true rfl⟩ rfl (Nat.le_of_ble_eq_true rfl) dX8_costOf_6 h (fun v3 s4 h => ?_)
  refine sm_aload_n C 0 dX8_costOf_9 rfl rfl ?_
  refine sm_callVV (k := 0) C [] (mc_X8_takeBack hw) gm_X8_takeBack gl_M_308 gi_X8_takeBack ge_X8_takeBack (mob_M hw rfl) rfl ⟨Nat.le_of_ble_eq_true rfl, Nat.le_of_ble_eq_true rfl⟩ rfl (Nat.le_of_ble_eq_true rfl) dX8_costOf_10 h (fun v5 s6 h => ?_)
  refine sm_aload_n C 0 dX8_costOf_13 rfl rfl ?_
  refine sm_aload_n C 0 dX8_costOf_14 rfl rfl ?_
  refine mr_M_costs C hw (k := 0) rfl gf_M_41 dX8_costOf_15 ?_
  refine sm_callVI (k := 0) C [.ref (sm_ad (sm_w X) 8)] (mc_X8_sumOf hw 8 rfl) gm_X8_sumOf gl_M_311 gi_X8_sumOf ge_X8_sumOf (mob_M hw rfl) rfl ⟨Nat.le_of_ble_eq_true rfl, Nat.le_of_ble_eq_true rfl⟩ rfl (Nat.le_of_ble_eq_true rfl) dX8_costOf_18 h (fun v7 s8 h => ?_)
  exact sm_iret C dX8_costOf_21 h
