/-! 12.xmain: pure words by program, and their contracts -/
noncomputable def xf_X7_setSmoke (a1 : Int32) (s0 : sm_St) : Option (Int32 × sm_St) :=
  sm_c (xf_X7_isPlace a1 s0) fun v1 s2 =>
  if v1 = 0 then (
  some ((-2 : Int32), s2))
  else (
  sm_b (s2.1 1 0) fun v3 =>
  sm_b (sm_sI s2 1 0 a1) fun s4 =>
  some (v3, s4))
set_option maxRecDepth 4000 in
theorem xc_X7_setSmoke {w : sm_WD} {l : Launch} (hw : xo_is w) (a1 : Int32) : sm_CI w l yX7_setSmoke prog_1_method_3_code 3 (some .int) 3 120 [.ref (sm_ad w 0), .int a1] (fun s => xf_X7_setSmoke a1 s) := by
  refine sm_CI.of (by decide +kernel) (Nat.le_of_ble_eq_true rfl) (fun X s0 R hXw hXl C h => ?_)
  subst hXw
  subst hXl
  have h : xf_X7_setSmoke a1 s0 = some R := h
  show sm_V X (sm_QI X R) 3 s0 0 [(0, .ref (sm_ad (sm_w X) 0)), (1, .int a1)] []
  unfold xf_X7_setSmoke at h
  refine sm_iload_n C 1 dX7_setSmoke_0 rfl rfl ?_
  refine sm_callSI C [.int a1] (xc_X7_isPlace hw a1) gm_X7_isPlace gl_S_108 gs_X7_isPlace rfl ⟨Nat.le_of_ble_eq_true rfl, Nat.le_of_ble_eq_true rfl⟩ rfl (Nat.le_of_ble_eq_true rfl) dX7_setSmoke_1 h (fun v1 s2 h => ?_)
  refine sm_if_ne C 10 dX7_setSmoke_4 (by decide) h (fun h => ?_) (fun h => ?_)
  · refine sm_aload_n C 0 dX7_setSmoke_10 rfl rfl ?_
    refine xr_S_fire C hw (k := 0) rfl gf_S_12 dX7_setSmoke_11 ?_
    refine xr_Fire_smoke C hw (k := 1) rfl gf_S_111 dX7_setSmoke_14 h (fun v3 h => ?_)
    refine sm_istore_n (lv' := [(2, .int v3), (0, .ref (sm_ad (sm_w X) 0)), (1, .int a1)]) C dX7_setSmoke_17 rfl (by decide) rfl ?_
    refine sm_aload_n C 1 dX7_setSmoke_18 rfl rfl ?_
    refine xr_S_fire C hw (k := 0) rfl gf_S_12 dX7_setSmoke_19 ?_
    refine sm_iload_n C 2 dX7_setSmoke_22 rfl rfl ?_
    refine xp_Fire_smoke C hw (k := 1) rfl gf_S_111 dX7_setSmoke_23 h (fun s4 h => ?_)
    refine sm_iload_n C 0 dX7_setSmoke_26 rfl rfl ?_
    exact sm_iret C dX7_setSmoke_27 h
  · refine sm_bipush (v := (-2)) C dX7_setSmoke_7 (by decide) ?_
    exact sm_iret C dX7_setSmoke_9 h
noncomputable def xf_X7_setLeft (a1 : Int32) (s0 : sm_St) : Option (Int32 × sm_St) :=
  if a1 < 0 then (
  some ((-2 : Int32), s0))
  else (
  sm_b (s0.1 1 2) fun v1 =>
  sm_b ((100 : Int32) - v1) fun v2 =>
  if a1 ≤ v2 then (
  sm_b (s0.1 1 1) fun v3 =>
  sm_b (sm_sI s0 1 1 a1) fun s4 =>
  some (v3, s4))
  else (
  some ((-2 : Int32), s0)))
set_option maxRecDepth 4000 in
theorem xc_X7_setLeft {w : sm_WD} {l : Launch} (hw : xo_is w) (a1 : Int32) : sm_CI w l yX7_setLeft prog_1_method_4_code 3 (some .int) 2 100 [.ref (sm_ad w 0), .int a1] (fun s => xf_X7_setLeft a1 s) := by
  refine sm_CI.of (by decide +kernel) (Nat.le_of_ble_eq_true rfl) (fun X s0 R hXw hXl C h => ?_)
  subst hXw
  subst hXl
  have h : xf_X7_setLeft a1 s0 = some R := h
  show sm_V X (sm_QI X R) 3 s0 0 [(0, .ref (sm_ad (sm_w X) 0)), (1, .int a1)] []
  unfold xf_X7_setLeft at h
  refine sm_iload_n C 1 dX7_setLeft_0 rfl rfl ?_
  refine sm_if_lt C 18 dX7_setLeft_1 (by decide) h (fun h => ?_) (fun h => ?_)
  · refine sm_bipush (v := (-2)) C dX7_setLeft_18 (by decide) ?_
    exact sm_iret C dX7_setLeft_20 h
  · refine sm_iload_n C 1 dX7_setLeft_4 rfl rfl ?_
    refine sm_bipush (v := 100) C dX7_setLeft_5 (by decide) ?_
    refine sm_aload_n C 0 dX7_setLeft_7 rfl rfl ?_
    refine xr_S_fire C hw (k := 0) rfl gf_S_12 dX7_setLeft_8 ?_
    refine xr_Fire_right C hw (k := 1) rfl gf_S_114 dX7_setLeft_11 h (fun v1 h => ?_)
    refine sm_isub C dX7_setLeft_14 h (fun v2 h => ?_)
    refine sm_icmp_le C 21 dX7_setLeft_15 (by decide) h (fun h => ?_) (fun h => ?_)
    · refine sm_aload_n C 0 dX7_setLeft_21 rfl rfl ?_
      refine xr_S_fire C hw (k := 0) rfl gf_S_12 dX7_setLeft_22 ?_
      refine xr_Fire_left C hw (k := 1) rfl gf_S_117 dX7_setLeft_25 h (fun v3 h => ?_)
      refine sm_istore_n (lv' := [(2, .int v3), (0, .ref (sm_ad (sm_w X) 0)), (1, .int a1)]) C dX7_setLeft_28 rfl (by decide) rfl ?_
      refine sm_aload_n C 1 dX7_setLeft_29 rfl rfl ?_
      refine xr_S_fire C hw (k := 0) rfl gf_S_12 dX7_setLeft_30 ?_
      refine sm_iload_n C 2 dX7_setLeft_33 rfl rfl ?_
      refine xp_Fire_left C hw (k := 1) rfl gf_S_117 dX7_setLeft_34 h (fun s4 h => ?_)
      refine sm_iload_n C 0 dX7_setLeft_37 rfl rfl ?_
      exact sm_iret C dX7_setLeft_38 h
    · refine sm_bipush (v := (-2)) C dX7_setLeft_18 (by decide) ?_
      exact sm_iret C dX7_setLeft_20 h
noncomputable def xf_X7_setRight (a1 : Int32) (s0 : sm_St) : Option (Int32 × sm_St) :=
  if a1 < 0 then (
  some ((-2 : Int32), s0))
  else (
  sm_b (s0.1 1 1) fun v1 =>
  sm_b ((100 : Int32) - v1) fun v2 =>
  if a1 ≤ v2 then (
  sm_b (s0.1 1 2) fun v3 =>
  sm_b (sm_sI s0 1 2 a1) fun s4 =>
  some (v3, s4))
  else (
  some ((-2 : Int32), s0)))
set_option maxRecDepth 4000 in
theorem xc_X7_setRight {w : sm_WD} {l : Launch} (hw : xo_is w) (a1 : Int32) : sm_CI w l yX7_setRight prog_1_method_5_code 3 (some .int) 2 100 [.ref (sm_ad w 0), .int a1] (fun s => xf_X7_setRight a1 s) := by
  refine sm_CI.of (by decide +kernel) (Nat.le_of_ble_eq_true rfl) (fun X s0 R hXw hXl C h => ?_)
  subst hXw
  subst hXl
  have h : xf_X7_setRight a1 s0 = some R := h
  show sm_V X (sm_QI X R) 3 s0 0 [(0, .ref (sm_ad (sm_w X) 0)), (1, .int a1)] []
  unfold xf_X7_setRight at h
  refine sm_iload_n C 1 dX7_setRight_0 rfl rfl ?_
  refine sm_if_lt C 18 dX7_setRight_1 (by decide) h (fun h => ?_) (fun h => ?_)
  · refine sm_bipush (v := (-2)) C dX7_setRight_18 (by decide) ?_
    exact sm_iret C dX7_setRight_20 h
  · refine sm_iload_n C 1 dX7_setRight_4 rfl rfl ?_
    refine sm_bipush (v := 100) C dX7_setRight_5 (by decide) ?_
    refine sm_aload_n C 0 dX7_setRight_7 rfl rfl ?_
    refine xr_S_fire C hw (k := 0) rfl gf_S_12 dX7_setRight_8 ?_
    refine xr_Fire_left C hw (k := 1) rfl gf_S_117 dX7_setRight_11 h (fun v1 h => ?_)
    refine sm_isub C dX7_setRight_14 h (fun v2 h => ?_)
    refine sm_icmp_le C 21 dX7_setRight_15 (by decide) h (fun h => ?_) (fun h => ?_)
    · refine sm_aload_n C 0 dX7_setRight_21 rfl rfl ?_
      refine xr_S_fire C hw (k := 0) rfl gf_S_12 dX7_setRight_22 ?_
      refine xr_Fire_right C hw (k := 1) rfl gf_S_114 dX7_setRight_25 h (fun v3 h => ?_)
      refine sm_istore_n (lv' := [(2, .int v3), (0, .ref (sm_ad (sm_w X) 0)), (1, .int a1)]) C dX7_setRight_28 rfl (by decide) rfl ?_
      refine sm_aload_n C 1 dX7_setRight_29 rfl rfl ?_
      refine xr_S_fire C hw (k := 0) rfl gf_S_12 dX7_setRight_30 ?_
      refine sm_iload_n C 2 dX7_setRight_33 rfl rfl ?_
      refine xp_Fire_right C hw (k := 1) rfl gf_S_114 dX7_setRight_34 h (fun s4 h => ?_)
      refine sm_iload_n C 0 dX7_setRight_37 rfl rfl ?_
      exact sm_iret C dX7_setRight_38 h
    · refine sm_bipush (v := (-2)) C dX7_setRight_18 (by decide) ?_
      exact sm_iret C dX7_setRight_20 h
noncomputable def xf_X7_setTents (a1 : Int32) (s0 : sm_St) : Option (Int32 × sm_St) :=
  if a1 < 0 then (
  some ((-2 : Int32), s0))
  else (
  if a1 ≤ (255 : Int32) then (
  sm_b (s0.1 1 3) fun v1 =>
  sm_b (sm_sI s0 1 3 a1) fun s2 =>
  some (v1, s2))
  else (
  some ((-2 : Int32), s0)))
set_option maxRecDepth 4000 in
theorem xc_X7_setTents {w : sm_WD} {l : Launch} (hw : xo_is w) (a1 : Int32) : sm_CI w l yX7_setTents prog_1_method_6_code 3 (some .int) 2 100 [.ref (sm_ad w 0), .int a1] (fun s => xf_X7_setTents a1 s) := by
  refine sm_CI.of (by decide +kernel) (Nat.le_of_ble_eq_true rfl) (fun X s0 R hXw hXl C h => ?_)
  subst hXw
  subst hXl
  have h : xf_X7_setTents a1 s0 = some R := h
  show sm_V X (sm_QI X R) 3 s0 0 [(0, .ref (sm_ad (sm_w X) 0)), (1, .int a1)] []
  unfold xf_X7_setTents at h
  refine sm_iload_n C 1 dX7_setTents_0 rfl rfl ?_
  refine sm_if_lt C 11 dX7_setTents_1 (by decide) h (fun h => ?_) (fun h => ?_)
  · refine sm_bipush (v := (-2)) C dX7_setTents_11 (by decide) ?_
    exact sm_iret C dX7_setTents_13 h
  · refine sm_iload_n C 1 dX7_setTents_4 rfl rfl ?_
    refine sm_sipush (v := 255) C dX7_setTents_5 (by decide) ?_
    refine sm_icmp_le C 14 dX7_setTents_8 (by decide) h (fun h => ?_) (fun h => ?_)
    · refine sm_aload_n C 0 dX7_setTents_14 rfl rfl ?_
      refine xr_S_fire C hw (k := 0) rfl gf_S_12 dX7_setTents_15 ?_
      refine xr_Fire_tents C hw (k := 1) rfl gf_S_120 dX7_setTents_18 h (fun v1 h => ?_)
      refine sm_istore_n (lv' := [(2, .int v1), (0, .ref (sm_ad (sm_w X) 0)), (1, .int a1)]) C dX7_setTents_21 rfl (by decide) rfl ?_
      refine sm_aload_n C 1 dX7_setTents_22 rfl rfl ?_
      refine xr_S_fire C hw (k := 0) rfl gf_S_12 dX7_setTents_23 ?_
      refine sm_iload_n C 2 dX7_setTents_26 rfl rfl ?_
      refine xp_Fire_tents C hw (k := 1) rfl gf_S_120 dX7_setTents_27 h (fun s2 h => ?_)
      refine sm_iload_n C 0 dX7_setTents_30 rfl rfl ?_
      exact sm_iret C dX7_setTents_31 h
    · refine sm_bipush (v := (-2)) C dX7_setTents_11 (by decide) ?_
      exact sm_iret C dX7_setTents_13 h
noncomputable def xf_X7_setEddy (a1 : Int32) (s0 : sm_St) : Option (Int32 × sm_St) :=
  if a1 < 0 then (
  some ((-2 : Int32), s0))
  else (
  if a1 ≤ (1 : Int32) then (
  sm_b (s0.1 1 4) fun v1 =>
  sm_b (sm_sI s0 1 4 a1) fun s2 =>
  some (v1, s2))
  else (
  some ((-2 : Int32), s0)))
set_option maxRecDepth 4000 in
theorem xc_X7_setEddy {w : sm_WD} {l : Launch} (hw : xo_is w) (a1 : Int32) : sm_CI w l yX7_setEddy prog_1_method_7_code 3 (some .int) 2 100 [.ref (sm_ad w 0), .int a1] (fun s => xf_X7_setEddy a1 s) := by
  refine sm_CI.of (by decide +kernel) (Nat.le_of_ble_eq_true rfl) (fun X s0 R hXw hXl C h => ?_)
  subst hXw
  subst hXl
  have h : xf_X7_setEddy a1 s0 = some R := h
  show sm_V X (sm_QI X R) 3 s0 0 [(0, .ref (sm_ad (sm_w X) 0)), (1, .int a1)] []
  unfold xf_X7_setEddy at h
  refine sm_iload_n C 1 dX7_setEddy_0 rfl rfl ?_
  refine sm_if_lt C 9 dX7_setEddy_1 (by decide) h (fun h => ?_) (fun h => ?_)
  · refine sm_bipush (v := (-2)) C dX7_setEddy_9 (by decide) ?_
    exact sm_iret C dX7_setEddy_11 h
  · refine sm_iload_n C 1 dX7_setEddy_4 rfl rfl ?_
    refine sm_iconst (v := 1) C dX7_setEddy_5 (by decide) ?_
    refine sm_icmp_le C 12 dX7_setEddy_6 (by decide) h (fun h => ?_) (fun h => ?_)
    · refine sm_aload_n C 0 dX7_setEddy_12 rfl rfl ?_
      refine xr_S_fire C hw (k := 0) rfl gf_S_12 dX7_setEddy_13 ?_
      refine xr_Fire_eddy C hw (k := 1) rfl gf_S_123 dX7_setEddy_16 h (fun v1 h => ?_)
      refine sm_istore_n (lv' := [(2, .int v1), (0, .ref (sm_ad (sm_w X) 0)), (1, .int a1)]) C dX7_setEddy_19 rfl (by decide) rfl ?_
      refine sm_aload_n C 1 dX7_setEddy_20 rfl rfl ?_
      refine xr_S_fire C hw (k := 0) rfl gf_S_12 dX7_setEddy_21 ?_
      refine sm_iload_n C 2 dX7_setEddy_24 rfl rfl ?_
      refine xp_Fire_eddy C hw (k := 1) rfl gf_S_123 dX7_setEddy_25 h (fun s2 h => ?_)
      refine sm_iload_n C 0 dX7_setEddy_28 rfl rfl ?_
      exact sm_iret C dX7_setEddy_29 h
    · refine sm_bipush (v := (-2)) C dX7_setEddy_9 (by decide) ?_
      exact sm_iret C dX7_setEddy_11 h
noncomputable def xf_X7_setNumber (a1 : Int32) (a2 : Int32) (s0 : sm_St) : Option (Int32 × sm_St) :=
  sm_c (xf_X0_has 1 a1 s0) fun v1 s2 =>
  if v1 = 0 then (
  some ((-2 : Int32), s2))
  else (
  if a2 < 0 then (
  some ((-2 : Int32), s2))
  else (
  if a2 ≤ (9 : Int32) then (
  sm_g (sm_in a1 5) <| sm_b (s2.1 7 a1.toNatClampNeg) fun v3 =>
  sm_g (sm_in a1 5) <| sm_b (sm_sI s2 7 a1.toNatClampNeg a2) fun s4 =>
  some (v3, s4))
  else (
  some ((-2 : Int32), s2))))
set_option maxRecDepth 4000 in
theorem xc_X7_setNumber {w : sm_WD} {l : Launch} (hw : xo_is w) (a1 : Int32) (a2 : Int32) : sm_CI w l yX7_setNumber prog_1_method_8_code 4 (some .int) 3 121 [.ref (sm_ad w 0), .int a1, .int a2] (fun s => xf_X7_setNumber a1 a2 s) := by
  refine sm_CI.of (by decide +kernel) (Nat.le_of_ble_eq_true rfl) (fun X s0 R hXw hXl C h => ?_)
  subst hXw
  subst hXl
  have h : xf_X7_setNumber a1 a2 s0 = some R := h
  show sm_V X (sm_QI X R) 4 s0 0 [(0, .ref (sm_ad (sm_w X) 0)), (1, .int a1), (2, .int a2)] []
  unfold xf_X7_setNumber at h
  refine sm_aload_n C 0 dX7_setNumber_0 rfl rfl ?_
  refine xr_S_fire C hw (k := 0) rfl gf_S_12 dX7_setNumber_1 ?_
  refine sm_iload_n C 1 dX7_setNumber_4 rfl rfl ?_
  refine sm_callVI (k := 1) C [.int a1] (xc_X0_has hw 1 a1 rfl) gm_X0_has gl_S_126 gi_X0_has ge_X0_has (xob_Fire hw rfl) rfl ⟨Nat.le_of_ble_eq_true rfl, Nat.le_of_ble_eq_true rfl⟩ rfl (Nat.le_of_ble_eq_true rfl) dX7_setNumber_5 h (fun v1 s2 h => ?_)
  refine sm_if_eq C 21 dX7_setNumber_8 (by decide) h (fun h => ?_) (fun h => ?_)
  · refine sm_bipush (v := (-2)) C dX7_setNumber_21 (by decide) ?_
    exact sm_iret C dX7_setNumber_23 h
  · refine sm_iload_n C 2 dX7_setNumber_11 rfl rfl ?_
    refine sm_if_lt C 21 dX7_setNumber_12 (by decide) h (fun h => ?_) (fun h => ?_)
    · refine sm_bipush (v := (-2)) C dX7_setNumber_21 (by decide) ?_
      exact sm_iret C dX7_setNumber_23 h
    · refine sm_iload_n C 2 dX7_setNumber_15 rfl rfl ?_
      refine sm_bipush (v := 9) C dX7_setNumber_16 (by decide) ?_
      refine sm_icmp_le C 24 dX7_setNumber_18 (by decide) h (fun h => ?_) (fun h => ?_)
      · refine sm_aload_n C 0 dX7_setNumber_24 rfl rfl ?_
        refine xr_S_fire C hw (k := 0) rfl gf_S_12 dX7_setNumber_25 ?_
        refine xr_Fire_numbers C hw (k := 1) rfl gf_S_129 dX7_setNumber_28 ?_
        refine sm_iload_n C 1 dX7_setNumber_31 rfl rfl ?_
        refine xa_iald C hw (k := 7) rfl rfl dX7_setNumber_32 h (fun v3 h => ?_)
        refine sm_istore_n (lv' := [(3, .int v3), (0, .ref (sm_ad (sm_w X) 0)), (1, .int a1), (2, .int a2)]) C dX7_setNumber_33 rfl (by decide) rfl ?_
        refine sm_aload_n C 1 dX7_setNumber_34 rfl rfl ?_
        refine xr_S_fire C hw (k := 0) rfl gf_S_12 dX7_setNumber_35 ?_
        refine xr_Fire_numbers C hw (k := 1) rfl gf_S_129 dX7_setNumber_38 ?_
        refine sm_iload_n C 2 dX7_setNumber_41 rfl rfl ?_
        refine sm_iload_n C 3 dX7_setNumber_42 rfl rfl ?_
        refine xa_iast C hw (k := 7) rfl rfl dX7_setNumber_43 h (fun s4 h => ?_)
        refine sm_iload_n C 0 dX7_setNumber_44 rfl rfl ?_
        exact sm_iret C dX7_setNumber_45 h
      · refine sm_bipush (v := (-2)) C dX7_setNumber_21 (by decide) ?_
        exact sm_iret C dX7_setNumber_23 h
noncomputable def xf_X7_setPlace (a1 : Int32) (a2 : Int32) (s0 : sm_St) : Option (Int32 × sm_St) :=
  sm_c (xf_X0_has 1 a1 s0) fun v1 s2 =>
  if v1 = 0 then (
  some ((-2 : Int32), s2))
  else (
  sm_c (xf_X7_isPlace a2 s2) fun v3 s4 =>
  if v3 = 0 then (
  some ((-2 : Int32), s4))
  else (
  sm_c (xf_X0_isFreeFor 1 a1 a2 s4) fun v5 s6 =>
  if v5 = 0 then (
  some ((-3 : Int32), s6))
  else (
  sm_g (sm_in a1 5) <| sm_b (s6.1 10 a1.toNatClampNeg) fun v7 =>
  sm_g (sm_in a1 5) <| sm_b (sm_sI s6 10 a1.toNatClampNeg a2) fun s8 =>
  some (v7, s8))))
set_option maxRecDepth 4000 in
theorem xc_X7_setPlace {w : sm_WD} {l : Launch} (hw : xo_is w) (a1 : Int32) (a2 : Int32) : sm_CI w l yX7_setPlace prog_1_method_9_code 4 (some .int) 4 145 [.ref (sm_ad w 0), .int a1, .int a2] (fun s => xf_X7_setPlace a1 a2 s) := by
  refine sm_CI.of (by decide +kernel) (Nat.le_of_ble_eq_true rfl) (fun X s0 R hXw hXl C h => ?_)
  subst hXw
  subst hXl
  have h : xf_X7_setPlace a1 a2 s0 = some R := h
  show sm_V X (sm_QI X R) 4 s0 0 [(0, .ref (sm_ad (sm_w X) 0)), (1, .int a1), (2, .int a2)] []
  unfold xf_X7_setPlace at h
  refine sm_aload_n C 0 dX7_setPlace_0 rfl rfl ?_
  refine xr_S_fire C hw (k := 0) rfl gf_S_12 dX7_setPlace_1 ?_
  refine sm_iload_n C 1 dX7_setPlace_4 rfl rfl ?_
  refine sm_callVI (k := 1) C [.int a1] (xc_X0_has hw 1 a1 rfl) gm_X0_has gl_S_126 gi_X0_has ge_X0_has (xob_Fire hw rfl) rfl ⟨Nat.le_of_ble_eq_true rfl, Nat.le_of_ble_eq_true rfl⟩ rfl (Nat.le_of_ble_eq_true rfl) dX7_setPlace_5 h (fun v1 s2 h => ?_)
  refine sm_if_eq C 18 dX7_setPlace_8 (by decide) h (fun h => ?_) (fun h => ?_)
  · refine sm_bipush (v := (-2)) C dX7_setPlace_18 (by decide) ?_
    exact sm_iret C dX7_setPlace_20 h
  · refine sm_iload_n C 2 dX7_setPlace_11 rfl rfl ?_
    refine sm_callSI C [.int a2] (xc_X7_isPlace hw a2) gm_X7_isPlace gl_S_108 gs_X7_isPlace rfl ⟨Nat.le_of_ble_eq_true rfl, Nat.le_of_ble_eq_true rfl⟩ rfl (Nat.le_of_ble_eq_true rfl) dX7_setPlace_12 h (fun v3 s4 h => ?_)
    refine sm_if_ne C 21 dX7_setPlace_15 (by decide) h (fun h => ?_) (fun h => ?_)
    · refine sm_aload_n C 0 dX7_setPlace_21 rfl rfl ?_
      refine xr_S_fire C hw (k := 0) rfl gf_S_12 dX7_setPlace_22 ?_
      refine sm_iload_n C 1 dX7_setPlace_25 rfl rfl ?_
      refine sm_iload_n C 2 dX7_setPlace_26 rfl rfl ?_
      refine sm_callVI (k := 1) C [.int a1, .int a2] (xc_X0_isFreeFor hw 1 a1 a2 rfl) gm_X0_isFreeFor gl_S_133 gi_X0_isFreeFor ge_X0_isFreeFor (xob_Fire hw rfl) rfl ⟨Nat.le_of_ble_eq_true rfl, Nat.le_of_ble_eq_true rfl⟩ rfl (Nat.le_of_ble_eq_true rfl) dX7_setPlace_27 h (fun v5 s6 h => ?_)
      refine sm_if_ne C 36 dX7_setPlace_30 (by decide) h (fun h => ?_) (fun h => ?_)
      · refine sm_aload_n C 0 dX7_setPlace_36 rfl rfl ?_
        refine xr_S_fire C hw (k := 0) rfl gf_S_12 dX7_setPlace_37 ?_
        refine xr_Fire_places C hw (k := 1) rfl gf_S_137 dX7_setPlace_40 ?_
        refine sm_iload_n C 1 dX7_setPlace_43 rfl rfl ?_
        refine xa_iald C hw (k := 10) rfl rfl dX7_setPlace_44 h (fun v7 h => ?_)
        refine sm_istore_n (lv' := [(3, .int v7), (0, .ref (sm_ad (sm_w X) 0)), (1, .int a1), (2, .int a2)]) C dX7_setPlace_45 rfl (by decide) rfl ?_
        refine sm_aload_n C 1 dX7_setPlace_46 rfl rfl ?_
        refine xr_S_fire C hw (k := 0) rfl gf_S_12 dX7_setPlace_47 ?_
        refine xr_Fire_places C hw (k := 1) rfl gf_S_137 dX7_setPlace_50 ?_
        refine sm_iload_n C 2 dX7_setPlace_53 rfl rfl ?_
        refine sm_iload_n C 3 dX7_setPlace_54 rfl rfl ?_
        refine xa_iast C hw (k := 10) rfl rfl dX7_setPlace_55 h (fun s8 h => ?_)
        refine sm_iload_n C 0 dX7_setPlace_56 rfl rfl ?_
        exact sm_iret C dX7_setPlace_57 h
      · refine sm_bipush (v := (-3)) C dX7_setPlace_33 (by decide) ?_
        exact sm_iret C dX7_setPlace_35 h
    · refine sm_bipush (v := (-2)) C dX7_setPlace_18 (by decide) ?_
      exact sm_iret C dX7_setPlace_20 h
noncomputable def xf_X7_set (a1 : Int32) (a2 : Int32) (a3 : Int32) (s0 : sm_St) : Option (Int32 × sm_St) :=
  if a1 = (0 : Int32) then (
  sm_c (xf_X7_setSmoke a3 s0) fun v1 s2 =>
  some (v1, s2))
  else if a1 = (1 : Int32) then (
  sm_c (xf_X7_setLeft a3 s0) fun v3 s4 =>
  some (v3, s4))
  else if a1 = (2 : Int32) then (
  sm_c (xf_X7_setRight a3 s0) fun v5 s6 =>
  some (v5, s6))
  else if a1 = (3 : Int32) then (
  sm_c (xf_X7_setTents a3 s0) fun v7 s8 =>
  some (v7, s8))
  else if a1 = (4 : Int32) then (
  sm_c (xf_X7_setEddy a3 s0) fun v9 s10 =>
  some (v9, s10))
  else if a1 = (5 : Int32) then (
  sm_c (xf_X7_setNumber a2 a3 s0) fun v11 s12 =>
  some (v11, s12))
  else if a1 = (6 : Int32) then (
  sm_c (xf_X7_setPlace a2 a3 s0) fun v13 s14 =>
  some (v13, s14))
  else (
  some ((-2 : Int32), s0))
set_option maxRecDepth 4000 in
theorem xc_X7_set {w : sm_WD} {l : Launch} (hw : xo_is w) (a1 : Int32) (a2 : Int32) (a3 : Int32) : sm_CI w l yX7_set prog_1_method_2_code 4 (some .int) 5 168 [.ref (sm_ad w 0), .int a1, .int a2, .int a3] (fun s => xf_X7_set a1 a2 a3 s) := by
  refine sm_CI.of (by decide +kernel) (Nat.le_of_ble_eq_true rfl) (fun X s0 R hXw hXl C h => ?_)
  subst hXw
  subst hXl
  have h : xf_X7_set a1 a2 a3 s0 = some R := h
  show sm_V X (sm_QI X R) 4 s0 0 [(0, .ref (sm_ad (sm_w X) 0)), (1, .int a1), (2, .int a2), (3, .int a3)] []
  unfold xf_X7_set at h
  refine sm_iload_n C 1 dX7_set_0 rfl rfl ?_
  by_cases q1_0 : a1 = (0 : Int32)
  · rw [if_pos q1_0] at h
    refine sm_tswIn C 43 44 dX7_set_1 (by rw [q1_0]; decide) (by decide) ?_
    refine sm_aload_n C 0 dX7_set_44 rfl rfl ?_
    refine sm_iload_n C 3 dX7_set_45 rfl rfl ?_
    refine sm_callVI (k := 0) C [.int a3] (xc_X7_setSmoke hw a3) gm_X7_setSmoke gl_S_85 gi_X7_setSmoke ge_X7_setSmoke (xob_S hw rfl) rfl ⟨Nat.le_of_ble_eq_true rfl, Nat.le_of_ble_eq_true rfl⟩ rfl (Nat.le_of_ble_eq_true rfl) dX7_set_46 h (fun v1 s2 h => ?_)
    exact sm_iret C dX7_set_49 h
  · rw [if_neg q1_0] at h
    by_cases q1_1 : a1 = (1 : Int32)
    · rw [if_pos q1_1] at h
      refine sm_tswIn C 49 50 dX7_set_1 (by rw [q1_1]; decide) (by decide) ?_
      refine sm_aload_n C 0 dX7_set_50 rfl rfl ?_
      refine sm_iload_n C 3 dX7_set_51 rfl rfl ?_
      refine sm_callVI (k := 0) C [.int a3] (xc_X7_setLeft hw a3) gm_X7_setLeft gl_S_89 gi_X7_setLeft ge_X7_setLeft (xob_S hw rfl) rfl ⟨Nat.le_of_ble_eq_true rfl, Nat.le_of_ble_eq_true rfl⟩ rfl (Nat.le_of_ble_eq_true rfl) dX7_set_52 h (fun v3 s4 h => ?_)
      exact sm_iret C dX7_set_55 h
    · rw [if_neg q1_1] at h
      by_cases q1_2 : a1 = (2 : Int32)
      · rw [if_pos q1_2] at h
        refine sm_tswIn C 55 56 dX7_set_1 (by rw [q1_2]; decide) (by decide) ?_
        refine sm_aload_n C 0 dX7_set_56 rfl rfl ?_
        refine sm_iload_n C 3 dX7_set_57 rfl rfl ?_
        refine sm_callVI (k := 0) C [.int a3] (xc_X7_setRight hw a3) gm_X7_setRight gl_S_92 gi_X7_setRight ge_X7_setRight (xob_S hw rfl) rfl ⟨Nat.le_of_ble_eq_true rfl, Nat.le_of_ble_eq_true rfl⟩ rfl (Nat.le_of_ble_eq_true rfl) dX7_set_58 h (fun v5 s6 h => ?_)
        exact sm_iret C dX7_set_61 h
      · rw [if_neg q1_2] at h
        by_cases q1_3 : a1 = (3 : Int32)
        · rw [if_pos q1_3] at h
          refine sm_tswIn C 61 62 dX7_set_1 (by rw [q1_3]; decide) (by decide) ?_
          refine sm_aload_n C 0 dX7_set_62 rfl rfl ?_
          refine sm_iload_n C 3 dX7_set_63 rfl rfl ?_
          refine sm_callVI (k := 0) C [.int a3] (xc_X7_setTents hw a3) gm_X7_setTents gl_S_95 gi_X7_setTents ge_X7_setTents (xob_S hw rfl) rfl ⟨Nat.le_of_ble_eq_true rfl, Nat.le_of_ble_eq_true rfl⟩ rfl (Nat.le_of_ble_eq_true rfl) dX7_set_64 h (fun v7 s8 h => ?_)
          exact sm_iret C dX7_set_67 h
        · rw [if_neg q1_3] at h
          by_cases q1_4 : a1 = (4 : Int32)
          · rw [if_pos q1_4] at h
            refine sm_tswIn C 67 68 dX7_set_1 (by rw [q1_4]; decide) (by decide) ?_
            refine sm_aload_n C 0 dX7_set_68 rfl rfl ?_
            refine sm_iload_n C 3 dX7_set_69 rfl rfl ?_
            refine sm_callVI (k := 0) C [.int a3] (xc_X7_setEddy hw a3) gm_X7_setEddy gl_S_98 gi_X7_setEddy ge_X7_setEddy (xob_S hw rfl) rfl ⟨Nat.le_of_ble_eq_true rfl, Nat.le_of_ble_eq_true rfl⟩ rfl (Nat.le_of_ble_eq_true rfl) dX7_set_70 h (fun v9 s10 h => ?_)
            exact sm_iret C dX7_set_73 h
          · rw [if_neg q1_4] at h
            by_cases q1_5 : a1 = (5 : Int32)
            · rw [if_pos q1_5] at h
              refine sm_tswIn C 73 74 dX7_set_1 (by rw [q1_5]; decide) (by decide) ?_
              refine sm_aload_n C 0 dX7_set_74 rfl rfl ?_
              refine sm_iload_n C 2 dX7_set_75 rfl rfl ?_
              refine sm_iload_n C 3 dX7_set_76 rfl rfl ?_
              refine sm_callVI (k := 0) C [.int a2, .int a3] (xc_X7_setNumber hw a2 a3) gm_X7_setNumber gl_S_101 gi_X7_setNumber ge_X7_setNumber (xob_S hw rfl) rfl ⟨Nat.le_of_ble_eq_true rfl, Nat.le_of_ble_eq_true rfl⟩ rfl (Nat.le_of_ble_eq_true rfl) dX7_set_77 h (fun v11 s12 h => ?_)
              exact sm_iret C dX7_set_80 h
            · rw [if_neg q1_5] at h
              by_cases q1_6 : a1 = (6 : Int32)
              · rw [if_pos q1_6] at h
                refine sm_tswIn C 80 81 dX7_set_1 (by rw [q1_6]; decide) (by decide) ?_
                refine sm_aload_n C 0 dX7_set_81 rfl rfl ?_
                refine sm_iload_n C 2 dX7_set_82 rfl rfl ?_
                refine sm_iload_n C 3 dX7_set_83 rfl rfl ?_
                refine sm_callVI (k := 0) C [.int a2, .int a3] (xc_X7_setPlace hw a2 a3) gm_X7_setPlace gl_S_105 gi_X7_setPlace ge_X7_setPlace (xob_S hw rfl) rfl ⟨Nat.le_of_ble_eq_true rfl, Nat.le_of_ble_eq_true rfl⟩ rfl (Nat.le_of_ble_eq_true rfl) dX7_set_84 h (fun v13 s14 h => ?_)
                exact sm_iret C dX7_set_87 h
              · rw [if_neg q1_6] at h
                refine sm_tswOut C 88 dX7_set_1 (by have w0 := lv_neT q1_0 (a := 0) rfl; have w1 := lv_neT q1_1 (a := 1) rfl; have w2 := lv_neT q1_2 (a := 2) rfl; have w3 := lv_neT q1_3 (a := 3) rfl; have w4 := lv_neT q1_4 (a := 4) rfl; have w5 := lv_neT q1_5 (a := 5) rfl; have w6 := lv_neT q1_6 (a := 6) rfl; omega) (by decide) ?_
                refine sm_bipush (v := (-2)) C dX7_set_88 (by decide) ?_
                exact sm_iret C dX7_set_90 h
noncomputable def xf_X7_sitter (a1 : Int32) (a2 : Int32) (a3 : Int32) (s0 : sm_St) : Option (Int32 × sm_St) :=
  sm_c (xf_X0_come 1 a1 a2 a3 s0) fun v1 s2 =>
  some (v1, s2)
set_option maxRecDepth 4000 in
theorem xc_X7_sitter {w : sm_WD} {l : Launch} (hw : xo_is w) (a1 : Int32) (a2 : Int32) (a3 : Int32) : sm_CI w l yX7_sitter prog_1_method_10_code 4 (some .int) 4 145 [.ref (sm_ad w 0), .int a1, .int a2, .int a3] (fun s => xf_X7_sitter a1 a2 a3 s) := by
  refine sm_CI.of (by decide +kernel) (Nat.le_of_ble_eq_true rfl) (fun X s0 R hXw hXl C h => ?_)
  subst hXw
  subst hXl
  have h : xf_X7_sitter a1 a2 a3 s0 = some R := h
  show sm_V X (sm_QI X R) 4 s0 0 [(0, .ref (sm_ad (sm_w X) 0)), (1, .int a1), (2, .int a2), (3, .int a3)] []
  unfold xf_X7_sitter at h
  refine sm_aload_n C 0 dX7_sitter_0 rfl rfl ?_
  refine xr_S_fire C hw (k := 0) rfl gf_S_12 dX7_sitter_1 ?_
  refine sm_iload_n C 1 dX7_sitter_4 rfl rfl ?_
  refine sm_iload_n C 2 dX7_sitter_5 rfl rfl ?_
  refine sm_iload_n C 3 dX7_sitter_6 rfl rfl ?_
  refine sm_callVI (k := 1) C [.int a1, .int a2, .int a3] (xc_X0_come hw 1 a1 a2 a3 rfl) gm_X0_come gl_S_140 gi_X0_come ge_X0_come (xob_Fire hw rfl) rfl ⟨Nat.le_of_ble_eq_true rfl, Nat.le_of_ble_eq_true rfl⟩ rfl (Nat.le_of_ble_eq_true rfl) dX7_sitter_7 h (fun v1 s2 h => ?_)
  exact sm_iret C dX7_sitter_10 h
noncomputable def xf_X7_told (a1 : Int32) (a2 : Int32) (s0 : sm_St) : Option (Int32 × sm_St) :=
  sm_c (xf_X0_has 1 a1 s0) fun v1 s2 =>
  if v1 = 0 then (
  some ((-2 : Int32), s2))
  else (
  if a2 < 0 then (
  some ((-2 : Int32), s2))
  else (
  if a2 ≤ (9 : Int32) then (
  sm_g (sm_in a1 5) <| sm_b (s2.1 4 a1.toNatClampNeg) fun v3 =>
  if a2 = (0 : Int32) then (
  some (v3, s2))
  else if a2 = (1 : Int32) then (
  sm_g (sm_in a1 5) <| sm_b (s2.1 7 a1.toNatClampNeg) fun v4 =>
  some (v4, s2))
  else if a2 = (2 : Int32) then (
  sm_g (sm_in a1 5) <| sm_b (s2.1 10 a1.toNatClampNeg) fun v5 =>
  some (v5, s2))
  else if a2 = (3 : Int32) then (
  sm_g (sm_in a1 5) <| sm_b (s2.1 10 a1.toNatClampNeg) fun v6 =>
  sm_c (xf_X1_goes v3 v6 (0 : Int32) s2) fun v7 s8 =>
  some (v7, s8))
  else (
  sm_g (sm_in a1 5) <| sm_b (s2.1 7 a1.toNatClampNeg) fun v9 =>
  sm_b (a2 - (3 : Int32)) fun v10 =>
  sm_c (xf_X1_getsUp v3 v9 v10 s2) fun v11 s12 =>
  if v11 = 0 then (
  some ((0 : Int32), s12))
  else (
  some ((1 : Int32), s12))))
  else (
  some ((-2 : Int32), s2))))
set_option maxRecDepth 4000 in
theorem xc_X7_told {w : sm_WD} {l : Launch} (hw : xo_is w) (a1 : Int32) (a2 : Int32) : sm_CI w l yX7_told prog_1_method_11_code 4 (some .int) 4 142 [.ref (sm_ad w 0), .int a1, .int a2] (fun s => xf_X7_told a1 a2 s) := by
  refine sm_CI.of (by decide +kernel) (Nat.le_of_ble_eq_true rfl) (fun X s0 R hXw hXl C h => ?_)
  subst hXw
  subst hXl
  have h : xf_X7_told a1 a2 s0 = some R := h
  show sm_V X (sm_QI X R) 4 s0 0 [(0, .ref (sm_ad (sm_w X) 0)), (1, .int a1), (2, .int a2)] []
  unfold xf_X7_told at h
  refine sm_aload_n C 0 dX7_told_0 rfl rfl ?_
  refine xr_S_fire C hw (k := 0) rfl gf_S_12 dX7_told_1 ?_
  refine sm_iload_n C 1 dX7_told_4 rfl rfl ?_
  refine sm_callVI (k := 1) C [.int a1] (xc_X0_has hw 1 a1 rfl) gm_X0_has gl_S_126 gi_X0_has ge_X0_has (xob_Fire hw rfl) rfl ⟨Nat.le_of_ble_eq_true rfl, Nat.le_of_ble_eq_true rfl⟩ rfl (Nat.le_of_ble_eq_true rfl) dX7_told_5 h (fun v1 s2 h => ?_)
  refine sm_if_eq C 21 dX7_told_8 (by decide) h (fun h => ?_) (fun h => ?_)
  · refine sm_bipush (v := (-2)) C dX7_told_21 (by decide) ?_
    exact sm_iret C dX7_told_23 h
  · refine sm_iload_n C 2 dX7_told_11 rfl rfl ?_
    refine sm_if_lt C 21 dX7_told_12 (by decide) h (fun h => ?_) (fun h => ?_)
    · refine sm_bipush (v := (-2)) C dX7_told_21 (by decide) ?_
      exact sm_iret C dX7_told_23 h
    · refine sm_iload_n C 2 dX7_told_15 rfl rfl ?_
      refine sm_bipush (v := 9) C dX7_told_16 (by decide) ?_
      refine sm_icmp_le C 24 dX7_told_18 (by decide) h (fun h => ?_) (fun h => ?_)
      · refine sm_aload_n C 0 dX7_told_24 rfl rfl ?_
        refine xr_S_fire C hw (k := 0) rfl gf_S_12 dX7_told_25 ?_
        refine xr_Fire_kinds C hw (k := 1) rfl gf_S_144 dX7_told_28 ?_
        refine sm_iload_n C 1 dX7_told_31 rfl rfl ?_
        refine xa_iald C hw (k := 4) rfl rfl dX7_told_32 h (fun v3 h => ?_)
        refine sm_istore_n (lv' := [(3, .int v3), (0, .ref (sm_ad (sm_w X) 0)), (1, .int a1), (2, .int a2)]) C dX7_told_33 rfl (by decide) rfl ?_
        refine sm_iload_n C 3 dX7_told_34 rfl rfl ?_
        by_cases q35_0 : a2 = (0 : Int32)
        · rw [if_pos q35_0] at h
          refine sm_tswIn C 29 64 dX7_told_35 (by rw [q35_0]; decide) (by decide) ?_
          refine sm_iload_n C 0 dX7_told_64 rfl rfl ?_
          exact sm_iret C dX7_told_65 h
        · rw [if_neg q35_0] at h
          by_cases q35_1 : a2 = (1 : Int32)
          · rw [if_pos q35_1] at h
            refine sm_tswIn C 31 66 dX7_told_35 (by rw [q35_1]; decide) (by decide) ?_
            refine sm_aload_n C 1 dX7_told_66 rfl rfl ?_
            refine xr_S_fire C hw (k := 0) rfl gf_S_12 dX7_told_67 ?_
            refine xr_Fire_numbers C hw (k := 1) rfl gf_S_129 dX7_told_70 ?_
            refine sm_iload_n C 2 dX7_told_73 rfl rfl ?_
            refine xa_iald C hw (k := 7) rfl rfl dX7_told_74 h (fun v4 h => ?_)
            exact sm_iret C dX7_told_75 h
          · rw [if_neg q35_1] at h
            by_cases q35_2 : a2 = (2 : Int32)
            · rw [if_pos q35_2] at h
              refine sm_tswIn C 41 76 dX7_told_35 (by rw [q35_2]; decide) (by decide) ?_
              refine sm_aload_n C 1 dX7_told_76 rfl rfl ?_
              refine xr_S_fire C hw (k := 0) rfl gf_S_12 dX7_told_77 ?_
              refine xr_Fire_places C hw (k := 1) rfl gf_S_137 dX7_told_80 ?_
              refine sm_iload_n C 2 dX7_told_83 rfl rfl ?_
              refine xa_iald C hw (k := 10) rfl rfl dX7_told_84 h (fun v5 h => ?_)
              exact sm_iret C dX7_told_85 h
            · rw [if_neg q35_2] at h
              by_cases q35_3 : a2 = (3 : Int32)
              · rw [if_pos q35_3] at h
                refine sm_tswIn C 51 86 dX7_told_35 (by rw [q35_3]; decide) (by decide) ?_
                refine sm_iload_n C 0 dX7_told_86 rfl rfl ?_
                refine sm_aload_n C 1 dX7_told_87 rfl rfl ?_
                refine xr_S_fire C hw (k := 0) rfl gf_S_12 dX7_told_88 ?_
                refine xr_Fire_places C hw (k := 1) rfl gf_S_137 dX7_told_91 ?_
                refine sm_iload_n C 2 dX7_told_94 rfl rfl ?_
                refine xa_iald C hw (k := 10) rfl rfl dX7_told_95 h (fun v6 h => ?_)
                refine sm_iconst (v := 0) C dX7_told_96 (by decide) ?_
                refine sm_callSI C [.int v3, .int v6, .int (0 : Int32)] (xc_X1_goes hw v3 v6 (0 : Int32)) gm_X1_goes gl_S_147 gs_X1_goes rfl ⟨Nat.le_of_ble_eq_true rfl, Nat.le_of_ble_eq_true rfl⟩ rfl (Nat.le_of_ble_eq_true rfl) dX7_told_97 h (fun v7 s8 h => ?_)
                exact sm_iret C dX7_told_100 h
              · rw [if_neg q35_3] at h
                refine sm_tswOut C 101 dX7_told_35 (by have w0 := lv_neT q35_0 (a := 0) rfl; have w1 := lv_neT q35_1 (a := 1) rfl; have w2 := lv_neT q35_2 (a := 2) rfl; have w3 := lv_neT q35_3 (a := 3) rfl; omega) (by decide) ?_
                refine sm_iload_n C 0 dX7_told_101 rfl rfl ?_
                refine sm_aload_n C 1 dX7_told_102 rfl rfl ?_
                refine xr_S_fire C hw (k := 0) rfl gf_S_12 dX7_told_103 ?_
                refine xr_Fire_numbers C hw (k := 1) rfl gf_S_129 dX7_told_106 ?_
                refine sm_iload_n C 2 dX7_told_109 rfl rfl ?_
                refine xa_iald C hw (k := 7) rfl rfl dX7_told_110 h (fun v9 h => ?_)
                refine sm_iload_n C 3 dX7_told_111 rfl rfl ?_
                refine sm_iconst (v := 3) C dX7_told_112 (by decide) ?_
                refine sm_isub C dX7_told_113 h (fun v10 h => ?_)
                refine sm_callSI C [.int v3, .int v9, .int v10] (xc_X1_getsUp hw v3 v9 v10) gm_X1_getsUp gl_S_152 gs_X1_getsUp rfl ⟨Nat.le_of_ble_eq_true rfl, Nat.le_of_ble_eq_true rfl⟩ rfl (Nat.le_of_ble_eq_true rfl) dX7_told_114 h (fun v11 s12 h => ?_)
                refine sm_if_eq C 124 dX7_told_117 (by decide) h (fun h => ?_) (fun h => ?_)
                · refine sm_iconst (v := 0) C dX7_told_124 (by decide) ?_
                  exact sm_iret C dX7_told_125 h
                · refine sm_iconst (v := 1) C dX7_told_120 (by decide) ?_
                  refine sm_goto C 125 dX7_told_121 (by decide) ?_
                  exact sm_iret C dX7_told_125 h
      · refine sm_bipush (v := (-2)) C dX7_told_21 (by decide) ?_
        exact sm_iret C dX7_told_23 h
noncomputable def xf_X7_feed (a1 : Int32) (s0 : sm_St) : Option (Int32 × sm_St) :=
  if a1 < 0 then (
  some ((-2 : Int32), s0))
  else (
  if a1 ≤ (255 : Int32) then (
  sm_c (xf_X4_add a1 s0) fun v1 s2 =>
  if v1 = 0 then (
  some ((-4 : Int32), s2))
  else (
  sm_b (s2.1 13 0) fun v3 =>
  some (v3, s2)))
  else (
  some ((-2 : Int32), s0)))
set_option maxRecDepth 4000 in
theorem xc_X7_feed {w : sm_WD} {l : Launch} (hw : xo_is w) (a1 : Int32) : sm_CI w l yX7_feed prog_1_method_12_code 2 (some .int) 3 121 [.ref (sm_ad w 0), .int a1] (fun s => xf_X7_feed a1 s) := by
  refine sm_CI.of (by decide +kernel) (Nat.le_of_ble_eq_true rfl) (fun X s0 R hXw hXl C h => ?_)
  subst hXw
  subst hXl
  have h : xf_X7_feed a1 s0 = some R := h
  show sm_V X (sm_QI X R) 2 s0 0 [(0, .ref (sm_ad (sm_w X) 0)), (1, .int a1)] []
  unfold xf_X7_feed at h
  refine sm_iload_n C 1 dX7_feed_0 rfl rfl ?_
  refine sm_if_lt C 11 dX7_feed_1 (by decide) h (fun h => ?_) (fun h => ?_)
  · refine sm_bipush (v := (-2)) C dX7_feed_11 (by decide) ?_
    exact sm_iret C dX7_feed_13 h
  · refine sm_iload_n C 1 dX7_feed_4 rfl rfl ?_
    refine sm_sipush (v := 255) C dX7_feed_5 (by decide) ?_
    refine sm_icmp_le C 14 dX7_feed_8 (by decide) h (fun h => ?_) (fun h => ?_)
    · refine sm_aload_n C 0 dX7_feed_14 rfl rfl ?_
      refine xr_S_reader C hw (k := 0) rfl gf_S_26 dX7_feed_15 ?_
      refine sm_iload_n C 1 dX7_feed_18 rfl rfl ?_
      refine sm_callVI (k := 13) C [.int a1] (xc_X4_add hw a1) gm_X4_add gl_S_74 gi_X4_add ge_X4_add (xob_Reader hw rfl) rfl ⟨Nat.le_of_ble_eq_true rfl, Nat.le_of_ble_eq_true rfl⟩ rfl (Nat.le_of_ble_eq_true rfl) dX7_feed_19 h (fun v1 s2 h => ?_)
      refine sm_if_ne C 28 dX7_feed_22 (by decide) h (fun h => ?_) (fun h => ?_)
      · refine sm_aload_n C 0 dX7_feed_28 rfl rfl ?_
        refine xr_S_reader C hw (k := 0) rfl gf_S_26 dX7_feed_29 ?_
        refine xr_Reader_size C hw (k := 13) rfl gf_S_156 dX7_feed_32 h (fun v3 h => ?_)
        exact sm_iret C dX7_feed_35 h
      · refine sm_bipush (v := (-4)) C dX7_feed_25 (by decide) ?_
        exact sm_iret C dX7_feed_27 h
    · refine sm_bipush (v := (-2)) C dX7_feed_11 (by decide) ?_
      exact sm_iret C dX7_feed_13 h
noncomputable def xf_X7_text (s0 : sm_St) : Option (Int32 × sm_St) :=
  sm_b (s0.1 0 5) fun v1 =>
  if v1 < (6 : Int32) then (
  sm_b (s0.1 0 5) fun v2 =>
  sm_g (sm_in v2 6) <|
  sm_c (xf_X4_read (16 + v2.toNatClampNeg) s0) fun v4 s5 =>
  sm_c (xf_X4_empty s5) fun _ s7 =>
  if v4 = (-1 : Int32) then (
  sm_b (s7.1 0 5) fun v8 =>
  sm_b (v8 + (1 : Int32)) fun v9 =>
  sm_b (sm_sI s7 0 5 v9) fun s10 =>
  sm_b (s10.1 0 5) fun v11 =>
  sm_b (v11 - (1 : Int32)) fun v12 =>
  some (v12, s10))
  else (
  sm_b ((-100 : Int32) - v4) fun v13 =>
  some (v13, s7)))
  else (
  some ((-4 : Int32), s0))
set_option maxRecDepth 4000 in
theorem xc_X7_text {w : sm_WD} {l : Launch} (hw : xo_is w)  : sm_CI w l yX7_text prog_1_method_13_code 2 (some .int) 76 1786 [.ref (sm_ad w 0)] (fun s => xf_X7_text s) := by
  refine sm_CI.of (by decide +kernel) (Nat.le_of_ble_eq_true rfl) (fun X s0 R hXw hXl C h => ?_)
  subst hXw
  subst hXl
  have h : xf_X7_text s0 = some R := h
  show sm_V X (sm_QI X R) 2 s0 0 [(0, .ref (sm_ad (sm_w X) 0))] []
  unfold xf_X7_text at h
  refine sm_aload_n C 0 dX7_text_0 rfl rfl ?_
  refine xr_S_textCount C hw (k := 0) rfl gf_S_36 dX7_text_1 h (fun v1 h => ?_)
  refine sm_bipush (v := 6) C dX7_text_4 (by decide) ?_
  refine sm_icmp_lt C 12 dX7_text_6 (by decide) h (fun h => ?_) (fun h => ?_)
  · refine sm_aload_n C 0 dX7_text_12 rfl rfl ?_
    refine xr_S_reader C hw (k := 0) rfl gf_S_26 dX7_text_13 ?_
    refine sm_aload_n C 0 dX7_text_16 rfl rfl ?_
    refine xr_S_texts C hw (k := 0) rfl gf_S_32 dX7_text_17 ?_
    refine sm_aload_n C 0 dX7_text_20 rfl rfl ?_
    refine xr_S_textCount C hw (k := 0) rfl gf_S_36 dX7_text_21 h (fun v2 h => ?_)
    refine xa_aaldText C hw (k := 15) rfl dX7_text_24 h (fun hb2 h => ?_)
    refine sm_callVI (k := 13) C [.ref (sm_ad (sm_w X) (16 + v2.toNatClampNeg))] (xc_X4_read hw (16 + v2.toNatClampNeg) (xt_texts hb2)) gm_X4_read gl_S_78 gi_X4_read ge_X4_read (xob_Reader hw rfl) rfl ⟨Nat.le_of_ble_eq_true rfl, Nat.le_of_ble_eq_true rfl⟩ rfl (Nat.le_of_ble_eq_true rfl) dX7_text_25 h (fun v4 s5 h => ?_)
    refine sm_istore_n (lv' := [(1, .int v4), (0, .ref (sm_ad (sm_w X) 0))]) C dX7_text_28 rfl (by decide) rfl ?_
    refine sm_aload_n C 1 dX7_text_29 rfl rfl ?_
    refine xr_S_reader C hw (k := 0) rfl gf_S_26 dX7_text_30 ?_
    refine sm_callVV (k := 13) C [] (xc_X4_empty hw) gm_X4_empty gl_S_82 gi_X4_empty ge_X4_empty (xob_Reader hw rfl) rfl ⟨Nat.le_of_ble_eq_true rfl, Nat.le_of_ble_eq_true rfl⟩ rfl (Nat.le_of_ble_eq_true rfl) dX7_text_33 h (fun v6 s7 h => ?_)
    refine sm_iload_n C 0 dX7_text_36 rfl rfl ?_
    refine sm_iconst (v := (-1)) C dX7_text_37 (by decide) ?_
    refine sm_icmp_eq C 46 dX7_text_38 (by decide) h (fun h => ?_) (fun h => ?_)
    · refine sm_aload_n C 1 dX7_text_46 rfl rfl ?_
      refine sm_dup C dX7_text_47 rfl ?_
      refine xr_S_textCount C hw (k := 0) rfl gf_S_36 dX7_text_48 h (fun v8 h => ?_)
      refine sm_iconst (v := 1) C dX7_text_51 (by decide) ?_
      refine sm_iadd C dX7_text_52 h (fun v9 h => ?_)
      refine xp_S_textCount C hw (k := 0) rfl gf_S_36 dX7_text_53 h (fun s10 h => ?_)
      refine sm_aload_n C 1 dX7_text_56 rfl rfl ?_
      refine xr_S_textCount C hw (k := 0) rfl gf_S_36 dX7_text_57 h (fun v11 h => ?_)
      refine sm_iconst (v := 1) C dX7_text_60 (by decide) ?_
      refine sm_isub C dX7_text_61 h (fun v12 h => ?_)
      exact sm_iret C dX7_text_62 h
    · refine sm_bipush (v := (-100)) C dX7_text_41 (by decide) ?_
      refine sm_iload_n C 0 dX7_text_43 rfl rfl ?_
      refine sm_isub C dX7_text_44 h (fun v13 h => ?_)
      exact sm_iret C dX7_text_45 h
  · refine sm_bipush (v := (-4)) C dX7_text_9 (by decide) ?_
    exact sm_iret C dX7_text_11 h
noncomputable def xf_X7_force (a1 : Int32) (s0 : sm_St) : Option (Int32 × sm_St) :=
  if a1 < 0 then (
  some ((-2 : Int32), s0))
  else (
  sm_b (s0.1 0 5) fun v1 =>
  if a1 < v1 then (
  sm_b (s0.1 1 5) fun v2 =>
  sm_b (sm_sI s0 1 5 a1) fun s3 =>
  some (v2, s3))
  else (
  some ((-2 : Int32), s0)))
set_option maxRecDepth 4000 in
theorem xc_X7_force {w : sm_WD} {l : Launch} (hw : xo_is w) (a1 : Int32) : sm_CI w l yX7_force prog_1_method_14_code 3 (some .int) 2 100 [.ref (sm_ad w 0), .int a1] (fun s => xf_X7_force a1 s) := by
  refine sm_CI.of (by decide +kernel) (Nat.le_of_ble_eq_true rfl) (fun X s0 R hXw hXl C h => ?_)
  subst hXw
  subst hXl
  have h : xf_X7_force a1 s0 = some R := h
  show sm_V X (sm_QI X R) 3 s0 0 [(0, .ref (sm_ad (sm_w X) 0)), (1, .int a1)] []
  unfold xf_X7_force at h
  refine sm_iload_n C 1 dX7_force_0 rfl rfl ?_
  refine sm_if_lt C 12 dX7_force_1 (by decide) h (fun h => ?_) (fun h => ?_)
  · refine sm_bipush (v := (-2)) C dX7_force_12 (by decide) ?_
    exact sm_iret C dX7_force_14 h
  · refine sm_iload_n C 1 dX7_force_4 rfl rfl ?_
    refine sm_aload_n C 0 dX7_force_5 rfl rfl ?_
    refine xr_S_textCount C hw (k := 0) rfl gf_S_36 dX7_force_6 h (fun v1 h => ?_)
    refine sm_icmp_lt C 15 dX7_force_9 (by decide) h (fun h => ?_) (fun h => ?_)
    · refine sm_aload_n C 0 dX7_force_15 rfl rfl ?_
      refine xr_S_fire C hw (k := 0) rfl gf_S_12 dX7_force_16 ?_
      refine xr_Fire_rule C hw (k := 1) rfl gf_S_159 dX7_force_19 h (fun v2 h => ?_)
      refine sm_istore_n (lv' := [(2, .int v2), (0, .ref (sm_ad (sm_w X) 0)), (1, .int a1)]) C dX7_force_22 rfl (by decide) rfl ?_
      refine sm_aload_n C 1 dX7_force_23 rfl rfl ?_
      refine xr_S_fire C hw (k := 0) rfl gf_S_12 dX7_force_24 ?_
      refine sm_iload_n C 2 dX7_force_27 rfl rfl ?_
      refine xp_Fire_rule C hw (k := 1) rfl gf_S_159 dX7_force_28 h (fun s3 h => ?_)
      refine sm_iload_n C 0 dX7_force_31 rfl rfl ?_
      exact sm_iret C dX7_force_32 h
    · refine sm_bipush (v := (-2)) C dX7_force_12 (by decide) ?_
      exact sm_iret C dX7_force_14 h
noncomputable def xf_X7_isSheet (a1 : Int32) (s0 : sm_St) : Option (Int32 × sm_St) :=
  if a1 < 0 then (
  some ((0 : Int32), s0))
  else (
  if (4 : Int32) ≤ a1 then (
  some ((0 : Int32), s0))
  else (
  some ((1 : Int32), s0)))
set_option maxRecDepth 4000 in
theorem xc_X7_isSheet {w : sm_WD} {l : Launch} (hw : xo_is w) (a1 : Int32) : sm_CI w l yX7_isSheet prog_1_method_49_code 1 (some .boolean) 2 100 [.int a1] (fun s => xf_X7_isSheet a1 s) := by
  refine sm_CI.of (by decide +kernel) (Nat.le_of_ble_eq_true rfl) (fun X s0 R hXw hXl C h => ?_)
  subst hXw
  subst hXl
  have h : xf_X7_isSheet a1 s0 = some R := h
  show sm_V X (sm_QI X R) 1 s0 0 [(0, .int a1)] []
  unfold xf_X7_isSheet at h
  refine sm_iload_n C 0 dX7_isSheet_0 rfl rfl ?_
  refine sm_if_lt C 13 dX7_isSheet_1 (by decide) h (fun h => ?_) (fun h => ?_)
  · refine sm_iconst (v := 0) C dX7_isSheet_13 (by decide) ?_
    exact sm_zretK C rfl dX7_isSheet_14 h
  · refine sm_iload_n C 0 dX7_isSheet_4 rfl rfl ?_
    refine sm_iconst (v := 4) C dX7_isSheet_5 (by decide) ?_
    refine sm_icmp_ge C 13 dX7_isSheet_6 (by decide) h (fun h => ?_) (fun h => ?_)
    · refine sm_iconst (v := 0) C dX7_isSheet_13 (by decide) ?_
      exact sm_zretK C rfl dX7_isSheet_14 h
    · refine sm_iconst (v := 1) C dX7_isSheet_9 (by decide) ?_
      refine sm_goto C 14 dX7_isSheet_10 (by decide) ?_
      exact sm_zretK C rfl dX7_isSheet_14 h
noncomputable def xf_X7_isNightWhat (a1 : Int32) (s0 : sm_St) : Option (Int32 × sm_St) :=
  if (10 : Int32) ≤ a1 then (
  if (60 : Int32) ≤ a1 then (
  some ((0 : Int32), s0))
  else (
  sm_g (!decide ((10 : Int32) = 0)) <| sm_b (a1 - a1 / (10 : Int32) * (10 : Int32)) fun v1 =>
  sm_c (xf_X0_has 1 v1 s0) fun v2 s3 =>
  if v2 = 0 then (
  some ((0 : Int32), s3))
  else (
  some ((1 : Int32), s3))))
  else (
  if a1 < 0 then (
  some ((0 : Int32), s0))
  else (
  if (3 : Int32) < a1 then (
  some ((0 : Int32), s0))
  else (
  some ((1 : Int32), s0))))
set_option maxRecDepth 4000 in
theorem xc_X7_isNightWhat {w : sm_WD} {l : Launch} (hw : xo_is w) (a1 : Int32) : sm_CI w l yX7_isNightWhat prog_1_method_16_code 2 (some .boolean) 3 121 [.ref (sm_ad w 0), .int a1] (fun s => xf_X7_isNightWhat a1 s) := by
  refine sm_CI.of (by decide +kernel) (Nat.le_of_ble_eq_true rfl) (fun X s0 R hXw hXl C h => ?_)
  subst hXw
  subst hXl
  have h : xf_X7_isNightWhat a1 s0 = some R := h
  show sm_V X (sm_QI X R) 2 s0 0 [(0, .ref (sm_ad (sm_w X) 0)), (1, .int a1)] []
  unfold xf_X7_isNightWhat at h
  refine sm_iload_n C 1 dX7_isNightWhat_0 rfl rfl ?_
  refine sm_bipush (v := 10) C dX7_isNightWhat_1 (by decide) ?_
  refine sm_icmp_ge C 21 dX7_isNightWhat_3 (by decide) h (fun h => ?_) (fun h => ?_)
  · refine sm_iload_n C 1 dX7_isNightWhat_21 rfl rfl ?_
    refine sm_bipush (v := 60) C dX7_isNightWhat_22 (by decide) ?_
    refine sm_icmp_ge C 45 dX7_isNightWhat_24 (by decide) h (fun h => ?_) (fun h => ?_)
    · refine sm_iconst (v := 0) C dX7_isNightWhat_45 (by decide) ?_
      exact sm_zretK C rfl dX7_isNightWhat_46 h
    · refine sm_aload_n C 0 dX7_isNightWhat_27 rfl rfl ?_
      refine xr_S_fire C hw (k := 0) rfl gf_S_12 dX7_isNightWhat_28 ?_
      refine sm_iload_n C 1 dX7_isNightWhat_31 rfl rfl ?_
      refine sm_bipush (v := 10) C dX7_isNightWhat_32 (by decide) ?_
      refine sm_irem C dX7_isNightWhat_34 h (fun v1 h => ?_)
      refine sm_callVI (k := 1) C [.int v1] (xc_X0_has hw 1 v1 rfl) gm_X0_has gl_S_126 gi_X0_has ge_X0_has (xob_Fire hw rfl) rfl ⟨Nat.le_of_ble_eq_true rfl, Nat.le_of_ble_eq_true rfl⟩ rfl (Nat.le_of_ble_eq_true rfl) dX7_isNightWhat_35 h (fun v2 s3 h => ?_)
      refine sm_if_eq C 45 dX7_isNightWhat_38 (by decide) h (fun h => ?_) (fun h => ?_)
      · refine sm_iconst (v := 0) C dX7_isNightWhat_45 (by decide) ?_
        exact sm_zretK C rfl dX7_isNightWhat_46 h
      · refine sm_iconst (v := 1) C dX7_isNightWhat_41 (by decide) ?_
        refine sm_goto C 46 dX7_isNightWhat_42 (by decide) ?_
        exact sm_zretK C rfl dX7_isNightWhat_46 h
  · refine sm_iload_n C 1 dX7_isNightWhat_6 rfl rfl ?_
    refine sm_if_lt C 19 dX7_isNightWhat_7 (by decide) h (fun h => ?_) (fun h => ?_)
    · refine sm_iconst (v := 0) C dX7_isNightWhat_19 (by decide) ?_
      exact sm_zretK C rfl dX7_isNightWhat_20 h
    · refine sm_iload_n C 1 dX7_isNightWhat_10 rfl rfl ?_
      refine sm_iconst (v := 3) C dX7_isNightWhat_11 (by decide) ?_
      refine sm_icmp_gt C 19 dX7_isNightWhat_12 (by decide) h (fun h => ?_) (fun h => ?_)
      · refine sm_iconst (v := 0) C dX7_isNightWhat_19 (by decide) ?_
        exact sm_zretK C rfl dX7_isNightWhat_20 h
      · refine sm_iconst (v := 1) C dX7_isNightWhat_15 (by decide) ?_
        refine sm_goto C 20 dX7_isNightWhat_16 (by decide) ?_
        exact sm_zretK C rfl dX7_isNightWhat_20 h
noncomputable def xf_X7_thinkAsItIs (s0 : sm_St) : Option (Unit × sm_St) :=
  sm_c (xf_X2_begin 1 s0) fun _ s2 =>
  sm_b (s2.1 1 5) fun v3 =>
  sm_g (sm_in v3 6) <|
  sm_c (xf_X2_run (some (16 + v3.toNatClampNeg)) s2) fun _ s6 =>
  some ((), s6)
set_option maxRecDepth 4000 in
theorem xc_X7_thinkAsItIs {w : sm_WD} {l : Launch} (hw : xo_is w)  : sm_CV w l yX7_thinkAsItIs prog_1_method_18_code 1 none 7 221 [.ref (sm_ad w 0)] (fun s => xf_X7_thinkAsItIs s) := by
  refine sm_CV.of (by decide +kernel) (Nat.le_of_ble_eq_true rfl) (fun X s0 R hXw hXl C h => ?_)
  subst hXw
  subst hXl
  have h : xf_X7_thinkAsItIs s0 = some R := h
  show sm_V X (sm_QV X R) 1 s0 0 [(0, .ref (sm_ad (sm_w X) 0))] []
  unfold xf_X7_thinkAsItIs at h
  refine sm_aload_n C 0 dX7_thinkAsItIs_0 rfl rfl ?_
  refine xr_S_thought C hw (k := 0) rfl gf_S_49 dX7_thinkAsItIs_1 ?_
  refine sm_aload_n C 0 dX7_thinkAsItIs_4 rfl rfl ?_
  refine xr_S_fire C hw (k := 0) rfl gf_S_12 dX7_thinkAsItIs_5 ?_
  refine sm_callVV (k := 43) C [.ref (sm_ad (sm_w X) 1)] (xc_X2_begin hw 1 rfl) gm_X2_begin gl_S_200 gi_X2_begin ge_X2_begin (xob_Night hw rfl) rfl ⟨Nat.le_of_ble_eq_true rfl, Nat.le_of_ble_eq_true rfl⟩ rfl (Nat.le_of_ble_eq_true rfl) dX7_thinkAsItIs_8 h (fun v1 s2 h => ?_)
  refine sm_aload_n C 0 dX7_thinkAsItIs_11 rfl rfl ?_
  refine xr_S_thought C hw (k := 0) rfl gf_S_49 dX7_thinkAsItIs_12 ?_
  refine sm_aload_n C 0 dX7_thinkAsItIs_15 rfl rfl ?_
  refine xr_S_texts C hw (k := 0) rfl gf_S_32 dX7_thinkAsItIs_16 ?_
  refine sm_aload_n C 0 dX7_thinkAsItIs_19 rfl rfl ?_
  refine xr_S_fire C hw (k := 0) rfl gf_S_12 dX7_thinkAsItIs_20 ?_
  refine xr_Fire_rule C hw (k := 1) rfl gf_S_159 dX7_thinkAsItIs_23 h (fun v3 h => ?_)
  refine xa_aaldText C hw (k := 15) rfl dX7_thinkAsItIs_26 h (fun hb3 h => ?_)
  refine sm_callVV (k := 43) C [.ref (sm_ad (sm_w X) (16 + v3.toNatClampNeg))] (xc_X2_run hw (some (16 + v3.toNatClampNeg))) gm_X2_run gl_S_204 gi_X2_run ge_X2_run (xob_Night hw rfl) rfl ⟨Nat.le_of_ble_eq_true rfl, Nat.le_of_ble_eq_true rfl⟩ rfl (Nat.le_of_ble_eq_true rfl) dX7_thinkAsItIs_27 h (fun v5 s6 h => ?_)
  exact sm_vret C dX7_thinkAsItIs_30 h
noncomputable def xf_X7_night (a1 : Int32) (a2 : Int32) (s0 : sm_St) : Option (Int32 × sm_St) :=
  sm_c (xf_X7_isSheet a1 s0) fun v1 s2 =>
  if v1 = 0 then (
  some ((-100 : Int32), s2))
  else (
  sm_c (xf_X7_isNightWhat a2 s2) fun v3 s4 =>
  if v3 = 0 then (
  some ((-100 : Int32), s4))
  else (
  sm_g (sm_in a1 4) <|
  sm_c (xf_X5_isMissing (35 + a1.toNatClampNeg) s4) fun v6 s7 =>
  if v6 = 0 then (
  sm_g (sm_in a1 4) <|
  sm_c (xf_X2_takeWinds (35 + a1.toNatClampNeg) s7) fun _ s10 =>
  sm_c (xf_X7_thinkAsItIs s10) fun _ s12 =>
  if (10 : Int32) ≤ a2 then (
  sm_g (!decide ((10 : Int32) = 0)) <| sm_b (a2 / (10 : Int32)) fun v13 =>
  sm_g (!decide ((10 : Int32) = 0)) <| sm_b (a2 - a2 / (10 : Int32) * (10 : Int32)) fun v14 =>
  sm_c (xf_X2_ofOne v13 v14 s12) fun v15 s16 =>
  some (v15, s16))
  else (
  sm_c (xf_X2_ofAll a2 s12) fun v17 s18 =>
  some (v17, s18)))
  else (
  some ((-100 : Int32), s7))))
set_option maxRecDepth 4000 in
theorem xc_X7_night {w : sm_WD} {l : Launch} (hw : xo_is w) (a1 : Int32) (a2 : Int32) : sm_CI w l yX7_night prog_1_method_15_code 3 (some .int) 8 241 [.ref (sm_ad w 0), .int a1, .int a2] (fun s => xf_X7_night a1 a2 s) := by
  refine sm_CI.of (by decide +kernel) (Nat.le_of_ble_eq_true rfl) (fun X s0 R hXw hXl C h => ?_)
  subst hXw
  subst hXl
  have h : xf_X7_night a1 a2 s0 = some R := h
  show sm_V X (sm_QI X R) 3 s0 0 [(0, .ref (sm_ad (sm_w X) 0)), (1, .int a1), (2, .int a2)] []
  unfold xf_X7_night at h
  refine sm_iload_n C 1 dX7_night_0 rfl rfl ?_
  refine sm_callSI C [.int a1] (xc_X7_isSheet hw a1) gm_X7_isSheet gl_S_162 gs_X7_isSheet rfl ⟨Nat.le_of_ble_eq_true rfl, Nat.le_of_ble_eq_true rfl⟩ rfl (Nat.le_of_ble_eq_true rfl) dX7_night_1 h (fun v1 s2 h => ?_)
  refine sm_if_eq C 27 dX7_night_4 (by decide) h (fun h => ?_) (fun h => ?_)
  · refine sm_bipush (v := (-100)) C dX7_night_27 (by decide) ?_
    exact sm_iret C dX7_night_29 h
  · refine sm_aload_n C 0 dX7_night_7 rfl rfl ?_
    refine sm_iload_n C 2 dX7_night_8 rfl rfl ?_
    refine sm_callVI (k := 0) C [.int a2] (xc_X7_isNightWhat hw a2) gm_X7_isNightWhat gl_S_165 gi_X7_isNightWhat ge_X7_isNightWhat (xob_S hw rfl) rfl ⟨Nat.le_of_ble_eq_true rfl, Nat.le_of_ble_eq_true rfl⟩ rfl (Nat.le_of_ble_eq_true rfl) dX7_night_9 h (fun v3 s4 h => ?_)
    refine sm_if_eq C 27 dX7_night_12 (by decide) h (fun h => ?_) (fun h => ?_)
    · refine sm_bipush (v := (-100)) C dX7_night_27 (by decide) ?_
      exact sm_iret C dX7_night_29 h
    · refine sm_aload_n C 0 dX7_night_15 rfl rfl ?_
      refine xr_S_sheets C hw (k := 0) rfl gf_S_42 dX7_night_16 ?_
      refine sm_iload_n C 1 dX7_night_19 rfl rfl ?_
      refine xa_aaldSheet C hw (k := 34) rfl dX7_night_20 h (fun hb4 h => ?_)
      refine sm_callVI (k := (35 + a1.toNatClampNeg)) C [] (xc_X5_isMissing hw (35 + a1.toNatClampNeg) (xt_sheets hb4)) gm_X5_isMissing gl_S_168 gi_X5_isMissing ge_X5_isMissing (xob_Sheet hw (xt_sheets hb4)) rfl ⟨Nat.le_of_ble_eq_true rfl, Nat.le_of_ble_eq_true rfl⟩ rfl (Nat.le_of_ble_eq_true rfl) dX7_night_21 h (fun v6 s7 h => ?_)
      refine sm_if_eq C 30 dX7_night_24 (by decide) h (fun h => ?_) (fun h => ?_)
      · refine sm_aload_n C 0 dX7_night_30 rfl rfl ?_
        refine xr_S_thought C hw (k := 0) rfl gf_S_49 dX7_night_31 ?_
        refine sm_aload_n C 0 dX7_night_34 rfl rfl ?_
        refine xr_S_sheets C hw (k := 0) rfl gf_S_42 dX7_night_35 ?_
        refine sm_iload_n C 1 dX7_night_38 rfl rfl ?_
        refine xa_aaldSheet C hw (k := 34) rfl dX7_night_39 h (fun hb7 h => ?_)
        refine sm_callVV (k := 43) C [.ref (sm_ad (sm_w X) (35 + a1.toNatClampNeg))] (xc_X2_takeWinds hw (35 + a1.toNatClampNeg) (xt_sheets hb7)) gm_X2_takeWinds gl_S_172 gi_X2_takeWinds ge_X2_takeWinds (xob_Night hw rfl) rfl ⟨Nat.le_of_ble_eq_true rfl, Nat.le_of_ble_eq_true rfl⟩ rfl (Nat.le_of_ble_eq_true rfl) dX7_night_40 h (fun v9 s10 h => ?_)
        refine sm_aload_n C 0 dX7_night_43 rfl rfl ?_
        refine sm_callVV (k := 0) C [] (xc_X7_thinkAsItIs hw) gm_X7_thinkAsItIs gl_S_176 gi_X7_thinkAsItIs ge_X7_thinkAsItIs (xob_S hw rfl) rfl ⟨Nat.le_of_ble_eq_true rfl, Nat.le_of_ble_eq_true rfl⟩ rfl (Nat.le_of_ble_eq_true rfl) dX7_night_44 h (fun v11 s12 h => ?_)
        refine sm_iload_n C 2 dX7_night_47 rfl rfl ?_
        refine sm_bipush (v := 10) C dX7_night_48 (by decide) ?_
        refine sm_icmp_ge C 64 dX7_night_50 (by decide) h (fun h => ?_) (fun h => ?_)
        · refine sm_aload_n C 0 dX7_night_64 rfl rfl ?_
          refine xr_S_thought C hw (k := 0) rfl gf_S_49 dX7_night_65 ?_
          refine sm_iload_n C 2 dX7_night_68 rfl rfl ?_
          refine sm_bipush (v := 10) C dX7_night_69 (by decide) ?_
          refine sm_idiv C dX7_night_71 h (fun v13 h => ?_)
          refine sm_iload_n C 2 dX7_night_72 rfl rfl ?_
          refine sm_bipush (v := 10) C dX7_night_73 (by decide) ?_
          refine sm_irem C dX7_night_75 h (fun v14 h => ?_)
          refine sm_callVI (k := 43) C [.int v13, .int v14] (xc_X2_ofOne hw v13 v14) gm_X2_ofOne gl_S_182 gi_X2_ofOne ge_X2_ofOne (xob_Night hw rfl) rfl ⟨Nat.le_of_ble_eq_true rfl, Nat.le_of_ble_eq_true rfl⟩ rfl (Nat.le_of_ble_eq_true rfl) dX7_night_76 h (fun v15 s16 h => ?_)
          exact sm_iret C dX7_night_79 h
        · refine sm_aload_n C 0 dX7_night_53 rfl rfl ?_
          refine xr_S_thought C hw (k := 0) rfl gf_S_49 dX7_night_54 ?_
          refine sm_iload_n C 2 dX7_night_57 rfl rfl ?_
          refine sm_callVI (k := 43) C [.int a2] (xc_X2_ofAll hw a2) gm_X2_ofAll gl_S_179 gi_X2_ofAll ge_X2_ofAll (xob_Night hw rfl) rfl ⟨Nat.le_of_ble_eq_true rfl, Nat.le_of_ble_eq_true rfl⟩ rfl (Nat.le_of_ble_eq_true rfl) dX7_night_58 h (fun v17 s18 h => ?_)
          refine sm_goto C 79 dX7_night_61 (by decide) ?_
          exact sm_iret C dX7_night_79 h
      · refine sm_bipush (v := (-100)) C dX7_night_27 (by decide) ?_
        exact sm_iret C dX7_night_29 h
noncomputable def xf_X7_refusal (a1 : Int32) (s0 : sm_St) : Option (Int32 × sm_St) :=
  sm_c (xf_X7_isSheet a1 s0) fun v1 s2 =>
  if v1 = 0 then (
  some ((-2 : Int32), s2))
  else (
  sm_g (sm_in a1 4) <|
  sm_c (xf_X5_isMissing (35 + a1.toNatClampNeg) s2) fun v4 s5 =>
  if v4 = 0 then (
  some ((0 : Int32), s5))
  else (
  some ((-11 : Int32), s5)))
set_option maxRecDepth 4000 in
theorem xc_X7_refusal {w : sm_WD} {l : Launch} (hw : xo_is w) (a1 : Int32) : sm_CI w l yX7_refusal prog_1_method_51_code 2 (some .int) 3 120 [.ref (sm_ad w 0), .int a1] (fun s => xf_X7_refusal a1 s) := by
  refine sm_CI.of (by decide +kernel) (Nat.le_of_ble_eq_true rfl) (fun X s0 R hXw hXl C h => ?_)
  subst hXw
  subst hXl
  have h : xf_X7_refusal a1 s0 = some R := h
  show sm_V X (sm_QI X R) 2 s0 0 [(0, .ref (sm_ad (sm_w X) 0)), (1, .int a1)] []
  unfold xf_X7_refusal at h
  refine sm_iload_n C 1 dX7_refusal_0 rfl rfl ?_
  refine sm_callSI C [.int a1] (xc_X7_isSheet hw a1) gm_X7_isSheet gl_S_162 gs_X7_isSheet rfl ⟨Nat.le_of_ble_eq_true rfl, Nat.le_of_ble_eq_true rfl⟩ rfl (Nat.le_of_ble_eq_true rfl) dX7_refusal_1 h (fun v1 s2 h => ?_)
  refine sm_if_ne C 10 dX7_refusal_4 (by decide) h (fun h => ?_) (fun h => ?_)
  · refine sm_aload_n C 0 dX7_refusal_10 rfl rfl ?_
    refine xr_S_sheets C hw (k := 0) rfl gf_S_42 dX7_refusal_11 ?_
    refine sm_iload_n C 1 dX7_refusal_14 rfl rfl ?_
    refine xa_aaldSheet C hw (k := 34) rfl dX7_refusal_15 h (fun hb2 h => ?_)
    refine sm_callVI (k := (35 + a1.toNatClampNeg)) C [] (xc_X5_isMissing hw (35 + a1.toNatClampNeg) (xt_sheets hb2)) gm_X5_isMissing gl_S_168 gi_X5_isMissing ge_X5_isMissing (xob_Sheet hw (xt_sheets hb2)) rfl ⟨Nat.le_of_ble_eq_true rfl, Nat.le_of_ble_eq_true rfl⟩ rfl (Nat.le_of_ble_eq_true rfl) dX7_refusal_16 h (fun v4 s5 h => ?_)
    refine sm_if_eq C 27 dX7_refusal_19 (by decide) h (fun h => ?_) (fun h => ?_)
    · refine sm_iconst (v := 0) C dX7_refusal_27 (by decide) ?_
      exact sm_iret C dX7_refusal_28 h
    · refine sm_bipush (v := (-11)) C dX7_refusal_22 (by decide) ?_
      refine sm_goto C 28 dX7_refusal_24 (by decide) ?_
      exact sm_iret C dX7_refusal_28 h
  · refine sm_bipush (v := (-2)) C dX7_refusal_7 (by decide) ?_
    exact sm_iret C dX7_refusal_9 h
noncomputable def xf_X7_sit (a1 : Int32) (s0 : sm_St) : Option (Int32 × sm_St) :=
  sm_c (xf_X7_refusal a1 s0) fun v1 s2 =>
  if v1 = 0 then (
  sm_g (sm_in a1 4) <|
  sm_c (xf_X2_takeWinds (35 + a1.toNatClampNeg) s2) fun _ s5 =>
  sm_c (xf_X7_thinkAsItIs s5) fun _ s7 =>
  sm_b (s7.1 3 0) fun v8 =>
  sm_b (sm_sI s7 1 0 v8) fun s9 =>
  sm_g (sm_cpyok (0 : Int32) (0 : Int32) (5 : Int32) 5 5) <| sm_b (sm_cI s9 12 10 (0 : Int32).toNatClampNeg (0 : Int32).toNatClampNeg (5 : Int32).toNatClampNeg) fun s10 =>
  sm_c (xf_X2_costOfAll s10) fun v11 s12 =>
  some (v11, s12))
  else (
  some (v1, s2))
set_option maxRecDepth 4000 in
theorem xc_X7_sit {w : sm_WD} {l : Launch} (hw : xo_is w) (a1 : Int32) : sm_CI w l yX7_sit prog_1_method_17_code 3 (some .int) 8 241 [.ref (sm_ad w 0), .int a1] (fun s => xf_X7_sit a1 s) := by
  refine sm_CI.of (by decide +kernel) (Nat.le_of_ble_eq_true rfl) (fun X s0 R hXw hXl C h => ?_)
  subst hXw
  subst hXl
  have h : xf_X7_sit a1 s0 = some R := h
  show sm_V X (sm_QI X R) 3 s0 0 [(0, .ref (sm_ad (sm_w X) 0)), (1, .int a1)] []
  unfold xf_X7_sit at h
  refine sm_aload_n C 0 dX7_sit_0 rfl rfl ?_
  refine sm_iload_n C 1 dX7_sit_1 rfl rfl ?_
  refine sm_callVI (k := 0) C [.int a1] (xc_X7_refusal hw a1) gm_X7_refusal gl_S_185 gi_X7_refusal ge_X7_refusal (xob_S hw rfl) rfl ⟨Nat.le_of_ble_eq_true rfl, Nat.le_of_ble_eq_true rfl⟩ rfl (Nat.le_of_ble_eq_true rfl) dX7_sit_2 h (fun v1 s2 h => ?_)
  refine sm_istore_n (lv' := [(2, .int v1), (0, .ref (sm_ad (sm_w X) 0)), (1, .int a1)]) C dX7_sit_5 rfl (by decide) rfl ?_
  refine sm_iload_n C 0 dX7_sit_6 rfl rfl ?_
  refine sm_if_eq C 12 dX7_sit_7 (by decide) h (fun h => ?_) (fun h => ?_)
  · refine sm_aload_n C 1 dX7_sit_12 rfl rfl ?_
    refine xr_S_thought C hw (k := 0) rfl gf_S_49 dX7_sit_13 ?_
    refine sm_aload_n C 1 dX7_sit_16 rfl rfl ?_
    refine xr_S_sheets C hw (k := 0) rfl gf_S_42 dX7_sit_17 ?_
    refine sm_iload_n C 2 dX7_sit_20 rfl rfl ?_
    refine xa_aaldSheet C hw (k := 34) rfl dX7_sit_21 h (fun hb2 h => ?_)
    refine sm_callVV (k := 43) C [.ref (sm_ad (sm_w X) (35 + a1.toNatClampNeg))] (xc_X2_takeWinds hw (35 + a1.toNatClampNeg) (xt_sheets hb2)) gm_X2_takeWinds gl_S_172 gi_X2_takeWinds ge_X2_takeWinds (xob_Night hw rfl) rfl ⟨Nat.le_of_ble_eq_true rfl, Nat.le_of_ble_eq_true rfl⟩ rfl (Nat.le_of_ble_eq_true rfl) dX7_sit_22 h (fun v4 s5 h => ?_)
    refine sm_aload_n C 1 dX7_sit_25 rfl rfl ?_
    refine sm_callVV (k := 0) C [] (xc_X7_thinkAsItIs hw) gm_X7_thinkAsItIs gl_S_176 gi_X7_thinkAsItIs ge_X7_thinkAsItIs (xob_S hw rfl) rfl ⟨Nat.le_of_ble_eq_true rfl, Nat.le_of_ble_eq_true rfl⟩ rfl (Nat.le_of_ble_eq_true rfl) dX7_sit_26 h (fun v6 s7 h => ?_)
    refine sm_aload_n C 1 dX7_sit_29 rfl rfl ?_
    refine xr_S_fire C hw (k := 0) rfl gf_S_12 dX7_sit_30 ?_
    refine sm_aload_n C 1 dX7_sit_33 rfl rfl ?_
    refine xr_S_thought C hw (k := 0) rfl gf_S_49 dX7_sit_34 ?_
    refine xr_Night_now C hw (k := 43) rfl gf_S_188 dX7_sit_37 ?_
    refine xr_Fire_smoke C hw (k := 3) rfl gf_S_111 dX7_sit_40 h (fun v8 h => ?_)
    refine xp_Fire_smoke C hw (k := 1) rfl gf_S_111 dX7_sit_43 h (fun s9 h => ?_)
    refine sm_aload_n C 1 dX7_sit_46 rfl rfl ?_
    refine xr_S_thought C hw (k := 0) rfl gf_S_49 dX7_sit_47 ?_
    refine xr_Night_now C hw (k := 43) rfl gf_S_188 dX7_sit_50 ?_
    refine xr_Fire_places C hw (k := 3) rfl gf_S_137 dX7_sit_53 ?_
    refine sm_iconst (v := 0) C dX7_sit_56 (by decide) ?_
    refine sm_aload_n C 1 dX7_sit_57 rfl rfl ?_
    refine xr_S_fire C hw (k := 0) rfl gf_S_12 dX7_sit_58 ?_
    refine xr_Fire_places C hw (k := 1) rfl gf_S_137 dX7_sit_61 ?_
    refine sm_iconst (v := 0) C dX7_sit_64 (by decide) ?_
    refine sm_iconst (v := 5) C dX7_sit_65 (by decide) ?_
    refine xa_copyi C hw (k := 12) (k1 := 10) rfl rfl rfl rfl gl_S_191 (Nat.le_of_ble_eq_true rfl) (Nat.le_of_ble_eq_true rfl) dX7_sit_66 h (fun s10 h => ?_)
    refine sm_aload_n C 1 dX7_sit_69 rfl rfl ?_
    refine xr_S_thought C hw (k := 0) rfl gf_S_49 dX7_sit_70 ?_
    refine sm_callVI (k := 43) C [] (xc_X2_costOfAll hw) gm_X2_costOfAll gl_S_197 gi_X2_costOfAll ge_X2_costOfAll (xob_Night hw rfl) rfl ⟨Nat.le_of_ble_eq_true rfl, Nat.le_of_ble_eq_true rfl⟩ rfl (Nat.le_of_ble_eq_true rfl) dX7_sit_73 h (fun v11 s12 h => ?_)
    exact sm_iret C dX7_sit_76 h
  · refine sm_iload_n C 0 dX7_sit_10 rfl rfl ?_
    exact sm_iret C dX7_sit_11 h
noncomputable def xf_X7_isPart_p9 (a1 : Int32) (s0 : sm_St) : Option (Int32 × sm_St) :=
  some ((1 : Int32), s0)
noncomputable def xf_X7_isPart (a1 : Int32) (s0 : sm_St) : Option (Int32 × sm_St) :=
  if a1 = 0 then (
  xf_X7_isPart_p9 a1 s0)
  else (
  if a1 = (1 : Int32) then (
  xf_X7_isPart_p9 a1 s0)
  else (
  some ((0 : Int32), s0)))
set_option maxRecDepth 4000 in
theorem xk_X7_isPart_p9 {X : sm_VC} (C : sm_Cx X prog_1_method_48_code 1 "SmokeGoesTo" 2 100 (some .boolean)) (hw : xo_is (sm_w X)) {a1 : Int32}  {R : Int32 × sm_St}   (s0 : sm_St)   (h : xf_X7_isPart_p9 a1 s0 = some R) : sm_V X (sm_QI X R) 1 s0 9 [] [] := by
  unfold xf_X7_isPart_p9 at h
  refine sm_iconst (v := 1) C dX7_isPart_9 (by decide) ?_
  refine sm_goto C 14 dX7_isPart_10 (by decide) ?_
  exact sm_zretK C rfl dX7_isPart_14 h
set_option maxRecDepth 4000 in
theorem xc_X7_isPart {w : sm_WD} {l : Launch} (hw : xo_is w) (a1 : Int32) : sm_CI w l yX7_isPart prog_1_method_48_code 1 (some .boolean) 2 100 [.int a1] (fun s => xf_X7_isPart a1 s) := by
  refine sm_CI.of (by decide +kernel) (Nat.le_of_ble_eq_true rfl) (fun X s0 R hXw hXl C h => ?_)
  subst hXw
  subst hXl
  have h : xf_X7_isPart a1 s0 = some R := h
  show sm_V X (sm_QI X R) 1 s0 0 [(0, .int a1)] []
  unfold xf_X7_isPart at h
  refine sm_iload_n C 0 dX7_isPart_0 rfl rfl ?_
  refine sm_if_eq C 9 dX7_isPart_1 (by decide) h (fun h => ?_) (fun h => ?_)
  · refine sm_sub (lv' := []) [] rfl ?_
    exact xk_X7_isPart_p9 C hw s0 h
  · refine sm_iload_n C 0 dX7_isPart_4 rfl rfl ?_
    refine sm_iconst (v := 1) C dX7_isPart_5 (by decide) ?_
    refine sm_icmp_ne C 13 dX7_isPart_6 (by decide) h (fun h => ?_) (fun h => ?_)
    · refine sm_iconst (v := 0) C dX7_isPart_13 (by decide) ?_
      exact sm_zretK C rfl dX7_isPart_14 h
    · refine sm_sub (lv' := []) [] rfl ?_
      exact xk_X7_isPart_p9 C hw s0 h
noncomputable def xf_X7_commonDivisor_p9 (a1 : Int64) (a2 : Int64) : Nat → sm_St → Int64 → Int64 → Int32 → Option (Int64 × sm_St)
  | 0, _, _, _, _ => none
  | n + 1, s0, l4, l6, l8 =>
  if (1000 : Int32) ≤ l8 then (
  some (l4, s0))
  else (
  sm_b (lg_cmp l6 (0 : Int64)) fun v1 =>
  if v1 = 0 then (
  some (l4, s0))
  else (
  sm_g (!decide (l6 = 0)) <| sm_b (l4 - l4 / l6 * l6) fun v2 =>
  sm_b (l8 + Int32.ofInt 1) fun v3 =>
  (xf_X7_commonDivisor_p9 a1 a2 n) s0 l6 v2 v3))
noncomputable def xf_X7_commonDivisor (a1 : Int64) (a2 : Int64) (s0 : sm_St) : Option (Int64 × sm_St) :=
  xf_X7_commonDivisor_p9 a1 a2 sm_F s0 a1 a2 (0 : Int32)
set_option maxRecDepth 4000 in
theorem xk_X7_commonDivisor_p9 {X : sm_VC} (C : sm_Cx X prog_1_method_54_code 11 "SmokeGoesTo" 2 100 (some .long)) (hw : xo_is (sm_w X)) {a1 : Int64} {a2 : Int64}  {R : Int64 × sm_St}   : ∀ (n : Nat) (s0 : sm_St) (l4 : Int64) (l6 : Int64) (l8 : Int32) , xf_X7_commonDivisor_p9 a1 a2 n s0 l4 l6 l8 = some R → sm_V X (sm_QL X R) 11 s0 9 [(4, .long l4), (6, .long l6), (8, .int l8)] [] := by
  intro n
  induction n with
  | zero =>
    intro s0 l4 l6 l8 h
    have h : (none : Option (Int64 × sm_St)) = some R := h
    cases h
  | succ n ih =>
    intro s0 l4 l6 l8 h
    unfold xf_X7_commonDivisor_p9 at h
    refine sm_iload C 2 dX7_commonDivisor_9 rfl ?_
    refine sm_sipush (v := 1000) C dX7_commonDivisor_11 (by decide) ?_
    refine sm_icmp_ge C 45 dX7_commonDivisor_14 (by decide) h (fun h => ?_) (fun h => ?_)
    · refine sm_lload C 0 dX7_commonDivisor_45 rfl ?_
      exact sm_lret C dX7_commonDivisor_47 h
    · refine sm_lload C 1 dX7_commonDivisor_17 rfl ?_
      refine sm_lconst (v := 0) C dX7_commonDivisor_19 (by decide) ?_
      refine sm_lcmp C dX7_commonDivisor_20 h (fun v1 h => ?_)
      refine sm_if_eq C 45 dX7_commonDivisor_21 (by decide) h (fun h => ?_) (fun h => ?_)
      · refine sm_lload C 0 dX7_commonDivisor_45 rfl ?_
        exact sm_lret C dX7_commonDivisor_47 h
      · refine sm_lload C 0 dX7_commonDivisor_24 rfl ?_
        refine sm_lload C 1 dX7_commonDivisor_26 rfl ?_
        refine sm_lrem C dX7_commonDivisor_28 h (fun v2 h => ?_)
        refine sm_lstore (lv' := [(9, .long v2), (4, .long l4), (6, .long l6), (8, .int l8)]) C dX7_commonDivisor_29 (by decide) rfl ?_
        refine sm_lload C 2 dX7_commonDivisor_31 rfl ?_
        refine sm_lstore (lv' := [(4, .long l6), (9, .long v2), (6, .long l6), (8, .int l8)]) C dX7_commonDivisor_33 (by decide) rfl ?_
        refine sm_lload C 1 dX7_commonDivisor_35 rfl ?_
        refine sm_lstore (lv' := [(6, .long v2), (4, .long l6), (9, .long v2), (8, .int l8)]) C dX7_commonDivisor_37 (by decide) rfl ?_
        refine sm_iinc (lv' := fun v3 => [(8, .int v3), (6, .long v2), (4, .long l6), (9, .long v2)]) C 3 dX7_commonDivisor_39 rfl (by decide) (fun _ => rfl) h (fun v3 h => ?_)
        refine sm_goto C 9 dX7_commonDivisor_42 (by decide) ?_
        refine sm_sub (lv' := [(4, .long l6), (6, .long v2), (8, .int v3)]) [2, 1, 0] rfl ?_
        exact ih s0 l6 v2 v3 h
set_option maxRecDepth 4000 in
theorem xc_X7_commonDivisor {w : sm_WD} {l : Launch} (hw : xo_is w) (a1 : Int64) (a2 : Int64) : sm_CL w l yX7_commonDivisor prog_1_method_54_code 11 (some .long) 2 100 [.long a1, .long a2] (fun s => xf_X7_commonDivisor a1 a2 s) := by
  refine sm_CL.of (by decide +kernel) (Nat.le_of_ble_eq_true rfl) (fun X s0 R hXw hXl C h => ?_)
  subst hXw
  subst hXl
  have h : xf_X7_commonDivisor a1 a2 s0 = some R := h
  show sm_V X (sm_QL X R) 11 s0 0 [(0, .long a1), (2, .long a2)] []
  unfold xf_X7_commonDivisor at h
  refine sm_lload_n C 0 dX7_commonDivisor_0 rfl rfl ?_
  refine sm_lstore (lv' := [(4, .long a1), (0, .long a1), (2, .long a2)]) C dX7_commonDivisor_1 (by decide) rfl ?_
  refine sm_lload_n C 2 dX7_commonDivisor_3 rfl rfl ?_
  refine sm_lstore (lv' := [(6, .long a2), (4, .long a1), (0, .long a1), (2, .long a2)]) C dX7_commonDivisor_4 (by decide) rfl ?_
  refine sm_iconst (v := 0) C dX7_commonDivisor_6 (by decide) ?_
  refine sm_istore (lv' := [(8, .int (0 : Int32)), (6, .long a2), (4, .long a1), (0, .long a1), (2, .long a2)]) C dX7_commonDivisor_7 (by decide) rfl ?_
  refine sm_sub (lv' := [(4, .long a1), (6, .long a2), (8, .int (0 : Int32))]) [2, 1, 0] rfl ?_
  exact xk_X7_commonDivisor_p9 C hw sm_F s0 a1 a2 (0 : Int32) h
noncomputable def xf_X7_lowest (a1 : Int64) (a2 : Int64) (a3 : Int32) (s0 : sm_St) : Option (Int64 × sm_St) :=
  sm_c (xf_X7_commonDivisor a1 a2 s0) fun v1 s2 =>
  sm_b (lg_cmp v1 (0 : Int64)) fun v3 =>
  if v3 = 0 then (
  some ((-4611686018427387904 : Int64), s2))
  else (
  if a3 = 0 then (
  sm_g (!decide (v1 = 0)) <| sm_b (a1 / v1) fun v5 =>
  some (v5, s2))
  else (
  sm_g (!decide (v1 = 0)) <| sm_b (a2 / v1) fun v4 =>
  some (v4, s2)))
set_option maxRecDepth 4000 in
theorem xc_X7_lowest {w : sm_WD} {l : Launch} (hw : xo_is w) (a1 : Int64) (a2 : Int64) (a3 : Int32) : sm_CL w l yX7_lowest prog_1_method_53_code 7 (some .long) 3 130 [.long a1, .long a2, .int a3] (fun s => xf_X7_lowest a1 a2 a3 s) := by
  refine sm_CL.of (by decide +kernel) (Nat.le_of_ble_eq_true rfl) (fun X s0 R hXw hXl C h => ?_)
  subst hXw
  subst hXl
  have h : xf_X7_lowest a1 a2 a3 s0 = some R := h
  show sm_V X (sm_QL X R) 7 s0 0 [(0, .long a1), (2, .long a2), (4, .int a3)] []
  unfold xf_X7_lowest at h
  refine sm_lload_n C 0 dX7_lowest_0 rfl rfl ?_
  refine sm_lload_n C 1 dX7_lowest_1 rfl rfl ?_
  refine sm_callSL C [.long a1, .long a2] (xc_X7_commonDivisor hw a1 a2) gm_X7_commonDivisor gl_S_321 gs_X7_commonDivisor rfl ⟨Nat.le_of_ble_eq_true rfl, Nat.le_of_ble_eq_true rfl⟩ rfl (Nat.le_of_ble_eq_true rfl) dX7_lowest_2 h (fun v1 s2 h => ?_)
  refine sm_lstore (lv' := [(5, .long v1), (0, .long a1), (2, .long a2), (4, .int a3)]) C dX7_lowest_5 (by decide) rfl ?_
  refine sm_lload C 0 dX7_lowest_7 rfl ?_
  refine sm_lconst (v := 0) C dX7_lowest_9 (by decide) ?_
  refine sm_lcmp C dX7_lowest_10 h (fun v3 h => ?_)
  refine sm_if_ne C 18 dX7_lowest_11 (by decide) h (fun h => ?_) (fun h => ?_)
  · refine sm_iload C 3 dX7_lowest_18 rfl ?_
    refine sm_if_ne C 27 dX7_lowest_20 (by decide) h (fun h => ?_) (fun h => ?_)
    · refine sm_lload_n C 2 dX7_lowest_27 rfl rfl ?_
      refine sm_lload C 0 dX7_lowest_28 rfl ?_
      refine sm_ldiv C dX7_lowest_30 h (fun v4 h => ?_)
      exact sm_lret C dX7_lowest_31 h
    · refine sm_lload_n C 1 dX7_lowest_23 rfl rfl ?_
      refine sm_goto C 28 dX7_lowest_24 (by decide) ?_
      refine sm_lload C 0 dX7_lowest_28 rfl ?_
      refine sm_ldiv C dX7_lowest_30 h (fun v5 h => ?_)
      exact sm_lret C dX7_lowest_31 h
  · refine sm_ldc2 C gk_S_211 dX7_lowest_14 ?_
    exact sm_lret C dX7_lowest_17 h
noncomputable def xf_X7_likely (a1 : Int32) (a2 : Int32) (a3 : Int32) (s0 : sm_St) : Option (Int64 × sm_St) :=
  if a1 < 0 then (
  some ((-4611686018427387904 : Int64), s0))
  else (
  if (8 : Int32) < a1 then (
  some ((-4611686018427387904 : Int64), s0))
  else (
  sm_c (xf_X7_isPlace a2 s0) fun v1 s2 =>
  if v1 = 0 then (
  some ((-4611686018427387904 : Int64), s2))
  else (
  sm_c (xf_X7_isPart a3 s2) fun v3 s4 =>
  if v3 = 0 then (
  some ((-4611686018427387904 : Int64), s4))
  else (
  sm_c (xf_X3_spread 1 a1 s4) fun _ s6 =>
  sm_g (sm_in a2 8) <| sm_b (s6.2.1 53 a2.toNatClampNeg) fun v7 =>
  sm_b (s6.2.1 52 2) fun v8 =>
  sm_c (xf_X7_lowest v7 v8 a3 s6) fun v9 s10 =>
  some (v9, s10)))))
set_option maxRecDepth 4000 in
theorem xc_X7_likely {w : sm_WD} {l : Launch} (hw : xo_is w) (a1 : Int32) (a2 : Int32) (a3 : Int32) : sm_CL w l yX7_likely prog_1_method_19_code 4 (some .long) 5 166 [.ref (sm_ad w 0), .int a1, .int a2, .int a3] (fun s => xf_X7_likely a1 a2 a3 s) := by
  refine sm_CL.of (by decide +kernel) (Nat.le_of_ble_eq_true rfl) (fun X s0 R hXw hXl C h => ?_)
  subst hXw
  subst hXl
  have h : xf_X7_likely a1 a2 a3 s0 = some R := h
  show sm_V X (sm_QL X R) 4 s0 0 [(0, .ref (sm_ad (sm_w X) 0)), (1, .int a1), (2, .int a2), (3, .int a3)] []
  unfold xf_X7_likely at h
  refine sm_iload_n C 1 dX7_likely_0 rfl rfl ?_
  refine sm_if_lt C 24 dX7_likely_1 (by decide) h (fun h => ?_) (fun h => ?_)
  · refine sm_ldc2 C gk_S_211 dX7_likely_24 ?_
    exact sm_lret C dX7_likely_27 h
  · refine sm_iload_n C 1 dX7_likely_4 rfl rfl ?_
    refine sm_bipush (v := 8) C dX7_likely_5 (by decide) ?_
    refine sm_icmp_gt C 24 dX7_likely_7 (by decide) h (fun h => ?_) (fun h => ?_)
    · refine sm_ldc2 C gk_S_211 dX7_likely_24 ?_
      exact sm_lret C dX7_likely_27 h
    · refine sm_iload_n C 2 dX7_likely_10 rfl rfl ?_
      refine sm_callSI C [.int a2] (xc_X7_isPlace hw a2) gm_X7_isPlace gl_S_108 gs_X7_isPlace rfl ⟨Nat.le_of_ble_eq_true rfl, Nat.le_of_ble_eq_true rfl⟩ rfl (Nat.le_of_ble_eq_true rfl) dX7_likely_11 h (fun v1 s2 h => ?_)
      refine sm_if_eq C 24 dX7_likely_14 (by decide) h (fun h => ?_) (fun h => ?_)
      · refine sm_ldc2 C gk_S_211 dX7_likely_24 ?_
        exact sm_lret C dX7_likely_27 h
      · refine sm_iload_n C 3 dX7_likely_17 rfl rfl ?_
        refine sm_callSI C [.int a3] (xc_X7_isPart hw a3) gm_X7_isPart gl_S_208 gs_X7_isPart rfl ⟨Nat.le_of_ble_eq_true rfl, Nat.le_of_ble_eq_true rfl⟩ rfl (Nat.le_of_ble_eq_true rfl) dX7_likely_18 h (fun v3 s4 h => ?_)
        refine sm_if_ne C 28 dX7_likely_21 (by decide) h (fun h => ?_) (fun h => ?_)
        · refine sm_aload_n C 0 dX7_likely_28 rfl rfl ?_
          refine xr_S_odds C hw (k := 0) rfl gf_S_56 dX7_likely_29 ?_
          refine sm_aload_n C 0 dX7_likely_32 rfl rfl ?_
          refine xr_S_fire C hw (k := 0) rfl gf_S_12 dX7_likely_33 ?_
          refine sm_iload_n C 1 dX7_likely_36 rfl rfl ?_
          refine sm_callVV (k := 52) C [.ref (sm_ad (sm_w X) 1), .int a1] (xc_X3_spread hw 1 a1 rfl) gm_X3_spread gl_S_213 gi_X3_spread ge_X3_spread (xob_Odds hw rfl) rfl ⟨Nat.le_of_ble_eq_true rfl, Nat.le_of_ble_eq_true rfl⟩ rfl (Nat.le_of_ble_eq_true rfl) dX7_likely_37 h (fun v5 s6 h => ?_)
          refine sm_aload_n C 0 dX7_likely_40 rfl rfl ?_
          refine xr_S_odds C hw (k := 0) rfl gf_S_56 dX7_likely_41 ?_
          refine xr_Odds_at C hw (k := 52) rfl gf_S_217 dX7_likely_44 ?_
          refine sm_iload_n C 2 dX7_likely_47 rfl rfl ?_
          refine xa_lald C hw (k := 53) rfl rfl dX7_likely_48 h (fun v7 h => ?_)
          refine sm_aload_n C 0 dX7_likely_49 rfl rfl ?_
          refine xr_S_odds C hw (k := 0) rfl gf_S_56 dX7_likely_50 ?_
          refine xr_Odds_below C hw (k := 52) rfl gf_S_221 dX7_likely_53 h (fun v8 h => ?_)
          refine sm_iload_n C 3 dX7_likely_56 rfl rfl ?_
          refine sm_callSL C [.long v7, .long v8, .int a3] (xc_X7_lowest hw v7 v8 a3) gm_X7_lowest gl_S_225 gs_X7_lowest rfl ⟨Nat.le_of_ble_eq_true rfl, Nat.le_of_ble_eq_true rfl⟩ rfl (Nat.le_of_ble_eq_true rfl) dX7_likely_57 h (fun v9 s10 h => ?_)
          exact sm_lret C dX7_likely_60 h
        · refine sm_ldc2 C gk_S_211 dX7_likely_24 ?_
          exact sm_lret C dX7_likely_27 h
noncomputable def xf_X7_isMeanMinutes (a1 : Int32) (s0 : sm_St) : Option (Int32 × sm_St) :=
  if a1 < (1 : Int32) then (
  some ((0 : Int32), s0))
  else (
  if (8 : Int32) < a1 then (
  some ((0 : Int32), s0))
  else (
  some ((1 : Int32), s0)))
set_option maxRecDepth 4000 in
theorem xc_X7_isMeanMinutes {w : sm_WD} {l : Launch} (hw : xo_is w) (a1 : Int32) : sm_CI w l yX7_isMeanMinutes prog_1_method_50_code 1 (some .boolean) 2 100 [.int a1] (fun s => xf_X7_isMeanMinutes a1 s) := by
  refine sm_CI.of (by decide +kernel) (Nat.le_of_ble_eq_true rfl) (fun X s0 R hXw hXl C h => ?_)
  subst hXw
  subst hXl
  have h : xf_X7_isMeanMinutes a1 s0 = some R := h
  show sm_V X (sm_QI X R) 1 s0 0 [(0, .int a1)] []
  unfold xf_X7_isMeanMinutes at h
  refine sm_iload_n C 0 dX7_isMeanMinutes_0 rfl rfl ?_
  refine sm_iconst (v := 1) C dX7_isMeanMinutes_1 (by decide) ?_
  refine sm_icmp_lt C 15 dX7_isMeanMinutes_2 (by decide) h (fun h => ?_) (fun h => ?_)
  · refine sm_iconst (v := 0) C dX7_isMeanMinutes_15 (by decide) ?_
    exact sm_zretK C rfl dX7_isMeanMinutes_16 h
  · refine sm_iload_n C 0 dX7_isMeanMinutes_5 rfl rfl ?_
    refine sm_bipush (v := 8) C dX7_isMeanMinutes_6 (by decide) ?_
    refine sm_icmp_gt C 15 dX7_isMeanMinutes_8 (by decide) h (fun h => ?_) (fun h => ?_)
    · refine sm_iconst (v := 0) C dX7_isMeanMinutes_15 (by decide) ?_
      exact sm_zretK C rfl dX7_isMeanMinutes_16 h
    · refine sm_iconst (v := 1) C dX7_isMeanMinutes_11 (by decide) ?_
      refine sm_goto C 16 dX7_isMeanMinutes_12 (by decide) ?_
      exact sm_zretK C rfl dX7_isMeanMinutes_16 h
noncomputable def xf_X7_mean (a1 : Int32) (a2 : Int32) (a3 : Int32) (s0 : sm_St) : Option (Int64 × sm_St) :=
  sm_c (xf_X7_isMeanMinutes a1 s0) fun v1 s2 =>
  if v1 = 0 then (
  some ((-4611686018427387904 : Int64), s2))
  else (
  sm_c (xf_X7_isPlace a2 s2) fun v3 s4 =>
  if v3 = 0 then (
  some ((-4611686018427387904 : Int64), s4))
  else (
  sm_c (xf_X7_isPart a3 s4) fun v5 s6 =>
  if v5 = 0 then (
  some ((-4611686018427387904 : Int64), s6))
  else (
  sm_c (xf_X3_spread 1 a1 s6) fun _ s8 =>
  sm_g (sm_in a2 8) <| sm_b (s8.2.1 54 a2.toNatClampNeg) fun v9 =>
  sm_b (s8.2.1 52 2) fun v10 =>
  sm_c (xf_X7_lowest v9 v10 a3 s8) fun v11 s12 =>
  some (v11, s12))))
set_option maxRecDepth 4000 in
theorem xc_X7_mean {w : sm_WD} {l : Launch} (hw : xo_is w) (a1 : Int32) (a2 : Int32) (a3 : Int32) : sm_CL w l yX7_mean prog_1_method_20_code 4 (some .long) 5 166 [.ref (sm_ad w 0), .int a1, .int a2, .int a3] (fun s => xf_X7_mean a1 a2 a3 s) := by
  refine sm_CL.of (by decide +kernel) (Nat.le_of_ble_eq_true rfl) (fun X s0 R hXw hXl C h => ?_)
  subst hXw
  subst hXl
  have h : xf_X7_mean a1 a2 a3 s0 = some R := h
  show sm_V X (sm_QL X R) 4 s0 0 [(0, .ref (sm_ad (sm_w X) 0)), (1, .int a1), (2, .int a2), (3, .int a3)] []
  unfold xf_X7_mean at h
  refine sm_iload_n C 1 dX7_mean_0 rfl rfl ?_
  refine sm_callSI C [.int a1] (xc_X7_isMeanMinutes hw a1) gm_X7_isMeanMinutes gl_S_229 gs_X7_isMeanMinutes rfl ⟨Nat.le_of_ble_eq_true rfl, Nat.le_of_ble_eq_true rfl⟩ rfl (Nat.le_of_ble_eq_true rfl) dX7_mean_1 h (fun v1 s2 h => ?_)
  refine sm_if_eq C 21 dX7_mean_4 (by decide) h (fun h => ?_) (fun h => ?_)
  · refine sm_ldc2 C gk_S_211 dX7_mean_21 ?_
    exact sm_lret C dX7_mean_24 h
  · refine sm_iload_n C 2 dX7_mean_7 rfl rfl ?_
    refine sm_callSI C [.int a2] (xc_X7_isPlace hw a2) gm_X7_isPlace gl_S_108 gs_X7_isPlace rfl ⟨Nat.le_of_ble_eq_true rfl, Nat.le_of_ble_eq_true rfl⟩ rfl (Nat.le_of_ble_eq_true rfl) dX7_mean_8 h (fun v3 s4 h => ?_)
    refine sm_if_eq C 21 dX7_mean_11 (by decide) h (fun h => ?_) (fun h => ?_)
    · refine sm_ldc2 C gk_S_211 dX7_mean_21 ?_
      exact sm_lret C dX7_mean_24 h
    · refine sm_iload_n C 3 dX7_mean_14 rfl rfl ?_
      refine sm_callSI C [.int a3] (xc_X7_isPart hw a3) gm_X7_isPart gl_S_208 gs_X7_isPart rfl ⟨Nat.le_of_ble_eq_true rfl, Nat.le_of_ble_eq_true rfl⟩ rfl (Nat.le_of_ble_eq_true rfl) dX7_mean_15 h (fun v5 s6 h => ?_)
      refine sm_if_ne C 25 dX7_mean_18 (by decide) h (fun h => ?_) (fun h => ?_)
      · refine sm_aload_n C 0 dX7_mean_25 rfl rfl ?_
        refine xr_S_odds C hw (k := 0) rfl gf_S_56 dX7_mean_26 ?_
        refine sm_aload_n C 0 dX7_mean_29 rfl rfl ?_
        refine xr_S_fire C hw (k := 0) rfl gf_S_12 dX7_mean_30 ?_
        refine sm_iload_n C 1 dX7_mean_33 rfl rfl ?_
        refine sm_callVV (k := 52) C [.ref (sm_ad (sm_w X) 1), .int a1] (xc_X3_spread hw 1 a1 rfl) gm_X3_spread gl_S_213 gi_X3_spread ge_X3_spread (xob_Odds hw rfl) rfl ⟨Nat.le_of_ble_eq_true rfl, Nat.le_of_ble_eq_true rfl⟩ rfl (Nat.le_of_ble_eq_true rfl) dX7_mean_34 h (fun v7 s8 h => ?_)
        refine sm_aload_n C 0 dX7_mean_37 rfl rfl ?_
        refine xr_S_odds C hw (k := 0) rfl gf_S_56 dX7_mean_38 ?_
        refine xr_Odds_together C hw (k := 52) rfl gf_S_232 dX7_mean_41 ?_
        refine sm_iload_n C 2 dX7_mean_44 rfl rfl ?_
        refine xa_lald C hw (k := 54) rfl rfl dX7_mean_45 h (fun v9 h => ?_)
        refine sm_aload_n C 0 dX7_mean_46 rfl rfl ?_
        refine xr_S_odds C hw (k := 0) rfl gf_S_56 dX7_mean_47 ?_
        refine xr_Odds_below C hw (k := 52) rfl gf_S_221 dX7_mean_50 h (fun v10 h => ?_)
        refine sm_iload_n C 3 dX7_mean_53 rfl rfl ?_
        refine sm_callSL C [.long v9, .long v10, .int a3] (xc_X7_lowest hw v9 v10 a3) gm_X7_lowest gl_S_225 gs_X7_lowest rfl ⟨Nat.le_of_ble_eq_true rfl, Nat.le_of_ble_eq_true rfl⟩ rfl (Nat.le_of_ble_eq_true rfl) dX7_mean_54 h (fun v11 s12 h => ?_)
        exact sm_lret C dX7_mean_57 h
      · refine sm_ldc2 C gk_S_211 dX7_mean_21 ?_
        exact sm_lret C dX7_mean_24 h
noncomputable def xf_X7_seat_p104 (a1 : Int32) (a2 : Int32) (k38 : sm_St → Int32 → Int32 → Option (Int32 × sm_St)) (s0 : sm_St) (l3 : Int32) (l4 : Int32) : Option (Int32 × sm_St) :=
  sm_b (l4 + Int32.ofInt 1) fun v1 =>
  k38 s0 l3 v1
noncomputable def xf_X7_seat_p101 (a1 : Int32) (a2 : Int32) (k38 : sm_St → Int32 → Int32 → Option (Int32 × sm_St)) (s0 : sm_St) (l4 : Int32) : Option (Int32 × sm_St) :=
  xf_X7_seat_p104 a1 a2 k38 s0 l4 l4
noncomputable def xf_X7_seat_p38 (a1 : Int32) (a2 : Int32) : Nat → sm_St → Int32 → Int32 → Option (Int32 × sm_St)
  | 0, _, _, _ => none
  | n + 1, s0, l3, l4 =>
  if (8 : Int32) ≤ l4 then (
  some (l3, s0))
  else (
  sm_c (xf_X0_hasTent 1 l4 s0) fun v1 s2 =>
  if v1 = 0 then (
  sm_c (xf_X0_isFreeFor 1 a1 l4 s2) fun v3 s4 =>
  if v3 = 0 then (
  xf_X7_seat_p104 a1 a2 (xf_X7_seat_p38 a1 a2 n) s4 l3 l4)
  else (
  if l3 = (-1 : Int32) then (
  xf_X7_seat_p101 a1 a2 (xf_X7_seat_p38 a1 a2 n) s4 l4)
  else (
  sm_g (sm_in l4 8) <| sm_b (s4.2.1 54 l4.toNatClampNeg) fun v5 =>
  sm_g (sm_in l3 8) <| sm_b (s4.2.1 54 l3.toNatClampNeg) fun v6 =>
  sm_b (lg_cmp v5 v6) fun v7 =>
  if 0 ≤ v7 then (
  xf_X7_seat_p104 a1 a2 (xf_X7_seat_p38 a1 a2 n) s4 l3 l4)
  else (
  xf_X7_seat_p101 a1 a2 (xf_X7_seat_p38 a1 a2 n) s4 l4))))
  else (
  xf_X7_seat_p104 a1 a2 (xf_X7_seat_p38 a1 a2 n) s2 l3 l4))
noncomputable def xf_X7_seat (a1 : Int32) (a2 : Int32) (s0 : sm_St) : Option (Int32 × sm_St) :=
  sm_c (xf_X0_has 1 a1 s0) fun v1 s2 =>
  if v1 = 0 then (
  some ((-2 : Int32), s2))
  else (
  sm_c (xf_X7_isMeanMinutes a2 s2) fun v3 s4 =>
  if v3 = 0 then (
  some ((-2 : Int32), s4))
  else (
  sm_c (xf_X3_spread 1 a2 s4) fun _ s6 =>
  xf_X7_seat_p38 a1 a2 sm_F s6 (-1 : Int32) (0 : Int32)))
set_option maxRecDepth 4000 in
theorem xk_X7_seat_p104 {X : sm_VC} (C : sm_Cx X prog_1_method_21_code 5 "SmokeGoesTo" 5 166 (some .int)) (hw : xo_is (sm_w X)) {a1 : Int32} {a2 : Int32}  {R : Int32 × sm_St} {k38 : sm_St → Int32 → Int32 → Option (Int32 × sm_St)} (hk38 : ∀ (s : sm_St) (l3 : Int32) (l4 : Int32), k38 s l3 l4 = some R → sm_V X (sm_QI X R) 5 s 38 [(0, .ref (sm_ad (sm_w X) 0)), (1, .int a1), (3, .int l3), (4, .int l4)] []) (s0 : sm_St) (l3 : Int32) (l4 : Int32)  (h : xf_X7_seat_p104 a1 a2 k38 s0 l3 l4 = some R) : sm_V X (sm_QI X R) 5 s0 104 [(0, .ref (sm_ad (sm_w X) 0)), (1, .int a1), (3, .int l3), (4, .int l4)] [] := by
  unfold xf_X7_seat_p104 at h
  refine sm_iinc (lv' := fun v1 => [(4, .int v1), (0, .ref (sm_ad (sm_w X) 0)), (1, .int a1), (3, .int l3)]) C 3 dX7_seat_104 rfl (by decide) (fun _ => rfl) h (fun v1 h => ?_)
  refine sm_goto C 38 dX7_seat_107 (by decide) ?_
  refine sm_sub (lv' := [(0, .ref (sm_ad (sm_w X) 0)), (1, .int a1), (3, .int l3), (4, .int v1)]) [1, 2, 3, 0] rfl ?_
  exact hk38 s0 l3 v1 h
set_option maxRecDepth 4000 in
theorem xk_X7_seat_p101 {X : sm_VC} (C : sm_Cx X prog_1_method_21_code 5 "SmokeGoesTo" 5 166 (some .int)) (hw : xo_is (sm_w X)) {a1 : Int32} {a2 : Int32}  {R : Int32 × sm_St} {k38 : sm_St → Int32 → Int32 → Option (Int32 × sm_St)} (hk38 : ∀ (s : sm_St) (l3 : Int32) (l4 : Int32), k38 s l3 l4 = some R → sm_V X (sm_QI X R) 5 s 38 [(0, .ref (sm_ad (sm_w X) 0)), (1, .int a1), (3, .int l3), (4, .int l4)] []) (s0 : sm_St) (l4 : Int32)  (h : xf_X7_seat_p101 a1 a2 k38 s0 l4 = some R) : sm_V X (sm_QI X R) 5 s0 101 [(0, .ref (sm_ad (sm_w X) 0)), (1, .int a1), (4, .int l4)] [] := by
  unfold xf_X7_seat_p101 at h
  refine sm_iload C 2 dX7_seat_101 rfl ?_
  refine sm_istore_n (lv' := [(3, .int l4), (0, .ref (sm_ad (sm_w X) 0)), (1, .int a1), (4, .int l4)]) C dX7_seat_103 rfl (by decide) rfl ?_
  refine sm_sub (lv' := [(0, .ref (sm_ad (sm_w X) 0)), (1, .int a1), (3, .int l4), (4, .int l4)]) [1, 2, 0, 3] rfl ?_
  exact xk_X7_seat_p104 C hw hk38 s0 l4 l4 h
set_option maxRecDepth 4000 in
theorem xk_X7_seat_p38 {X : sm_VC} (C : sm_Cx X prog_1_method_21_code 5 "SmokeGoesTo" 5 166 (some .int)) (hw : xo_is (sm_w X)) {a1 : Int32} {a2 : Int32}  {R : Int32 × sm_St}   : ∀ (n : Nat) (s0 : sm_St) (l3 : Int32) (l4 : Int32) , xf_X7_seat_p38 a1 a2 n s0 l3 l4 = some R → sm_V X (sm_QI X R) 5 s0 38 [(0, .ref (sm_ad (sm_w X) 0)), (1, .int a1), (3, .int l3), (4, .int l4)] [] := by
  intro n
  induction n with
  | zero =>
    intro s0 l3 l4 h
    have h : (none : Option (Int32 × sm_St)) = some R := h
    cases h
  | succ n ih =>
    intro s0 l3 l4 h
    unfold xf_X7_seat_p38 at h
    refine sm_iload C 3 dX7_seat_38 rfl ?_
    refine sm_bipush (v := 8) C dX7_seat_40 (by decide) ?_
    refine sm_icmp_ge C 110 dX7_seat_42 (by decide) h (fun h => ?_) (fun h => ?_)
    · refine sm_iload_n C 2 dX7_seat_110 rfl rfl ?_
      exact sm_iret C dX7_seat_111 h
    · refine sm_aload_n C 0 dX7_seat_45 rfl rfl ?_
      refine xr_S_fire C hw (k := 0) rfl gf_S_12 dX7_seat_46 ?_
      refine sm_iload C 3 dX7_seat_49 rfl ?_
      refine sm_callVI (k := 1) C [.int l4] (xc_X0_hasTent hw 1 l4 rfl) gm_X0_hasTent gl_S_235 gi_X0_hasTent ge_X0_hasTent (xob_Fire hw rfl) rfl ⟨Nat.le_of_ble_eq_true rfl, Nat.le_of_ble_eq_true rfl⟩ rfl (Nat.le_of_ble_eq_true rfl) dX7_seat_51 h (fun v1 s2 h => ?_)
      refine sm_if_ne C 104 dX7_seat_54 (by decide) h (fun h => ?_) (fun h => ?_)
      · exact xk_X7_seat_p104 C hw ih s2 l3 l4 h
      · refine sm_aload_n C 0 dX7_seat_57 rfl rfl ?_
        refine xr_S_fire C hw (k := 0) rfl gf_S_12 dX7_seat_58 ?_
        refine sm_iload_n C 1 dX7_seat_61 rfl rfl ?_
        refine sm_iload C 3 dX7_seat_62 rfl ?_
        refine sm_callVI (k := 1) C [.int a1, .int l4] (xc_X0_isFreeFor hw 1 a1 l4 rfl) gm_X0_isFreeFor gl_S_133 gi_X0_isFreeFor ge_X0_isFreeFor (xob_Fire hw rfl) rfl ⟨Nat.le_of_ble_eq_true rfl, Nat.le_of_ble_eq_true rfl⟩ rfl (Nat.le_of_ble_eq_true rfl) dX7_seat_64 h (fun v3 s4 h => ?_)
        refine sm_if_ne C 73 dX7_seat_67 (by decide) h (fun h => ?_) (fun h => ?_)
        · refine sm_iload_n C 2 dX7_seat_73 rfl rfl ?_
          refine sm_iconst (v := (-1)) C dX7_seat_74 (by decide) ?_
          refine sm_icmp_eq C 101 dX7_seat_75 (by decide) h (fun h => ?_) (fun h => ?_)
          · refine sm_sub (lv' := [(0, .ref (sm_ad (sm_w X) 0)), (1, .int a1), (4, .int l4)]) [0, 1, 3] rfl ?_
            exact xk_X7_seat_p101 C hw ih s4 l4 h
          · refine sm_aload_n C 0 dX7_seat_78 rfl rfl ?_
            refine xr_S_odds C hw (k := 0) rfl gf_S_56 dX7_seat_79 ?_
            refine xr_Odds_together C hw (k := 52) rfl gf_S_232 dX7_seat_82 ?_
            refine sm_iload C 3 dX7_seat_85 rfl ?_
            refine xa_lald C hw (k := 54) rfl rfl dX7_seat_87 h (fun v5 h => ?_)
            refine sm_aload_n C 0 dX7_seat_88 rfl rfl ?_
            refine xr_S_odds C hw (k := 0) rfl gf_S_56 dX7_seat_89 ?_
            refine xr_Odds_together C hw (k := 52) rfl gf_S_232 dX7_seat_92 ?_
            refine sm_iload_n C 2 dX7_seat_95 rfl rfl ?_
            refine xa_lald C hw (k := 54) rfl rfl dX7_seat_96 h (fun v6 h => ?_)
            refine sm_lcmp C dX7_seat_97 h (fun v7 h => ?_)
            refine sm_if_ge C 104 dX7_seat_98 (by decide) h (fun h => ?_) (fun h => ?_)
            · exact xk_X7_seat_p104 C hw ih s4 l3 l4 h
            · refine sm_sub (lv' := [(0, .ref (sm_ad (sm_w X) 0)), (1, .int a1), (4, .int l4)]) [0, 1, 3] rfl ?_
              exact xk_X7_seat_p101 C hw ih s4 l4 h
        · refine sm_goto C 104 dX7_seat_70 (by decide) ?_
          exact xk_X7_seat_p104 C hw ih s4 l3 l4 h
set_option maxRecDepth 4000 in
theorem xc_X7_seat {w : sm_WD} {l : Launch} (hw : xo_is w) (a1 : Int32) (a2 : Int32) : sm_CI w l yX7_seat prog_1_method_21_code 5 (some .int) 5 166 [.ref (sm_ad w 0), .int a1, .int a2] (fun s => xf_X7_seat a1 a2 s) := by
  refine sm_CI.of (by decide +kernel) (Nat.le_of_ble_eq_true rfl) (fun X s0 R hXw hXl C h => ?_)
  subst hXw
  subst hXl
  have h : xf_X7_seat a1 a2 s0 = some R := h
  show sm_V X (sm_QI X R) 5 s0 0 [(0, .ref (sm_ad (sm_w X) 0)), (1, .int a1), (2, .int a2)] []
  unfold xf_X7_seat at h
  refine sm_aload_n C 0 dX7_seat_0 rfl rfl ?_
  refine xr_S_fire C hw (k := 0) rfl gf_S_12 dX7_seat_1 ?_
  refine sm_iload_n C 1 dX7_seat_4 rfl rfl ?_
  refine sm_callVI (k := 1) C [.int a1] (xc_X0_has hw 1 a1 rfl) gm_X0_has gl_S_126 gi_X0_has ge_X0_has (xob_Fire hw rfl) rfl ⟨Nat.le_of_ble_eq_true rfl, Nat.le_of_ble_eq_true rfl⟩ rfl (Nat.le_of_ble_eq_true rfl) dX7_seat_5 h (fun v1 s2 h => ?_)
  refine sm_if_eq C 18 dX7_seat_8 (by decide) h (fun h => ?_) (fun h => ?_)
  · refine sm_bipush (v := (-2)) C dX7_seat_18 (by decide) ?_
    exact sm_iret C dX7_seat_20 h
  · refine sm_iload_n C 2 dX7_seat_11 rfl rfl ?_
    refine sm_callSI C [.int a2] (xc_X7_isMeanMinutes hw a2) gm_X7_isMeanMinutes gl_S_229 gs_X7_isMeanMinutes rfl ⟨Nat.le_of_ble_eq_true rfl, Nat.le_of_ble_eq_true rfl⟩ rfl (Nat.le_of_ble_eq_true rfl) dX7_seat_12 h (fun v3 s4 h => ?_)
    refine sm_if_ne C 21 dX7_seat_15 (by decide) h (fun h => ?_) (fun h => ?_)
    · refine sm_aload_n C 0 dX7_seat_21 rfl rfl ?_
      refine xr_S_odds C hw (k := 0) rfl gf_S_56 dX7_seat_22 ?_
      refine sm_aload_n C 0 dX7_seat_25 rfl rfl ?_
      refine xr_S_fire C hw (k := 0) rfl gf_S_12 dX7_seat_26 ?_
      refine sm_iload_n C 2 dX7_seat_29 rfl rfl ?_
      refine sm_callVV (k := 52) C [.ref (sm_ad (sm_w X) 1), .int a2] (xc_X3_spread hw 1 a2 rfl) gm_X3_spread gl_S_213 gi_X3_spread ge_X3_spread (xob_Odds hw rfl) rfl ⟨Nat.le_of_ble_eq_true rfl, Nat.le_of_ble_eq_true rfl⟩ rfl (Nat.le_of_ble_eq_true rfl) dX7_seat_30 h (fun v5 s6 h => ?_)
      refine sm_iconst (v := (-1)) C dX7_seat_33 (by decide) ?_
      refine sm_istore_n (lv' := [(3, .int (-1 : Int32)), (0, .ref (sm_ad (sm_w X) 0)), (1, .int a1), (2, .int a2)]) C dX7_seat_34 rfl (by decide) rfl ?_
      refine sm_iconst (v := 0) C dX7_seat_35 (by decide) ?_
      refine sm_istore (lv' := [(4, .int (0 : Int32)), (3, .int (-1 : Int32)), (0, .ref (sm_ad (sm_w X) 0)), (1, .int a1), (2, .int a2)]) C dX7_seat_36 (by decide) rfl ?_
      refine sm_sub (lv' := [(0, .ref (sm_ad (sm_w X) 0)), (1, .int a1), (3, .int (-1 : Int32)), (4, .int (0 : Int32))]) [2, 3, 1, 0] rfl ?_
      exact xk_X7_seat_p38 C hw sm_F s6 (-1 : Int32) (0 : Int32) h
    · refine sm_bipush (v := (-2)) C dX7_seat_18 (by decide) ?_
      exact sm_iret C dX7_seat_20 h
noncomputable def xf_X7_leastOutside_p66 (a1 : Int32) (k9 : sm_St → Int32 → Int64 → Int32 → Option (Int32 × sm_St)) (s0 : sm_St) (l2 : Int32) (l3 : Int64) (l5 : Int32) : Option (Int32 × sm_St) :=
  sm_b (l5 + Int32.ofInt 1) fun v1 =>
  k9 s0 l2 l3 v1
noncomputable def xf_X7_leastOutside_p42 (a1 : Int32) (k9 : sm_St → Int32 → Int64 → Int32 → Option (Int32 × sm_St)) (s0 : sm_St) (l2 : Int32) (l3 : Int64) (l5 : Int32) (t0 : Int64) : Option (Int32 × sm_St) :=
  sm_b (a1 >>> (l5 &&& 31)) fun v1 =>
  sm_b (v1 &&& (1 : Int32)) fun v2 =>
  if v2 = 0 then (
  sm_b (lg_cmp t0 l3) fun v3 =>
  if 0 ≤ v3 then (
  xf_X7_leastOutside_p66 a1 k9 s0 l2 l3 l5)
  else (
  xf_X7_leastOutside_p66 a1 k9 s0 l5 t0 l5))
  else (
  xf_X7_leastOutside_p66 a1 k9 s0 l2 l3 l5)
noncomputable def xf_X7_leastOutside_p9 (a1 : Int32) : Nat → sm_St → Int32 → Int64 → Int32 → Option (Int32 × sm_St)
  | 0, _, _, _, _ => none
  | n + 1, s0, l2, l3, l5 =>
  if (8 : Int32) ≤ l5 then (
  some (l2, s0))
  else (
  sm_c (xf_X0_hasTent 1 l5 s0) fun v1 s2 =>
  if v1 = 0 then (
  sm_g (sm_in l5 8) <| sm_b (s2.2.1 54 l5.toNatClampNeg) fun v3 =>
  xf_X7_leastOutside_p42 a1 (xf_X7_leastOutside_p9 a1 n) s2 l2 l3 l5 v3)
  else (
  xf_X7_leastOutside_p42 a1 (xf_X7_leastOutside_p9 a1 n) s2 l2 l3 l5 (0 : Int64)))
noncomputable def xf_X7_leastOutside (a1 : Int32) (s0 : sm_St) : Option (Int32 × sm_St) :=
  xf_X7_leastOutside_p9 a1 sm_F s0 (0 : Int32) (9223372036854775807 : Int64) (0 : Int32)
set_option maxRecDepth 4000 in
theorem xk_X7_leastOutside_p66 {X : sm_VC} (C : sm_Cx X prog_1_method_23_code 8 "SmokeGoesTo" 3 121 (some .int)) (hw : xo_is (sm_w X)) {a1 : Int32}  {R : Int32 × sm_St} {k9 : sm_St → Int32 → Int64 → Int32 → Option (Int32 × sm_St)} (hk9 : ∀ (s : sm_St) (l2 : Int32) (l3 : Int64) (l5 : Int32), k9 s l2 l3 l5 = some R → sm_V X (sm_QI X R) 8 s 9 [(0, .ref (sm_ad (sm_w X) 0)), (1, .int a1), (2, .int l2), (3, .long l3), (5, .int l5)] []) (s0 : sm_St) (l2 : Int32) (l3 : Int64) (l5 : Int32)  (h : xf_X7_leastOutside_p66 a1 k9 s0 l2 l3 l5 = some R) : sm_V X (sm_QI X R) 8 s0 66 [(0, .ref (sm_ad (sm_w X) 0)), (1, .int a1), (2, .int l2), (3, .long l3), (5, .int l5)] [] := by
  unfold xf_X7_leastOutside_p66 at h
  refine sm_iinc (lv' := fun v1 => [(5, .int v1), (0, .ref (sm_ad (sm_w X) 0)), (1, .int a1), (2, .int l2), (3, .long l3)]) C 4 dX7_leastOutside_66 rfl (by decide) (fun _ => rfl) h (fun v1 h => ?_)
  refine sm_goto C 9 dX7_leastOutside_69 (by decide) ?_
  refine sm_sub (lv' := [(0, .ref (sm_ad (sm_w X) 0)), (1, .int a1), (2, .int l2), (3, .long l3), (5, .int v1)]) [1, 2, 3, 4, 0] rfl ?_
  exact hk9 s0 l2 l3 v1 h
set_option maxRecDepth 4000 in
theorem xk_X7_leastOutside_p42 {X : sm_VC} (C : sm_Cx X prog_1_method_23_code 8 "SmokeGoesTo" 3 121 (some .int)) (hw : xo_is (sm_w X)) {a1 : Int32}  {R : Int32 × sm_St} {k9 : sm_St → Int32 → Int64 → Int32 → Option (Int32 × sm_St)} (hk9 : ∀ (s : sm_St) (l2 : Int32) (l3 : Int64) (l5 : Int32), k9 s l2 l3 l5 = some R → sm_V X (sm_QI X R) 8 s 9 [(0, .ref (sm_ad (sm_w X) 0)), (1, .int a1), (2, .int l2), (3, .long l3), (5, .int l5)] []) (s0 : sm_St) (l2 : Int32) (l3 : Int64) (l5 : Int32) (t0 : Int64)  (h : xf_X7_leastOutside_p42 a1 k9 s0 l2 l3 l5 t0 = some R) : sm_V X (sm_QI X R) 8 s0 42 [(0, .ref (sm_ad (sm_w X) 0)), (1, .int a1), (2, .int l2), (3, .long l3), (5, .int l5)] [.long t0] := by
  unfold xf_X7_leastOutside_p42 at h
  refine sm_lstore (lv' := [(6, .long t0), (0, .ref (sm_ad (sm_w X) 0)), (1, .int a1), (2, .int l2), (3, .long l3), (5, .int l5)]) C dX7_leastOutside_42 (by decide) rfl ?_
  refine sm_iload_n C 2 dX7_leastOutside_44 rfl rfl ?_
  refine sm_iload C 5 dX7_leastOutside_45 rfl ?_
  refine sm_ishr C dX7_leastOutside_47 h (fun v1 h => ?_)
  refine sm_iconst (v := 1) C dX7_leastOutside_48 (by decide) ?_
  refine sm_iand C dX7_leastOutside_49 h (fun v2 h => ?_)
  refine sm_if_ne C 66 dX7_leastOutside_50 (by decide) h (fun h => ?_) (fun h => ?_)
  · refine sm_sub (lv' := [(0, .ref (sm_ad (sm_w X) 0)), (1, .int a1), (2, .int l2), (3, .long l3), (5, .int l5)]) [1, 2, 3, 4, 5] rfl ?_
    exact xk_X7_leastOutside_p66 C hw hk9 s0 l2 l3 l5 h
  · refine sm_lload C 0 dX7_leastOutside_53 rfl ?_
    refine sm_lload_n C 4 dX7_leastOutside_55 rfl rfl ?_
    refine sm_lcmp C dX7_leastOutside_56 h (fun v3 h => ?_)
    refine sm_if_ge C 66 dX7_leastOutside_57 (by decide) h (fun h => ?_) (fun h => ?_)
    · refine sm_sub (lv' := [(0, .ref (sm_ad (sm_w X) 0)), (1, .int a1), (2, .int l2), (3, .long l3), (5, .int l5)]) [1, 2, 3, 4, 5] rfl ?_
      exact xk_X7_leastOutside_p66 C hw hk9 s0 l2 l3 l5 h
    · refine sm_iload C 5 dX7_leastOutside_60 rfl ?_
      refine sm_istore_n (lv' := [(2, .int l5), (6, .long t0), (0, .ref (sm_ad (sm_w X) 0)), (1, .int a1), (3, .long l3), (5, .int l5)]) C dX7_leastOutside_62 rfl (by decide) rfl ?_
      refine sm_lload C 1 dX7_leastOutside_63 rfl ?_
      refine sm_lstore_n (lv' := [(3, .long t0), (2, .int l5), (6, .long t0), (0, .ref (sm_ad (sm_w X) 0)), (1, .int a1), (5, .int l5)]) C dX7_leastOutside_65 rfl (by decide) rfl ?_
      refine sm_sub (lv' := [(0, .ref (sm_ad (sm_w X) 0)), (1, .int a1), (2, .int l5), (3, .long t0), (5, .int l5)]) [3, 4, 1, 0, 5] rfl ?_
      exact xk_X7_leastOutside_p66 C hw hk9 s0 l5 t0 l5 h
set_option maxRecDepth 4000 in
theorem xk_X7_leastOutside_p9 {X : sm_VC} (C : sm_Cx X prog_1_method_23_code 8 "SmokeGoesTo" 3 121 (some .int)) (hw : xo_is (sm_w X)) {a1 : Int32}  {R : Int32 × sm_St}   : ∀ (n : Nat) (s0 : sm_St) (l2 : Int32) (l3 : Int64) (l5 : Int32) , xf_X7_leastOutside_p9 a1 n s0 l2 l3 l5 = some R → sm_V X (sm_QI X R) 8 s0 9 [(0, .ref (sm_ad (sm_w X) 0)), (1, .int a1), (2, .int l2), (3, .long l3), (5, .int l5)] [] := by
  intro n
  induction n with
  | zero =>
    intro s0 l2 l3 l5 h
    have h : (none : Option (Int32 × sm_St)) = some R := h
    cases h
  | succ n ih =>
    intro s0 l2 l3 l5 h
    unfold xf_X7_leastOutside_p9 at h
    refine sm_iload C 4 dX7_leastOutside_9 rfl ?_
    refine sm_bipush (v := 8) C dX7_leastOutside_11 (by decide) ?_
    refine sm_icmp_ge C 72 dX7_leastOutside_13 (by decide) h (fun h => ?_) (fun h => ?_)
    · refine sm_iload_n C 2 dX7_leastOutside_72 rfl rfl ?_
      exact sm_iret C dX7_leastOutside_73 h
    · refine sm_aload_n C 0 dX7_leastOutside_16 rfl rfl ?_
      refine xr_S_fire C hw (k := 0) rfl gf_S_12 dX7_leastOutside_17 ?_
      refine sm_iload C 4 dX7_leastOutside_20 rfl ?_
      refine sm_callVI (k := 1) C [.int l5] (xc_X0_hasTent hw 1 l5 rfl) gm_X0_hasTent gl_S_235 gi_X0_hasTent ge_X0_hasTent (xob_Fire hw rfl) rfl ⟨Nat.le_of_ble_eq_true rfl, Nat.le_of_ble_eq_true rfl⟩ rfl (Nat.le_of_ble_eq_true rfl) dX7_leastOutside_22 h (fun v1 s2 h => ?_)
      refine sm_if_eq C 32 dX7_leastOutside_25 (by decide) h (fun h => ?_) (fun h => ?_)
      · refine sm_aload_n C 0 dX7_leastOutside_32 rfl rfl ?_
        refine xr_S_odds C hw (k := 0) rfl gf_S_56 dX7_leastOutside_33 ?_
        refine xr_Odds_together C hw (k := 52) rfl gf_S_232 dX7_leastOutside_36 ?_
        refine sm_iload C 4 dX7_leastOutside_39 rfl ?_
        refine xa_lald C hw (k := 54) rfl rfl dX7_leastOutside_41 h (fun v3 h => ?_)
        exact xk_X7_leastOutside_p42 C hw ih s2 l2 l3 l5 v3 h
      · refine sm_lconst (v := 0) C dX7_leastOutside_28 (by decide) ?_
        refine sm_goto C 42 dX7_leastOutside_29 (by decide) ?_
        exact xk_X7_leastOutside_p42 C hw ih s2 l2 l3 l5 (0 : Int64) h
set_option maxRecDepth 4000 in
theorem xc_X7_leastOutside {w : sm_WD} {l : Launch} (hw : xo_is w) (a1 : Int32) : sm_CI w l yX7_leastOutside prog_1_method_23_code 8 (some .int) 3 121 [.ref (sm_ad w 0), .int a1] (fun s => xf_X7_leastOutside a1 s) := by
  refine sm_CI.of (by decide +kernel) (Nat.le_of_ble_eq_true rfl) (fun X s0 R hXw hXl C h => ?_)
  subst hXw
  subst hXl
  have h : xf_X7_leastOutside a1 s0 = some R := h
  show sm_V X (sm_QI X R) 8 s0 0 [(0, .ref (sm_ad (sm_w X) 0)), (1, .int a1)] []
  unfold xf_X7_leastOutside at h
  refine sm_iconst (v := 0) C dX7_leastOutside_0 (by decide) ?_
  refine sm_istore_n (lv' := [(2, .int (0 : Int32)), (0, .ref (sm_ad (sm_w X) 0)), (1, .int a1)]) C dX7_leastOutside_1 rfl (by decide) rfl ?_
  refine sm_ldc2 C gk_S_247 dX7_leastOutside_2 ?_
  refine sm_lstore_n (lv' := [(3, .long (9223372036854775807 : Int64)), (2, .int (0 : Int32)), (0, .ref (sm_ad (sm_w X) 0)), (1, .int a1)]) C dX7_leastOutside_5 rfl (by decide) rfl ?_
  refine sm_iconst (v := 0) C dX7_leastOutside_6 (by decide) ?_
  refine sm_istore (lv' := [(5, .int (0 : Int32)), (3, .long (9223372036854775807 : Int64)), (2, .int (0 : Int32)), (0, .ref (sm_ad (sm_w X) 0)), (1, .int a1)]) C dX7_leastOutside_7 (by decide) rfl ?_
  refine sm_sub (lv' := [(0, .ref (sm_ad (sm_w X) 0)), (1, .int a1), (2, .int (0 : Int32)), (3, .long (9223372036854775807 : Int64)), (5, .int (0 : Int32))]) [3, 4, 2, 1, 0] rfl ?_
  exact xk_X7_leastOutside_p9 C hw sm_F s0 (0 : Int32) (9223372036854775807 : Int64) (0 : Int32) h
noncomputable def xf_X7_placeOfBit_p31 (a1 : Int32) (a2 : Int32) (k4 : sm_St → Int32 → Int32 → Option (Int32 × sm_St)) (s0 : sm_St) (l2 : Int32) (l3 : Int32) : Option (Int32 × sm_St) :=
  sm_b (l3 + Int32.ofInt 1) fun v1 =>
  k4 s0 l2 v1
noncomputable def xf_X7_placeOfBit_p4 (a1 : Int32) (a2 : Int32) : Nat → sm_St → Int32 → Int32 → Option (Int32 × sm_St)
  | 0, _, _, _ => none
  | n + 1, s0, l2, l3 =>
  if (8 : Int32) ≤ l3 then (
  some ((-1 : Int32), s0))
  else (
  sm_b (a1 >>> (l3 &&& 31)) fun v1 =>
  sm_b (v1 &&& (1 : Int32)) fun v2 =>
  if v2 = 0 then (
  xf_X7_placeOfBit_p31 a1 a2 (xf_X7_placeOfBit_p4 a1 a2 n) s0 l2 l3)
  else (
  if l2 = a2 then (
  some (l3, s0))
  else (
  sm_b (l2 + Int32.ofInt 1) fun v3 =>
  xf_X7_placeOfBit_p31 a1 a2 (xf_X7_placeOfBit_p4 a1 a2 n) s0 v3 l3)))
noncomputable def xf_X7_placeOfBit (a1 : Int32) (a2 : Int32) (s0 : sm_St) : Option (Int32 × sm_St) :=
  xf_X7_placeOfBit_p4 a1 a2 sm_F s0 (0 : Int32) (0 : Int32)
set_option maxRecDepth 4000 in
theorem xk_X7_placeOfBit_p31 {X : sm_VC} (C : sm_Cx X prog_1_method_24_code 4 "SmokeGoesTo" 2 100 (some .int)) (hw : xo_is (sm_w X)) {a1 : Int32} {a2 : Int32}  {R : Int32 × sm_St} {k4 : sm_St → Int32 → Int32 → Option (Int32 × sm_St)} (hk4 : ∀ (s : sm_St) (l2 : Int32) (l3 : Int32), k4 s l2 l3 = some R → sm_V X (sm_QI X R) 4 s 4 [(0, .int a1), (1, .int a2), (2, .int l2), (3, .int l3)] []) (s0 : sm_St) (l2 : Int32) (l3 : Int32)  (h : xf_X7_placeOfBit_p31 a1 a2 k4 s0 l2 l3 = some R) : sm_V X (sm_QI X R) 4 s0 31 [(0, .int a1), (1, .int a2), (2, .int l2), (3, .int l3)] [] := by
  unfold xf_X7_placeOfBit_p31 at h
  refine sm_iinc (lv' := fun v1 => [(3, .int v1), (0, .int a1), (1, .int a2), (2, .int l2)]) C 3 dX7_placeOfBit_31 rfl (by decide) (fun _ => rfl) h (fun v1 h => ?_)
  refine sm_goto C 4 dX7_placeOfBit_34 (by decide) ?_
  refine sm_sub (lv' := [(0, .int a1), (1, .int a2), (2, .int l2), (3, .int v1)]) [1, 2, 3, 0] rfl ?_
  exact hk4 s0 l2 v1 h
set_option maxRecDepth 4000 in
theorem xk_X7_placeOfBit_p4 {X : sm_VC} (C : sm_Cx X prog_1_method_24_code 4 "SmokeGoesTo" 2 100 (some .int)) (hw : xo_is (sm_w X)) {a1 : Int32} {a2 : Int32}  {R : Int32 × sm_St}   : ∀ (n : Nat) (s0 : sm_St) (l2 : Int32) (l3 : Int32) , xf_X7_placeOfBit_p4 a1 a2 n s0 l2 l3 = some R → sm_V X (sm_QI X R) 4 s0 4 [(0, .int a1), (1, .int a2), (2, .int l2), (3, .int l3)] [] := by
  intro n
  induction n with
  | zero =>
    intro s0 l2 l3 h
    have h : (none : Option (Int32 × sm_St)) = some R := h
    cases h
  | succ n ih =>
    intro s0 l2 l3 h
    unfold xf_X7_placeOfBit_p4 at h
    refine sm_iload_n C 3 dX7_placeOfBit_4 rfl rfl ?_
    refine sm_bipush (v := 8) C dX7_placeOfBit_5 (by decide) ?_
    refine sm_icmp_ge C 37 dX7_placeOfBit_7 (by decide) h (fun h => ?_) (fun h => ?_)
    · refine sm_iconst (v := (-1)) C dX7_placeOfBit_37 (by decide) ?_
      exact sm_iret C dX7_placeOfBit_38 h
    · refine sm_iload_n C 0 dX7_placeOfBit_10 rfl rfl ?_
      refine sm_iload_n C 3 dX7_placeOfBit_11 rfl rfl ?_
      refine sm_ishr C dX7_placeOfBit_12 h (fun v1 h => ?_)
      refine sm_iconst (v := 1) C dX7_placeOfBit_13 (by decide) ?_
      refine sm_iand C dX7_placeOfBit_14 h (fun v2 h => ?_)
      refine sm_if_ne C 21 dX7_placeOfBit_15 (by decide) h (fun h => ?_) (fun h => ?_)
      · refine sm_iload_n C 2 dX7_placeOfBit_21 rfl rfl ?_
        refine sm_iload_n C 1 dX7_placeOfBit_22 rfl rfl ?_
        refine sm_icmp_ne C 28 dX7_placeOfBit_23 (by decide) h (fun h => ?_) (fun h => ?_)
        · refine sm_iinc (lv' := fun v3 => [(2, .int v3), (0, .int a1), (1, .int a2), (3, .int l3)]) C 2 dX7_placeOfBit_28 rfl (by decide) (fun _ => rfl) h (fun v3 h => ?_)
          refine sm_sub (lv' := [(0, .int a1), (1, .int a2), (2, .int v3), (3, .int l3)]) [1, 2, 0, 3] rfl ?_
          exact xk_X7_placeOfBit_p31 C hw ih s0 v3 l3 h
        · refine sm_iload_n C 3 dX7_placeOfBit_26 rfl rfl ?_
          exact sm_iret C dX7_placeOfBit_27 h
      · refine sm_goto C 31 dX7_placeOfBit_18 (by decide) ?_
        exact xk_X7_placeOfBit_p31 C hw ih s0 l2 l3 h
set_option maxRecDepth 4000 in
theorem xc_X7_placeOfBit {w : sm_WD} {l : Launch} (hw : xo_is w) (a1 : Int32) (a2 : Int32) : sm_CI w l yX7_placeOfBit prog_1_method_24_code 4 (some .int) 2 100 [.int a1, .int a2] (fun s => xf_X7_placeOfBit a1 a2 s) := by
  refine sm_CI.of (by decide +kernel) (Nat.le_of_ble_eq_true rfl) (fun X s0 R hXw hXl C h => ?_)
  subst hXw
  subst hXl
  have h : xf_X7_placeOfBit a1 a2 s0 = some R := h
  show sm_V X (sm_QI X R) 4 s0 0 [(0, .int a1), (1, .int a2)] []
  unfold xf_X7_placeOfBit at h
  refine sm_iconst (v := 0) C dX7_placeOfBit_0 (by decide) ?_
  refine sm_istore_n (lv' := [(2, .int (0 : Int32)), (0, .int a1), (1, .int a2)]) C dX7_placeOfBit_1 rfl (by decide) rfl ?_
  refine sm_iconst (v := 0) C dX7_placeOfBit_2 (by decide) ?_
  refine sm_istore_n (lv' := [(3, .int (0 : Int32)), (2, .int (0 : Int32)), (0, .int a1), (1, .int a2)]) C dX7_placeOfBit_3 rfl (by decide) rfl ?_
  refine sm_sub (lv' := [(0, .int a1), (1, .int a2), (2, .int (0 : Int32)), (3, .int (0 : Int32))]) [2, 3, 1, 0] rfl ?_
  exact xk_X7_placeOfBit_p4 C hw sm_F s0 (0 : Int32) (0 : Int32) h
noncomputable def xf_X7_gap_p38 (a1 : Int32) (a2 : Int32) : Nat → sm_St → Int32 → Int32 → Option (Int32 × sm_St)
  | 0, _, _, _ => none
  | n + 1, s0, l3, l4 =>
  sm_b (s0.1 1 6) fun v1 =>
  if v1 ≤ l4 then (
  sm_c (xf_X7_placeOfBit l3 a2 s0) fun v2 s3 =>
  some (v2, s3))
  else (
  sm_c (xf_X7_leastOutside l3 s0) fun v4 s5 =>
  sm_b ((1 : Int32) <<< (v4 &&& 31)) fun v6 =>
  sm_b (l3 ||| v6) fun v7 =>
  sm_b (l4 + Int32.ofInt 1) fun v8 =>
  (xf_X7_gap_p38 a1 a2 n) s5 v7 v8)
noncomputable def xf_X7_gap (a1 : Int32) (a2 : Int32) (s0 : sm_St) : Option (Int32 × sm_St) :=
  sm_c (xf_X7_isMeanMinutes a1 s0) fun v1 s2 =>
  if v1 = 0 then (
  some ((-2 : Int32), s2))
  else (
  sm_c (xf_X0_has 1 a2 s2) fun v3 s4 =>
  if v3 = 0 then (
  some ((-2 : Int32), s4))
  else (
  sm_c (xf_X3_spread 1 a1 s4) fun _ s6 =>
  xf_X7_gap_p38 a1 a2 sm_F s6 (0 : Int32) (0 : Int32)))
set_option maxRecDepth 4000 in
theorem xk_X7_gap_p38 {X : sm_VC} (C : sm_Cx X prog_1_method_22_code 5 "SmokeGoesTo" 5 166 (some .int)) (hw : xo_is (sm_w X)) {a1 : Int32} {a2 : Int32}  {R : Int32 × sm_St}   : ∀ (n : Nat) (s0 : sm_St) (l3 : Int32) (l4 : Int32) , xf_X7_gap_p38 a1 a2 n s0 l3 l4 = some R → sm_V X (sm_QI X R) 5 s0 38 [(0, .ref (sm_ad (sm_w X) 0)), (2, .int a2), (3, .int l3), (4, .int l4)] [] := by
  intro n
  induction n with
  | zero =>
    intro s0 l3 l4 h
    have h : (none : Option (Int32 × sm_St)) = some R := h
    cases h
  | succ n ih =>
    intro s0 l3 l4 h
    unfold xf_X7_gap_p38 at h
    refine sm_iload C 3 dX7_gap_38 rfl ?_
    refine sm_aload_n C 0 dX7_gap_40 rfl rfl ?_
    refine xr_S_fire C hw (k := 0) rfl gf_S_12 dX7_gap_41 ?_
    refine xr_Fire_size C hw (k := 1) rfl gf_S_238 dX7_gap_44 h (fun v1 h => ?_)
    refine sm_icmp_ge C 66 dX7_gap_47 (by decide) h (fun h => ?_) (fun h => ?_)
    · refine sm_iload_n C 2 dX7_gap_66 rfl rfl ?_
      refine sm_iload_n C 1 dX7_gap_67 rfl rfl ?_
      refine sm_callSI C [.int l3, .int a2] (xc_X7_placeOfBit hw l3 a2) gm_X7_placeOfBit gl_S_242 gs_X7_placeOfBit rfl ⟨Nat.le_of_ble_eq_true rfl, Nat.le_of_ble_eq_true rfl⟩ rfl (Nat.le_of_ble_eq_true rfl) dX7_gap_68 h (fun v2 s3 h => ?_)
      exact sm_iret C dX7_gap_71 h
    · refine sm_iload_n C 2 dX7_gap_50 rfl rfl ?_
      refine sm_iconst (v := 1) C dX7_gap_51 (by decide) ?_
      refine sm_aload_n C 0 dX7_gap_52 rfl rfl ?_
      refine sm_iload_n C 2 dX7_gap_53 rfl rfl ?_
      refine sm_callVI (k := 0) C [.int l3] (xc_X7_leastOutside hw l3) gm_X7_leastOutside gl_S_239 gi_X7_leastOutside ge_X7_leastOutside (xob_S hw rfl) rfl ⟨Nat.le_of_ble_eq_true rfl, Nat.le_of_ble_eq_true rfl⟩ rfl (Nat.le_of_ble_eq_true rfl) dX7_gap_54 h (fun v4 s5 h => ?_)
      refine sm_ishl C dX7_gap_57 h (fun v6 h => ?_)
      refine sm_ior C dX7_gap_58 h (fun v7 h => ?_)
      refine sm_istore_n (lv' := [(3, .int v7), (0, .ref (sm_ad (sm_w X) 0)), (2, .int a2), (4, .int l4)]) C dX7_gap_59 rfl (by decide) rfl ?_
      refine sm_iinc (lv' := fun v8 => [(4, .int v8), (3, .int v7), (0, .ref (sm_ad (sm_w X) 0)), (2, .int a2)]) C 3 dX7_gap_60 rfl (by decide) (fun _ => rfl) h (fun v8 h => ?_)
      refine sm_goto C 38 dX7_gap_63 (by decide) ?_
      refine sm_sub (lv' := [(0, .ref (sm_ad (sm_w X) 0)), (2, .int a2), (3, .int v7), (4, .int v8)]) [2, 3, 1, 0] rfl ?_
      exact ih s5 v7 v8 h
set_option maxRecDepth 4000 in
theorem xc_X7_gap {w : sm_WD} {l : Launch} (hw : xo_is w) (a1 : Int32) (a2 : Int32) : sm_CI w l yX7_gap prog_1_method_22_code 5 (some .int) 5 166 [.ref (sm_ad w 0), .int a1, .int a2] (fun s => xf_X7_gap a1 a2 s) := by
  refine sm_CI.of (by decide +kernel) (Nat.le_of_ble_eq_true rfl) (fun X s0 R hXw hXl C h => ?_)
  subst hXw
  subst hXl
  have h : xf_X7_gap a1 a2 s0 = some R := h
  show sm_V X (sm_QI X R) 5 s0 0 [(0, .ref (sm_ad (sm_w X) 0)), (1, .int a1), (2, .int a2)] []
  unfold xf_X7_gap at h
  refine sm_iload_n C 1 dX7_gap_0 rfl rfl ?_
  refine sm_callSI C [.int a1] (xc_X7_isMeanMinutes hw a1) gm_X7_isMeanMinutes gl_S_229 gs_X7_isMeanMinutes rfl ⟨Nat.le_of_ble_eq_true rfl, Nat.le_of_ble_eq_true rfl⟩ rfl (Nat.le_of_ble_eq_true rfl) dX7_gap_1 h (fun v1 s2 h => ?_)
  refine sm_if_eq C 18 dX7_gap_4 (by decide) h (fun h => ?_) (fun h => ?_)
  · refine sm_bipush (v := (-2)) C dX7_gap_18 (by decide) ?_
    exact sm_iret C dX7_gap_20 h
  · refine sm_aload_n C 0 dX7_gap_7 rfl rfl ?_
    refine xr_S_fire C hw (k := 0) rfl gf_S_12 dX7_gap_8 ?_
    refine sm_iload_n C 2 dX7_gap_11 rfl rfl ?_
    refine sm_callVI (k := 1) C [.int a2] (xc_X0_has hw 1 a2 rfl) gm_X0_has gl_S_126 gi_X0_has ge_X0_has (xob_Fire hw rfl) rfl ⟨Nat.le_of_ble_eq_true rfl, Nat.le_of_ble_eq_true rfl⟩ rfl (Nat.le_of_ble_eq_true rfl) dX7_gap_12 h (fun v3 s4 h => ?_)
    refine sm_if_ne C 21 dX7_gap_15 (by decide) h (fun h => ?_) (fun h => ?_)
    · refine sm_aload_n C 0 dX7_gap_21 rfl rfl ?_
      refine xr_S_odds C hw (k := 0) rfl gf_S_56 dX7_gap_22 ?_
      refine sm_aload_n C 0 dX7_gap_25 rfl rfl ?_
      refine xr_S_fire C hw (k := 0) rfl gf_S_12 dX7_gap_26 ?_
      refine sm_iload_n C 1 dX7_gap_29 rfl rfl ?_
      refine sm_callVV (k := 52) C [.ref (sm_ad (sm_w X) 1), .int a1] (xc_X3_spread hw 1 a1 rfl) gm_X3_spread gl_S_213 gi_X3_spread ge_X3_spread (xob_Odds hw rfl) rfl ⟨Nat.le_of_ble_eq_true rfl, Nat.le_of_ble_eq_true rfl⟩ rfl (Nat.le_of_ble_eq_true rfl) dX7_gap_30 h (fun v5 s6 h => ?_)
      refine sm_iconst (v := 0) C dX7_gap_33 (by decide) ?_
      refine sm_istore_n (lv' := [(3, .int (0 : Int32)), (0, .ref (sm_ad (sm_w X) 0)), (1, .int a1), (2, .int a2)]) C dX7_gap_34 rfl (by decide) rfl ?_
      refine sm_iconst (v := 0) C dX7_gap_35 (by decide) ?_
      refine sm_istore (lv' := [(4, .int (0 : Int32)), (3, .int (0 : Int32)), (0, .ref (sm_ad (sm_w X) 0)), (1, .int a1), (2, .int a2)]) C dX7_gap_36 (by decide) rfl ?_
      refine sm_sub (lv' := [(0, .ref (sm_ad (sm_w X) 0)), (2, .int a2), (3, .int (0 : Int32)), (4, .int (0 : Int32))]) [2, 4, 1, 0] rfl ?_
      exact xk_X7_gap_p38 C hw sm_F s6 (0 : Int32) (0 : Int32) h
    · refine sm_bipush (v := (-2)) C dX7_gap_18 (by decide) ?_
      exact sm_iret C dX7_gap_20 h
noncomputable def xf_X7_costIf (a1 : Int32) (a2 : Int32) (a3 : Int32) (s0 : sm_St) : Option (Int32 × sm_St) :=
  sm_c (xf_X2_begin 1 s0) fun _ s2 =>
  sm_g (sm_in a1 5) <| sm_b (sm_sI s2 6 a1.toNatClampNeg a2) fun s3 =>
  sm_g (sm_in a1 5) <| sm_b (sm_sI s3 12 a1.toNatClampNeg a3) fun s4 =>
  sm_b (s4.1 1 5) fun v5 =>
  sm_g (sm_in v5 6) <|
  sm_c (xf_X2_run (some (16 + v5.toNatClampNeg)) s4) fun _ s8 =>
  sm_g (sm_in a1 5) <| sm_b (s8.1 44 a1.toNatClampNeg) fun v9 =>
  some (v9, s8)
set_option maxRecDepth 4000 in
theorem xc_X7_costIf {w : sm_WD} {l : Launch} (hw : xo_is w) (a1 : Int32) (a2 : Int32) (a3 : Int32) : sm_CI w l yX7_costIf prog_1_method_29_code 4 (some .int) 7 221 [.ref (sm_ad w 0), .int a1, .int a2, .int a3] (fun s => xf_X7_costIf a1 a2 a3 s) := by
  refine sm_CI.of (by decide +kernel) (Nat.le_of_ble_eq_true rfl) (fun X s0 R hXw hXl C h => ?_)
  subst hXw
  subst hXl
  have h : xf_X7_costIf a1 a2 a3 s0 = some R := h
  show sm_V X (sm_QI X R) 4 s0 0 [(0, .ref (sm_ad (sm_w X) 0)), (1, .int a1), (2, .int a2), (3, .int a3)] []
  unfold xf_X7_costIf at h
  refine sm_aload_n C 0 dX7_costIf_0 rfl rfl ?_
  refine xr_S_thought C hw (k := 0) rfl gf_S_49 dX7_costIf_1 ?_
  refine sm_aload_n C 0 dX7_costIf_4 rfl rfl ?_
  refine xr_S_fire C hw (k := 0) rfl gf_S_12 dX7_costIf_5 ?_
  refine sm_callVV (k := 43) C [.ref (sm_ad (sm_w X) 1)] (xc_X2_begin hw 1 rfl) gm_X2_begin gl_S_200 gi_X2_begin ge_X2_begin (xob_Night hw rfl) rfl ⟨Nat.le_of_ble_eq_true rfl, Nat.le_of_ble_eq_true rfl⟩ rfl (Nat.le_of_ble_eq_true rfl) dX7_costIf_8 h (fun v1 s2 h => ?_)
  refine sm_aload_n C 0 dX7_costIf_11 rfl rfl ?_
  refine xr_S_thought C hw (k := 0) rfl gf_S_49 dX7_costIf_12 ?_
  refine xr_Night_now C hw (k := 43) rfl gf_S_188 dX7_costIf_15 ?_
  refine xr_Fire_kinds C hw (k := 3) rfl gf_S_144 dX7_costIf_18 ?_
  refine sm_iload_n C 1 dX7_costIf_21 rfl rfl ?_
  refine sm_iload_n C 2 dX7_costIf_22 rfl rfl ?_
  refine xa_iast C hw (k := 6) rfl rfl dX7_costIf_23 h (fun s3 h => ?_)
  refine sm_aload_n C 0 dX7_costIf_24 rfl rfl ?_
  refine xr_S_thought C hw (k := 0) rfl gf_S_49 dX7_costIf_25 ?_
  refine xr_Night_now C hw (k := 43) rfl gf_S_188 dX7_costIf_28 ?_
  refine xr_Fire_places C hw (k := 3) rfl gf_S_137 dX7_costIf_31 ?_
  refine sm_iload_n C 1 dX7_costIf_34 rfl rfl ?_
  refine sm_iload_n C 3 dX7_costIf_35 rfl rfl ?_
  refine xa_iast C hw (k := 12) rfl rfl dX7_costIf_36 h (fun s4 h => ?_)
  refine sm_aload_n C 0 dX7_costIf_37 rfl rfl ?_
  refine xr_S_thought C hw (k := 0) rfl gf_S_49 dX7_costIf_38 ?_
  refine sm_aload_n C 0 dX7_costIf_41 rfl rfl ?_
  refine xr_S_texts C hw (k := 0) rfl gf_S_32 dX7_costIf_42 ?_
  refine sm_aload_n C 0 dX7_costIf_45 rfl rfl ?_
  refine xr_S_fire C hw (k := 0) rfl gf_S_12 dX7_costIf_46 ?_
  refine xr_Fire_rule C hw (k := 1) rfl gf_S_159 dX7_costIf_49 h (fun v5 h => ?_)
  refine xa_aaldText C hw (k := 15) rfl dX7_costIf_52 h (fun hb5 h => ?_)
  refine sm_callVV (k := 43) C [.ref (sm_ad (sm_w X) (16 + v5.toNatClampNeg))] (xc_X2_run hw (some (16 + v5.toNatClampNeg))) gm_X2_run gl_S_204 gi_X2_run ge_X2_run (xob_Night hw rfl) rfl ⟨Nat.le_of_ble_eq_true rfl, Nat.le_of_ble_eq_true rfl⟩ rfl (Nat.le_of_ble_eq_true rfl) dX7_costIf_53 h (fun v7 s8 h => ?_)
  refine sm_aload_n C 0 dX7_costIf_56 rfl rfl ?_
  refine xr_S_thought C hw (k := 0) rfl gf_S_49 dX7_costIf_57 ?_
  refine xr_Night_costs C hw (k := 43) rfl gf_S_256 dX7_costIf_60 ?_
  refine sm_iload_n C 1 dX7_costIf_63 rfl rfl ?_
  refine xa_iald C hw (k := 44) rfl rfl dX7_costIf_64 h (fun v9 h => ?_)
  exact sm_iret C dX7_costIf_65 h
noncomputable def xf_X7_stay_p91 (a1 : Int32) (k30 : sm_St → Int32 → Int32 → Option (Int32 × sm_St)) (s0 : sm_St) (l3 : Int32) (l4 : Int32) : Option (Int32 × sm_St) :=
  sm_b (l4 + Int32.ofInt 1) fun v1 =>
  k30 s0 l3 v1
noncomputable def xf_X7_stay_p30 (a1 : Int32) : Nat → sm_St → Int32 → Int32 → Option (Int32 × sm_St)
  | 0, _, _, _ => none
  | n + 1, s0, l3, l4 =>
  sm_b (s0.1 1 6) fun v1 =>
  if v1 ≤ l4 then (
  some (l3, s0))
  else (
  sm_g (sm_in l4 5) <| sm_b (s0.1 10 l4.toNatClampNeg) fun v2 =>
  sm_c (xf_X7_costIf l4 (0 : Int32) v2 s0) fun v3 s4 =>
  sm_g (sm_in l4 5) <| sm_b (s4.1 4 l4.toNatClampNeg) fun v5 =>
  sm_c (xf_X7_costIf l4 v5 v2 s4) fun v6 s7 =>
  if v6 ≤ v3 then (
  xf_X7_stay_p91 a1 (xf_X7_stay_p30 a1 n) s7 l3 l4)
  else (
  sm_b ((1 : Int32) <<< (l4 &&& 31)) fun v8 =>
  sm_b (l3 ||| v8) fun v9 =>
  xf_X7_stay_p91 a1 (xf_X7_stay_p30 a1 n) s7 v9 l4))
noncomputable def xf_X7_stay (a1 : Int32) (s0 : sm_St) : Option (Int32 × sm_St) :=
  sm_c (xf_X7_refusal a1 s0) fun v1 s2 =>
  if v1 = 0 then (
  sm_g (sm_in a1 4) <|
  sm_c (xf_X2_takeWinds (35 + a1.toNatClampNeg) s2) fun _ s5 =>
  xf_X7_stay_p30 a1 sm_F s5 (0 : Int32) (0 : Int32))
  else (
  some (v1, s2))
set_option maxRecDepth 4000 in
theorem xk_X7_stay_p91 {X : sm_VC} (C : sm_Cx X prog_1_method_25_code 6 "SmokeGoesTo" 8 244 (some .int)) (hw : xo_is (sm_w X)) {a1 : Int32}  {R : Int32 × sm_St} {k30 : sm_St → Int32 → Int32 → Option (Int32 × sm_St)} (hk30 : ∀ (s : sm_St) (l3 : Int32) (l4 : Int32), k30 s l3 l4 = some R → sm_V X (sm_QI X R) 6 s 30 [(0, .ref (sm_ad (sm_w X) 0)), (3, .int l3), (4, .int l4)] []) (s0 : sm_St) (l3 : Int32) (l4 : Int32)  (h : xf_X7_stay_p91 a1 k30 s0 l3 l4 = some R) : sm_V X (sm_QI X R) 6 s0 91 [(0, .ref (sm_ad (sm_w X) 0)), (3, .int l3), (4, .int l4)] [] := by
  unfold xf_X7_stay_p91 at h
  refine sm_iinc (lv' := fun v1 => [(4, .int v1), (0, .ref (sm_ad (sm_w X) 0)), (3, .int l3)]) C 2 dX7_stay_91 rfl (by decide) (fun _ => rfl) h (fun v1 h => ?_)
  refine sm_goto C 30 dX7_stay_94 (by decide) ?_
  refine sm_sub (lv' := [(0, .ref (sm_ad (sm_w X) 0)), (3, .int l3), (4, .int v1)]) [1, 2, 0] rfl ?_
  exact hk30 s0 l3 v1 h
set_option maxRecDepth 4000 in
theorem xk_X7_stay_p30 {X : sm_VC} (C : sm_Cx X prog_1_method_25_code 6 "SmokeGoesTo" 8 244 (some .int)) (hw : xo_is (sm_w X)) {a1 : Int32}  {R : Int32 × sm_St}   : ∀ (n : Nat) (s0 : sm_St) (l3 : Int32) (l4 : Int32) , xf_X7_stay_p30 a1 n s0 l3 l4 = some R → sm_V X (sm_QI X R) 6 s0 30 [(0, .ref (sm_ad (sm_w X) 0)), (3, .int l3), (4, .int l4)] [] := by
  intro n
  induction n with
  | zero =>
    intro s0 l3 l4 h
    have h : (none : Option (Int32 × sm_St)) = some R := h
    cases h
  | succ n ih =>
    intro s0 l3 l4 h
    unfold xf_X7_stay_p30 at h
    refine sm_iload C 2 dX7_stay_30 rfl ?_
    refine sm_aload_n C 0 dX7_stay_32 rfl rfl ?_
    refine xr_S_fire C hw (k := 0) rfl gf_S_12 dX7_stay_33 ?_
    refine xr_Fire_size C hw (k := 1) rfl gf_S_238 dX7_stay_36 h (fun v1 h => ?_)
    refine sm_icmp_ge C 97 dX7_stay_39 (by decide) h (fun h => ?_) (fun h => ?_)
    · refine sm_iload_n C 1 dX7_stay_97 rfl rfl ?_
      exact sm_iret C dX7_stay_98 h
    · refine sm_aload_n C 0 dX7_stay_42 rfl rfl ?_
      refine xr_S_fire C hw (k := 0) rfl gf_S_12 dX7_stay_43 ?_
      refine xr_Fire_places C hw (k := 1) rfl gf_S_137 dX7_stay_46 ?_
      refine sm_iload C 2 dX7_stay_49 rfl ?_
      refine xa_iald C hw (k := 10) rfl rfl dX7_stay_51 h (fun v2 h => ?_)
      refine sm_istore (lv' := [(5, .int v2), (0, .ref (sm_ad (sm_w X) 0)), (3, .int l3), (4, .int l4)]) C dX7_stay_52 (by decide) rfl ?_
      refine sm_aload_n C 1 dX7_stay_54 rfl rfl ?_
      refine sm_iload C 3 dX7_stay_55 rfl ?_
      refine sm_iconst (v := 0) C dX7_stay_57 (by decide) ?_
      refine sm_iload C 0 dX7_stay_58 rfl ?_
      refine sm_callVI (k := 0) C [.int l4, .int (0 : Int32), .int v2] (xc_X7_costIf hw l4 (0 : Int32) v2) gm_X7_costIf gl_S_249 gi_X7_costIf ge_X7_costIf (xob_S hw rfl) rfl ⟨Nat.le_of_ble_eq_true rfl, Nat.le_of_ble_eq_true rfl⟩ rfl (Nat.le_of_ble_eq_true rfl) dX7_stay_60 h (fun v3 s4 h => ?_)
      refine sm_aload_n C 1 dX7_stay_63 rfl rfl ?_
      refine sm_iload C 3 dX7_stay_64 rfl ?_
      refine sm_aload_n C 1 dX7_stay_66 rfl rfl ?_
      refine xr_S_fire C hw (k := 0) rfl gf_S_12 dX7_stay_67 ?_
      refine xr_Fire_kinds C hw (k := 1) rfl gf_S_144 dX7_stay_70 ?_
      refine sm_iload C 3 dX7_stay_73 rfl ?_
      refine xa_iald C hw (k := 4) rfl rfl dX7_stay_75 h (fun v5 h => ?_)
      refine sm_iload C 0 dX7_stay_76 rfl ?_
      refine sm_callVI (k := 0) C [.int l4, .int v5, .int v2] (xc_X7_costIf hw l4 v5 v2) gm_X7_costIf gl_S_249 gi_X7_costIf ge_X7_costIf (xob_S hw rfl) rfl ⟨Nat.le_of_ble_eq_true rfl, Nat.le_of_ble_eq_true rfl⟩ rfl (Nat.le_of_ble_eq_true rfl) dX7_stay_78 h (fun v6 s7 h => ?_)
      refine sm_icmp_ge C 91 dX7_stay_81 (by decide) h (fun h => ?_) (fun h => ?_)
      · refine sm_sub (lv' := [(0, .ref (sm_ad (sm_w X) 0)), (3, .int l3), (4, .int l4)]) [1, 2, 3] rfl ?_
        exact xk_X7_stay_p91 C hw ih s7 l3 l4 h
      · refine sm_iload_n C 2 dX7_stay_84 rfl rfl ?_
        refine sm_iconst (v := 1) C dX7_stay_85 (by decide) ?_
        refine sm_iload C 3 dX7_stay_86 rfl ?_
        refine sm_ishl C dX7_stay_88 h (fun v8 h => ?_)
        refine sm_ior C dX7_stay_89 h (fun v9 h => ?_)
        refine sm_istore_n (lv' := [(3, .int v9), (5, .int v2), (0, .ref (sm_ad (sm_w X) 0)), (4, .int l4)]) C dX7_stay_90 rfl (by decide) rfl ?_
        refine sm_sub (lv' := [(0, .ref (sm_ad (sm_w X) 0)), (3, .int v9), (4, .int l4)]) [2, 0, 3] rfl ?_
        exact xk_X7_stay_p91 C hw ih s7 v9 l4 h
set_option maxRecDepth 4000 in
theorem xc_X7_stay {w : sm_WD} {l : Launch} (hw : xo_is w) (a1 : Int32) : sm_CI w l yX7_stay prog_1_method_25_code 6 (some .int) 8 244 [.ref (sm_ad w 0), .int a1] (fun s => xf_X7_stay a1 s) := by
  refine sm_CI.of (by decide +kernel) (Nat.le_of_ble_eq_true rfl) (fun X s0 R hXw hXl C h => ?_)
  subst hXw
  subst hXl
  have h : xf_X7_stay a1 s0 = some R := h
  show sm_V X (sm_QI X R) 6 s0 0 [(0, .ref (sm_ad (sm_w X) 0)), (1, .int a1)] []
  unfold xf_X7_stay at h
  refine sm_aload_n C 0 dX7_stay_0 rfl rfl ?_
  refine sm_iload_n C 1 dX7_stay_1 rfl rfl ?_
  refine sm_callVI (k := 0) C [.int a1] (xc_X7_refusal hw a1) gm_X7_refusal gl_S_185 gi_X7_refusal ge_X7_refusal (xob_S hw rfl) rfl ⟨Nat.le_of_ble_eq_true rfl, Nat.le_of_ble_eq_true rfl⟩ rfl (Nat.le_of_ble_eq_true rfl) dX7_stay_2 h (fun v1 s2 h => ?_)
  refine sm_istore_n (lv' := [(2, .int v1), (0, .ref (sm_ad (sm_w X) 0)), (1, .int a1)]) C dX7_stay_5 rfl (by decide) rfl ?_
  refine sm_iload_n C 0 dX7_stay_6 rfl rfl ?_
  refine sm_if_eq C 12 dX7_stay_7 (by decide) h (fun h => ?_) (fun h => ?_)
  · refine sm_aload_n C 1 dX7_stay_12 rfl rfl ?_
    refine xr_S_thought C hw (k := 0) rfl gf_S_49 dX7_stay_13 ?_
    refine sm_aload_n C 1 dX7_stay_16 rfl rfl ?_
    refine xr_S_sheets C hw (k := 0) rfl gf_S_42 dX7_stay_17 ?_
    refine sm_iload_n C 2 dX7_stay_20 rfl rfl ?_
    refine xa_aaldSheet C hw (k := 34) rfl dX7_stay_21 h (fun hb2 h => ?_)
    refine sm_callVV (k := 43) C [.ref (sm_ad (sm_w X) (35 + a1.toNatClampNeg))] (xc_X2_takeWinds hw (35 + a1.toNatClampNeg) (xt_sheets hb2)) gm_X2_takeWinds gl_S_172 gi_X2_takeWinds ge_X2_takeWinds (xob_Night hw rfl) rfl ⟨Nat.le_of_ble_eq_true rfl, Nat.le_of_ble_eq_true rfl⟩ rfl (Nat.le_of_ble_eq_true rfl) dX7_stay_22 h (fun v4 s5 h => ?_)
    refine sm_iconst (v := 0) C dX7_stay_25 (by decide) ?_
    refine sm_istore_n (lv' := [(3, .int (0 : Int32)), (2, .int v1), (0, .ref (sm_ad (sm_w X) 0)), (1, .int a1)]) C dX7_stay_26 rfl (by decide) rfl ?_
    refine sm_iconst (v := 0) C dX7_stay_27 (by decide) ?_
    refine sm_istore (lv' := [(4, .int (0 : Int32)), (3, .int (0 : Int32)), (2, .int v1), (0, .ref (sm_ad (sm_w X) 0)), (1, .int a1)]) C dX7_stay_28 (by decide) rfl ?_
    refine sm_sub (lv' := [(0, .ref (sm_ad (sm_w X) 0)), (3, .int (0 : Int32)), (4, .int (0 : Int32))]) [3, 1, 0] rfl ?_
    exact xk_X7_stay_p30 C hw sm_F s5 (0 : Int32) (0 : Int32) h
  · refine sm_iload_n C 0 dX7_stay_10 rfl rfl ?_
    exact sm_iret C dX7_stay_11 h
noncomputable def xf_X7_costIfEddy (a1 : Int32) (s0 : sm_St) : Option (Int32 × sm_St) :=
  sm_c (xf_X2_begin 1 s0) fun _ s2 =>
  sm_b (sm_sI s2 3 4 a1) fun s3 =>
  sm_b (s3.1 1 5) fun v4 =>
  sm_g (sm_in v4 6) <|
  sm_c (xf_X2_run (some (16 + v4.toNatClampNeg)) s3) fun _ s7 =>
  sm_c (xf_X2_costOfAll s7) fun v8 s9 =>
  some (v8, s9)
set_option maxRecDepth 4000 in
theorem xc_X7_costIfEddy {w : sm_WD} {l : Launch} (hw : xo_is w) (a1 : Int32) : sm_CI w l yX7_costIfEddy prog_1_method_27_code 2 (some .int) 7 221 [.ref (sm_ad w 0), .int a1] (fun s => xf_X7_costIfEddy a1 s) := by
  refine sm_CI.of (by decide +kernel) (Nat.le_of_ble_eq_true rfl) (fun X s0 R hXw hXl C h => ?_)
  subst hXw
  subst hXl
  have h : xf_X7_costIfEddy a1 s0 = some R := h
  show sm_V X (sm_QI X R) 2 s0 0 [(0, .ref (sm_ad (sm_w X) 0)), (1, .int a1)] []
  unfold xf_X7_costIfEddy at h
  refine sm_aload_n C 0 dX7_costIfEddy_0 rfl rfl ?_
  refine xr_S_thought C hw (k := 0) rfl gf_S_49 dX7_costIfEddy_1 ?_
  refine sm_aload_n C 0 dX7_costIfEddy_4 rfl rfl ?_
  refine xr_S_fire C hw (k := 0) rfl gf_S_12 dX7_costIfEddy_5 ?_
  refine sm_callVV (k := 43) C [.ref (sm_ad (sm_w X) 1)] (xc_X2_begin hw 1 rfl) gm_X2_begin gl_S_200 gi_X2_begin ge_X2_begin (xob_Night hw rfl) rfl ⟨Nat.le_of_ble_eq_true rfl, Nat.le_of_ble_eq_true rfl⟩ rfl (Nat.le_of_ble_eq_true rfl) dX7_costIfEddy_8 h (fun v1 s2 h => ?_)
  refine sm_aload_n C 0 dX7_costIfEddy_11 rfl rfl ?_
  refine xr_S_thought C hw (k := 0) rfl gf_S_49 dX7_costIfEddy_12 ?_
  refine xr_Night_now C hw (k := 43) rfl gf_S_188 dX7_costIfEddy_15 ?_
  refine sm_iload_n C 1 dX7_costIfEddy_18 rfl rfl ?_
  refine xp_Fire_eddy C hw (k := 3) rfl gf_S_123 dX7_costIfEddy_19 h (fun s3 h => ?_)
  refine sm_aload_n C 0 dX7_costIfEddy_22 rfl rfl ?_
  refine xr_S_thought C hw (k := 0) rfl gf_S_49 dX7_costIfEddy_23 ?_
  refine sm_aload_n C 0 dX7_costIfEddy_26 rfl rfl ?_
  refine xr_S_texts C hw (k := 0) rfl gf_S_32 dX7_costIfEddy_27 ?_
  refine sm_aload_n C 0 dX7_costIfEddy_30 rfl rfl ?_
  refine xr_S_fire C hw (k := 0) rfl gf_S_12 dX7_costIfEddy_31 ?_
  refine xr_Fire_rule C hw (k := 1) rfl gf_S_159 dX7_costIfEddy_34 h (fun v4 h => ?_)
  refine xa_aaldText C hw (k := 15) rfl dX7_costIfEddy_37 h (fun hb4 h => ?_)
  refine sm_callVV (k := 43) C [.ref (sm_ad (sm_w X) (16 + v4.toNatClampNeg))] (xc_X2_run hw (some (16 + v4.toNatClampNeg))) gm_X2_run gl_S_204 gi_X2_run ge_X2_run (xob_Night hw rfl) rfl ⟨Nat.le_of_ble_eq_true rfl, Nat.le_of_ble_eq_true rfl⟩ rfl (Nat.le_of_ble_eq_true rfl) dX7_costIfEddy_38 h (fun v6 s7 h => ?_)
  refine sm_aload_n C 0 dX7_costIfEddy_41 rfl rfl ?_
  refine xr_S_thought C hw (k := 0) rfl gf_S_49 dX7_costIfEddy_42 ?_
  refine sm_callVI (k := 43) C [] (xc_X2_costOfAll hw) gm_X2_costOfAll gl_S_197 gi_X2_costOfAll ge_X2_costOfAll (xob_Night hw rfl) rfl ⟨Nat.le_of_ble_eq_true rfl, Nat.le_of_ble_eq_true rfl⟩ rfl (Nat.le_of_ble_eq_true rfl) dX7_costIfEddy_45 h (fun v8 s9 h => ?_)
  exact sm_iret C dX7_costIfEddy_48 h
noncomputable def xf_X7_eddies (a1 : Int32) (s0 : sm_St) : Option (Int32 × sm_St) :=
  sm_c (xf_X7_refusal a1 s0) fun v1 s2 =>
  if v1 = 0 then (
  sm_g (sm_in a1 4) <|
  sm_c (xf_X2_takeWinds (35 + a1.toNatClampNeg) s2) fun _ s5 =>
  sm_c (xf_X7_costIfEddy (1 : Int32) s5) fun v6 s7 =>
  sm_c (xf_X7_costIfEddy (0 : Int32) s7) fun v8 s9 =>
  sm_b (v6 - v8) fun v10 =>
  some (v10, s9))
  else (
  some ((-100000 : Int32), s2))
set_option maxRecDepth 4000 in
theorem xc_X7_eddies {w : sm_WD} {l : Launch} (hw : xo_is w) (a1 : Int32) : sm_CI w l yX7_eddies prog_1_method_26_code 2 (some .int) 8 242 [.ref (sm_ad w 0), .int a1] (fun s => xf_X7_eddies a1 s) := by
  refine sm_CI.of (by decide +kernel) (Nat.le_of_ble_eq_true rfl) (fun X s0 R hXw hXl C h => ?_)
  subst hXw
  subst hXl
  have h : xf_X7_eddies a1 s0 = some R := h
  show sm_V X (sm_QI X R) 2 s0 0 [(0, .ref (sm_ad (sm_w X) 0)), (1, .int a1)] []
  unfold xf_X7_eddies at h
  refine sm_aload_n C 0 dX7_eddies_0 rfl rfl ?_
  refine sm_iload_n C 1 dX7_eddies_1 rfl rfl ?_
  refine sm_callVI (k := 0) C [.int a1] (xc_X7_refusal hw a1) gm_X7_refusal gl_S_185 gi_X7_refusal ge_X7_refusal (xob_S hw rfl) rfl ⟨Nat.le_of_ble_eq_true rfl, Nat.le_of_ble_eq_true rfl⟩ rfl (Nat.le_of_ble_eq_true rfl) dX7_eddies_2 h (fun v1 s2 h => ?_)
  refine sm_if_eq C 11 dX7_eddies_5 (by decide) h (fun h => ?_) (fun h => ?_)
  · refine sm_aload_n C 0 dX7_eddies_11 rfl rfl ?_
    refine xr_S_thought C hw (k := 0) rfl gf_S_49 dX7_eddies_12 ?_
    refine sm_aload_n C 0 dX7_eddies_15 rfl rfl ?_
    refine xr_S_sheets C hw (k := 0) rfl gf_S_42 dX7_eddies_16 ?_
    refine sm_iload_n C 1 dX7_eddies_19 rfl rfl ?_
    refine xa_aaldSheet C hw (k := 34) rfl dX7_eddies_20 h (fun hb2 h => ?_)
    refine sm_callVV (k := 43) C [.ref (sm_ad (sm_w X) (35 + a1.toNatClampNeg))] (xc_X2_takeWinds hw (35 + a1.toNatClampNeg) (xt_sheets hb2)) gm_X2_takeWinds gl_S_172 gi_X2_takeWinds ge_X2_takeWinds (xob_Night hw rfl) rfl ⟨Nat.le_of_ble_eq_true rfl, Nat.le_of_ble_eq_true rfl⟩ rfl (Nat.le_of_ble_eq_true rfl) dX7_eddies_21 h (fun v4 s5 h => ?_)
    refine sm_aload_n C 0 dX7_eddies_24 rfl rfl ?_
    refine sm_iconst (v := 1) C dX7_eddies_25 (by decide) ?_
    refine sm_callVI (k := 0) C [.int (1 : Int32)] (xc_X7_costIfEddy hw (1 : Int32)) gm_X7_costIfEddy gl_S_253 gi_X7_costIfEddy ge_X7_costIfEddy (xob_S hw rfl) rfl ⟨Nat.le_of_ble_eq_true rfl, Nat.le_of_ble_eq_true rfl⟩ rfl (Nat.le_of_ble_eq_true rfl) dX7_eddies_26 h (fun v6 s7 h => ?_)
    refine sm_aload_n C 0 dX7_eddies_29 rfl rfl ?_
    refine sm_iconst (v := 0) C dX7_eddies_30 (by decide) ?_
    refine sm_callVI (k := 0) C [.int (0 : Int32)] (xc_X7_costIfEddy hw (0 : Int32)) gm_X7_costIfEddy gl_S_253 gi_X7_costIfEddy ge_X7_costIfEddy (xob_S hw rfl) rfl ⟨Nat.le_of_ble_eq_true rfl, Nat.le_of_ble_eq_true rfl⟩ rfl (Nat.le_of_ble_eq_true rfl) dX7_eddies_31 h (fun v8 s9 h => ?_)
    refine sm_isub C dX7_eddies_34 h (fun v10 h => ?_)
    exact sm_iret C dX7_eddies_35 h
  · refine sm_ldc C gk_S_252 dX7_eddies_8 ?_
    exact sm_iret C dX7_eddies_10 h
noncomputable def xf_X7_best_p129 (a1 : Int32) (a2 : Int32) (a3 : Int32) (k67 : sm_St → Int32 → Int32 → Int32 → Option (Int32 × sm_St)) (s0 : sm_St) (l4 : Int32) (l5 : Int32) (l6 : Int32) : Option (Int32 × sm_St) :=
  sm_b (l6 + Int32.ofInt 1) fun v1 =>
  k67 s0 l4 l5 v1
noncomputable def xf_X7_best_p121 (a1 : Int32) (a2 : Int32) (a3 : Int32) (k67 : sm_St → Int32 → Int32 → Int32 → Option (Int32 × sm_St)) (s0 : sm_St) (l6 : Int32) (l7 : Int32) : Option (Int32 × sm_St) :=
  xf_X7_best_p129 a1 a2 a3 k67 s0 l6 l7 l6
noncomputable def xf_X7_best_p67 (a1 : Int32) (a2 : Int32) (a3 : Int32) : Nat → sm_St → Int32 → Int32 → Int32 → Option (Int32 × sm_St)
  | 0, _, _, _, _ => none
  | n + 1, s0, l4, l5, l6 =>
  if (8 : Int32) ≤ l6 then (
  if a3 = 0 then (
  some (l4, s0))
  else (
  some (l5, s0)))
  else (
  sm_c (xf_X0_isFreeFor 1 a2 l6 s0) fun v1 s2 =>
  if v1 = 0 then (
  xf_X7_best_p129 a1 a2 a3 (xf_X7_best_p67 a1 a2 a3 n) s2 l4 l5 l6)
  else (
  sm_g (sm_in a2 5) <| sm_b (s2.1 4 a2.toNatClampNeg) fun v3 =>
  sm_c (xf_X7_costIf a2 v3 l6 s2) fun v4 s5 =>
  if l4 = (-1 : Int32) then (
  xf_X7_best_p121 a1 a2 a3 (xf_X7_best_p67 a1 a2 a3 n) s5 l6 v4)
  else (
  if l5 ≤ v4 then (
  xf_X7_best_p129 a1 a2 a3 (xf_X7_best_p67 a1 a2 a3 n) s5 l4 l5 l6)
  else (
  xf_X7_best_p121 a1 a2 a3 (xf_X7_best_p67 a1 a2 a3 n) s5 l6 v4))))
noncomputable def xf_X7_best (a1 : Int32) (a2 : Int32) (a3 : Int32) (s0 : sm_St) : Option (Int32 × sm_St) :=
  sm_c (xf_X7_isSheet a1 s0) fun v1 s2 =>
  if v1 = 0 then (
  some ((-2 : Int32), s2))
  else (
  sm_c (xf_X0_has 1 a2 s2) fun v3 s4 =>
  if v3 = 0 then (
  some ((-2 : Int32), s4))
  else (
  if a3 < 0 then (
  some ((-2 : Int32), s4))
  else (
  if a3 ≤ (1 : Int32) then (
  sm_g (sm_in a1 4) <|
  sm_c (xf_X5_isMissing (35 + a1.toNatClampNeg) s4) fun v6 s7 =>
  if v6 = 0 then (
  sm_g (sm_in a1 4) <|
  sm_c (xf_X2_takeWinds (35 + a1.toNatClampNeg) s7) fun _ s10 =>
  xf_X7_best_p67 a1 a2 a3 sm_F s10 (-1 : Int32) (0 : Int32) (0 : Int32))
  else (
  some ((-11 : Int32), s7)))
  else (
  some ((-2 : Int32), s4)))))
set_option maxRecDepth 4000 in
theorem xk_X7_best_p129 {X : sm_VC} (C : sm_Cx X prog_1_method_28_code 8 "SmokeGoesTo" 8 244 (some .int)) (hw : xo_is (sm_w X)) {a1 : Int32} {a2 : Int32} {a3 : Int32}  {R : Int32 × sm_St} {k67 : sm_St → Int32 → Int32 → Int32 → Option (Int32 × sm_St)} (hk67 : ∀ (s : sm_St) (l4 : Int32) (l5 : Int32) (l6 : Int32), k67 s l4 l5 l6 = some R → sm_V X (sm_QI X R) 8 s 67 [(0, .ref (sm_ad (sm_w X) 0)), (2, .int a2), (3, .int a3), (4, .int l4), (5, .int l5), (6, .int l6)] []) (s0 : sm_St) (l4 : Int32) (l5 : Int32) (l6 : Int32)  (h : xf_X7_best_p129 a1 a2 a3 k67 s0 l4 l5 l6 = some R) : sm_V X (sm_QI X R) 8 s0 129 [(0, .ref (sm_ad (sm_w X) 0)), (2, .int a2), (3, .int a3), (4, .int l4), (5, .int l5), (6, .int l6)] [] := by
  unfold xf_X7_best_p129 at h
  refine sm_iinc (lv' := fun v1 => [(6, .int v1), (0, .ref (sm_ad (sm_w X) 0)), (2, .int a2), (3, .int a3), (4, .int l4), (5, .int l5)]) C 5 dX7_best_129 rfl (by decide) (fun _ => rfl) h (fun v1 h => ?_)
  refine sm_goto C 67 dX7_best_132 (by decide) ?_
  refine sm_sub (lv' := [(0, .ref (sm_ad (sm_w X) 0)), (2, .int a2), (3, .int a3), (4, .int l4), (5, .int l5), (6, .int v1)]) [1, 2, 3, 4, 5, 0] rfl ?_
  exact hk67 s0 l4 l5 v1 h
set_option maxRecDepth 4000 in
theorem xk_X7_best_p121 {X : sm_VC} (C : sm_Cx X prog_1_method_28_code 8 "SmokeGoesTo" 8 244 (some .int)) (hw : xo_is (sm_w X)) {a1 : Int32} {a2 : Int32} {a3 : Int32}  {R : Int32 × sm_St} {k67 : sm_St → Int32 → Int32 → Int32 → Option (Int32 × sm_St)} (hk67 : ∀ (s : sm_St) (l4 : Int32) (l5 : Int32) (l6 : Int32), k67 s l4 l5 l6 = some R → sm_V X (sm_QI X R) 8 s 67 [(0, .ref (sm_ad (sm_w X) 0)), (2, .int a2), (3, .int a3), (4, .int l4), (5, .int l5), (6, .int l6)] []) (s0 : sm_St) (l6 : Int32) (l7 : Int32)  (h : xf_X7_best_p121 a1 a2 a3 k67 s0 l6 l7 = some R) : sm_V X (sm_QI X R) 8 s0 121 [(0, .ref (sm_ad (sm_w X) 0)), (2, .int a2), (3, .int a3), (6, .int l6), (7, .int l7)] [] := by
  unfold xf_X7_best_p121 at h
  refine sm_iload C 3 dX7_best_121 rfl ?_
  refine sm_istore (lv' := [(4, .int l6), (0, .ref (sm_ad (sm_w X) 0)), (2, .int a2), (3, .int a3), (6, .int l6), (7, .int l7)]) C dX7_best_123 (by decide) rfl ?_
  refine sm_iload C 5 dX7_best_125 rfl ?_
  refine sm_istore (lv' := [(5, .int l7), (4, .int l6), (0, .ref (sm_ad (sm_w X) 0)), (2, .int a2), (3, .int a3), (6, .int l6), (7, .int l7)]) C dX7_best_127 (by decide) rfl ?_
  refine sm_sub (lv' := [(0, .ref (sm_ad (sm_w X) 0)), (2, .int a2), (3, .int a3), (4, .int l6), (5, .int l7), (6, .int l6)]) [2, 3, 4, 1, 0, 5] rfl ?_
  exact xk_X7_best_p129 C hw hk67 s0 l6 l7 l6 h
set_option maxRecDepth 4000 in
theorem xk_X7_best_p67 {X : sm_VC} (C : sm_Cx X prog_1_method_28_code 8 "SmokeGoesTo" 8 244 (some .int)) (hw : xo_is (sm_w X)) {a1 : Int32} {a2 : Int32} {a3 : Int32}  {R : Int32 × sm_St}   : ∀ (n : Nat) (s0 : sm_St) (l4 : Int32) (l5 : Int32) (l6 : Int32) , xf_X7_best_p67 a1 a2 a3 n s0 l4 l5 l6 = some R → sm_V X (sm_QI X R) 8 s0 67 [(0, .ref (sm_ad (sm_w X) 0)), (2, .int a2), (3, .int a3), (4, .int l4), (5, .int l5), (6, .int l6)] [] := by
  intro n
  induction n with
  | zero =>
    intro s0 l4 l5 l6 h
    have h : (none : Option (Int32 × sm_St)) = some R := h
    cases h
  | succ n ih =>
    intro s0 l4 l5 l6 h
    unfold xf_X7_best_p67 at h
    refine sm_iload C 5 dX7_best_67 rfl ?_
    refine sm_bipush (v := 8) C dX7_best_69 (by decide) ?_
    refine sm_icmp_ge C 135 dX7_best_71 (by decide) h (fun h => ?_) (fun h => ?_)
    · refine sm_iload_n C 2 dX7_best_135 rfl rfl ?_
      refine sm_if_ne C 144 dX7_best_136 (by decide) h (fun h => ?_) (fun h => ?_)
      · refine sm_iload C 4 dX7_best_144 rfl ?_
        exact sm_iret C dX7_best_146 h
      · refine sm_iload C 3 dX7_best_139 rfl ?_
        refine sm_goto C 146 dX7_best_141 (by decide) ?_
        exact sm_iret C dX7_best_146 h
    · refine sm_aload_n C 0 dX7_best_74 rfl rfl ?_
      refine xr_S_fire C hw (k := 0) rfl gf_S_12 dX7_best_75 ?_
      refine sm_iload_n C 1 dX7_best_78 rfl rfl ?_
      refine sm_iload C 5 dX7_best_79 rfl ?_
      refine sm_callVI (k := 1) C [.int a2, .int l6] (xc_X0_isFreeFor hw 1 a2 l6 rfl) gm_X0_isFreeFor gl_S_133 gi_X0_isFreeFor ge_X0_isFreeFor (xob_Fire hw rfl) rfl ⟨Nat.le_of_ble_eq_true rfl, Nat.le_of_ble_eq_true rfl⟩ rfl (Nat.le_of_ble_eq_true rfl) dX7_best_81 h (fun v1 s2 h => ?_)
      refine sm_if_ne C 90 dX7_best_84 (by decide) h (fun h => ?_) (fun h => ?_)
      · refine sm_aload_n C 0 dX7_best_90 rfl rfl ?_
        refine sm_iload_n C 1 dX7_best_91 rfl rfl ?_
        refine sm_aload_n C 0 dX7_best_92 rfl rfl ?_
        refine xr_S_fire C hw (k := 0) rfl gf_S_12 dX7_best_93 ?_
        refine xr_Fire_kinds C hw (k := 1) rfl gf_S_144 dX7_best_96 ?_
        refine sm_iload_n C 1 dX7_best_99 rfl rfl ?_
        refine xa_iald C hw (k := 4) rfl rfl dX7_best_100 h (fun v3 h => ?_)
        refine sm_iload C 5 dX7_best_101 rfl ?_
        refine sm_callVI (k := 0) C [.int a2, .int v3, .int l6] (xc_X7_costIf hw a2 v3 l6) gm_X7_costIf gl_S_249 gi_X7_costIf ge_X7_costIf (xob_S hw rfl) rfl ⟨Nat.le_of_ble_eq_true rfl, Nat.le_of_ble_eq_true rfl⟩ rfl (Nat.le_of_ble_eq_true rfl) dX7_best_103 h (fun v4 s5 h => ?_)
        refine sm_istore (lv' := [(7, .int v4), (0, .ref (sm_ad (sm_w X) 0)), (2, .int a2), (3, .int a3), (4, .int l4), (5, .int l5), (6, .int l6)]) C dX7_best_106 (by decide) rfl ?_
        refine sm_iload C 4 dX7_best_108 rfl ?_
        refine sm_iconst (v := (-1)) C dX7_best_110 (by decide) ?_
        refine sm_icmp_eq C 121 dX7_best_111 (by decide) h (fun h => ?_) (fun h => ?_)
        · refine sm_sub (lv' := [(0, .ref (sm_ad (sm_w X) 0)), (2, .int a2), (3, .int a3), (6, .int l6), (7, .int v4)]) [1, 2, 3, 6, 0] rfl ?_
          exact xk_X7_best_p121 C hw ih s5 l6 v4 h
        · refine sm_iload C 0 dX7_best_114 rfl ?_
          refine sm_iload C 5 dX7_best_116 rfl ?_
          refine sm_icmp_ge C 129 dX7_best_118 (by decide) h (fun h => ?_) (fun h => ?_)
          · refine sm_sub (lv' := [(0, .ref (sm_ad (sm_w X) 0)), (2, .int a2), (3, .int a3), (4, .int l4), (5, .int l5), (6, .int l6)]) [1, 2, 3, 4, 5, 6] rfl ?_
            exact xk_X7_best_p129 C hw ih s5 l4 l5 l6 h
          · refine sm_sub (lv' := [(0, .ref (sm_ad (sm_w X) 0)), (2, .int a2), (3, .int a3), (6, .int l6), (7, .int v4)]) [1, 2, 3, 6, 0] rfl ?_
            exact xk_X7_best_p121 C hw ih s5 l6 v4 h
      · refine sm_goto C 129 dX7_best_87 (by decide) ?_
        exact xk_X7_best_p129 C hw ih s2 l4 l5 l6 h
set_option maxRecDepth 4000 in
theorem xc_X7_best {w : sm_WD} {l : Launch} (hw : xo_is w) (a1 : Int32) (a2 : Int32) (a3 : Int32) : sm_CI w l yX7_best prog_1_method_28_code 8 (some .int) 8 244 [.ref (sm_ad w 0), .int a1, .int a2, .int a3] (fun s => xf_X7_best a1 a2 a3 s) := by
  refine sm_CI.of (by decide +kernel) (Nat.le_of_ble_eq_true rfl) (fun X s0 R hXw hXl C h => ?_)
  subst hXw
  subst hXl
  have h : xf_X7_best a1 a2 a3 s0 = some R := h
  show sm_V X (sm_QI X R) 8 s0 0 [(0, .ref (sm_ad (sm_w X) 0)), (1, .int a1), (2, .int a2), (3, .int a3)] []
  unfold xf_X7_best at h
  refine sm_iload_n C 1 dX7_best_0 rfl rfl ?_
  refine sm_callSI C [.int a1] (xc_X7_isSheet hw a1) gm_X7_isSheet gl_S_162 gs_X7_isSheet rfl ⟨Nat.le_of_ble_eq_true rfl, Nat.le_of_ble_eq_true rfl⟩ rfl (Nat.le_of_ble_eq_true rfl) dX7_best_1 h (fun v1 s2 h => ?_)
  refine sm_if_eq C 27 dX7_best_4 (by decide) h (fun h => ?_) (fun h => ?_)
  · refine sm_bipush (v := (-2)) C dX7_best_27 (by decide) ?_
    exact sm_iret C dX7_best_29 h
  · refine sm_aload_n C 0 dX7_best_7 rfl rfl ?_
    refine xr_S_fire C hw (k := 0) rfl gf_S_12 dX7_best_8 ?_
    refine sm_iload_n C 2 dX7_best_11 rfl rfl ?_
    refine sm_callVI (k := 1) C [.int a2] (xc_X0_has hw 1 a2 rfl) gm_X0_has gl_S_126 gi_X0_has ge_X0_has (xob_Fire hw rfl) rfl ⟨Nat.le_of_ble_eq_true rfl, Nat.le_of_ble_eq_true rfl⟩ rfl (Nat.le_of_ble_eq_true rfl) dX7_best_12 h (fun v3 s4 h => ?_)
    refine sm_if_eq C 27 dX7_best_15 (by decide) h (fun h => ?_) (fun h => ?_)
    · refine sm_bipush (v := (-2)) C dX7_best_27 (by decide) ?_
      exact sm_iret C dX7_best_29 h
    · refine sm_iload_n C 3 dX7_best_18 rfl rfl ?_
      refine sm_if_lt C 27 dX7_best_19 (by decide) h (fun h => ?_) (fun h => ?_)
      · refine sm_bipush (v := (-2)) C dX7_best_27 (by decide) ?_
        exact sm_iret C dX7_best_29 h
      · refine sm_iload_n C 3 dX7_best_22 rfl rfl ?_
        refine sm_iconst (v := 1) C dX7_best_23 (by decide) ?_
        refine sm_icmp_le C 30 dX7_best_24 (by decide) h (fun h => ?_) (fun h => ?_)
        · refine sm_aload_n C 0 dX7_best_30 rfl rfl ?_
          refine xr_S_sheets C hw (k := 0) rfl gf_S_42 dX7_best_31 ?_
          refine sm_iload_n C 1 dX7_best_34 rfl rfl ?_
          refine xa_aaldSheet C hw (k := 34) rfl dX7_best_35 h (fun hb4 h => ?_)
          refine sm_callVI (k := (35 + a1.toNatClampNeg)) C [] (xc_X5_isMissing hw (35 + a1.toNatClampNeg) (xt_sheets hb4)) gm_X5_isMissing gl_S_168 gi_X5_isMissing ge_X5_isMissing (xob_Sheet hw (xt_sheets hb4)) rfl ⟨Nat.le_of_ble_eq_true rfl, Nat.le_of_ble_eq_true rfl⟩ rfl (Nat.le_of_ble_eq_true rfl) dX7_best_36 h (fun v6 s7 h => ?_)
          refine sm_if_eq C 45 dX7_best_39 (by decide) h (fun h => ?_) (fun h => ?_)
          · refine sm_aload_n C 0 dX7_best_45 rfl rfl ?_
            refine xr_S_thought C hw (k := 0) rfl gf_S_49 dX7_best_46 ?_
            refine sm_aload_n C 0 dX7_best_49 rfl rfl ?_
            refine xr_S_sheets C hw (k := 0) rfl gf_S_42 dX7_best_50 ?_
            refine sm_iload_n C 1 dX7_best_53 rfl rfl ?_
            refine xa_aaldSheet C hw (k := 34) rfl dX7_best_54 h (fun hb7 h => ?_)
            refine sm_callVV (k := 43) C [.ref (sm_ad (sm_w X) (35 + a1.toNatClampNeg))] (xc_X2_takeWinds hw (35 + a1.toNatClampNeg) (xt_sheets hb7)) gm_X2_takeWinds gl_S_172 gi_X2_takeWinds ge_X2_takeWinds (xob_Night hw rfl) rfl ⟨Nat.le_of_ble_eq_true rfl, Nat.le_of_ble_eq_true rfl⟩ rfl (Nat.le_of_ble_eq_true rfl) dX7_best_55 h (fun v9 s10 h => ?_)
            refine sm_iconst (v := (-1)) C dX7_best_58 (by decide) ?_
            refine sm_istore (lv' := [(4, .int (-1 : Int32)), (0, .ref (sm_ad (sm_w X) 0)), (1, .int a1), (2, .int a2), (3, .int a3)]) C dX7_best_59 (by decide) rfl ?_
            refine sm_iconst (v := 0) C dX7_best_61 (by decide) ?_
            refine sm_istore (lv' := [(5, .int (0 : Int32)), (4, .int (-1 : Int32)), (0, .ref (sm_ad (sm_w X) 0)), (1, .int a1), (2, .int a2), (3, .int a3)]) C dX7_best_62 (by decide) rfl ?_
            refine sm_iconst (v := 0) C dX7_best_64 (by decide) ?_
            refine sm_istore (lv' := [(6, .int (0 : Int32)), (5, .int (0 : Int32)), (4, .int (-1 : Int32)), (0, .ref (sm_ad (sm_w X) 0)), (1, .int a1), (2, .int a2), (3, .int a3)]) C dX7_best_65 (by decide) rfl ?_
            refine sm_sub (lv' := [(0, .ref (sm_ad (sm_w X) 0)), (2, .int a2), (3, .int a3), (4, .int (-1 : Int32)), (5, .int (0 : Int32)), (6, .int (0 : Int32))]) [3, 5, 6, 2, 1, 0] rfl ?_
            exact xk_X7_best_p67 C hw sm_F s10 (-1 : Int32) (0 : Int32) (0 : Int32) h
          · refine sm_bipush (v := (-11)) C dX7_best_42 (by decide) ?_
            exact sm_iret C dX7_best_44 h
        · refine sm_bipush (v := (-2)) C dX7_best_27 (by decide) ?_
          exact sm_iret C dX7_best_29 h
noncomputable def xf_X7_rowsOf_p4 (a1 : Int32) : Nat → sm_St → Int32 → Int32 → Option (Int32 × sm_St)
  | 0, _, _, _ => none
  | n + 1, s0, l1, l2 =>
  if a1 ≤ l2 then (
  some (l1, s0))
  else (
  sm_b (l1 * (3 : Int32)) fun v1 =>
  sm_b (l2 + Int32.ofInt 1) fun v2 =>
  (xf_X7_rowsOf_p4 a1 n) s0 v1 v2)
noncomputable def xf_X7_rowsOf (a1 : Int32) (s0 : sm_St) : Option (Int32 × sm_St) :=
  xf_X7_rowsOf_p4 a1 sm_F s0 (1 : Int32) (0 : Int32)
set_option maxRecDepth 4000 in
theorem xk_X7_rowsOf_p4 {X : sm_VC} (C : sm_Cx X prog_1_method_34_code 3 "SmokeGoesTo" 2 100 (some .int)) (hw : xo_is (sm_w X)) {a1 : Int32}  {R : Int32 × sm_St}   : ∀ (n : Nat) (s0 : sm_St) (l1 : Int32) (l2 : Int32) , xf_X7_rowsOf_p4 a1 n s0 l1 l2 = some R → sm_V X (sm_QI X R) 3 s0 4 [(0, .int a1), (1, .int l1), (2, .int l2)] [] := by
  intro n
  induction n with
  | zero =>
    intro s0 l1 l2 h
    have h : (none : Option (Int32 × sm_St)) = some R := h
    cases h
  | succ n ih =>
    intro s0 l1 l2 h
    unfold xf_X7_rowsOf_p4 at h
    refine sm_iload_n C 2 dX7_rowsOf_4 rfl rfl ?_
    refine sm_iload_n C 0 dX7_rowsOf_5 rfl rfl ?_
    refine sm_icmp_ge C 19 dX7_rowsOf_6 (by decide) h (fun h => ?_) (fun h => ?_)
    · refine sm_iload_n C 1 dX7_rowsOf_19 rfl rfl ?_
      exact sm_iret C dX7_rowsOf_20 h
    · refine sm_iload_n C 1 dX7_rowsOf_9 rfl rfl ?_
      refine sm_iconst (v := 3) C dX7_rowsOf_10 (by decide) ?_
      refine sm_imul C dX7_rowsOf_11 h (fun v1 h => ?_)
      refine sm_istore_n (lv' := [(1, .int v1), (0, .int a1), (2, .int l2)]) C dX7_rowsOf_12 rfl (by decide) rfl ?_
      refine sm_iinc (lv' := fun v2 => [(2, .int v2), (1, .int v1), (0, .int a1)]) C 2 dX7_rowsOf_13 rfl (by decide) (fun _ => rfl) h (fun v2 h => ?_)
      refine sm_goto C 4 dX7_rowsOf_16 (by decide) ?_
      refine sm_sub (lv' := [(0, .int a1), (1, .int v1), (2, .int v2)]) [2, 1, 0] rfl ?_
      exact ih s0 v1 v2 h
set_option maxRecDepth 4000 in
theorem xc_X7_rowsOf {w : sm_WD} {l : Launch} (hw : xo_is w) (a1 : Int32) : sm_CI w l yX7_rowsOf prog_1_method_34_code 3 (some .int) 2 100 [.int a1] (fun s => xf_X7_rowsOf a1 s) := by
  refine sm_CI.of (by decide +kernel) (Nat.le_of_ble_eq_true rfl) (fun X s0 R hXw hXl C h => ?_)
  subst hXw
  subst hXl
  have h : xf_X7_rowsOf a1 s0 = some R := h
  show sm_V X (sm_QI X R) 3 s0 0 [(0, .int a1)] []
  unfold xf_X7_rowsOf at h
  refine sm_iconst (v := 1) C dX7_rowsOf_0 (by decide) ?_
  refine sm_istore_n (lv' := [(1, .int (1 : Int32)), (0, .int a1)]) C dX7_rowsOf_1 rfl (by decide) rfl ?_
  refine sm_iconst (v := 0) C dX7_rowsOf_2 (by decide) ?_
  refine sm_istore_n (lv' := [(2, .int (0 : Int32)), (1, .int (1 : Int32)), (0, .int a1)]) C dX7_rowsOf_3 rfl (by decide) rfl ?_
  refine sm_sub (lv' := [(0, .int a1), (1, .int (1 : Int32)), (2, .int (0 : Int32))]) [2, 1, 0] rfl ?_
  exact xk_X7_rowsOf_p4 C hw sm_F s0 (1 : Int32) (0 : Int32) h
noncomputable def xf_X7_fits_p58 (a1 : Nat) (a2 : Int32) (a3 : Int32) (a4 : Int32) (a5 : Int32) : Nat → sm_St → Int32 → Option (Int32 × sm_St)
  | 0, _, _ => none
  | n + 1, s0, l6 =>
  sm_b (s0.1 1 6) fun v1 =>
  if v1 ≤ l6 then (
  some ((1 : Int32), s0))
  else (
  sm_g (sm_in l6 5) <| sm_b (s0.1 45 l6.toNatClampNeg) fun v2 =>
  sm_c (xf_X5_item a1 l6 s0) fun v3 s4 =>
  if v2 = v3 then (
  sm_b (l6 + Int32.ofInt 1) fun v5 =>
  (xf_X7_fits_p58 a1 a2 a3 a4 a5 n) s4 v5)
  else (
  some ((0 : Int32), s4)))
noncomputable def xf_X7_fits_p47 (a1 : Nat) (a2 : Int32) (a3 : Int32) (a4 : Int32) (a5 : Int32) (s0 : sm_St) : Option (Int32 × sm_St) :=
  sm_c (xf_X2_run none s0) fun _ s2 =>
  xf_X7_fits_p58 a1 a2 a3 a4 a5 sm_F s2 (0 : Int32)
noncomputable def xf_X7_fits (a1 : Nat) (a2 : Int32) (a3 : Int32) (a4 : Int32) (a5 : Int32) (s0 : sm_St) : Option (Int32 × sm_St) :=
  sm_c (xf_X2_takeRow a3 a2 s0) fun _ s2 =>
  sm_c (xf_X2_begin 1 s2) fun _ s4 =>
  sm_c (xf_X0_has 1 a4 s4) fun v5 s6 =>
  if v5 = 0 then (
  xf_X7_fits_p47 a1 a2 a3 a4 a5 s6)
  else (
  sm_g (sm_in a4 5) <| sm_b (sm_sI s6 6 a4.toNatClampNeg a5) fun s7 =>
  xf_X7_fits_p47 a1 a2 a3 a4 a5 s7)
set_option maxRecDepth 4000 in
theorem xk_X7_fits_p58 {X : sm_VC} (C : sm_Cx X prog_1_method_35_code 7 "SmokeGoesTo" 7 221 (some .boolean)) (hw : xo_is (sm_w X)) {a1 : Nat} {a2 : Int32} {a3 : Int32} {a4 : Int32} {a5 : Int32} (ha1 : xo_tag a1 = 4) {R : Int32 × sm_St}   : ∀ (n : Nat) (s0 : sm_St) (l6 : Int32) , xf_X7_fits_p58 a1 a2 a3 a4 a5 n s0 l6 = some R → sm_V X (sm_QI X R) 7 s0 58 [(0, .ref (sm_ad (sm_w X) 0)), (1, .ref (sm_ad (sm_w X) a1)), (6, .int l6)] [] := by
  intro n
  induction n with
  | zero =>
    intro s0 l6 h
    have h : (none : Option (Int32 × sm_St)) = some R := h
    cases h
  | succ n ih =>
    intro s0 l6 h
    unfold xf_X7_fits_p58 at h
    refine sm_iload C 2 dX7_fits_58 rfl ?_
    refine sm_aload_n C 0 dX7_fits_60 rfl rfl ?_
    refine xr_S_fire C hw (k := 0) rfl gf_S_12 dX7_fits_61 ?_
    refine xr_Fire_size C hw (k := 1) rfl gf_S_238 dX7_fits_64 h (fun v1 h => ?_)
    refine sm_icmp_ge C 97 dX7_fits_67 (by decide) h (fun h => ?_) (fun h => ?_)
    · refine sm_iconst (v := 1) C dX7_fits_97 (by decide) ?_
      exact sm_zretK C rfl dX7_fits_98 h
    · refine sm_aload_n C 0 dX7_fits_70 rfl rfl ?_
      refine xr_S_thought C hw (k := 0) rfl gf_S_49 dX7_fits_71 ?_
      refine xr_Night_smoked C hw (k := 43) rfl gf_S_285 dX7_fits_74 ?_
      refine sm_iload C 2 dX7_fits_77 rfl ?_
      refine xa_iald C hw (k := 45) rfl rfl dX7_fits_79 h (fun v2 h => ?_)
      refine sm_aload_n C 1 dX7_fits_80 rfl rfl ?_
      refine sm_iload C 2 dX7_fits_81 rfl ?_
      refine sm_callVI (k := a1) C [.int l6] (xc_X5_item hw a1 l6 ha1) gm_X5_item gl_S_288 gi_X5_item ge_X5_item (xob_Sheet hw ha1) rfl ⟨Nat.le_of_ble_eq_true rfl, Nat.le_of_ble_eq_true rfl⟩ rfl (Nat.le_of_ble_eq_true rfl) dX7_fits_83 h (fun v3 s4 h => ?_)
      refine sm_icmp_eq C 91 dX7_fits_86 (by decide) h (fun h => ?_) (fun h => ?_)
      · refine sm_iinc (lv' := fun v5 => [(6, .int v5), (0, .ref (sm_ad (sm_w X) 0)), (1, .ref (sm_ad (sm_w X) a1))]) C 2 dX7_fits_91 rfl (by decide) (fun _ => rfl) h (fun v5 h => ?_)
        refine sm_goto C 58 dX7_fits_94 (by decide) ?_
        refine sm_sub (lv' := [(0, .ref (sm_ad (sm_w X) 0)), (1, .ref (sm_ad (sm_w X) a1)), (6, .int v5)]) [1, 2, 0] rfl ?_
        exact ih s4 v5 h
      · refine sm_iconst (v := 0) C dX7_fits_89 (by decide) ?_
        exact sm_zretK C rfl dX7_fits_90 h
set_option maxRecDepth 4000 in
theorem xk_X7_fits_p47 {X : sm_VC} (C : sm_Cx X prog_1_method_35_code 7 "SmokeGoesTo" 7 221 (some .boolean)) (hw : xo_is (sm_w X)) {a1 : Nat} {a2 : Int32} {a3 : Int32} {a4 : Int32} {a5 : Int32} (ha1 : xo_tag a1 = 4) {R : Int32 × sm_St}   (s0 : sm_St)   (h : xf_X7_fits_p47 a1 a2 a3 a4 a5 s0 = some R) : sm_V X (sm_QI X R) 7 s0 47 [(0, .ref (sm_ad (sm_w X) 0)), (1, .ref (sm_ad (sm_w X) a1))] [] := by
  unfold xf_X7_fits_p47 at h
  refine sm_aload_n C 0 dX7_fits_47 rfl rfl ?_
  refine xr_S_thought C hw (k := 0) rfl gf_S_49 dX7_fits_48 ?_
  refine sm_null C dX7_fits_51 ?_
  refine sm_callVV (k := 43) C [.null] (xc_X2_run hw none) gm_X2_run gl_S_204 gi_X2_run ge_X2_run (xob_Night hw rfl) rfl ⟨Nat.le_of_ble_eq_true rfl, Nat.le_of_ble_eq_true rfl⟩ rfl (Nat.le_of_ble_eq_true rfl) dX7_fits_52 h (fun v1 s2 h => ?_)
  refine sm_iconst (v := 0) C dX7_fits_55 (by decide) ?_
  refine sm_istore (lv' := [(6, .int (0 : Int32)), (0, .ref (sm_ad (sm_w X) 0)), (1, .ref (sm_ad (sm_w X) a1))]) C dX7_fits_56 (by decide) rfl ?_
  refine sm_sub (lv' := [(0, .ref (sm_ad (sm_w X) 0)), (1, .ref (sm_ad (sm_w X) a1)), (6, .int (0 : Int32))]) [1, 2, 0] rfl ?_
  exact xk_X7_fits_p58 C hw ha1 sm_F s2 (0 : Int32) h
set_option maxRecDepth 4000 in
theorem xc_X7_fits {w : sm_WD} {l : Launch} (hw : xo_is w) (a1 : Nat) (a2 : Int32) (a3 : Int32) (a4 : Int32) (a5 : Int32) (ha1 : xo_tag a1 = 4) : sm_CI w l yX7_fits prog_1_method_35_code 7 (some .boolean) 7 221 [.ref (sm_ad w 0), .ref (sm_ad w a1), .int a2, .int a3, .int a4, .int a5] (fun s => xf_X7_fits a1 a2 a3 a4 a5 s) := by
  refine sm_CI.of (by decide +kernel) (Nat.le_of_ble_eq_true rfl) (fun X s0 R hXw hXl C h => ?_)
  subst hXw
  subst hXl
  have h : xf_X7_fits a1 a2 a3 a4 a5 s0 = some R := h
  show sm_V X (sm_QI X R) 7 s0 0 [(0, .ref (sm_ad (sm_w X) 0)), (1, .ref (sm_ad (sm_w X) a1)), (2, .int a2), (3, .int a3), (4, .int a4), (5, .int a5)] []
  unfold xf_X7_fits at h
  refine sm_aload_n C 0 dX7_fits_0 rfl rfl ?_
  refine xr_S_thought C hw (k := 0) rfl gf_S_49 dX7_fits_1 ?_
  refine sm_iload_n C 3 dX7_fits_4 rfl rfl ?_
  refine sm_iload_n C 2 dX7_fits_5 rfl rfl ?_
  refine sm_callVV (k := 43) C [.int a3, .int a2] (xc_X2_takeRow hw a3 a2) gm_X2_takeRow gl_S_281 gi_X2_takeRow ge_X2_takeRow (xob_Night hw rfl) rfl ⟨Nat.le_of_ble_eq_true rfl, Nat.le_of_ble_eq_true rfl⟩ rfl (Nat.le_of_ble_eq_true rfl) dX7_fits_6 h (fun v1 s2 h => ?_)
  refine sm_aload_n C 0 dX7_fits_9 rfl rfl ?_
  refine xr_S_thought C hw (k := 0) rfl gf_S_49 dX7_fits_10 ?_
  refine sm_aload_n C 0 dX7_fits_13 rfl rfl ?_
  refine xr_S_fire C hw (k := 0) rfl gf_S_12 dX7_fits_14 ?_
  refine sm_callVV (k := 43) C [.ref (sm_ad (sm_w X) 1)] (xc_X2_begin hw 1 rfl) gm_X2_begin gl_S_200 gi_X2_begin ge_X2_begin (xob_Night hw rfl) rfl ⟨Nat.le_of_ble_eq_true rfl, Nat.le_of_ble_eq_true rfl⟩ rfl (Nat.le_of_ble_eq_true rfl) dX7_fits_17 h (fun v3 s4 h => ?_)
  refine sm_aload_n C 0 dX7_fits_20 rfl rfl ?_
  refine xr_S_fire C hw (k := 0) rfl gf_S_12 dX7_fits_21 ?_
  refine sm_iload C 4 dX7_fits_24 rfl ?_
  refine sm_callVI (k := 1) C [.int a4] (xc_X0_has hw 1 a4 rfl) gm_X0_has gl_S_126 gi_X0_has ge_X0_has (xob_Fire hw rfl) rfl ⟨Nat.le_of_ble_eq_true rfl, Nat.le_of_ble_eq_true rfl⟩ rfl (Nat.le_of_ble_eq_true rfl) dX7_fits_26 h (fun v5 s6 h => ?_)
  refine sm_if_eq C 47 dX7_fits_29 (by decide) h (fun h => ?_) (fun h => ?_)
  · refine sm_sub (lv' := [(0, .ref (sm_ad (sm_w X) 0)), (1, .ref (sm_ad (sm_w X) a1))]) [0, 1] rfl ?_
    exact xk_X7_fits_p47 C hw ha1 s6 h
  · refine sm_aload_n C 0 dX7_fits_32 rfl rfl ?_
    refine xr_S_thought C hw (k := 0) rfl gf_S_49 dX7_fits_33 ?_
    refine xr_Night_now C hw (k := 43) rfl gf_S_188 dX7_fits_36 ?_
    refine xr_Fire_kinds C hw (k := 3) rfl gf_S_144 dX7_fits_39 ?_
    refine sm_iload C 4 dX7_fits_42 rfl ?_
    refine sm_iload C 5 dX7_fits_44 rfl ?_
    refine xa_iast C hw (k := 6) rfl rfl dX7_fits_46 h (fun s7 h => ?_)
    refine sm_sub (lv' := [(0, .ref (sm_ad (sm_w X) 0)), (1, .ref (sm_ad (sm_w X) a1))]) [0, 1] rfl ?_
    exact xk_X7_fits_p47 C hw ha1 s7 h
noncomputable def xf_X7_rowsThatFit_p33 (a1 : Nat) (a2 : Int32) (k11 : sm_St → Int32 → Int32 → Int32 → Option (Int32 × sm_St)) (s0 : sm_St) (l3 : Int32) (l4 : Int32) (l5 : Int32) : Option (Int32 × sm_St) :=
  sm_b (l5 + Int32.ofInt 1) fun v1 =>
  k11 s0 l3 l4 v1
noncomputable def xf_X7_rowsThatFit_p11 (a1 : Nat) (a2 : Int32) : Nat → sm_St → Int32 → Int32 → Int32 → Option (Int32 × sm_St)
  | 0, _, _, _, _ => none
  | n + 1, s0, l3, l4, l5 =>
  if l3 ≤ l5 then (
  some (l4, s0))
  else (
  sm_c (xf_X7_fits a1 a2 l5 (-1 : Int32) (-1 : Int32) s0) fun v1 s2 =>
  if v1 = 0 then (
  xf_X7_rowsThatFit_p33 a1 a2 (xf_X7_rowsThatFit_p11 a1 a2 n) s2 l3 l4 l5)
  else (
  sm_b (l4 + Int32.ofInt 1) fun v3 =>
  xf_X7_rowsThatFit_p33 a1 a2 (xf_X7_rowsThatFit_p11 a1 a2 n) s2 l3 v3 l5))
noncomputable def xf_X7_rowsThatFit (a1 : Nat) (a2 : Int32) (s0 : sm_St) : Option (Int32 × sm_St) :=
  sm_c (xf_X7_rowsOf a2 s0) fun v1 s2 =>
  xf_X7_rowsThatFit_p11 a1 a2 sm_F s2 v1 (0 : Int32) (0 : Int32)
set_option maxRecDepth 4000 in
theorem xk_X7_rowsThatFit_p33 {X : sm_VC} (C : sm_Cx X prog_1_method_31_code 6 "SmokeGoesTo" 8 247 (some .int)) (hw : xo_is (sm_w X)) {a1 : Nat} {a2 : Int32} (ha1 : xo_tag a1 = 4) {R : Int32 × sm_St} {k11 : sm_St → Int32 → Int32 → Int32 → Option (Int32 × sm_St)} (hk11 : ∀ (s : sm_St) (l3 : Int32) (l4 : Int32) (l5 : Int32), k11 s l3 l4 l5 = some R → sm_V X (sm_QI X R) 6 s 11 [(0, .ref (sm_ad (sm_w X) 0)), (1, .ref (sm_ad (sm_w X) a1)), (2, .int a2), (3, .int l3), (4, .int l4), (5, .int l5)] []) (s0 : sm_St) (l3 : Int32) (l4 : Int32) (l5 : Int32)  (h : xf_X7_rowsThatFit_p33 a1 a2 k11 s0 l3 l4 l5 = some R) : sm_V X (sm_QI X R) 6 s0 33 [(0, .ref (sm_ad (sm_w X) 0)), (1, .ref (sm_ad (sm_w X) a1)), (2, .int a2), (3, .int l3), (4, .int l4), (5, .int l5)] [] := by
  unfold xf_X7_rowsThatFit_p33 at h
  refine sm_iinc (lv' := fun v1 => [(5, .int v1), (0, .ref (sm_ad (sm_w X) 0)), (1, .ref (sm_ad (sm_w X) a1)), (2, .int a2), (3, .int l3), (4, .int l4)]) C 5 dX7_rowsThatFit_33 rfl (by decide) (fun _ => rfl) h (fun v1 h => ?_)
  refine sm_goto C 11 dX7_rowsThatFit_36 (by decide) ?_
  refine sm_sub (lv' := [(0, .ref (sm_ad (sm_w X) 0)), (1, .ref (sm_ad (sm_w X) a1)), (2, .int a2), (3, .int l3), (4, .int l4), (5, .int v1)]) [1, 2, 3, 4, 5, 0] rfl ?_
  exact hk11 s0 l3 l4 v1 h
set_option maxRecDepth 4000 in
theorem xk_X7_rowsThatFit_p11 {X : sm_VC} (C : sm_Cx X prog_1_method_31_code 6 "SmokeGoesTo" 8 247 (some .int)) (hw : xo_is (sm_w X)) {a1 : Nat} {a2 : Int32} (ha1 : xo_tag a1 = 4) {R : Int32 × sm_St}   : ∀ (n : Nat) (s0 : sm_St) (l3 : Int32) (l4 : Int32) (l5 : Int32) , xf_X7_rowsThatFit_p11 a1 a2 n s0 l3 l4 l5 = some R → sm_V X (sm_QI X R) 6 s0 11 [(0, .ref (sm_ad (sm_w X) 0)), (1, .ref (sm_ad (sm_w X) a1)), (2, .int a2), (3, .int l3), (4, .int l4), (5, .int l5)] [] := by
  intro n
  induction n with
  | zero =>
    intro s0 l3 l4 l5 h
    have h : (none : Option (Int32 × sm_St)) = some R := h
    cases h
  | succ n ih =>
    intro s0 l3 l4 l5 h
    unfold xf_X7_rowsThatFit_p11 at h
    refine sm_iload C 5 dX7_rowsThatFit_11 rfl ?_
    refine sm_iload_n C 3 dX7_rowsThatFit_13 rfl rfl ?_
    refine sm_icmp_ge C 39 dX7_rowsThatFit_14 (by decide) h (fun h => ?_) (fun h => ?_)
    · refine sm_iload C 4 dX7_rowsThatFit_39 rfl ?_
      exact sm_iret C dX7_rowsThatFit_41 h
    · refine sm_aload_n C 0 dX7_rowsThatFit_17 rfl rfl ?_
      refine sm_aload_n C 1 dX7_rowsThatFit_18 rfl rfl ?_
      refine sm_iload_n C 2 dX7_rowsThatFit_19 rfl rfl ?_
      refine sm_iload C 5 dX7_rowsThatFit_20 rfl ?_
      refine sm_iconst (v := (-1)) C dX7_rowsThatFit_22 (by decide) ?_
      refine sm_iconst (v := (-1)) C dX7_rowsThatFit_23 (by decide) ?_
      refine sm_callVI (k := 0) C [.ref (sm_ad (sm_w X) a1), .int a2, .int l5, .int (-1 : Int32), .int (-1 : Int32)] (xc_X7_fits hw a1 a2 l5 (-1 : Int32) (-1 : Int32) ha1) gm_X7_fits gl_S_274 gi_X7_fits ge_X7_fits (xob_S hw rfl) rfl ⟨Nat.le_of_ble_eq_true rfl, Nat.le_of_ble_eq_true rfl⟩ rfl (Nat.le_of_ble_eq_true rfl) dX7_rowsThatFit_24 h (fun v1 s2 h => ?_)
      refine sm_if_eq C 33 dX7_rowsThatFit_27 (by decide) h (fun h => ?_) (fun h => ?_)
      · exact xk_X7_rowsThatFit_p33 C hw ha1 ih s2 l3 l4 l5 h
      · refine sm_iinc (lv' := fun v3 => [(4, .int v3), (0, .ref (sm_ad (sm_w X) 0)), (1, .ref (sm_ad (sm_w X) a1)), (2, .int a2), (3, .int l3), (5, .int l5)]) C 4 dX7_rowsThatFit_30 rfl (by decide) (fun _ => rfl) h (fun v3 h => ?_)
        refine sm_sub (lv' := [(0, .ref (sm_ad (sm_w X) 0)), (1, .ref (sm_ad (sm_w X) a1)), (2, .int a2), (3, .int l3), (4, .int v3), (5, .int l5)]) [1, 2, 3, 4, 0, 5] rfl ?_
        exact xk_X7_rowsThatFit_p33 C hw ha1 ih s2 l3 v3 l5 h
set_option maxRecDepth 4000 in
theorem xc_X7_rowsThatFit {w : sm_WD} {l : Launch} (hw : xo_is w) (a1 : Nat) (a2 : Int32) (ha1 : xo_tag a1 = 4) : sm_CI w l yX7_rowsThatFit prog_1_method_31_code 6 (some .int) 8 247 [.ref (sm_ad w 0), .ref (sm_ad w a1), .int a2] (fun s => xf_X7_rowsThatFit a1 a2 s) := by
  refine sm_CI.of (by decide +kernel) (Nat.le_of_ble_eq_true rfl) (fun X s0 R hXw hXl C h => ?_)
  subst hXw
  subst hXl
  have h : xf_X7_rowsThatFit a1 a2 s0 = some R := h
  show sm_V X (sm_QI X R) 6 s0 0 [(0, .ref (sm_ad (sm_w X) 0)), (1, .ref (sm_ad (sm_w X) a1)), (2, .int a2)] []
  unfold xf_X7_rowsThatFit at h
  refine sm_iload_n C 2 dX7_rowsThatFit_0 rfl rfl ?_
  refine sm_callSI C [.int a2] (xc_X7_rowsOf hw a2) gm_X7_rowsOf gl_S_271 gs_X7_rowsOf rfl ⟨Nat.le_of_ble_eq_true rfl, Nat.le_of_ble_eq_true rfl⟩ rfl (Nat.le_of_ble_eq_true rfl) dX7_rowsThatFit_1 h (fun v1 s2 h => ?_)
  refine sm_istore_n (lv' := [(3, .int v1), (0, .ref (sm_ad (sm_w X) 0)), (1, .ref (sm_ad (sm_w X) a1)), (2, .int a2)]) C dX7_rowsThatFit_4 rfl (by decide) rfl ?_
  refine sm_iconst (v := 0) C dX7_rowsThatFit_5 (by decide) ?_
  refine sm_istore (lv' := [(4, .int (0 : Int32)), (3, .int v1), (0, .ref (sm_ad (sm_w X) 0)), (1, .ref (sm_ad (sm_w X) a1)), (2, .int a2)]) C dX7_rowsThatFit_6 (by decide) rfl ?_
  refine sm_iconst (v := 0) C dX7_rowsThatFit_8 (by decide) ?_
  refine sm_istore (lv' := [(5, .int (0 : Int32)), (4, .int (0 : Int32)), (3, .int v1), (0, .ref (sm_ad (sm_w X) 0)), (1, .ref (sm_ad (sm_w X) a1)), (2, .int a2)]) C dX7_rowsThatFit_9 (by decide) rfl ?_
  refine sm_sub (lv' := [(0, .ref (sm_ad (sm_w X) 0)), (1, .ref (sm_ad (sm_w X) a1)), (2, .int a2), (3, .int v1), (4, .int (0 : Int32)), (5, .int (0 : Int32))]) [3, 4, 5, 2, 1, 0] rfl ?_
  exact xk_X7_rowsThatFit_p11 C hw ha1 sm_F s2 v1 (0 : Int32) (0 : Int32) h
noncomputable def xf_X7_firstThatFits_p8 (a1 : Nat) (a2 : Int32) : Nat → sm_St → Int32 → Int32 → Option (Int32 × sm_St)
  | 0, _, _, _ => none
  | n + 1, s0, l3, l4 =>
  if l3 ≤ l4 then (
  some ((-1 : Int32), s0))
  else (
  sm_c (xf_X7_fits a1 a2 l4 (-1 : Int32) (-1 : Int32) s0) fun v1 s2 =>
  if v1 = 0 then (
  sm_b (l4 + Int32.ofInt 1) fun v3 =>
  (xf_X7_firstThatFits_p8 a1 a2 n) s2 l3 v3)
  else (
  sm_c (xf_X2_digits s2) fun v4 s5 =>
  some (v4, s5)))
noncomputable def xf_X7_firstThatFits (a1 : Nat) (a2 : Int32) (s0 : sm_St) : Option (Int32 × sm_St) :=
  sm_c (xf_X7_rowsOf a2 s0) fun v1 s2 =>
  xf_X7_firstThatFits_p8 a1 a2 sm_F s2 v1 (0 : Int32)
set_option maxRecDepth 4000 in
theorem xk_X7_firstThatFits_p8 {X : sm_VC} (C : sm_Cx X prog_1_method_32_code 5 "SmokeGoesTo" 8 247 (some .int)) (hw : xo_is (sm_w X)) {a1 : Nat} {a2 : Int32} (ha1 : xo_tag a1 = 4) {R : Int32 × sm_St}   : ∀ (n : Nat) (s0 : sm_St) (l3 : Int32) (l4 : Int32) , xf_X7_firstThatFits_p8 a1 a2 n s0 l3 l4 = some R → sm_V X (sm_QI X R) 5 s0 8 [(0, .ref (sm_ad (sm_w X) 0)), (1, .ref (sm_ad (sm_w X) a1)), (2, .int a2), (3, .int l3), (4, .int l4)] [] := by
  intro n
  induction n with
  | zero =>
    intro s0 l3 l4 h
    have h : (none : Option (Int32 × sm_St)) = some R := h
    cases h
  | succ n ih =>
    intro s0 l3 l4 h
    unfold xf_X7_firstThatFits_p8 at h
    refine sm_iload C 4 dX7_firstThatFits_8 rfl ?_
    refine sm_iload_n C 3 dX7_firstThatFits_10 rfl rfl ?_
    refine sm_icmp_ge C 41 dX7_firstThatFits_11 (by decide) h (fun h => ?_) (fun h => ?_)
    · refine sm_iconst (v := (-1)) C dX7_firstThatFits_41 (by decide) ?_
      exact sm_iret C dX7_firstThatFits_42 h
    · refine sm_aload_n C 0 dX7_firstThatFits_14 rfl rfl ?_
      refine sm_aload_n C 1 dX7_firstThatFits_15 rfl rfl ?_
      refine sm_iload_n C 2 dX7_firstThatFits_16 rfl rfl ?_
      refine sm_iload C 4 dX7_firstThatFits_17 rfl ?_
      refine sm_iconst (v := (-1)) C dX7_firstThatFits_19 (by decide) ?_
      refine sm_iconst (v := (-1)) C dX7_firstThatFits_20 (by decide) ?_
      refine sm_callVI (k := 0) C [.ref (sm_ad (sm_w X) a1), .int a2, .int l4, .int (-1 : Int32), .int (-1 : Int32)] (xc_X7_fits hw a1 a2 l4 (-1 : Int32) (-1 : Int32) ha1) gm_X7_fits gl_S_274 gi_X7_fits ge_X7_fits (xob_S hw rfl) rfl ⟨Nat.le_of_ble_eq_true rfl, Nat.le_of_ble_eq_true rfl⟩ rfl (Nat.le_of_ble_eq_true rfl) dX7_firstThatFits_21 h (fun v1 s2 h => ?_)
      refine sm_if_eq C 35 dX7_firstThatFits_24 (by decide) h (fun h => ?_) (fun h => ?_)
      · refine sm_iinc (lv' := fun v3 => [(4, .int v3), (0, .ref (sm_ad (sm_w X) 0)), (1, .ref (sm_ad (sm_w X) a1)), (2, .int a2), (3, .int l3)]) C 4 dX7_firstThatFits_35 rfl (by decide) (fun _ => rfl) h (fun v3 h => ?_)
        refine sm_goto C 8 dX7_firstThatFits_38 (by decide) ?_
        refine sm_sub (lv' := [(0, .ref (sm_ad (sm_w X) 0)), (1, .ref (sm_ad (sm_w X) a1)), (2, .int a2), (3, .int l3), (4, .int v3)]) [1, 2, 3, 4, 0] rfl ?_
        exact ih s2 l3 v3 h
      · refine sm_aload_n C 0 dX7_firstThatFits_27 rfl rfl ?_
        refine xr_S_thought C hw (k := 0) rfl gf_S_49 dX7_firstThatFits_28 ?_
        refine sm_callVI (k := 43) C [] (xc_X2_digits hw) gm_X2_digits gl_S_278 gi_X2_digits ge_X2_digits (xob_Night hw rfl) rfl ⟨Nat.le_of_ble_eq_true rfl, Nat.le_of_ble_eq_true rfl⟩ rfl (Nat.le_of_ble_eq_true rfl) dX7_firstThatFits_31 h (fun v4 s5 h => ?_)
        exact sm_iret C dX7_firstThatFits_34 h
set_option maxRecDepth 4000 in
theorem xc_X7_firstThatFits {w : sm_WD} {l : Launch} (hw : xo_is w) (a1 : Nat) (a2 : Int32) (ha1 : xo_tag a1 = 4) : sm_CI w l yX7_firstThatFits prog_1_method_32_code 5 (some .int) 8 247 [.ref (sm_ad w 0), .ref (sm_ad w a1), .int a2] (fun s => xf_X7_firstThatFits a1 a2 s) := by
  refine sm_CI.of (by decide +kernel) (Nat.le_of_ble_eq_true rfl) (fun X s0 R hXw hXl C h => ?_)
  subst hXw
  subst hXl
  have h : xf_X7_firstThatFits a1 a2 s0 = some R := h
  show sm_V X (sm_QI X R) 5 s0 0 [(0, .ref (sm_ad (sm_w X) 0)), (1, .ref (sm_ad (sm_w X) a1)), (2, .int a2)] []
  unfold xf_X7_firstThatFits at h
  refine sm_iload_n C 2 dX7_firstThatFits_0 rfl rfl ?_
  refine sm_callSI C [.int a2] (xc_X7_rowsOf hw a2) gm_X7_rowsOf gl_S_271 gs_X7_rowsOf rfl ⟨Nat.le_of_ble_eq_true rfl, Nat.le_of_ble_eq_true rfl⟩ rfl (Nat.le_of_ble_eq_true rfl) dX7_firstThatFits_1 h (fun v1 s2 h => ?_)
  refine sm_istore_n (lv' := [(3, .int v1), (0, .ref (sm_ad (sm_w X) 0)), (1, .ref (sm_ad (sm_w X) a1)), (2, .int a2)]) C dX7_firstThatFits_4 rfl (by decide) rfl ?_
  refine sm_iconst (v := 0) C dX7_firstThatFits_5 (by decide) ?_
  refine sm_istore (lv' := [(4, .int (0 : Int32)), (3, .int v1), (0, .ref (sm_ad (sm_w X) 0)), (1, .ref (sm_ad (sm_w X) a1)), (2, .int a2)]) C dX7_firstThatFits_6 (by decide) rfl ?_
  refine sm_sub (lv' := [(0, .ref (sm_ad (sm_w X) 0)), (1, .ref (sm_ad (sm_w X) a1)), (2, .int a2), (3, .int v1), (4, .int (0 : Int32))]) [2, 3, 4, 1, 0] rfl ?_
  exact xk_X7_firstThatFits_p8 C hw ha1 sm_F s2 v1 (0 : Int32) h
noncomputable def xf_X7_kindsThatFit_p62 (a1 : Nat) (a2 : Int32) (a3 : Int32) (k12 : sm_St → Int32 → Int32 → Int32 → Option (Int32 × sm_St)) (k22 : sm_St → Int32 → Int32 → Int32 → Int32 → Option (Int32 × sm_St)) (s0 : sm_St) (l4 : Int32) (l5 : Int32) (l6 : Int32) (l7 : Int32) : Option (Int32 × sm_St) :=
  sm_b (l7 + Int32.ofInt 1) fun v1 =>
  k22 s0 l4 l5 l6 v1
noncomputable def xf_X7_kindsThatFit_p68 (a1 : Nat) (a2 : Int32) (a3 : Int32) (k12 : sm_St → Int32 → Int32 → Int32 → Option (Int32 × sm_St)) (s0 : sm_St) (l4 : Int32) (l5 : Int32) (l6 : Int32) : Option (Int32 × sm_St) :=
  sm_b (l6 + Int32.ofInt 1) fun v1 =>
  k12 s0 l4 l5 v1
noncomputable def xf_X7_kindsThatFit_p22 (a1 : Nat) (a2 : Int32) (a3 : Int32) (k12 : sm_St → Int32 → Int32 → Int32 → Option (Int32 × sm_St)) : Nat → sm_St → Int32 → Int32 → Int32 → Int32 → Option (Int32 × sm_St)
  | 0, _, _, _, _, _ => none
  | n + 1, s0, l4, l5, l6, l7 =>
  if l4 ≤ l7 then (
  xf_X7_kindsThatFit_p68 a1 a2 a3 k12 s0 l4 l5 l6)
  else (
  sm_b (l5 >>> (l6 &&& 31)) fun v1 =>
  sm_b (v1 &&& (1 : Int32)) fun v2 =>
  if v2 = 0 then (
  sm_c (xf_X7_fits a1 a2 l7 a3 l6 s0) fun v3 s4 =>
  if v3 = 0 then (
  xf_X7_kindsThatFit_p62 a1 a2 a3 k12 (xf_X7_kindsThatFit_p22 a1 a2 a3 k12 n) s4 l4 l5 l6 l7)
  else (
  sm_b ((1 : Int32) <<< (l6 &&& 31)) fun v5 =>
  sm_b (l5 ||| v5) fun v6 =>
  xf_X7_kindsThatFit_p62 a1 a2 a3 k12 (xf_X7_kindsThatFit_p22 a1 a2 a3 k12 n) s4 l4 v6 l6 l7))
  else (
  xf_X7_kindsThatFit_p68 a1 a2 a3 k12 s0 l4 l5 l6))
noncomputable def xf_X7_kindsThatFit_p12 (a1 : Nat) (a2 : Int32) (a3 : Int32) : Nat → sm_St → Int32 → Int32 → Int32 → Option (Int32 × sm_St)
  | 0, _, _, _, _ => none
  | n + 1, s0, l4, l5, l6 =>
  if (6 : Int32) ≤ l6 then (
  some (l5, s0))
  else (
  xf_X7_kindsThatFit_p22 a1 a2 a3 (xf_X7_kindsThatFit_p12 a1 a2 a3 n) sm_F s0 l4 l5 l6 (0 : Int32))
noncomputable def xf_X7_kindsThatFit (a1 : Nat) (a2 : Int32) (a3 : Int32) (s0 : sm_St) : Option (Int32 × sm_St) :=
  sm_c (xf_X7_rowsOf a2 s0) fun v1 s2 =>
  xf_X7_kindsThatFit_p12 a1 a2 a3 sm_F s2 v1 (0 : Int32) (0 : Int32)
set_option maxRecDepth 4000 in
theorem xk_X7_kindsThatFit_p62 {X : sm_VC} (C : sm_Cx X prog_1_method_33_code 8 "SmokeGoesTo" 8 247 (some .int)) (hw : xo_is (sm_w X)) {a1 : Nat} {a2 : Int32} {a3 : Int32} (ha1 : xo_tag a1 = 4) {R : Int32 × sm_St} {k12 : sm_St → Int32 → Int32 → Int32 → Option (Int32 × sm_St)} {k22 : sm_St → Int32 → Int32 → Int32 → Int32 → Option (Int32 × sm_St)} (hk12 : ∀ (s : sm_St) (l4 : Int32) (l5 : Int32) (l6 : Int32), k12 s l4 l5 l6 = some R → sm_V X (sm_QI X R) 8 s 12 [(0, .ref (sm_ad (sm_w X) 0)), (1, .ref (sm_ad (sm_w X) a1)), (2, .int a2), (3, .int a3), (4, .int l4), (5, .int l5), (6, .int l6)] []) (hk22 : ∀ (s : sm_St) (l4 : Int32) (l5 : Int32) (l6 : Int32) (l7 : Int32), k22 s l4 l5 l6 l7 = some R → sm_V X (sm_QI X R) 8 s 22 [(0, .ref (sm_ad (sm_w X) 0)), (1, .ref (sm_ad (sm_w X) a1)), (2, .int a2), (3, .int a3), (4, .int l4), (5, .int l5), (6, .int l6), (7, .int l7)] []) (s0 : sm_St) (l4 : Int32) (l5 : Int32) (l6 : Int32) (l7 : Int32)  (h : xf_X7_kindsThatFit_p62 a1 a2 a3 k12 k22 s0 l4 l5 l6 l7 = some R) : sm_V X (sm_QI X R) 8 s0 62 [(0, .ref (sm_ad (sm_w X) 0)), (1, .ref (sm_ad (sm_w X) a1)), (2, .int a2), (3, .int a3), (4, .int l4), (5, .int l5), (6, .int l6), (7, .int l7)] [] := by
  unfold xf_X7_kindsThatFit_p62 at h
  refine sm_iinc (lv' := fun v1 => [(7, .int v1), (0, .ref (sm_ad (sm_w X) 0)), (1, .ref (sm_ad (sm_w X) a1)), (2, .int a2), (3, .int a3), (4, .int l4), (5, .int l5), (6, .int l6)]) C 7 dX7_kindsThatFit_62 rfl (by decide) (fun _ => rfl) h (fun v1 h => ?_)
  refine sm_goto C 22 dX7_kindsThatFit_65 (by decide) ?_
  refine sm_sub (lv' := [(0, .ref (sm_ad (sm_w X) 0)), (1, .ref (sm_ad (sm_w X) a1)), (2, .int a2), (3, .int a3), (4, .int l4), (5, .int l5), (6, .int l6), (7, .int v1)]) [1, 2, 3, 4, 5, 6, 7, 0] rfl ?_
  exact hk22 s0 l4 l5 l6 v1 h
set_option maxRecDepth 4000 in
theorem xk_X7_kindsThatFit_p68 {X : sm_VC} (C : sm_Cx X prog_1_method_33_code 8 "SmokeGoesTo" 8 247 (some .int)) (hw : xo_is (sm_w X)) {a1 : Nat} {a2 : Int32} {a3 : Int32} (ha1 : xo_tag a1 = 4) {R : Int32 × sm_St} {k12 : sm_St → Int32 → Int32 → Int32 → Option (Int32 × sm_St)} (hk12 : ∀ (s : sm_St) (l4 : Int32) (l5 : Int32) (l6 : Int32), k12 s l4 l5 l6 = some R → sm_V X (sm_QI X R) 8 s 12 [(0, .ref (sm_ad (sm_w X) 0)), (1, .ref (sm_ad (sm_w X) a1)), (2, .int a2), (3, .int a3), (4, .int l4), (5, .int l5), (6, .int l6)] []) (s0 : sm_St) (l4 : Int32) (l5 : Int32) (l6 : Int32)  (h : xf_X7_kindsThatFit_p68 a1 a2 a3 k12 s0 l4 l5 l6 = some R) : sm_V X (sm_QI X R) 8 s0 68 [(0, .ref (sm_ad (sm_w X) 0)), (1, .ref (sm_ad (sm_w X) a1)), (2, .int a2), (3, .int a3), (4, .int l4), (5, .int l5), (6, .int l6)] [] := by
  unfold xf_X7_kindsThatFit_p68 at h
  refine sm_iinc (lv' := fun v1 => [(6, .int v1), (0, .ref (sm_ad (sm_w X) 0)), (1, .ref (sm_ad (sm_w X) a1)), (2, .int a2), (3, .int a3), (4, .int l4), (5, .int l5)]) C 6 dX7_kindsThatFit_68 rfl (by decide) (fun _ => rfl) h (fun v1 h => ?_)
  refine sm_goto C 12 dX7_kindsThatFit_71 (by decide) ?_
  refine sm_sub (lv' := [(0, .ref (sm_ad (sm_w X) 0)), (1, .ref (sm_ad (sm_w X) a1)), (2, .int a2), (3, .int a3), (4, .int l4), (5, .int l5), (6, .int v1)]) [1, 2, 3, 4, 5, 6, 0] rfl ?_
  exact hk12 s0 l4 l5 v1 h
set_option maxRecDepth 4000 in
theorem xk_X7_kindsThatFit_p22 {X : sm_VC} (C : sm_Cx X prog_1_method_33_code 8 "SmokeGoesTo" 8 247 (some .int)) (hw : xo_is (sm_w X)) {a1 : Nat} {a2 : Int32} {a3 : Int32} (ha1 : xo_tag a1 = 4) {R : Int32 × sm_St} {k12 : sm_St → Int32 → Int32 → Int32 → Option (Int32 × sm_St)} (hk12 : ∀ (s : sm_St) (l4 : Int32) (l5 : Int32) (l6 : Int32), k12 s l4 l5 l6 = some R → sm_V X (sm_QI X R) 8 s 12 [(0, .ref (sm_ad (sm_w X) 0)), (1, .ref (sm_ad (sm_w X) a1)), (2, .int a2), (3, .int a3), (4, .int l4), (5, .int l5), (6, .int l6)] []) : ∀ (n : Nat) (s0 : sm_St) (l4 : Int32) (l5 : Int32) (l6 : Int32) (l7 : Int32) , xf_X7_kindsThatFit_p22 a1 a2 a3 k12 n s0 l4 l5 l6 l7 = some R → sm_V X (sm_QI X R) 8 s0 22 [(0, .ref (sm_ad (sm_w X) 0)), (1, .ref (sm_ad (sm_w X) a1)), (2, .int a2), (3, .int a3), (4, .int l4), (5, .int l5), (6, .int l6), (7, .int l7)] [] := by
  intro n
  induction n with
  | zero =>
    intro s0 l4 l5 l6 l7 h
    have h : (none : Option (Int32 × sm_St)) = some R := h
    cases h
  | succ n ih =>
    intro s0 l4 l5 l6 l7 h
    unfold xf_X7_kindsThatFit_p22 at h
    refine sm_iload C 7 dX7_kindsThatFit_22 rfl ?_
    refine sm_iload C 4 dX7_kindsThatFit_24 rfl ?_
    refine sm_icmp_ge C 68 dX7_kindsThatFit_26 (by decide) h (fun h => ?_) (fun h => ?_)
    · refine sm_sub (lv' := [(0, .ref (sm_ad (sm_w X) 0)), (1, .ref (sm_ad (sm_w X) a1)), (2, .int a2), (3, .int a3), (4, .int l4), (5, .int l5), (6, .int l6)]) [0, 1, 2, 3, 4, 5, 6] rfl ?_
      exact xk_X7_kindsThatFit_p68 C hw ha1 hk12 s0 l4 l5 l6 h
    · refine sm_iload C 5 dX7_kindsThatFit_29 rfl ?_
      refine sm_iload C 6 dX7_kindsThatFit_31 rfl ?_
      refine sm_ishr C dX7_kindsThatFit_33 h (fun v1 h => ?_)
      refine sm_iconst (v := 1) C dX7_kindsThatFit_34 (by decide) ?_
      refine sm_iand C dX7_kindsThatFit_35 h (fun v2 h => ?_)
      refine sm_if_ne C 68 dX7_kindsThatFit_36 (by decide) h (fun h => ?_) (fun h => ?_)
      · refine sm_sub (lv' := [(0, .ref (sm_ad (sm_w X) 0)), (1, .ref (sm_ad (sm_w X) a1)), (2, .int a2), (3, .int a3), (4, .int l4), (5, .int l5), (6, .int l6)]) [0, 1, 2, 3, 4, 5, 6] rfl ?_
        exact xk_X7_kindsThatFit_p68 C hw ha1 hk12 s0 l4 l5 l6 h
      · refine sm_aload_n C 0 dX7_kindsThatFit_39 rfl rfl ?_
        refine sm_aload_n C 1 dX7_kindsThatFit_40 rfl rfl ?_
        refine sm_iload_n C 2 dX7_kindsThatFit_41 rfl rfl ?_
        refine sm_iload C 7 dX7_kindsThatFit_42 rfl ?_
        refine sm_iload_n C 3 dX7_kindsThatFit_44 rfl rfl ?_
        refine sm_iload C 6 dX7_kindsThatFit_45 rfl ?_
        refine sm_callVI (k := 0) C [.ref (sm_ad (sm_w X) a1), .int a2, .int l7, .int a3, .int l6] (xc_X7_fits hw a1 a2 l7 a3 l6 ha1) gm_X7_fits gl_S_274 gi_X7_fits ge_X7_fits (xob_S hw rfl) rfl ⟨Nat.le_of_ble_eq_true rfl, Nat.le_of_ble_eq_true rfl⟩ rfl (Nat.le_of_ble_eq_true rfl) dX7_kindsThatFit_47 h (fun v3 s4 h => ?_)
        refine sm_if_eq C 62 dX7_kindsThatFit_50 (by decide) h (fun h => ?_) (fun h => ?_)
        · exact xk_X7_kindsThatFit_p62 C hw ha1 hk12 ih s4 l4 l5 l6 l7 h
        · refine sm_iload C 5 dX7_kindsThatFit_53 rfl ?_
          refine sm_iconst (v := 1) C dX7_kindsThatFit_55 (by decide) ?_
          refine sm_iload C 6 dX7_kindsThatFit_56 rfl ?_
          refine sm_ishl C dX7_kindsThatFit_58 h (fun v5 h => ?_)
          refine sm_ior C dX7_kindsThatFit_59 h (fun v6 h => ?_)
          refine sm_istore (lv' := [(5, .int v6), (0, .ref (sm_ad (sm_w X) 0)), (1, .ref (sm_ad (sm_w X) a1)), (2, .int a2), (3, .int a3), (4, .int l4), (6, .int l6), (7, .int l7)]) C dX7_kindsThatFit_60 (by decide) rfl ?_
          refine sm_sub (lv' := [(0, .ref (sm_ad (sm_w X) 0)), (1, .ref (sm_ad (sm_w X) a1)), (2, .int a2), (3, .int a3), (4, .int l4), (5, .int v6), (6, .int l6), (7, .int l7)]) [1, 2, 3, 4, 5, 0, 6, 7] rfl ?_
          exact xk_X7_kindsThatFit_p62 C hw ha1 hk12 ih s4 l4 v6 l6 l7 h
set_option maxRecDepth 4000 in
theorem xk_X7_kindsThatFit_p12 {X : sm_VC} (C : sm_Cx X prog_1_method_33_code 8 "SmokeGoesTo" 8 247 (some .int)) (hw : xo_is (sm_w X)) {a1 : Nat} {a2 : Int32} {a3 : Int32} (ha1 : xo_tag a1 = 4) {R : Int32 × sm_St}   : ∀ (n : Nat) (s0 : sm_St) (l4 : Int32) (l5 : Int32) (l6 : Int32) , xf_X7_kindsThatFit_p12 a1 a2 a3 n s0 l4 l5 l6 = some R → sm_V X (sm_QI X R) 8 s0 12 [(0, .ref (sm_ad (sm_w X) 0)), (1, .ref (sm_ad (sm_w X) a1)), (2, .int a2), (3, .int a3), (4, .int l4), (5, .int l5), (6, .int l6)] [] := by
  intro n
  induction n with
  | zero =>
    intro s0 l4 l5 l6 h
    have h : (none : Option (Int32 × sm_St)) = some R := h
    cases h
  | succ n ih =>
    intro s0 l4 l5 l6 h
    unfold xf_X7_kindsThatFit_p12 at h
    refine sm_iload C 6 dX7_kindsThatFit_12 rfl ?_
    refine sm_bipush (v := 6) C dX7_kindsThatFit_14 (by decide) ?_
    refine sm_icmp_ge C 74 dX7_kindsThatFit_16 (by decide) h (fun h => ?_) (fun h => ?_)
    · refine sm_iload C 5 dX7_kindsThatFit_74 rfl ?_
      exact sm_iret C dX7_kindsThatFit_76 h
    · refine sm_iconst (v := 0) C dX7_kindsThatFit_19 (by decide) ?_
      refine sm_istore (lv' := [(7, .int (0 : Int32)), (0, .ref (sm_ad (sm_w X) 0)), (1, .ref (sm_ad (sm_w X) a1)), (2, .int a2), (3, .int a3), (4, .int l4), (5, .int l5), (6, .int l6)]) C dX7_kindsThatFit_20 (by decide) rfl ?_
      refine sm_sub (lv' := [(0, .ref (sm_ad (sm_w X) 0)), (1, .ref (sm_ad (sm_w X) a1)), (2, .int a2), (3, .int a3), (4, .int l4), (5, .int l5), (6, .int l6), (7, .int (0 : Int32))]) [1, 2, 3, 4, 5, 6, 7, 0] rfl ?_
      exact xk_X7_kindsThatFit_p22 C hw ha1 ih sm_F s0 l4 l5 l6 (0 : Int32) h
set_option maxRecDepth 4000 in
theorem xc_X7_kindsThatFit {w : sm_WD} {l : Launch} (hw : xo_is w) (a1 : Nat) (a2 : Int32) (a3 : Int32) (ha1 : xo_tag a1 = 4) : sm_CI w l yX7_kindsThatFit prog_1_method_33_code 8 (some .int) 8 247 [.ref (sm_ad w 0), .ref (sm_ad w a1), .int a2, .int a3] (fun s => xf_X7_kindsThatFit a1 a2 a3 s) := by
  refine sm_CI.of (by decide +kernel) (Nat.le_of_ble_eq_true rfl) (fun X s0 R hXw hXl C h => ?_)
  subst hXw
  subst hXl
  have h : xf_X7_kindsThatFit a1 a2 a3 s0 = some R := h
  show sm_V X (sm_QI X R) 8 s0 0 [(0, .ref (sm_ad (sm_w X) 0)), (1, .ref (sm_ad (sm_w X) a1)), (2, .int a2), (3, .int a3)] []
  unfold xf_X7_kindsThatFit at h
  refine sm_iload_n C 2 dX7_kindsThatFit_0 rfl rfl ?_
  refine sm_callSI C [.int a2] (xc_X7_rowsOf hw a2) gm_X7_rowsOf gl_S_271 gs_X7_rowsOf rfl ⟨Nat.le_of_ble_eq_true rfl, Nat.le_of_ble_eq_true rfl⟩ rfl (Nat.le_of_ble_eq_true rfl) dX7_kindsThatFit_1 h (fun v1 s2 h => ?_)
  refine sm_istore (lv' := [(4, .int v1), (0, .ref (sm_ad (sm_w X) 0)), (1, .ref (sm_ad (sm_w X) a1)), (2, .int a2), (3, .int a3)]) C dX7_kindsThatFit_4 (by decide) rfl ?_
  refine sm_iconst (v := 0) C dX7_kindsThatFit_6 (by decide) ?_
  refine sm_istore (lv' := [(5, .int (0 : Int32)), (4, .int v1), (0, .ref (sm_ad (sm_w X) 0)), (1, .ref (sm_ad (sm_w X) a1)), (2, .int a2), (3, .int a3)]) C dX7_kindsThatFit_7 (by decide) rfl ?_
  refine sm_iconst (v := 0) C dX7_kindsThatFit_9 (by decide) ?_
  refine sm_istore (lv' := [(6, .int (0 : Int32)), (5, .int (0 : Int32)), (4, .int v1), (0, .ref (sm_ad (sm_w X) 0)), (1, .ref (sm_ad (sm_w X) a1)), (2, .int a2), (3, .int a3)]) C dX7_kindsThatFit_10 (by decide) rfl ?_
  refine sm_sub (lv' := [(0, .ref (sm_ad (sm_w X) 0)), (1, .ref (sm_ad (sm_w X) a1)), (2, .int a2), (3, .int a3), (4, .int v1), (5, .int (0 : Int32)), (6, .int (0 : Int32))]) [3, 4, 5, 6, 2, 1, 0] rfl ?_
  exact xk_X7_kindsThatFit_p12 C hw ha1 sm_F s2 v1 (0 : Int32) (0 : Int32) h
noncomputable def xf_X7_eyes (a1 : Int32) (a2 : Int32) (a3 : Int32) (s0 : sm_St) : Option (Int32 × sm_St) :=
  sm_c (xf_X7_isSheet a1 s0) fun v1 s2 =>
  if v1 = 0 then (
  some ((-100 : Int32), s2))
  else (
  if a2 < 0 then (
  some ((-100 : Int32), s2))
  else (
  if a2 ≤ (5 : Int32) then (
  if a3 < (-2 : Int32) then (
  some ((-100 : Int32), s2))
  else (
  sm_b (s2.1 1 6) fun v3 =>
  if a3 < v3 then (
  sm_g (sm_in a1 4) <|
  sm_c (xf_X5_isMissing (35 + a1.toNatClampNeg) s2) fun v5 s6 =>
  if v5 = 0 then (
  sm_b (s6.1 (35 + a1.toNatClampNeg) 1) fun v7 =>
  sm_b (s6.1 1 6) fun v8 =>
  if v7 = v8 then (
  if a3 = (-1 : Int32) then (
  sm_c (xf_X7_rowsThatFit (35 + a1.toNatClampNeg) a2 s6) fun v13 s14 =>
  some (v13, s14))
  else (
  if a3 = (-2 : Int32) then (
  sm_c (xf_X7_firstThatFits (35 + a1.toNatClampNeg) a2 s6) fun v11 s12 =>
  some (v11, s12))
  else (
  sm_c (xf_X7_kindsThatFit (35 + a1.toNatClampNeg) a2 a3 s6) fun v9 s10 =>
  some (v9, s10))))
  else (
  some ((-100 : Int32), s6)))
  else (
  some ((-100 : Int32), s6)))
  else (
  some ((-100 : Int32), s2))))
  else (
  some ((-100 : Int32), s2))))
set_option maxRecDepth 4000 in
theorem xc_X7_eyes {w : sm_WD} {l : Launch} (hw : xo_is w) (a1 : Int32) (a2 : Int32) (a3 : Int32) : sm_CI w l yX7_eyes prog_1_method_30_code 5 (some .int) 9 274 [.ref (sm_ad w 0), .int a1, .int a2, .int a3] (fun s => xf_X7_eyes a1 a2 a3 s) := by
  refine sm_CI.of (by decide +kernel) (Nat.le_of_ble_eq_true rfl) (fun X s0 R hXw hXl C h => ?_)
  subst hXw
  subst hXl
  have h : xf_X7_eyes a1 a2 a3 s0 = some R := h
  show sm_V X (sm_QI X R) 5 s0 0 [(0, .ref (sm_ad (sm_w X) 0)), (1, .int a1), (2, .int a2), (3, .int a3)] []
  unfold xf_X7_eyes at h
  refine sm_iload_n C 1 dX7_eyes_0 rfl rfl ?_
  refine sm_callSI C [.int a1] (xc_X7_isSheet hw a1) gm_X7_isSheet gl_S_162 gs_X7_isSheet rfl ⟨Nat.le_of_ble_eq_true rfl, Nat.le_of_ble_eq_true rfl⟩ rfl (Nat.le_of_ble_eq_true rfl) dX7_eyes_1 h (fun v1 s2 h => ?_)
  refine sm_if_eq C 16 dX7_eyes_4 (by decide) h (fun h => ?_) (fun h => ?_)
  · refine sm_bipush (v := (-100)) C dX7_eyes_16 (by decide) ?_
    exact sm_iret C dX7_eyes_18 h
  · refine sm_iload_n C 2 dX7_eyes_7 rfl rfl ?_
    refine sm_if_lt C 16 dX7_eyes_8 (by decide) h (fun h => ?_) (fun h => ?_)
    · refine sm_bipush (v := (-100)) C dX7_eyes_16 (by decide) ?_
      exact sm_iret C dX7_eyes_18 h
    · refine sm_iload_n C 2 dX7_eyes_11 rfl rfl ?_
      refine sm_iconst (v := 5) C dX7_eyes_12 (by decide) ?_
      refine sm_icmp_le C 19 dX7_eyes_13 (by decide) h (fun h => ?_) (fun h => ?_)
      · refine sm_iload_n C 3 dX7_eyes_19 rfl rfl ?_
        refine sm_bipush (v := (-2)) C dX7_eyes_20 (by decide) ?_
        refine sm_icmp_lt C 36 dX7_eyes_22 (by decide) h (fun h => ?_) (fun h => ?_)
        · refine sm_bipush (v := (-100)) C dX7_eyes_36 (by decide) ?_
          exact sm_iret C dX7_eyes_38 h
        · refine sm_iload_n C 3 dX7_eyes_25 rfl rfl ?_
          refine sm_aload_n C 0 dX7_eyes_26 rfl rfl ?_
          refine xr_S_fire C hw (k := 0) rfl gf_S_12 dX7_eyes_27 ?_
          refine xr_Fire_size C hw (k := 1) rfl gf_S_238 dX7_eyes_30 h (fun v3 h => ?_)
          refine sm_icmp_lt C 39 dX7_eyes_33 (by decide) h (fun h => ?_) (fun h => ?_)
          · refine sm_aload_n C 0 dX7_eyes_39 rfl rfl ?_
            refine xr_S_sheets C hw (k := 0) rfl gf_S_42 dX7_eyes_40 ?_
            refine sm_iload_n C 1 dX7_eyes_43 rfl rfl ?_
            refine xa_aaldSheet C hw (k := 34) rfl dX7_eyes_44 h (fun hb3 h => ?_)
            refine sm_astore (lv' := [(4, .ref (sm_ad (sm_w X) (35 + a1.toNatClampNeg))), (0, .ref (sm_ad (sm_w X) 0)), (1, .int a1), (2, .int a2), (3, .int a3)]) C dX7_eyes_45 (by decide) rfl ?_
            refine sm_aload C 0 dX7_eyes_47 rfl ?_
            refine sm_callVI (k := (35 + a1.toNatClampNeg)) C [] (xc_X5_isMissing hw (35 + a1.toNatClampNeg) (xt_sheets hb3)) gm_X5_isMissing gl_S_168 gi_X5_isMissing ge_X5_isMissing (xob_Sheet hw (xt_sheets hb3)) rfl ⟨Nat.le_of_ble_eq_true rfl, Nat.le_of_ble_eq_true rfl⟩ rfl (Nat.le_of_ble_eq_true rfl) dX7_eyes_49 h (fun v5 s6 h => ?_)
            refine sm_if_ne C 70 dX7_eyes_52 (by decide) h (fun h => ?_) (fun h => ?_)
            · refine sm_bipush (v := (-100)) C dX7_eyes_70 (by decide) ?_
              exact sm_iret C dX7_eyes_72 h
            · refine sm_aload C 0 dX7_eyes_55 rfl ?_
              refine xr_Sheet_size C hw (k := (35 + a1.toNatClampNeg)) (xt_sheets hb3) gf_S_259 dX7_eyes_57 h (fun v7 h => ?_)
              refine sm_aload_n C 1 dX7_eyes_60 rfl rfl ?_
              refine xr_S_fire C hw (k := 0) rfl gf_S_12 dX7_eyes_61 ?_
              refine xr_Fire_size C hw (k := 1) rfl gf_S_238 dX7_eyes_64 h (fun v8 h => ?_)
              refine sm_icmp_eq C 73 dX7_eyes_67 (by decide) h (fun h => ?_) (fun h => ?_)
              · refine sm_iload_n C 4 dX7_eyes_73 rfl rfl ?_
                refine sm_iconst (v := (-1)) C dX7_eyes_74 (by decide) ?_
                refine sm_icmp_ne C 86 dX7_eyes_75 (by decide) h (fun h => ?_) (fun h => ?_)
                · refine sm_iload_n C 4 dX7_eyes_86 rfl rfl ?_
                  refine sm_bipush (v := (-2)) C dX7_eyes_87 (by decide) ?_
                  refine sm_icmp_ne C 100 dX7_eyes_89 (by decide) h (fun h => ?_) (fun h => ?_)
                  · refine sm_aload_n C 1 dX7_eyes_100 rfl rfl ?_
                    refine sm_aload C 0 dX7_eyes_101 rfl ?_
                    refine sm_iload_n C 3 dX7_eyes_103 rfl rfl ?_
                    refine sm_iload_n C 4 dX7_eyes_104 rfl rfl ?_
                    refine sm_callVI (k := 0) C [.ref (sm_ad (sm_w X) (35 + a1.toNatClampNeg)), .int a2, .int a3] (xc_X7_kindsThatFit hw (35 + a1.toNatClampNeg) a2 a3 (xt_sheets hb3)) gm_X7_kindsThatFit gl_S_267 gi_X7_kindsThatFit ge_X7_kindsThatFit (xob_S hw rfl) rfl ⟨Nat.le_of_ble_eq_true rfl, Nat.le_of_ble_eq_true rfl⟩ rfl (Nat.le_of_ble_eq_true rfl) dX7_eyes_105 h (fun v9 s10 h => ?_)
                    exact sm_iret C dX7_eyes_108 h
                  · refine sm_aload_n C 1 dX7_eyes_92 rfl rfl ?_
                    refine sm_aload C 0 dX7_eyes_93 rfl ?_
                    refine sm_iload_n C 3 dX7_eyes_95 rfl rfl ?_
                    refine sm_callVI (k := 0) C [.ref (sm_ad (sm_w X) (35 + a1.toNatClampNeg)), .int a2] (xc_X7_firstThatFits hw (35 + a1.toNatClampNeg) a2 (xt_sheets hb3)) gm_X7_firstThatFits gl_S_264 gi_X7_firstThatFits ge_X7_firstThatFits (xob_S hw rfl) rfl ⟨Nat.le_of_ble_eq_true rfl, Nat.le_of_ble_eq_true rfl⟩ rfl (Nat.le_of_ble_eq_true rfl) dX7_eyes_96 h (fun v11 s12 h => ?_)
                    exact sm_iret C dX7_eyes_99 h
                · refine sm_aload_n C 1 dX7_eyes_78 rfl rfl ?_
                  refine sm_aload C 0 dX7_eyes_79 rfl ?_
                  refine sm_iload_n C 3 dX7_eyes_81 rfl rfl ?_
                  refine sm_callVI (k := 0) C [.ref (sm_ad (sm_w X) (35 + a1.toNatClampNeg)), .int a2] (xc_X7_rowsThatFit hw (35 + a1.toNatClampNeg) a2 (xt_sheets hb3)) gm_X7_rowsThatFit gl_S_260 gi_X7_rowsThatFit ge_X7_rowsThatFit (xob_S hw rfl) rfl ⟨Nat.le_of_ble_eq_true rfl, Nat.le_of_ble_eq_true rfl⟩ rfl (Nat.le_of_ble_eq_true rfl) dX7_eyes_82 h (fun v13 s14 h => ?_)
                  exact sm_iret C dX7_eyes_85 h
              · refine sm_bipush (v := (-100)) C dX7_eyes_70 (by decide) ?_
                exact sm_iret C dX7_eyes_72 h
          · refine sm_bipush (v := (-100)) C dX7_eyes_36 (by decide) ?_
            exact sm_iret C dX7_eyes_38 h
      · refine sm_bipush (v := (-100)) C dX7_eyes_16 (by decide) ?_
        exact sm_iret C dX7_eyes_18 h
noncomputable def xf_X7_film_p83 (a1 : Int32) (a2 : Int32) : Nat → sm_St → Int32 → Option (Int32 × sm_St)
  | 0, _, _ => none
  | n + 1, s0, l3 =>
  sm_b (s0.1 1 6) fun v1 =>
  if v1 ≤ l3 then (
  sm_b (s0.1 1 6) fun v2 =>
  some (v2, s0))
  else (
  sm_g (sm_in a1 4) <|
  sm_g (sm_in l3 5) <| sm_b (s0.1 45 l3.toNatClampNeg) fun v4 =>
  sm_c (xf_X5_put (35 + a1.toNatClampNeg) l3 v4 s0) fun _ s6 =>
  sm_b (l3 + Int32.ofInt 1) fun v7 =>
  (xf_X7_film_p83 a1 a2 n) s6 v7)
noncomputable def xf_X7_film (a1 : Int32) (a2 : Int32) (s0 : sm_St) : Option (Int32 × sm_St) :=
  sm_c (xf_X7_isSheet a1 s0) fun v1 s2 =>
  if v1 = 0 then (
  some ((-2 : Int32), s2))
  else (
  sm_c (xf_X7_isSheet a2 s2) fun v3 s4 =>
  if v3 = 0 then (
  some ((-2 : Int32), s4))
  else (
  sm_g (sm_in a2 4) <|
  sm_c (xf_X5_isMissing (35 + a2.toNatClampNeg) s4) fun v6 s7 =>
  if v6 = 0 then (
  sm_g (sm_in a2 4) <|
  sm_c (xf_X2_takeWinds (35 + a2.toNatClampNeg) s7) fun _ s10 =>
  sm_c (xf_X2_begin 1 s10) fun _ s12 =>
  sm_c (xf_X2_run none s12) fun _ s14 =>
  sm_g (sm_in a1 4) <|
  sm_b (s14.1 1 6) fun v16 =>
  sm_c (xf_X5_become (35 + a1.toNatClampNeg) (0 : Int32) v16 s14) fun _ s18 =>
  xf_X7_film_p83 a1 a2 sm_F s18 (0 : Int32))
  else (
  some ((-11 : Int32), s7))))
set_option maxRecDepth 4000 in
theorem xk_X7_film_p83 {X : sm_VC} (C : sm_Cx X prog_1_method_36_code 4 "SmokeGoesTo" 7 221 (some .int)) (hw : xo_is (sm_w X)) {a1 : Int32} {a2 : Int32}  {R : Int32 × sm_St}   : ∀ (n : Nat) (s0 : sm_St) (l3 : Int32) , xf_X7_film_p83 a1 a2 n s0 l3 = some R → sm_V X (sm_QI X R) 4 s0 83 [(0, .ref (sm_ad (sm_w X) 0)), (1, .int a1), (3, .int l3)] [] := by
  intro n
  induction n with
  | zero =>
    intro s0 l3 h
    have h : (none : Option (Int32 × sm_St)) = some R := h
    cases h
  | succ n ih =>
    intro s0 l3 h
    unfold xf_X7_film_p83 at h
    refine sm_iload_n C 2 dX7_film_83 rfl rfl ?_
    refine sm_aload_n C 0 dX7_film_84 rfl rfl ?_
    refine xr_S_fire C hw (k := 0) rfl gf_S_12 dX7_film_85 ?_
    refine xr_Fire_size C hw (k := 1) rfl gf_S_238 dX7_film_88 h (fun v1 h => ?_)
    refine sm_icmp_ge C 119 dX7_film_91 (by decide) h (fun h => ?_) (fun h => ?_)
    · refine sm_aload_n C 0 dX7_film_119 rfl rfl ?_
      refine xr_S_fire C hw (k := 0) rfl gf_S_12 dX7_film_120 ?_
      refine xr_Fire_size C hw (k := 1) rfl gf_S_238 dX7_film_123 h (fun v2 h => ?_)
      exact sm_iret C dX7_film_126 h
    · refine sm_aload_n C 0 dX7_film_94 rfl rfl ?_
      refine xr_S_sheets C hw (k := 0) rfl gf_S_42 dX7_film_95 ?_
      refine sm_iload_n C 1 dX7_film_98 rfl rfl ?_
      refine xa_aaldSheet C hw (k := 34) rfl dX7_film_99 h (fun hb2 h => ?_)
      refine sm_iload_n C 2 dX7_film_100 rfl rfl ?_
      refine sm_aload_n C 0 dX7_film_101 rfl rfl ?_
      refine xr_S_thought C hw (k := 0) rfl gf_S_49 dX7_film_102 ?_
      refine xr_Night_smoked C hw (k := 43) rfl gf_S_285 dX7_film_105 ?_
      refine sm_iload_n C 2 dX7_film_108 rfl rfl ?_
      refine xa_iald C hw (k := 45) rfl rfl dX7_film_109 h (fun v4 h => ?_)
      refine sm_callVV (k := (35 + a1.toNatClampNeg)) C [.int l3, .int v4] (xc_X5_put hw (35 + a1.toNatClampNeg) l3 v4 (xt_sheets hb2)) gm_X5_put gl_S_294 gi_X5_put ge_X5_put (xob_Sheet hw (xt_sheets hb2)) rfl ⟨Nat.le_of_ble_eq_true rfl, Nat.le_of_ble_eq_true rfl⟩ rfl (Nat.le_of_ble_eq_true rfl) dX7_film_110 h (fun v5 s6 h => ?_)
      refine sm_iinc (lv' := fun v7 => [(3, .int v7), (0, .ref (sm_ad (sm_w X) 0)), (1, .int a1)]) C 2 dX7_film_113 rfl (by decide) (fun _ => rfl) h (fun v7 h => ?_)
      refine sm_goto C 83 dX7_film_116 (by decide) ?_
      refine sm_sub (lv' := [(0, .ref (sm_ad (sm_w X) 0)), (1, .int a1), (3, .int v7)]) [1, 2, 0] rfl ?_
      exact ih s6 v7 h
set_option maxRecDepth 4000 in
theorem xc_X7_film {w : sm_WD} {l : Launch} (hw : xo_is w) (a1 : Int32) (a2 : Int32) : sm_CI w l yX7_film prog_1_method_36_code 4 (some .int) 7 221 [.ref (sm_ad w 0), .int a1, .int a2] (fun s => xf_X7_film a1 a2 s) := by
  refine sm_CI.of (by decide +kernel) (Nat.le_of_ble_eq_true rfl) (fun X s0 R hXw hXl C h => ?_)
  subst hXw
  subst hXl
  have h : xf_X7_film a1 a2 s0 = some R := h
  show sm_V X (sm_QI X R) 4 s0 0 [(0, .ref (sm_ad (sm_w X) 0)), (1, .int a1), (2, .int a2)] []
  unfold xf_X7_film at h
  refine sm_iload_n C 1 dX7_film_0 rfl rfl ?_
  refine sm_callSI C [.int a1] (xc_X7_isSheet hw a1) gm_X7_isSheet gl_S_162 gs_X7_isSheet rfl ⟨Nat.le_of_ble_eq_true rfl, Nat.le_of_ble_eq_true rfl⟩ rfl (Nat.le_of_ble_eq_true rfl) dX7_film_1 h (fun v1 s2 h => ?_)
  refine sm_if_eq C 14 dX7_film_4 (by decide) h (fun h => ?_) (fun h => ?_)
  · refine sm_bipush (v := (-2)) C dX7_film_14 (by decide) ?_
    exact sm_iret C dX7_film_16 h
  · refine sm_iload_n C 2 dX7_film_7 rfl rfl ?_
    refine sm_callSI C [.int a2] (xc_X7_isSheet hw a2) gm_X7_isSheet gl_S_162 gs_X7_isSheet rfl ⟨Nat.le_of_ble_eq_true rfl, Nat.le_of_ble_eq_true rfl⟩ rfl (Nat.le_of_ble_eq_true rfl) dX7_film_8 h (fun v3 s4 h => ?_)
    refine sm_if_ne C 17 dX7_film_11 (by decide) h (fun h => ?_) (fun h => ?_)
    · refine sm_aload_n C 0 dX7_film_17 rfl rfl ?_
      refine xr_S_sheets C hw (k := 0) rfl gf_S_42 dX7_film_18 ?_
      refine sm_iload_n C 2 dX7_film_21 rfl rfl ?_
      refine xa_aaldSheet C hw (k := 34) rfl dX7_film_22 h (fun hb4 h => ?_)
      refine sm_callVI (k := (35 + a2.toNatClampNeg)) C [] (xc_X5_isMissing hw (35 + a2.toNatClampNeg) (xt_sheets hb4)) gm_X5_isMissing gl_S_168 gi_X5_isMissing ge_X5_isMissing (xob_Sheet hw (xt_sheets hb4)) rfl ⟨Nat.le_of_ble_eq_true rfl, Nat.le_of_ble_eq_true rfl⟩ rfl (Nat.le_of_ble_eq_true rfl) dX7_film_23 h (fun v6 s7 h => ?_)
      refine sm_if_eq C 32 dX7_film_26 (by decide) h (fun h => ?_) (fun h => ?_)
      · refine sm_aload_n C 0 dX7_film_32 rfl rfl ?_
        refine xr_S_thought C hw (k := 0) rfl gf_S_49 dX7_film_33 ?_
        refine sm_aload_n C 0 dX7_film_36 rfl rfl ?_
        refine xr_S_sheets C hw (k := 0) rfl gf_S_42 dX7_film_37 ?_
        refine sm_iload_n C 2 dX7_film_40 rfl rfl ?_
        refine xa_aaldSheet C hw (k := 34) rfl dX7_film_41 h (fun hb7 h => ?_)
        refine sm_callVV (k := 43) C [.ref (sm_ad (sm_w X) (35 + a2.toNatClampNeg))] (xc_X2_takeWinds hw (35 + a2.toNatClampNeg) (xt_sheets hb7)) gm_X2_takeWinds gl_S_172 gi_X2_takeWinds ge_X2_takeWinds (xob_Night hw rfl) rfl ⟨Nat.le_of_ble_eq_true rfl, Nat.le_of_ble_eq_true rfl⟩ rfl (Nat.le_of_ble_eq_true rfl) dX7_film_42 h (fun v9 s10 h => ?_)
        refine sm_aload_n C 0 dX7_film_45 rfl rfl ?_
        refine xr_S_thought C hw (k := 0) rfl gf_S_49 dX7_film_46 ?_
        refine sm_aload_n C 0 dX7_film_49 rfl rfl ?_
        refine xr_S_fire C hw (k := 0) rfl gf_S_12 dX7_film_50 ?_
        refine sm_callVV (k := 43) C [.ref (sm_ad (sm_w X) 1)] (xc_X2_begin hw 1 rfl) gm_X2_begin gl_S_200 gi_X2_begin ge_X2_begin (xob_Night hw rfl) rfl ⟨Nat.le_of_ble_eq_true rfl, Nat.le_of_ble_eq_true rfl⟩ rfl (Nat.le_of_ble_eq_true rfl) dX7_film_53 h (fun v11 s12 h => ?_)
        refine sm_aload_n C 0 dX7_film_56 rfl rfl ?_
        refine xr_S_thought C hw (k := 0) rfl gf_S_49 dX7_film_57 ?_
        refine sm_null C dX7_film_60 ?_
        refine sm_callVV (k := 43) C [.null] (xc_X2_run hw none) gm_X2_run gl_S_204 gi_X2_run ge_X2_run (xob_Night hw rfl) rfl ⟨Nat.le_of_ble_eq_true rfl, Nat.le_of_ble_eq_true rfl⟩ rfl (Nat.le_of_ble_eq_true rfl) dX7_film_61 h (fun v13 s14 h => ?_)
        refine sm_aload_n C 0 dX7_film_64 rfl rfl ?_
        refine xr_S_sheets C hw (k := 0) rfl gf_S_42 dX7_film_65 ?_
        refine sm_iload_n C 1 dX7_film_68 rfl rfl ?_
        refine xa_aaldSheet C hw (k := 34) rfl dX7_film_69 h (fun hb14 h => ?_)
        refine sm_iconst (v := 0) C dX7_film_70 (by decide) ?_
        refine sm_aload_n C 0 dX7_film_71 rfl rfl ?_
        refine xr_S_fire C hw (k := 0) rfl gf_S_12 dX7_film_72 ?_
        refine xr_Fire_size C hw (k := 1) rfl gf_S_238 dX7_film_75 h (fun v16 h => ?_)
        refine sm_callVV (k := (35 + a1.toNatClampNeg)) C [.int (0 : Int32), .int v16] (xc_X5_become hw (35 + a1.toNatClampNeg) (0 : Int32) v16 (xt_sheets hb14)) gm_X5_become gl_S_291 gi_X5_become ge_X5_become (xob_Sheet hw (xt_sheets hb14)) rfl ⟨Nat.le_of_ble_eq_true rfl, Nat.le_of_ble_eq_true rfl⟩ rfl (Nat.le_of_ble_eq_true rfl) dX7_film_78 h (fun v17 s18 h => ?_)
        refine sm_iconst (v := 0) C dX7_film_81 (by decide) ?_
        refine sm_istore_n (lv' := [(3, .int (0 : Int32)), (0, .ref (sm_ad (sm_w X) 0)), (1, .int a1), (2, .int a2)]) C dX7_film_82 rfl (by decide) rfl ?_
        refine sm_sub (lv' := [(0, .ref (sm_ad (sm_w X) 0)), (1, .int a1), (3, .int (0 : Int32))]) [1, 2, 0] rfl ?_
        exact xk_X7_film_p83 C hw sm_F s18 (0 : Int32) h
      · refine sm_bipush (v := (-11)) C dX7_film_29 (by decide) ?_
        exact sm_iret C dX7_film_31 h
    · refine sm_bipush (v := (-2)) C dX7_film_14 (by decide) ?_
      exact sm_iret C dX7_film_16 h
noncomputable def xf_X7_drawn (a1 : Int32) (s0 : sm_St) : Option (Int32 × sm_St) :=
  sm_b (s0.1 1 1) fun v1 =>
  sm_b (s0.1 1 2) fun v2 =>
  sm_c (xf_X2_drawWinds a1 v1 v2 s0) fun _ s4 =>
  sm_c (xf_X7_thinkAsItIs s4) fun _ s6 =>
  sm_c (xf_X2_costOfAll s6) fun v7 s8 =>
  some (v7, s8)
set_option maxRecDepth 4000 in
theorem xc_X7_drawn {w : sm_WD} {l : Launch} (hw : xo_is w) (a1 : Int32) : sm_CI w l yX7_drawn prog_1_method_37_code 2 (some .int) 8 241 [.ref (sm_ad w 0), .int a1] (fun s => xf_X7_drawn a1 s) := by
  refine sm_CI.of (by decide +kernel) (Nat.le_of_ble_eq_true rfl) (fun X s0 R hXw hXl C h => ?_)
  subst hXw
  subst hXl
  have h : xf_X7_drawn a1 s0 = some R := h
  show sm_V X (sm_QI X R) 2 s0 0 [(0, .ref (sm_ad (sm_w X) 0)), (1, .int a1)] []
  unfold xf_X7_drawn at h
  refine sm_aload_n C 0 dX7_drawn_0 rfl rfl ?_
  refine xr_S_thought C hw (k := 0) rfl gf_S_49 dX7_drawn_1 ?_
  refine sm_iload_n C 1 dX7_drawn_4 rfl rfl ?_
  refine sm_aload_n C 0 dX7_drawn_5 rfl rfl ?_
  refine xr_S_fire C hw (k := 0) rfl gf_S_12 dX7_drawn_6 ?_
  refine xr_Fire_left C hw (k := 1) rfl gf_S_117 dX7_drawn_9 h (fun v1 h => ?_)
  refine sm_aload_n C 0 dX7_drawn_12 rfl rfl ?_
  refine xr_S_fire C hw (k := 0) rfl gf_S_12 dX7_drawn_13 ?_
  refine xr_Fire_right C hw (k := 1) rfl gf_S_114 dX7_drawn_16 h (fun v2 h => ?_)
  refine sm_callVV (k := 43) C [.int a1, .int v1, .int v2] (xc_X2_drawWinds hw a1 v1 v2) gm_X2_drawWinds gl_S_297 gi_X2_drawWinds ge_X2_drawWinds (xob_Night hw rfl) rfl ⟨Nat.le_of_ble_eq_true rfl, Nat.le_of_ble_eq_true rfl⟩ rfl (Nat.le_of_ble_eq_true rfl) dX7_drawn_19 h (fun v3 s4 h => ?_)
  refine sm_aload_n C 0 dX7_drawn_22 rfl rfl ?_
  refine sm_callVV (k := 0) C [] (xc_X7_thinkAsItIs hw) gm_X7_thinkAsItIs gl_S_176 gi_X7_thinkAsItIs ge_X7_thinkAsItIs (xob_S hw rfl) rfl ⟨Nat.le_of_ble_eq_true rfl, Nat.le_of_ble_eq_true rfl⟩ rfl (Nat.le_of_ble_eq_true rfl) dX7_drawn_23 h (fun v5 s6 h => ?_)
  refine sm_aload_n C 0 dX7_drawn_26 rfl rfl ?_
  refine xr_S_thought C hw (k := 0) rfl gf_S_49 dX7_drawn_27 ?_
  refine sm_callVI (k := 43) C [] (xc_X2_costOfAll hw) gm_X2_costOfAll gl_S_197 gi_X2_costOfAll ge_X2_costOfAll (xob_Night hw rfl) rfl ⟨Nat.le_of_ble_eq_true rfl, Nat.le_of_ble_eq_true rfl⟩ rfl (Nat.le_of_ble_eq_true rfl) dX7_drawn_30 h (fun v7 s8 h => ?_)
  exact sm_iret C dX7_drawn_33 h
noncomputable def xf_X7_chance_p91 (a1 : Int32) (a2 : Int32) (a3 : Int32) (k28 : sm_St → Int32 → Int32 → Option (Int64 × sm_St)) (s0 : sm_St) (l4 : Int32) (l5 : Int32) : Option (Int64 × sm_St) :=
  sm_b (l5 + Int32.ofInt 1) fun v1 =>
  k28 s0 l4 v1
noncomputable def xf_X7_chance_p28 (a1 : Int32) (a2 : Int32) (a3 : Int32) : Nat → sm_St → Int32 → Int32 → Option (Int64 × sm_St)
  | 0, _, _, _ => none
  | n + 1, s0, l4, l5 =>
  if a2 ≤ l5 then (
  sm_b (l4.toInt64) fun v1 =>
  sm_b (a2.toInt64) fun v2 =>
  sm_c (xf_X7_lowest v1 v2 a3 s0) fun v3 s4 =>
  some (v3, s4))
  else (
  sm_b (a1 + l5) fun v5 =>
  sm_b (s0.1 1 1) fun v6 =>
  sm_b (s0.1 1 2) fun v7 =>
  sm_c (xf_X2_drawWinds v5 v6 v7 s0) fun _ s9 =>
  sm_c (xf_X2_begin 1 s9) fun _ s11 =>
  sm_c (xf_X2_run none s11) fun _ s13 =>
  sm_c (xf_X2_upsOfAll s13) fun v14 s15 =>
  if v14 = 0 then (
  sm_b (l4 + Int32.ofInt 1) fun v16 =>
  xf_X7_chance_p91 a1 a2 a3 (xf_X7_chance_p28 a1 a2 a3 n) s15 v16 l5)
  else (
  xf_X7_chance_p91 a1 a2 a3 (xf_X7_chance_p28 a1 a2 a3 n) s15 l4 l5))
noncomputable def xf_X7_chance (a1 : Int32) (a2 : Int32) (a3 : Int32) (s0 : sm_St) : Option (Int64 × sm_St) :=
  if a2 < (1 : Int32) then (
  some ((-4611686018427387904 : Int64), s0))
  else (
  if (20 : Int32) < a2 then (
  some ((-4611686018427387904 : Int64), s0))
  else (
  sm_c (xf_X7_isPart a3 s0) fun v1 s2 =>
  if v1 = 0 then (
  some ((-4611686018427387904 : Int64), s2))
  else (
  xf_X7_chance_p28 a1 a2 a3 sm_F s2 (0 : Int32) (0 : Int32))))
set_option maxRecDepth 4000 in
theorem xk_X7_chance_p91 {X : sm_VC} (C : sm_Cx X prog_1_method_38_code 6 "SmokeGoesTo" 7 221 (some .long)) (hw : xo_is (sm_w X)) {a1 : Int32} {a2 : Int32} {a3 : Int32}  {R : Int64 × sm_St} {k28 : sm_St → Int32 → Int32 → Option (Int64 × sm_St)} (hk28 : ∀ (s : sm_St) (l4 : Int32) (l5 : Int32), k28 s l4 l5 = some R → sm_V X (sm_QL X R) 6 s 28 [(0, .ref (sm_ad (sm_w X) 0)), (1, .int a1), (2, .int a2), (3, .int a3), (4, .int l4), (5, .int l5)] []) (s0 : sm_St) (l4 : Int32) (l5 : Int32)  (h : xf_X7_chance_p91 a1 a2 a3 k28 s0 l4 l5 = some R) : sm_V X (sm_QL X R) 6 s0 91 [(0, .ref (sm_ad (sm_w X) 0)), (1, .int a1), (2, .int a2), (3, .int a3), (4, .int l4), (5, .int l5)] [] := by
  unfold xf_X7_chance_p91 at h
  refine sm_iinc (lv' := fun v1 => [(5, .int v1), (0, .ref (sm_ad (sm_w X) 0)), (1, .int a1), (2, .int a2), (3, .int a3), (4, .int l4)]) C 5 dX7_chance_91 rfl (by decide) (fun _ => rfl) h (fun v1 h => ?_)
  refine sm_goto C 28 dX7_chance_94 (by decide) ?_
  refine sm_sub (lv' := [(0, .ref (sm_ad (sm_w X) 0)), (1, .int a1), (2, .int a2), (3, .int a3), (4, .int l4), (5, .int v1)]) [1, 2, 3, 4, 5, 0] rfl ?_
  exact hk28 s0 l4 v1 h
set_option maxRecDepth 4000 in
theorem xk_X7_chance_p28 {X : sm_VC} (C : sm_Cx X prog_1_method_38_code 6 "SmokeGoesTo" 7 221 (some .long)) (hw : xo_is (sm_w X)) {a1 : Int32} {a2 : Int32} {a3 : Int32}  {R : Int64 × sm_St}   : ∀ (n : Nat) (s0 : sm_St) (l4 : Int32) (l5 : Int32) , xf_X7_chance_p28 a1 a2 a3 n s0 l4 l5 = some R → sm_V X (sm_QL X R) 6 s0 28 [(0, .ref (sm_ad (sm_w X) 0)), (1, .int a1), (2, .int a2), (3, .int a3), (4, .int l4), (5, .int l5)] [] := by
  intro n
  induction n with
  | zero =>
    intro s0 l4 l5 h
    have h : (none : Option (Int64 × sm_St)) = some R := h
    cases h
  | succ n ih =>
    intro s0 l4 l5 h
    unfold xf_X7_chance_p28 at h
    refine sm_iload C 5 dX7_chance_28 rfl ?_
    refine sm_iload_n C 2 dX7_chance_30 rfl rfl ?_
    refine sm_icmp_ge C 97 dX7_chance_31 (by decide) h (fun h => ?_) (fun h => ?_)
    · refine sm_iload C 4 dX7_chance_97 rfl ?_
      refine sm_i2l C dX7_chance_99 h (fun v1 h => ?_)
      refine sm_iload_n C 2 dX7_chance_100 rfl rfl ?_
      refine sm_i2l C dX7_chance_101 h (fun v2 h => ?_)
      refine sm_iload_n C 3 dX7_chance_102 rfl rfl ?_
      refine sm_callSL C [.long v1, .long v2, .int a3] (xc_X7_lowest hw v1 v2 a3) gm_X7_lowest gl_S_225 gs_X7_lowest rfl ⟨Nat.le_of_ble_eq_true rfl, Nat.le_of_ble_eq_true rfl⟩ rfl (Nat.le_of_ble_eq_true rfl) dX7_chance_103 h (fun v3 s4 h => ?_)
      exact sm_lret C dX7_chance_106 h
    · refine sm_aload_n C 0 dX7_chance_34 rfl rfl ?_
      refine xr_S_thought C hw (k := 0) rfl gf_S_49 dX7_chance_35 ?_
      refine sm_iload_n C 1 dX7_chance_38 rfl rfl ?_
      refine sm_iload C 5 dX7_chance_39 rfl ?_
      refine sm_iadd C dX7_chance_41 h (fun v5 h => ?_)
      refine sm_aload_n C 0 dX7_chance_42 rfl rfl ?_
      refine xr_S_fire C hw (k := 0) rfl gf_S_12 dX7_chance_43 ?_
      refine xr_Fire_left C hw (k := 1) rfl gf_S_117 dX7_chance_46 h (fun v6 h => ?_)
      refine sm_aload_n C 0 dX7_chance_49 rfl rfl ?_
      refine xr_S_fire C hw (k := 0) rfl gf_S_12 dX7_chance_50 ?_
      refine xr_Fire_right C hw (k := 1) rfl gf_S_114 dX7_chance_53 h (fun v7 h => ?_)
      refine sm_callVV (k := 43) C [.int v5, .int v6, .int v7] (xc_X2_drawWinds hw v5 v6 v7) gm_X2_drawWinds gl_S_297 gi_X2_drawWinds ge_X2_drawWinds (xob_Night hw rfl) rfl ⟨Nat.le_of_ble_eq_true rfl, Nat.le_of_ble_eq_true rfl⟩ rfl (Nat.le_of_ble_eq_true rfl) dX7_chance_56 h (fun v8 s9 h => ?_)
      refine sm_aload_n C 0 dX7_chance_59 rfl rfl ?_
      refine xr_S_thought C hw (k := 0) rfl gf_S_49 dX7_chance_60 ?_
      refine sm_aload_n C 0 dX7_chance_63 rfl rfl ?_
      refine xr_S_fire C hw (k := 0) rfl gf_S_12 dX7_chance_64 ?_
      refine sm_callVV (k := 43) C [.ref (sm_ad (sm_w X) 1)] (xc_X2_begin hw 1 rfl) gm_X2_begin gl_S_200 gi_X2_begin ge_X2_begin (xob_Night hw rfl) rfl ⟨Nat.le_of_ble_eq_true rfl, Nat.le_of_ble_eq_true rfl⟩ rfl (Nat.le_of_ble_eq_true rfl) dX7_chance_67 h (fun v10 s11 h => ?_)
      refine sm_aload_n C 0 dX7_chance_70 rfl rfl ?_
      refine xr_S_thought C hw (k := 0) rfl gf_S_49 dX7_chance_71 ?_
      refine sm_null C dX7_chance_74 ?_
      refine sm_callVV (k := 43) C [.null] (xc_X2_run hw none) gm_X2_run gl_S_204 gi_X2_run ge_X2_run (xob_Night hw rfl) rfl ⟨Nat.le_of_ble_eq_true rfl, Nat.le_of_ble_eq_true rfl⟩ rfl (Nat.le_of_ble_eq_true rfl) dX7_chance_75 h (fun v12 s13 h => ?_)
      refine sm_aload_n C 0 dX7_chance_78 rfl rfl ?_
      refine xr_S_thought C hw (k := 0) rfl gf_S_49 dX7_chance_79 ?_
      refine sm_callVI (k := 43) C [] (xc_X2_upsOfAll hw) gm_X2_upsOfAll gl_S_301 gi_X2_upsOfAll ge_X2_upsOfAll (xob_Night hw rfl) rfl ⟨Nat.le_of_ble_eq_true rfl, Nat.le_of_ble_eq_true rfl⟩ rfl (Nat.le_of_ble_eq_true rfl) dX7_chance_82 h (fun v14 s15 h => ?_)
      refine sm_if_ne C 91 dX7_chance_85 (by decide) h (fun h => ?_) (fun h => ?_)
      · exact xk_X7_chance_p91 C hw ih s15 l4 l5 h
      · refine sm_iinc (lv' := fun v16 => [(4, .int v16), (0, .ref (sm_ad (sm_w X) 0)), (1, .int a1), (2, .int a2), (3, .int a3), (5, .int l5)]) C 4 dX7_chance_88 rfl (by decide) (fun _ => rfl) h (fun v16 h => ?_)
        refine sm_sub (lv' := [(0, .ref (sm_ad (sm_w X) 0)), (1, .int a1), (2, .int a2), (3, .int a3), (4, .int v16), (5, .int l5)]) [1, 2, 3, 4, 0, 5] rfl ?_
        exact xk_X7_chance_p91 C hw ih s15 v16 l5 h
set_option maxRecDepth 4000 in
theorem xc_X7_chance {w : sm_WD} {l : Launch} (hw : xo_is w) (a1 : Int32) (a2 : Int32) (a3 : Int32) : sm_CL w l yX7_chance prog_1_method_38_code 6 (some .long) 7 221 [.ref (sm_ad w 0), .int a1, .int a2, .int a3] (fun s => xf_X7_chance a1 a2 a3 s) := by
  refine sm_CL.of (by decide +kernel) (Nat.le_of_ble_eq_true rfl) (fun X s0 R hXw hXl C h => ?_)
  subst hXw
  subst hXl
  have h : xf_X7_chance a1 a2 a3 s0 = some R := h
  show sm_V X (sm_QL X R) 6 s0 0 [(0, .ref (sm_ad (sm_w X) 0)), (1, .int a1), (2, .int a2), (3, .int a3)] []
  unfold xf_X7_chance at h
  refine sm_iload_n C 2 dX7_chance_0 rfl rfl ?_
  refine sm_iconst (v := 1) C dX7_chance_1 (by decide) ?_
  refine sm_icmp_lt C 18 dX7_chance_2 (by decide) h (fun h => ?_) (fun h => ?_)
  · refine sm_ldc2 C gk_S_211 dX7_chance_18 ?_
    exact sm_lret C dX7_chance_21 h
  · refine sm_iload_n C 2 dX7_chance_5 rfl rfl ?_
    refine sm_bipush (v := 20) C dX7_chance_6 (by decide) ?_
    refine sm_icmp_gt C 18 dX7_chance_8 (by decide) h (fun h => ?_) (fun h => ?_)
    · refine sm_ldc2 C gk_S_211 dX7_chance_18 ?_
      exact sm_lret C dX7_chance_21 h
    · refine sm_iload_n C 3 dX7_chance_11 rfl rfl ?_
      refine sm_callSI C [.int a3] (xc_X7_isPart hw a3) gm_X7_isPart gl_S_208 gs_X7_isPart rfl ⟨Nat.le_of_ble_eq_true rfl, Nat.le_of_ble_eq_true rfl⟩ rfl (Nat.le_of_ble_eq_true rfl) dX7_chance_12 h (fun v1 s2 h => ?_)
      refine sm_if_ne C 22 dX7_chance_15 (by decide) h (fun h => ?_) (fun h => ?_)
      · refine sm_iconst (v := 0) C dX7_chance_22 (by decide) ?_
        refine sm_istore (lv' := [(4, .int (0 : Int32)), (0, .ref (sm_ad (sm_w X) 0)), (1, .int a1), (2, .int a2), (3, .int a3)]) C dX7_chance_23 (by decide) rfl ?_
        refine sm_iconst (v := 0) C dX7_chance_25 (by decide) ?_
        refine sm_istore (lv' := [(5, .int (0 : Int32)), (4, .int (0 : Int32)), (0, .ref (sm_ad (sm_w X) 0)), (1, .int a1), (2, .int a2), (3, .int a3)]) C dX7_chance_26 (by decide) rfl ?_
        refine sm_sub (lv' := [(0, .ref (sm_ad (sm_w X) 0)), (1, .int a1), (2, .int a2), (3, .int a3), (4, .int (0 : Int32)), (5, .int (0 : Int32))]) [2, 3, 4, 5, 1, 0] rfl ?_
        exact xk_X7_chance_p28 C hw sm_F s2 (0 : Int32) (0 : Int32) h
      · refine sm_ldc2 C gk_S_211 dX7_chance_18 ?_
        exact sm_lret C dX7_chance_21 h
noncomputable def xf_X7_image (s0 : sm_St) : Option (Int32 × sm_St) :=
  sm_c (xf_X0_become 2 1 s0) fun _ s2 =>
  sm_b (sm_sI s2 0 2 (1 : Int32)) fun s3 =>
  sm_b (s3.1 1 6) fun v4 =>
  some (v4, s3)
set_option maxRecDepth 4000 in
theorem xc_X7_image {w : sm_WD} {l : Launch} (hw : xo_is w)  : sm_CI w l yX7_image prog_1_method_39_code 1 (some .int) 3 121 [.ref (sm_ad w 0)] (fun s => xf_X7_image s) := by
  refine sm_CI.of (by decide +kernel) (Nat.le_of_ble_eq_true rfl) (fun X s0 R hXw hXl C h => ?_)
  subst hXw
  subst hXl
  have h : xf_X7_image s0 = some R := h
  show sm_V X (sm_QI X R) 1 s0 0 [(0, .ref (sm_ad (sm_w X) 0))] []
  unfold xf_X7_image at h
  refine sm_aload_n C 0 dX7_image_0 rfl rfl ?_
  refine xr_S_kept C hw (k := 0) rfl gf_S_16 dX7_image_1 ?_
  refine sm_aload_n C 0 dX7_image_4 rfl rfl ?_
  refine xr_S_fire C hw (k := 0) rfl gf_S_12 dX7_image_5 ?_
  refine sm_callVV (k := 2) C [.ref (sm_ad (sm_w X) 1)] (xc_X0_become hw 2 1 rfl rfl) gm_X0_become gl_S_304 gi_X0_become ge_X0_become (xob_Fire hw rfl) rfl ⟨Nat.le_of_ble_eq_true rfl, Nat.le_of_ble_eq_true rfl⟩ rfl (Nat.le_of_ble_eq_true rfl) dX7_image_8 h (fun v1 s2 h => ?_)
  refine sm_aload_n C 0 dX7_image_11 rfl rfl ?_
  refine sm_iconst (v := 1) C dX7_image_12 (by decide) ?_
  refine xp_S_hasImage C hw (k := 0) rfl gf_S_19 dX7_image_13 (Or.inr rfl) h (fun s3 h => ?_)
  refine sm_aload_n C 0 dX7_image_16 rfl rfl ?_
  refine xr_S_fire C hw (k := 0) rfl gf_S_12 dX7_image_17 ?_
  refine xr_Fire_size C hw (k := 1) rfl gf_S_238 dX7_image_20 h (fun v4 h => ?_)
  exact sm_iret C dX7_image_23 h
noncomputable def xf_X7_back (s0 : sm_St) : Option (Int32 × sm_St) :=
  sm_b (s0.1 0 2) fun v1 =>
  if v1 = 0 then (
  some ((-3 : Int32), s0))
  else (
  sm_c (xf_X0_become 1 2 s0) fun _ s3 =>
  sm_b (s3.1 1 6) fun v4 =>
  some (v4, s3))
set_option maxRecDepth 4000 in
theorem xc_X7_back {w : sm_WD} {l : Launch} (hw : xo_is w)  : sm_CI w l yX7_back prog_1_method_40_code 1 (some .int) 3 121 [.ref (sm_ad w 0)] (fun s => xf_X7_back s) := by
  refine sm_CI.of (by decide +kernel) (Nat.le_of_ble_eq_true rfl) (fun X s0 R hXw hXl C h => ?_)
  subst hXw
  subst hXl
  have h : xf_X7_back s0 = some R := h
  show sm_V X (sm_QI X R) 1 s0 0 [(0, .ref (sm_ad (sm_w X) 0))] []
  unfold xf_X7_back at h
  refine sm_aload_n C 0 dX7_back_0 rfl rfl ?_
  refine xr_S_hasImage C hw (k := 0) rfl gf_S_19 dX7_back_1 h (fun v1 h => ?_)
  refine sm_if_ne C 10 dX7_back_4 (by decide) h (fun h => ?_) (fun h => ?_)
  · refine sm_aload_n C 0 dX7_back_10 rfl rfl ?_
    refine xr_S_fire C hw (k := 0) rfl gf_S_12 dX7_back_11 ?_
    refine sm_aload_n C 0 dX7_back_14 rfl rfl ?_
    refine xr_S_kept C hw (k := 0) rfl gf_S_16 dX7_back_15 ?_
    refine sm_callVV (k := 1) C [.ref (sm_ad (sm_w X) 2)] (xc_X0_become hw 1 2 rfl rfl) gm_X0_become gl_S_304 gi_X0_become ge_X0_become (xob_Fire hw rfl) rfl ⟨Nat.le_of_ble_eq_true rfl, Nat.le_of_ble_eq_true rfl⟩ rfl (Nat.le_of_ble_eq_true rfl) dX7_back_18 h (fun v2 s3 h => ?_)
    refine sm_aload_n C 0 dX7_back_21 rfl rfl ?_
    refine xr_S_fire C hw (k := 0) rfl gf_S_12 dX7_back_22 ?_
    refine xr_Fire_size C hw (k := 1) rfl gf_S_238 dX7_back_25 h (fun v4 h => ?_)
    exact sm_iret C dX7_back_28 h
  · refine sm_bipush (v := (-3)) C dX7_back_7 (by decide) ?_
    exact sm_iret C dX7_back_9 h
noncomputable def xf_X7_count (a1 : Int32) (s0 : sm_St) : Option (Int32 × sm_St) :=
  if a1 = (0 : Int32) then (
  sm_b (s0.1 1 6) fun v1 =>
  some (v1, s0))
  else if a1 = (1 : Int32) then (
  sm_b (s0.1 1 0) fun v2 =>
  some (v2, s0))
  else if a1 = (2 : Int32) then (
  sm_b (s0.1 1 1) fun v3 =>
  some (v3, s0))
  else if a1 = (3 : Int32) then (
  sm_b (s0.1 1 2) fun v4 =>
  some (v4, s0))
  else if a1 = (4 : Int32) then (
  sm_b (s0.1 1 3) fun v5 =>
  some (v5, s0))
  else if a1 = (5 : Int32) then (
  sm_b (s0.1 1 4) fun v6 =>
  some (v6, s0))
  else if a1 = (6 : Int32) then (
  sm_b (s0.1 0 5) fun v7 =>
  some (v7, s0))
  else if a1 = (7 : Int32) then (
  sm_b (s0.1 13 0) fun v8 =>
  some (v8, s0))
  else if a1 = (8 : Int32) then (
  sm_b (s0.1 1 5) fun v9 =>
  some (v9, s0))
  else (
  some ((-2 : Int32), s0))
set_option maxRecDepth 4000 in
theorem xc_X7_count {w : sm_WD} {l : Launch} (hw : xo_is w) (a1 : Int32) : sm_CI w l yX7_count prog_1_method_41_code 2 (some .int) 2 100 [.ref (sm_ad w 0), .int a1] (fun s => xf_X7_count a1 s) := by
  refine sm_CI.of (by decide +kernel) (Nat.le_of_ble_eq_true rfl) (fun X s0 R hXw hXl C h => ?_)
  subst hXw
  subst hXl
  have h : xf_X7_count a1 s0 = some R := h
  show sm_V X (sm_QI X R) 2 s0 0 [(0, .ref (sm_ad (sm_w X) 0)), (1, .int a1)] []
  unfold xf_X7_count at h
  refine sm_iload_n C 1 dX7_count_0 rfl rfl ?_
  by_cases q1_0 : a1 = (0 : Int32)
  · rw [if_pos q1_0] at h
    refine sm_tswIn C 51 52 dX7_count_1 (by rw [q1_0]; decide) (by decide) ?_
    refine sm_aload_n C 0 dX7_count_52 rfl rfl ?_
    refine xr_S_fire C hw (k := 0) rfl gf_S_12 dX7_count_53 ?_
    refine xr_Fire_size C hw (k := 1) rfl gf_S_238 dX7_count_56 h (fun v1 h => ?_)
    exact sm_iret C dX7_count_59 h
  · rw [if_neg q1_0] at h
    by_cases q1_1 : a1 = (1 : Int32)
    · rw [if_pos q1_1] at h
      refine sm_tswIn C 59 60 dX7_count_1 (by rw [q1_1]; decide) (by decide) ?_
      refine sm_aload_n C 0 dX7_count_60 rfl rfl ?_
      refine xr_S_fire C hw (k := 0) rfl gf_S_12 dX7_count_61 ?_
      refine xr_Fire_smoke C hw (k := 1) rfl gf_S_111 dX7_count_64 h (fun v2 h => ?_)
      exact sm_iret C dX7_count_67 h
    · rw [if_neg q1_1] at h
      by_cases q1_2 : a1 = (2 : Int32)
      · rw [if_pos q1_2] at h
        refine sm_tswIn C 67 68 dX7_count_1 (by rw [q1_2]; decide) (by decide) ?_
        refine sm_aload_n C 0 dX7_count_68 rfl rfl ?_
        refine xr_S_fire C hw (k := 0) rfl gf_S_12 dX7_count_69 ?_
        refine xr_Fire_left C hw (k := 1) rfl gf_S_117 dX7_count_72 h (fun v3 h => ?_)
        exact sm_iret C dX7_count_75 h
      · rw [if_neg q1_2] at h
        by_cases q1_3 : a1 = (3 : Int32)
        · rw [if_pos q1_3] at h
          refine sm_tswIn C 75 76 dX7_count_1 (by rw [q1_3]; decide) (by decide) ?_
          refine sm_aload_n C 0 dX7_count_76 rfl rfl ?_
          refine xr_S_fire C hw (k := 0) rfl gf_S_12 dX7_count_77 ?_
          refine xr_Fire_right C hw (k := 1) rfl gf_S_114 dX7_count_80 h (fun v4 h => ?_)
          exact sm_iret C dX7_count_83 h
        · rw [if_neg q1_3] at h
          by_cases q1_4 : a1 = (4 : Int32)
          · rw [if_pos q1_4] at h
            refine sm_tswIn C 83 84 dX7_count_1 (by rw [q1_4]; decide) (by decide) ?_
            refine sm_aload_n C 0 dX7_count_84 rfl rfl ?_
            refine xr_S_fire C hw (k := 0) rfl gf_S_12 dX7_count_85 ?_
            refine xr_Fire_tents C hw (k := 1) rfl gf_S_120 dX7_count_88 h (fun v5 h => ?_)
            exact sm_iret C dX7_count_91 h
          · rw [if_neg q1_4] at h
            by_cases q1_5 : a1 = (5 : Int32)
            · rw [if_pos q1_5] at h
              refine sm_tswIn C 91 92 dX7_count_1 (by rw [q1_5]; decide) (by decide) ?_
              refine sm_aload_n C 0 dX7_count_92 rfl rfl ?_
              refine xr_S_fire C hw (k := 0) rfl gf_S_12 dX7_count_93 ?_
              refine xr_Fire_eddy C hw (k := 1) rfl gf_S_123 dX7_count_96 h (fun v6 h => ?_)
              exact sm_iret C dX7_count_99 h
            · rw [if_neg q1_5] at h
              by_cases q1_6 : a1 = (6 : Int32)
              · rw [if_pos q1_6] at h
                refine sm_tswIn C 99 100 dX7_count_1 (by rw [q1_6]; decide) (by decide) ?_
                refine sm_aload_n C 0 dX7_count_100 rfl rfl ?_
                refine xr_S_textCount C hw (k := 0) rfl gf_S_36 dX7_count_101 h (fun v7 h => ?_)
                exact sm_iret C dX7_count_104 h
              · rw [if_neg q1_6] at h
                by_cases q1_7 : a1 = (7 : Int32)
                · rw [if_pos q1_7] at h
                  refine sm_tswIn C 104 105 dX7_count_1 (by rw [q1_7]; decide) (by decide) ?_
                  refine sm_aload_n C 0 dX7_count_105 rfl rfl ?_
                  refine xr_S_reader C hw (k := 0) rfl gf_S_26 dX7_count_106 ?_
                  refine xr_Reader_size C hw (k := 13) rfl gf_S_156 dX7_count_109 h (fun v8 h => ?_)
                  exact sm_iret C dX7_count_112 h
                · rw [if_neg q1_7] at h
                  by_cases q1_8 : a1 = (8 : Int32)
                  · rw [if_pos q1_8] at h
                    refine sm_tswIn C 112 113 dX7_count_1 (by rw [q1_8]; decide) (by decide) ?_
                    refine sm_aload_n C 0 dX7_count_113 rfl rfl ?_
                    refine xr_S_fire C hw (k := 0) rfl gf_S_12 dX7_count_114 ?_
                    refine xr_Fire_rule C hw (k := 1) rfl gf_S_159 dX7_count_117 h (fun v9 h => ?_)
                    exact sm_iret C dX7_count_120 h
                  · rw [if_neg q1_8] at h
                    refine sm_tswOut C 121 dX7_count_1 (by have w0 := lv_neT q1_0 (a := 0) rfl; have w1 := lv_neT q1_1 (a := 1) rfl; have w2 := lv_neT q1_2 (a := 2) rfl; have w3 := lv_neT q1_3 (a := 3) rfl; have w4 := lv_neT q1_4 (a := 4) rfl; have w5 := lv_neT q1_5 (a := 5) rfl; have w6 := lv_neT q1_6 (a := 6) rfl; have w7 := lv_neT q1_7 (a := 7) rfl; have w8 := lv_neT q1_8 (a := 8) rfl; omega) (by decide) ?_
                    refine sm_bipush (v := (-2)) C dX7_count_121 (by decide) ?_
                    exact sm_iret C dX7_count_123 h
noncomputable def xf_X7_sheet (a1 : Int32) (a2 : Int32) (a3 : Int32) (s0 : sm_St) : Option (Int32 × sm_St) :=
  sm_c (xf_X7_isSheet a1 s0) fun v1 s2 =>
  if v1 = 0 then (
  some ((-2 : Int32), s2))
  else (
  if a2 < (-1 : Int32) then (
  some ((-2 : Int32), s2))
  else (
  if a2 < (3 : Int32) then (
  if a2 = (-1 : Int32) then (
  sm_g (sm_in a1 4) <|
  sm_c (xf_X5_become (35 + a1.toNatClampNeg) (-1 : Int32) (0 : Int32) s2) fun _ s8 =>
  some ((1 : Int32), s8))
  else (
  if a3 ≤ (40 : Int32) then (
  if 0 ≤ a3 then (
  sm_g (sm_in a1 4) <|
  sm_c (xf_X5_become (35 + a1.toNatClampNeg) a2 a3 s2) fun _ s5 =>
  some ((1 : Int32), s5))
  else (
  some ((-14 : Int32), s2)))
  else (
  some ((-2 : Int32), s2))))
  else (
  some ((-2 : Int32), s2))))
set_option maxRecDepth 4000 in
theorem xc_X7_sheet {w : sm_WD} {l : Launch} (hw : xo_is w) (a1 : Int32) (a2 : Int32) (a3 : Int32) : sm_CI w l yX7_sheet prog_1_method_42_code 4 (some .int) 4 145 [.ref (sm_ad w 0), .int a1, .int a2, .int a3] (fun s => xf_X7_sheet a1 a2 a3 s) := by
  refine sm_CI.of (by decide +kernel) (Nat.le_of_ble_eq_true rfl) (fun X s0 R hXw hXl C h => ?_)
  subst hXw
  subst hXl
  have h : xf_X7_sheet a1 a2 a3 s0 = some R := h
  show sm_V X (sm_QI X R) 4 s0 0 [(0, .ref (sm_ad (sm_w X) 0)), (1, .int a1), (2, .int a2), (3, .int a3)] []
  unfold xf_X7_sheet at h
  refine sm_iload_n C 1 dX7_sheet_0 rfl rfl ?_
  refine sm_callSI C [.int a1] (xc_X7_isSheet hw a1) gm_X7_isSheet gl_S_162 gs_X7_isSheet rfl ⟨Nat.le_of_ble_eq_true rfl, Nat.le_of_ble_eq_true rfl⟩ rfl (Nat.le_of_ble_eq_true rfl) dX7_sheet_1 h (fun v1 s2 h => ?_)
  refine sm_if_eq C 17 dX7_sheet_4 (by decide) h (fun h => ?_) (fun h => ?_)
  · refine sm_bipush (v := (-2)) C dX7_sheet_17 (by decide) ?_
    exact sm_iret C dX7_sheet_19 h
  · refine sm_iload_n C 2 dX7_sheet_7 rfl rfl ?_
    refine sm_iconst (v := (-1)) C dX7_sheet_8 (by decide) ?_
    refine sm_icmp_lt C 17 dX7_sheet_9 (by decide) h (fun h => ?_) (fun h => ?_)
    · refine sm_bipush (v := (-2)) C dX7_sheet_17 (by decide) ?_
      exact sm_iret C dX7_sheet_19 h
    · refine sm_iload_n C 2 dX7_sheet_12 rfl rfl ?_
      refine sm_iconst (v := 3) C dX7_sheet_13 (by decide) ?_
      refine sm_icmp_lt C 20 dX7_sheet_14 (by decide) h (fun h => ?_) (fun h => ?_)
      · refine sm_iload_n C 2 dX7_sheet_20 rfl rfl ?_
        refine sm_iconst (v := (-1)) C dX7_sheet_21 (by decide) ?_
        refine sm_icmp_ne C 38 dX7_sheet_22 (by decide) h (fun h => ?_) (fun h => ?_)
        · refine sm_iload_n C 3 dX7_sheet_38 rfl rfl ?_
          refine sm_bipush (v := 40) C dX7_sheet_39 (by decide) ?_
          refine sm_icmp_le C 47 dX7_sheet_41 (by decide) h (fun h => ?_) (fun h => ?_)
          · refine sm_iload_n C 3 dX7_sheet_47 rfl rfl ?_
            refine sm_if_ge C 54 dX7_sheet_48 (by decide) h (fun h => ?_) (fun h => ?_)
            · refine sm_aload_n C 0 dX7_sheet_54 rfl rfl ?_
              refine xr_S_sheets C hw (k := 0) rfl gf_S_42 dX7_sheet_55 ?_
              refine sm_iload_n C 1 dX7_sheet_58 rfl rfl ?_
              refine xa_aaldSheet C hw (k := 34) rfl dX7_sheet_59 h (fun hb2 h => ?_)
              refine sm_iload_n C 2 dX7_sheet_60 rfl rfl ?_
              refine sm_iload_n C 3 dX7_sheet_61 rfl rfl ?_
              refine sm_callVV (k := (35 + a1.toNatClampNeg)) C [.int a2, .int a3] (xc_X5_become hw (35 + a1.toNatClampNeg) a2 a3 (xt_sheets hb2)) gm_X5_become gl_S_291 gi_X5_become ge_X5_become (xob_Sheet hw (xt_sheets hb2)) rfl ⟨Nat.le_of_ble_eq_true rfl, Nat.le_of_ble_eq_true rfl⟩ rfl (Nat.le_of_ble_eq_true rfl) dX7_sheet_62 h (fun v4 s5 h => ?_)
              refine sm_iconst (v := 1) C dX7_sheet_65 (by decide) ?_
              exact sm_iret C dX7_sheet_66 h
            · refine sm_bipush (v := (-14)) C dX7_sheet_51 (by decide) ?_
              exact sm_iret C dX7_sheet_53 h
          · refine sm_bipush (v := (-2)) C dX7_sheet_44 (by decide) ?_
            exact sm_iret C dX7_sheet_46 h
        · refine sm_aload_n C 0 dX7_sheet_25 rfl rfl ?_
          refine xr_S_sheets C hw (k := 0) rfl gf_S_42 dX7_sheet_26 ?_
          refine sm_iload_n C 1 dX7_sheet_29 rfl rfl ?_
          refine xa_aaldSheet C hw (k := 34) rfl dX7_sheet_30 h (fun hb5 h => ?_)
          refine sm_iconst (v := (-1)) C dX7_sheet_31 (by decide) ?_
          refine sm_iconst (v := 0) C dX7_sheet_32 (by decide) ?_
          refine sm_callVV (k := (35 + a1.toNatClampNeg)) C [.int (-1 : Int32), .int (0 : Int32)] (xc_X5_become hw (35 + a1.toNatClampNeg) (-1 : Int32) (0 : Int32) (xt_sheets hb5)) gm_X5_become gl_S_291 gi_X5_become ge_X5_become (xob_Sheet hw (xt_sheets hb5)) rfl ⟨Nat.le_of_ble_eq_true rfl, Nat.le_of_ble_eq_true rfl⟩ rfl (Nat.le_of_ble_eq_true rfl) dX7_sheet_33 h (fun v7 s8 h => ?_)
          refine sm_iconst (v := 1) C dX7_sheet_36 (by decide) ?_
          exact sm_iret C dX7_sheet_37 h
      · refine sm_bipush (v := (-2)) C dX7_sheet_17 (by decide) ?_
        exact sm_iret C dX7_sheet_19 h
noncomputable def xf_X7_cell (a1 : Int32) (a2 : Int32) (a3 : Int32) (s0 : sm_St) : Option (Int32 × sm_St) :=
  sm_c (xf_X7_refusal a1 s0) fun v1 s2 =>
  if v1 = 0 then (
  if a2 < 0 then (
  some ((-12 : Int32), s2))
  else (
  sm_g (sm_in a1 4) <|
  sm_b (s2.1 (35 + a1.toNatClampNeg) 1) fun v4 =>
  if a2 < v4 then (
  sm_g (sm_in a1 4) <|
  sm_c (xf_X5_put (35 + a1.toNatClampNeg) a2 a3 s2) fun _ s7 =>
  some ((1 : Int32), s7))
  else (
  some ((-12 : Int32), s2))))
  else (
  some (v1, s2))
set_option maxRecDepth 4000 in
theorem xc_X7_cell {w : sm_WD} {l : Launch} (hw : xo_is w) (a1 : Int32) (a2 : Int32) (a3 : Int32) : sm_CI w l yX7_cell prog_1_method_43_code 5 (some .int) 4 141 [.ref (sm_ad w 0), .int a1, .int a2, .int a3] (fun s => xf_X7_cell a1 a2 a3 s) := by
  refine sm_CI.of (by decide +kernel) (Nat.le_of_ble_eq_true rfl) (fun X s0 R hXw hXl C h => ?_)
  subst hXw
  subst hXl
  have h : xf_X7_cell a1 a2 a3 s0 = some R := h
  show sm_V X (sm_QI X R) 5 s0 0 [(0, .ref (sm_ad (sm_w X) 0)), (1, .int a1), (2, .int a2), (3, .int a3)] []
  unfold xf_X7_cell at h
  refine sm_aload_n C 0 dX7_cell_0 rfl rfl ?_
  refine sm_iload_n C 1 dX7_cell_1 rfl rfl ?_
  refine sm_callVI (k := 0) C [.int a1] (xc_X7_refusal hw a1) gm_X7_refusal gl_S_185 gi_X7_refusal ge_X7_refusal (xob_S hw rfl) rfl ⟨Nat.le_of_ble_eq_true rfl, Nat.le_of_ble_eq_true rfl⟩ rfl (Nat.le_of_ble_eq_true rfl) dX7_cell_2 h (fun v1 s2 h => ?_)
  refine sm_istore (lv' := [(4, .int v1), (0, .ref (sm_ad (sm_w X) 0)), (1, .int a1), (2, .int a2), (3, .int a3)]) C dX7_cell_5 (by decide) rfl ?_
  refine sm_iload C 0 dX7_cell_7 rfl ?_
  refine sm_if_eq C 15 dX7_cell_9 (by decide) h (fun h => ?_) (fun h => ?_)
  · refine sm_iload_n C 3 dX7_cell_15 rfl rfl ?_
    refine sm_if_lt C 32 dX7_cell_16 (by decide) h (fun h => ?_) (fun h => ?_)
    · refine sm_bipush (v := (-12)) C dX7_cell_32 (by decide) ?_
      exact sm_iret C dX7_cell_34 h
    · refine sm_iload_n C 3 dX7_cell_19 rfl rfl ?_
      refine sm_aload_n C 1 dX7_cell_20 rfl rfl ?_
      refine xr_S_sheets C hw (k := 0) rfl gf_S_42 dX7_cell_21 ?_
      refine sm_iload_n C 2 dX7_cell_24 rfl rfl ?_
      refine xa_aaldSheet C hw (k := 34) rfl dX7_cell_25 h (fun hb2 h => ?_)
      refine xr_Sheet_size C hw (k := (35 + a1.toNatClampNeg)) (xt_sheets hb2) gf_S_259 dX7_cell_26 h (fun v4 h => ?_)
      refine sm_icmp_lt C 35 dX7_cell_29 (by decide) h (fun h => ?_) (fun h => ?_)
      · refine sm_aload_n C 1 dX7_cell_35 rfl rfl ?_
        refine xr_S_sheets C hw (k := 0) rfl gf_S_42 dX7_cell_36 ?_
        refine sm_iload_n C 2 dX7_cell_39 rfl rfl ?_
        refine xa_aaldSheet C hw (k := 34) rfl dX7_cell_40 h (fun hb4 h => ?_)
        refine sm_iload_n C 3 dX7_cell_41 rfl rfl ?_
        refine sm_iload_n C 4 dX7_cell_42 rfl rfl ?_
        refine sm_callVV (k := (35 + a1.toNatClampNeg)) C [.int a2, .int a3] (xc_X5_put hw (35 + a1.toNatClampNeg) a2 a3 (xt_sheets hb4)) gm_X5_put gl_S_294 gi_X5_put ge_X5_put (xob_Sheet hw (xt_sheets hb4)) rfl ⟨Nat.le_of_ble_eq_true rfl, Nat.le_of_ble_eq_true rfl⟩ rfl (Nat.le_of_ble_eq_true rfl) dX7_cell_43 h (fun v6 s7 h => ?_)
        refine sm_iconst (v := 1) C dX7_cell_46 (by decide) ?_
        exact sm_iret C dX7_cell_47 h
      · refine sm_bipush (v := (-12)) C dX7_cell_32 (by decide) ?_
        exact sm_iret C dX7_cell_34 h
  · refine sm_iload C 0 dX7_cell_12 rfl ?_
    exact sm_iret C dX7_cell_14 h
noncomputable def xf_X7_copy (a1 : Int32) (a2 : Int32) (a3 : Int32) (a4 : Int32) (a5 : Int32) (s0 : sm_St) : Option (Int32 × sm_St) :=
  sm_c (xf_X7_isSheet a1 s0) fun v1 s2 =>
  if v1 = 0 then (
  some ((-2 : Int32), s2))
  else (
  sm_c (xf_X7_isSheet a3 s2) fun v3 s4 =>
  if v3 = 0 then (
  some ((-2 : Int32), s4))
  else (
  sm_g (sm_in a1 4) <|
  sm_g (sm_in a3 4) <|
  sm_c (xf_X5_isMissing (35 + a1.toNatClampNeg) s4) fun v7 s8 =>
  if v7 = 0 then (
  sm_c (xf_X5_isMissing (35 + a3.toNatClampNeg) s8) fun v9 s10 =>
  if v9 = 0 then (
  sm_b (s10.1 (35 + a1.toNatClampNeg) 0) fun v11 =>
  sm_b (s10.1 (35 + a3.toNatClampNeg) 0) fun v12 =>
  if v11 = v12 then (
  sm_c (xf_X5_holds (35 + a1.toNatClampNeg) a2 a5 s10) fun v13 s14 =>
  if v13 = 0 then (
  some ((-12 : Int32), s14))
  else (
  sm_c (xf_X5_holds (35 + a3.toNatClampNeg) a4 a5 s14) fun v15 s16 =>
  if v15 = 0 then (
  some ((-12 : Int32), s16))
  else (
  sm_g (sm_cpyok a2 a4 a5 40 40) <| sm_b (sm_cI s16 ((35 + a1.toNatClampNeg) + 4) ((35 + a3.toNatClampNeg) + 4) a2.toNatClampNeg a4.toNatClampNeg a5.toNatClampNeg) fun s17 =>
  some (a5, s17))))
  else (
  some ((-13 : Int32), s10)))
  else (
  some ((-11 : Int32), s10)))
  else (
  some ((-11 : Int32), s8))))
set_option maxRecDepth 4000 in
theorem xc_X7_copy {w : sm_WD} {l : Launch} (hw : xo_is w) (a1 : Int32) (a2 : Int32) (a3 : Int32) (a4 : Int32) (a5 : Int32) : sm_CI w l yX7_copy prog_1_method_44_code 8 (some .int) 3 122 [.ref (sm_ad w 0), .int a1, .int a2, .int a3, .int a4, .int a5] (fun s => xf_X7_copy a1 a2 a3 a4 a5 s) := by
  refine sm_CI.of (by decide +kernel) (Nat.le_of_ble_eq_true rfl) (fun X s0 R hXw hXl C h => ?_)
  subst hXw
  subst hXl
  have h : xf_X7_copy a1 a2 a3 a4 a5 s0 = some R := h
  show sm_V X (sm_QI X R) 8 s0 0 [(0, .ref (sm_ad (sm_w X) 0)), (1, .int a1), (2, .int a2), (3, .int a3), (4, .int a4), (5, .int a5)] []
  unfold xf_X7_copy at h
  refine sm_iload_n C 1 dX7_copy_0 rfl rfl ?_
  refine sm_callSI C [.int a1] (xc_X7_isSheet hw a1) gm_X7_isSheet gl_S_162 gs_X7_isSheet rfl ⟨Nat.le_of_ble_eq_true rfl, Nat.le_of_ble_eq_true rfl⟩ rfl (Nat.le_of_ble_eq_true rfl) dX7_copy_1 h (fun v1 s2 h => ?_)
  refine sm_if_eq C 14 dX7_copy_4 (by decide) h (fun h => ?_) (fun h => ?_)
  · refine sm_bipush (v := (-2)) C dX7_copy_14 (by decide) ?_
    exact sm_iret C dX7_copy_16 h
  · refine sm_iload_n C 3 dX7_copy_7 rfl rfl ?_
    refine sm_callSI C [.int a3] (xc_X7_isSheet hw a3) gm_X7_isSheet gl_S_162 gs_X7_isSheet rfl ⟨Nat.le_of_ble_eq_true rfl, Nat.le_of_ble_eq_true rfl⟩ rfl (Nat.le_of_ble_eq_true rfl) dX7_copy_8 h (fun v3 s4 h => ?_)
    refine sm_if_ne C 17 dX7_copy_11 (by decide) h (fun h => ?_) (fun h => ?_)
    · refine sm_aload_n C 0 dX7_copy_17 rfl rfl ?_
      refine xr_S_sheets C hw (k := 0) rfl gf_S_42 dX7_copy_18 ?_
      refine sm_iload_n C 1 dX7_copy_21 rfl rfl ?_
      refine xa_aaldSheet C hw (k := 34) rfl dX7_copy_22 h (fun hb4 h => ?_)
      refine sm_astore (lv' := [(6, .ref (sm_ad (sm_w X) (35 + a1.toNatClampNeg))), (0, .ref (sm_ad (sm_w X) 0)), (1, .int a1), (2, .int a2), (3, .int a3), (4, .int a4), (5, .int a5)]) C dX7_copy_23 (by decide) rfl ?_
      refine sm_aload_n C 1 dX7_copy_25 rfl rfl ?_
      refine xr_S_sheets C hw (k := 0) rfl gf_S_42 dX7_copy_26 ?_
      refine sm_iload_n C 4 dX7_copy_29 rfl rfl ?_
      refine xa_aaldSheet C hw (k := 34) rfl dX7_copy_30 h (fun hb5 h => ?_)
      refine sm_astore (lv' := [(7, .ref (sm_ad (sm_w X) (35 + a3.toNatClampNeg))), (6, .ref (sm_ad (sm_w X) (35 + a1.toNatClampNeg))), (0, .ref (sm_ad (sm_w X) 0)), (1, .int a1), (2, .int a2), (3, .int a3), (4, .int a4), (5, .int a5)]) C dX7_copy_31 (by decide) rfl ?_
      refine sm_aload C 1 dX7_copy_33 rfl ?_
      refine sm_callVI (k := (35 + a1.toNatClampNeg)) C [] (xc_X5_isMissing hw (35 + a1.toNatClampNeg) (xt_sheets hb4)) gm_X5_isMissing gl_S_168 gi_X5_isMissing ge_X5_isMissing (xob_Sheet hw (xt_sheets hb4)) rfl ⟨Nat.le_of_ble_eq_true rfl, Nat.le_of_ble_eq_true rfl⟩ rfl (Nat.le_of_ble_eq_true rfl) dX7_copy_35 h (fun v7 s8 h => ?_)
      refine sm_if_ne C 49 dX7_copy_38 (by decide) h (fun h => ?_) (fun h => ?_)
      · refine sm_bipush (v := (-11)) C dX7_copy_49 (by decide) ?_
        exact sm_iret C dX7_copy_51 h
      · refine sm_aload C 0 dX7_copy_41 rfl ?_
        refine sm_callVI (k := (35 + a3.toNatClampNeg)) C [] (xc_X5_isMissing hw (35 + a3.toNatClampNeg) (xt_sheets hb5)) gm_X5_isMissing gl_S_168 gi_X5_isMissing ge_X5_isMissing (xob_Sheet hw (xt_sheets hb5)) rfl ⟨Nat.le_of_ble_eq_true rfl, Nat.le_of_ble_eq_true rfl⟩ rfl (Nat.le_of_ble_eq_true rfl) dX7_copy_43 h (fun v9 s10 h => ?_)
        refine sm_if_eq C 52 dX7_copy_46 (by decide) h (fun h => ?_) (fun h => ?_)
        · refine sm_aload C 1 dX7_copy_52 rfl ?_
          refine xr_Sheet_sort C hw (k := (35 + a1.toNatClampNeg)) (xt_sheets hb4) gf_S_306 dX7_copy_54 h (fun v11 h => ?_)
          refine sm_aload C 0 dX7_copy_57 rfl ?_
          refine xr_Sheet_sort C hw (k := (35 + a3.toNatClampNeg)) (xt_sheets hb5) gf_S_306 dX7_copy_59 h (fun v12 h => ?_)
          refine sm_icmp_eq C 68 dX7_copy_62 (by decide) h (fun h => ?_) (fun h => ?_)
          · refine sm_aload C 1 dX7_copy_68 rfl ?_
            refine sm_iload_n C 4 dX7_copy_70 rfl rfl ?_
            refine sm_iload C 7 dX7_copy_71 rfl ?_
            refine sm_callVI (k := (35 + a1.toNatClampNeg)) C [.int a2, .int a5] (xc_X5_holds hw (35 + a1.toNatClampNeg) a2 a5 (xt_sheets hb4)) gm_X5_holds gl_S_309 gi_X5_holds ge_X5_holds (xob_Sheet hw (xt_sheets hb4)) rfl ⟨Nat.le_of_ble_eq_true rfl, Nat.le_of_ble_eq_true rfl⟩ rfl (Nat.le_of_ble_eq_true rfl) dX7_copy_73 h (fun v13 s14 h => ?_)
            refine sm_if_eq C 91 dX7_copy_76 (by decide) h (fun h => ?_) (fun h => ?_)
            · refine sm_bipush (v := (-12)) C dX7_copy_91 (by decide) ?_
              exact sm_iret C dX7_copy_93 h
            · refine sm_aload C 0 dX7_copy_79 rfl ?_
              refine sm_iload C 6 dX7_copy_81 rfl ?_
              refine sm_iload C 7 dX7_copy_83 rfl ?_
              refine sm_callVI (k := (35 + a3.toNatClampNeg)) C [.int a4, .int a5] (xc_X5_holds hw (35 + a3.toNatClampNeg) a4 a5 (xt_sheets hb5)) gm_X5_holds gl_S_309 gi_X5_holds ge_X5_holds (xob_Sheet hw (xt_sheets hb5)) rfl ⟨Nat.le_of_ble_eq_true rfl, Nat.le_of_ble_eq_true rfl⟩ rfl (Nat.le_of_ble_eq_true rfl) dX7_copy_85 h (fun v15 s16 h => ?_)
              refine sm_if_ne C 94 dX7_copy_88 (by decide) h (fun h => ?_) (fun h => ?_)
              · refine sm_aload C 1 dX7_copy_94 rfl ?_
                refine xr_Sheet_items C hw (k := (35 + a1.toNatClampNeg)) (xt_sheets hb4) gf_S_312 dX7_copy_96 ?_
                refine sm_iload_n C 4 dX7_copy_99 rfl rfl ?_
                refine sm_aload C 0 dX7_copy_100 rfl ?_
                refine xr_Sheet_items C hw (k := (35 + a3.toNatClampNeg)) (xt_sheets hb5) gf_S_312 dX7_copy_102 ?_
                refine sm_iload C 6 dX7_copy_105 rfl ?_
                refine sm_iload C 7 dX7_copy_107 rfl ?_
                refine xa_copyi C hw (k := ((35 + a1.toNatClampNeg) + 4)) (k1 := ((35 + a3.toNatClampNeg) + 4)) (xt_Sheet_items (xt_sheets hb4)).1 (xt_Sheet_items (xt_sheets hb4)).2 (xt_Sheet_items (xt_sheets hb5)).1 (xt_Sheet_items (xt_sheets hb5)).2 gl_S_191 (Nat.le_of_ble_eq_true rfl) (Nat.le_of_ble_eq_true rfl) dX7_copy_109 h (fun s17 h => ?_)
                refine sm_iload C 7 dX7_copy_112 rfl ?_
                exact sm_iret C dX7_copy_114 h
              · refine sm_bipush (v := (-12)) C dX7_copy_91 (by decide) ?_
                exact sm_iret C dX7_copy_93 h
          · refine sm_bipush (v := (-13)) C dX7_copy_65 (by decide) ?_
            exact sm_iret C dX7_copy_67 h
        · refine sm_bipush (v := (-11)) C dX7_copy_49 (by decide) ?_
          exact sm_iret C dX7_copy_51 h
    · refine sm_bipush (v := (-2)) C dX7_copy_14 (by decide) ?_
      exact sm_iret C dX7_copy_16 h
noncomputable def xf_X7_sitters_p129 (a1 : Int32) (a2 : Int32) (a3 : Int32) (a4 : Int32) (k70 : sm_St → Nat → Int32 → Int32 → Int32 → Option (Int32 × sm_St)) (s0 : sm_St) (c5 : Nat) (l6 : Int32) (l7 : Int32) (l8 : Int32) : Option (Int32 × sm_St) :=
  sm_b (l7 + Int32.ofInt 3) fun v1 =>
  sm_b (l8 + Int32.ofInt 1) fun v2 =>
  k70 s0 c5 l6 v1 v2
noncomputable def xf_X7_sitters_p70 (a1 : Int32) (a2 : Int32) (a3 : Int32) (a4 : Int32) : Nat → sm_St → Nat → Int32 → Int32 → Int32 → Option (Int32 × sm_St)
  | 0, _, _, _, _, _ => none
  | n + 1, s0, c5, l6, l7, l8 =>
  if a4 ≤ l8 then (
  some (l6, s0))
  else (
  sm_c (xf_X5_holds c5 l7 (3 : Int32) s0) fun v1 s2 =>
  if v1 = 0 then (
  some ((-12 : Int32), s2))
  else (
  sm_c (xf_X5_item c5 l7 s2) fun v3 s4 =>
  sm_b (l7 + (1 : Int32)) fun v5 =>
  sm_c (xf_X5_item c5 v5 s4) fun v6 s7 =>
  sm_b (l7 + (2 : Int32)) fun v8 =>
  sm_c (xf_X5_item c5 v8 s7) fun v9 s10 =>
  sm_c (xf_X0_come 1 v3 v6 v9 s10) fun v11 s12 =>
  if v11 < 0 then (
  xf_X7_sitters_p129 a1 a2 a3 a4 (xf_X7_sitters_p70 a1 a2 a3 a4 n) s12 c5 l6 l7 l8)
  else (
  sm_b (l6 + Int32.ofInt 1) fun v13 =>
  xf_X7_sitters_p129 a1 a2 a3 a4 (xf_X7_sitters_p70 a1 a2 a3 a4 n) s12 c5 v13 l7 l8)))
noncomputable def xf_X7_sitters (a1 : Int32) (a2 : Int32) (a3 : Int32) (a4 : Int32) (s0 : sm_St) : Option (Int32 × sm_St) :=
  sm_c (xf_X7_isSheet a1 s0) fun v1 s2 =>
  if v1 = 0 then (
  some ((-2 : Int32), s2))
  else (
  if a2 < 0 then (
  some ((-2 : Int32), s2))
  else (
  if (3 : Int32) ≤ a2 then (
  some ((-2 : Int32), s2))
  else (
  if a4 < 0 then (
  some ((-2 : Int32), s2))
  else (
  if a4 ≤ (5 : Int32) then (
  sm_g (sm_in a1 4) <|
  sm_c (xf_X5_isMissing (35 + a1.toNatClampNeg) s2) fun v4 s5 =>
  if v4 = 0 then (
  sm_b (s5.1 (35 + a1.toNatClampNeg) 0) fun v6 =>
  if v6 = a2 then (
  xf_X7_sitters_p70 a1 a2 a3 a4 sm_F s5 (35 + a1.toNatClampNeg) (0 : Int32) a3 (0 : Int32))
  else (
  some ((-13 : Int32), s5)))
  else (
  some ((-11 : Int32), s5)))
  else (
  some ((-2 : Int32), s2))))))
set_option maxRecDepth 4000 in
theorem xk_X7_sitters_p129 {X : sm_VC} (C : sm_Cx X prog_1_method_45_code 9 "SmokeGoesTo" 4 145 (some .int)) (hw : xo_is (sm_w X)) {a1 : Int32} {a2 : Int32} {a3 : Int32} {a4 : Int32}  {R : Int32 × sm_St} {k70 : sm_St → Nat → Int32 → Int32 → Int32 → Option (Int32 × sm_St)} (hk70 : ∀ (s : sm_St) (c5 : Nat) (l6 : Int32) (l7 : Int32) (l8 : Int32) (hc5 : xo_tag c5 = 4), k70 s c5 l6 l7 l8 = some R → sm_V X (sm_QI X R) 9 s 70 [(0, .ref (sm_ad (sm_w X) 0)), (4, .int a4), (5, .ref (sm_ad (sm_w X) c5)), (6, .int l6), (7, .int l7), (8, .int l8)] []) (s0 : sm_St) (c5 : Nat) (l6 : Int32) (l7 : Int32) (l8 : Int32) (hc5 : xo_tag c5 = 4) (h : xf_X7_sitters_p129 a1 a2 a3 a4 k70 s0 c5 l6 l7 l8 = some R) : sm_V X (sm_QI X R) 9 s0 129 [(0, .ref (sm_ad (sm_w X) 0)), (4, .int a4), (5, .ref (sm_ad (sm_w X) c5)), (6, .int l6), (7, .int l7), (8, .int l8)] [] := by
  unfold xf_X7_sitters_p129 at h
  refine sm_iinc (lv' := fun v1 => [(7, .int v1), (0, .ref (sm_ad (sm_w X) 0)), (4, .int a4), (5, .ref (sm_ad (sm_w X) c5)), (6, .int l6), (8, .int l8)]) C 4 dX7_sitters_129 rfl (by decide) (fun _ => rfl) h (fun v1 h => ?_)
  refine sm_iinc (lv' := fun v2 => [(8, .int v2), (7, .int v1), (0, .ref (sm_ad (sm_w X) 0)), (4, .int a4), (5, .ref (sm_ad (sm_w X) c5)), (6, .int l6)]) C 5 dX7_sitters_132 rfl (by decide) (fun _ => rfl) h (fun v2 h => ?_)
  refine sm_goto C 70 dX7_sitters_135 (by decide) ?_
  refine sm_sub (lv' := [(0, .ref (sm_ad (sm_w X) 0)), (4, .int a4), (5, .ref (sm_ad (sm_w X) c5)), (6, .int l6), (7, .int v1), (8, .int v2)]) [2, 3, 4, 5, 1, 0] rfl ?_
  exact hk70 s0 c5 l6 v1 v2 hc5 h
set_option maxRecDepth 4000 in
theorem xk_X7_sitters_p70 {X : sm_VC} (C : sm_Cx X prog_1_method_45_code 9 "SmokeGoesTo" 4 145 (some .int)) (hw : xo_is (sm_w X)) {a1 : Int32} {a2 : Int32} {a3 : Int32} {a4 : Int32}  {R : Int32 × sm_St}   : ∀ (n : Nat) (s0 : sm_St) (c5 : Nat) (l6 : Int32) (l7 : Int32) (l8 : Int32) (hc5 : xo_tag c5 = 4), xf_X7_sitters_p70 a1 a2 a3 a4 n s0 c5 l6 l7 l8 = some R → sm_V X (sm_QI X R) 9 s0 70 [(0, .ref (sm_ad (sm_w X) 0)), (4, .int a4), (5, .ref (sm_ad (sm_w X) c5)), (6, .int l6), (7, .int l7), (8, .int l8)] [] := by
  intro n
  induction n with
  | zero =>
    intro s0 c5 l6 l7 l8 hc5 h
    have h : (none : Option (Int32 × sm_St)) = some R := h
    cases h
  | succ n ih =>
    intro s0 c5 l6 l7 l8 hc5 h
    unfold xf_X7_sitters_p70 at h
    refine sm_iload C 5 dX7_sitters_70 rfl ?_
    refine sm_iload C 1 dX7_sitters_72 rfl ?_
    refine sm_icmp_ge C 138 dX7_sitters_74 (by decide) h (fun h => ?_) (fun h => ?_)
    · refine sm_iload C 3 dX7_sitters_138 rfl ?_
      exact sm_iret C dX7_sitters_140 h
    · refine sm_aload C 2 dX7_sitters_77 rfl ?_
      refine sm_iload C 4 dX7_sitters_79 rfl ?_
      refine sm_iconst (v := 3) C dX7_sitters_81 (by decide) ?_
      refine sm_callVI (k := c5) C [.int l7, .int (3 : Int32)] (xc_X5_holds hw c5 l7 (3 : Int32) hc5) gm_X5_holds gl_S_309 gi_X5_holds ge_X5_holds (xob_Sheet hw hc5) rfl ⟨Nat.le_of_ble_eq_true rfl, Nat.le_of_ble_eq_true rfl⟩ rfl (Nat.le_of_ble_eq_true rfl) dX7_sitters_82 h (fun v1 s2 h => ?_)
      refine sm_if_ne C 91 dX7_sitters_85 (by decide) h (fun h => ?_) (fun h => ?_)
      · refine sm_aload_n C 0 dX7_sitters_91 rfl rfl ?_
        refine xr_S_fire C hw (k := 0) rfl gf_S_12 dX7_sitters_92 ?_
        refine sm_aload C 2 dX7_sitters_95 rfl ?_
        refine sm_iload C 4 dX7_sitters_97 rfl ?_
        refine sm_callVI (k := c5) C [.int l7] (xc_X5_item hw c5 l7 hc5) gm_X5_item gl_S_288 gi_X5_item ge_X5_item (xob_Sheet hw hc5) rfl ⟨Nat.le_of_ble_eq_true rfl, Nat.le_of_ble_eq_true rfl⟩ rfl (Nat.le_of_ble_eq_true rfl) dX7_sitters_99 h (fun v3 s4 h => ?_)
        refine sm_aload C 2 dX7_sitters_102 rfl ?_
        refine sm_iload C 4 dX7_sitters_104 rfl ?_
        refine sm_iconst (v := 1) C dX7_sitters_106 (by decide) ?_
        refine sm_iadd C dX7_sitters_107 h (fun v5 h => ?_)
        refine sm_callVI (k := c5) C [.int v5] (xc_X5_item hw c5 v5 hc5) gm_X5_item gl_S_288 gi_X5_item ge_X5_item (xob_Sheet hw hc5) rfl ⟨Nat.le_of_ble_eq_true rfl, Nat.le_of_ble_eq_true rfl⟩ rfl (Nat.le_of_ble_eq_true rfl) dX7_sitters_108 h (fun v6 s7 h => ?_)
        refine sm_aload C 2 dX7_sitters_111 rfl ?_
        refine sm_iload C 4 dX7_sitters_113 rfl ?_
        refine sm_iconst (v := 2) C dX7_sitters_115 (by decide) ?_
        refine sm_iadd C dX7_sitters_116 h (fun v8 h => ?_)
        refine sm_callVI (k := c5) C [.int v8] (xc_X5_item hw c5 v8 hc5) gm_X5_item gl_S_288 gi_X5_item ge_X5_item (xob_Sheet hw hc5) rfl ⟨Nat.le_of_ble_eq_true rfl, Nat.le_of_ble_eq_true rfl⟩ rfl (Nat.le_of_ble_eq_true rfl) dX7_sitters_117 h (fun v9 s10 h => ?_)
        refine sm_callVI (k := 1) C [.int v3, .int v6, .int v9] (xc_X0_come hw 1 v3 v6 v9 rfl) gm_X0_come gl_S_140 gi_X0_come ge_X0_come (xob_Fire hw rfl) rfl ⟨Nat.le_of_ble_eq_true rfl, Nat.le_of_ble_eq_true rfl⟩ rfl (Nat.le_of_ble_eq_true rfl) dX7_sitters_120 h (fun v11 s12 h => ?_)
        refine sm_if_lt C 129 dX7_sitters_123 (by decide) h (fun h => ?_) (fun h => ?_)
        · exact xk_X7_sitters_p129 C hw ih s12 c5 l6 l7 l8 hc5 h
        · refine sm_iinc (lv' := fun v13 => [(6, .int v13), (0, .ref (sm_ad (sm_w X) 0)), (4, .int a4), (5, .ref (sm_ad (sm_w X) c5)), (7, .int l7), (8, .int l8)]) C 3 dX7_sitters_126 rfl (by decide) (fun _ => rfl) h (fun v13 h => ?_)
          refine sm_sub (lv' := [(0, .ref (sm_ad (sm_w X) 0)), (4, .int a4), (5, .ref (sm_ad (sm_w X) c5)), (6, .int v13), (7, .int l7), (8, .int l8)]) [1, 2, 3, 0, 4, 5] rfl ?_
          exact xk_X7_sitters_p129 C hw ih s12 c5 v13 l7 l8 hc5 h
      · refine sm_bipush (v := (-12)) C dX7_sitters_88 (by decide) ?_
        exact sm_iret C dX7_sitters_90 h
set_option maxRecDepth 4000 in
theorem xc_X7_sitters {w : sm_WD} {l : Launch} (hw : xo_is w) (a1 : Int32) (a2 : Int32) (a3 : Int32) (a4 : Int32) : sm_CI w l yX7_sitters prog_1_method_45_code 9 (some .int) 4 145 [.ref (sm_ad w 0), .int a1, .int a2, .int a3, .int a4] (fun s => xf_X7_sitters a1 a2 a3 a4 s) := by
  refine sm_CI.of (by decide +kernel) (Nat.le_of_ble_eq_true rfl) (fun X s0 R hXw hXl C h => ?_)
  subst hXw
  subst hXl
  have h : xf_X7_sitters a1 a2 a3 a4 s0 = some R := h
  show sm_V X (sm_QI X R) 9 s0 0 [(0, .ref (sm_ad (sm_w X) 0)), (1, .int a1), (2, .int a2), (3, .int a3), (4, .int a4)] []
  unfold xf_X7_sitters at h
  refine sm_iload_n C 1 dX7_sitters_0 rfl rfl ?_
  refine sm_callSI C [.int a1] (xc_X7_isSheet hw a1) gm_X7_isSheet gl_S_162 gs_X7_isSheet rfl ⟨Nat.le_of_ble_eq_true rfl, Nat.le_of_ble_eq_true rfl⟩ rfl (Nat.le_of_ble_eq_true rfl) dX7_sitters_1 h (fun v1 s2 h => ?_)
  refine sm_if_eq C 27 dX7_sitters_4 (by decide) h (fun h => ?_) (fun h => ?_)
  · refine sm_bipush (v := (-2)) C dX7_sitters_27 (by decide) ?_
    exact sm_iret C dX7_sitters_29 h
  · refine sm_iload_n C 2 dX7_sitters_7 rfl rfl ?_
    refine sm_if_lt C 27 dX7_sitters_8 (by decide) h (fun h => ?_) (fun h => ?_)
    · refine sm_bipush (v := (-2)) C dX7_sitters_27 (by decide) ?_
      exact sm_iret C dX7_sitters_29 h
    · refine sm_iload_n C 2 dX7_sitters_11 rfl rfl ?_
      refine sm_iconst (v := 3) C dX7_sitters_12 (by decide) ?_
      refine sm_icmp_ge C 27 dX7_sitters_13 (by decide) h (fun h => ?_) (fun h => ?_)
      · refine sm_bipush (v := (-2)) C dX7_sitters_27 (by decide) ?_
        exact sm_iret C dX7_sitters_29 h
      · refine sm_iload C 4 dX7_sitters_16 rfl ?_
        refine sm_if_lt C 27 dX7_sitters_18 (by decide) h (fun h => ?_) (fun h => ?_)
        · refine sm_bipush (v := (-2)) C dX7_sitters_27 (by decide) ?_
          exact sm_iret C dX7_sitters_29 h
        · refine sm_iload C 4 dX7_sitters_21 rfl ?_
          refine sm_iconst (v := 5) C dX7_sitters_23 (by decide) ?_
          refine sm_icmp_le C 30 dX7_sitters_24 (by decide) h (fun h => ?_) (fun h => ?_)
          · refine sm_aload_n C 0 dX7_sitters_30 rfl rfl ?_
            refine xr_S_sheets C hw (k := 0) rfl gf_S_42 dX7_sitters_31 ?_
            refine sm_iload_n C 1 dX7_sitters_34 rfl rfl ?_
            refine xa_aaldSheet C hw (k := 34) rfl dX7_sitters_35 h (fun hb2 h => ?_)
            refine sm_astore (lv' := [(5, .ref (sm_ad (sm_w X) (35 + a1.toNatClampNeg))), (0, .ref (sm_ad (sm_w X) 0)), (1, .int a1), (2, .int a2), (3, .int a3), (4, .int a4)]) C dX7_sitters_36 (by decide) rfl ?_
            refine sm_aload C 0 dX7_sitters_38 rfl ?_
            refine sm_callVI (k := (35 + a1.toNatClampNeg)) C [] (xc_X5_isMissing hw (35 + a1.toNatClampNeg) (xt_sheets hb2)) gm_X5_isMissing gl_S_168 gi_X5_isMissing ge_X5_isMissing (xob_Sheet hw (xt_sheets hb2)) rfl ⟨Nat.le_of_ble_eq_true rfl, Nat.le_of_ble_eq_true rfl⟩ rfl (Nat.le_of_ble_eq_true rfl) dX7_sitters_40 h (fun v4 s5 h => ?_)
            refine sm_if_eq C 49 dX7_sitters_43 (by decide) h (fun h => ?_) (fun h => ?_)
            · refine sm_aload C 0 dX7_sitters_49 rfl ?_
              refine xr_Sheet_sort C hw (k := (35 + a1.toNatClampNeg)) (xt_sheets hb2) gf_S_306 dX7_sitters_51 h (fun v6 h => ?_)
              refine sm_iload_n C 3 dX7_sitters_54 rfl rfl ?_
              refine sm_icmp_eq C 61 dX7_sitters_55 (by decide) h (fun h => ?_) (fun h => ?_)
              · refine sm_iconst (v := 0) C dX7_sitters_61 (by decide) ?_
                refine sm_istore (lv' := [(6, .int (0 : Int32)), (5, .ref (sm_ad (sm_w X) (35 + a1.toNatClampNeg))), (0, .ref (sm_ad (sm_w X) 0)), (1, .int a1), (2, .int a2), (3, .int a3), (4, .int a4)]) C dX7_sitters_62 (by decide) rfl ?_
                refine sm_iload_n C 5 dX7_sitters_64 rfl rfl ?_
                refine sm_istore (lv' := [(7, .int a3), (6, .int (0 : Int32)), (5, .ref (sm_ad (sm_w X) (35 + a1.toNatClampNeg))), (0, .ref (sm_ad (sm_w X) 0)), (1, .int a1), (2, .int a2), (3, .int a3), (4, .int a4)]) C dX7_sitters_65 (by decide) rfl ?_
                refine sm_iconst (v := 0) C dX7_sitters_67 (by decide) ?_
                refine sm_istore (lv' := [(8, .int (0 : Int32)), (7, .int a3), (6, .int (0 : Int32)), (5, .ref (sm_ad (sm_w X) (35 + a1.toNatClampNeg))), (0, .ref (sm_ad (sm_w X) 0)), (1, .int a1), (2, .int a2), (3, .int a3), (4, .int a4)]) C dX7_sitters_68 (by decide) rfl ?_
                refine sm_sub (lv' := [(0, .ref (sm_ad (sm_w X) 0)), (4, .int a4), (5, .ref (sm_ad (sm_w X) (35 + a1.toNatClampNeg))), (6, .int (0 : Int32)), (7, .int a3), (8, .int (0 : Int32))]) [4, 8, 3, 2, 1, 0] rfl ?_
                exact xk_X7_sitters_p70 C hw sm_F s5 (35 + a1.toNatClampNeg) (0 : Int32) a3 (0 : Int32) (xt_sheets hb2) h
              · refine sm_bipush (v := (-13)) C dX7_sitters_58 (by decide) ?_
                exact sm_iret C dX7_sitters_60 h
            · refine sm_bipush (v := (-11)) C dX7_sitters_46 (by decide) ?_
              exact sm_iret C dX7_sitters_48 h
          · refine sm_bipush (v := (-2)) C dX7_sitters_27 (by decide) ?_
            exact sm_iret C dX7_sitters_29 h
noncomputable def xf_X7_taken (a1 : Int32) (a2 : Int32) (s0 : sm_St) : Option (Int32 × sm_St) :=
  sm_c (xf_X1_exists a2 s0) fun v1 s2 =>
  if v1 = 0 then (
  some ((-2 : Int32), s2))
  else (
  sm_c (xf_X0_has 1 a1 s2) fun v3 s4 =>
  if v3 = 0 then (
  some ((-11 : Int32), s4))
  else (
  sm_g (sm_in a1 5) <| sm_b (s4.1 4 a1.toNatClampNeg) fun v5 =>
  sm_c (xf_X1_isUnder v5 a2 s4) fun v6 s7 =>
  if v6 = 0 then (
  some ((-13 : Int32), s7))
  else (
  sm_g (sm_in a1 5) <| sm_b (s7.1 7 a1.toNatClampNeg) fun v8 =>
  some (v8, s7))))
set_option maxRecDepth 4000 in
theorem xc_X7_taken {w : sm_WD} {l : Launch} (hw : xo_is w) (a1 : Int32) (a2 : Int32) : sm_CI w l yX7_taken prog_1_method_46_code 3 (some .int) 4 143 [.ref (sm_ad w 0), .int a1, .int a2] (fun s => xf_X7_taken a1 a2 s) := by
  refine sm_CI.of (by decide +kernel) (Nat.le_of_ble_eq_true rfl) (fun X s0 R hXw hXl C h => ?_)
  subst hXw
  subst hXl
  have h : xf_X7_taken a1 a2 s0 = some R := h
  show sm_V X (sm_QI X R) 3 s0 0 [(0, .ref (sm_ad (sm_w X) 0)), (1, .int a1), (2, .int a2)] []
  unfold xf_X7_taken at h
  refine sm_iload_n C 2 dX7_taken_0 rfl rfl ?_
  refine sm_callSI C [.int a2] (xc_X1_exists hw a2) gm_X1_exists gl_S_315 gs_X1_exists rfl ⟨Nat.le_of_ble_eq_true rfl, Nat.le_of_ble_eq_true rfl⟩ rfl (Nat.le_of_ble_eq_true rfl) dX7_taken_1 h (fun v1 s2 h => ?_)
  refine sm_if_ne C 10 dX7_taken_4 (by decide) h (fun h => ?_) (fun h => ?_)
  · refine sm_aload_n C 0 dX7_taken_10 rfl rfl ?_
    refine xr_S_fire C hw (k := 0) rfl gf_S_12 dX7_taken_11 ?_
    refine sm_iload_n C 1 dX7_taken_14 rfl rfl ?_
    refine sm_callVI (k := 1) C [.int a1] (xc_X0_has hw 1 a1 rfl) gm_X0_has gl_S_126 gi_X0_has ge_X0_has (xob_Fire hw rfl) rfl ⟨Nat.le_of_ble_eq_true rfl, Nat.le_of_ble_eq_true rfl⟩ rfl (Nat.le_of_ble_eq_true rfl) dX7_taken_15 h (fun v3 s4 h => ?_)
    refine sm_if_ne C 24 dX7_taken_18 (by decide) h (fun h => ?_) (fun h => ?_)
    · refine sm_aload_n C 0 dX7_taken_24 rfl rfl ?_
      refine xr_S_fire C hw (k := 0) rfl gf_S_12 dX7_taken_25 ?_
      refine xr_Fire_kinds C hw (k := 1) rfl gf_S_144 dX7_taken_28 ?_
      refine sm_iload_n C 1 dX7_taken_31 rfl rfl ?_
      refine xa_iald C hw (k := 4) rfl rfl dX7_taken_32 h (fun v5 h => ?_)
      refine sm_iload_n C 2 dX7_taken_33 rfl rfl ?_
      refine sm_callSI C [.int v5, .int a2] (xc_X1_isUnder hw v5 a2) gm_X1_isUnder gl_S_318 gs_X1_isUnder rfl ⟨Nat.le_of_ble_eq_true rfl, Nat.le_of_ble_eq_true rfl⟩ rfl (Nat.le_of_ble_eq_true rfl) dX7_taken_34 h (fun v6 s7 h => ?_)
      refine sm_if_ne C 43 dX7_taken_37 (by decide) h (fun h => ?_) (fun h => ?_)
      · refine sm_aload_n C 0 dX7_taken_43 rfl rfl ?_
        refine xr_S_fire C hw (k := 0) rfl gf_S_12 dX7_taken_44 ?_
        refine xr_Fire_numbers C hw (k := 1) rfl gf_S_129 dX7_taken_47 ?_
        refine sm_iload_n C 1 dX7_taken_50 rfl rfl ?_
        refine xa_iald C hw (k := 7) rfl rfl dX7_taken_51 h (fun v8 h => ?_)
        exact sm_iret C dX7_taken_52 h
      · refine sm_bipush (v := (-13)) C dX7_taken_40 (by decide) ?_
        exact sm_iret C dX7_taken_42 h
    · refine sm_bipush (v := (-11)) C dX7_taken_21 (by decide) ?_
      exact sm_iret C dX7_taken_23 h
  · refine sm_bipush (v := (-2)) C dX7_taken_7 (by decide) ?_
    exact sm_iret C dX7_taken_9 h
