/-! 11.xnight: pure words by program, and their contracts -/
noncomputable def xf_X2_takeWinds_p46 (a1 : Nat) (k10 : sm_St → Int32 → Option (Unit × sm_St)) (s0 : sm_St) (l2 : Int32) (t0 : Int32) (t1 : Int32) : Option (Unit × sm_St) :=
  sm_g (sm_in t1 40) <| sm_b (sm_sI s0 46 t1.toNatClampNeg t0) fun s1 =>
  sm_b (l2 + Int32.ofInt 1) fun v2 =>
  k10 s1 v2
noncomputable def xf_X2_takeWinds_p10 (a1 : Nat) : Nat → sm_St → Int32 → Option (Unit × sm_St)
  | 0, _, _ => none
  | n + 1, s0, l2 =>
  sm_b (s0.1 43 9) fun v1 =>
  if v1 ≤ l2 then (
  some ((), s0))
  else (
  sm_c (xf_X5_item a1 l2 s0) fun v2 s3 =>
  if 0 ≤ v2 then (
  if v2 ≤ 0 then (
  xf_X2_takeWinds_p46 a1 (xf_X2_takeWinds_p10 a1 n) s3 l2 (0 : Int32) l2)
  else (
  xf_X2_takeWinds_p46 a1 (xf_X2_takeWinds_p10 a1 n) s3 l2 (1 : Int32) l2))
  else (
  xf_X2_takeWinds_p46 a1 (xf_X2_takeWinds_p10 a1 n) s3 l2 (-1 : Int32) l2))
noncomputable def xf_X2_takeWinds (a1 : Nat) (s0 : sm_St) : Option (Unit × sm_St) :=
  sm_b (s0.1 a1 1) fun v1 =>
  sm_b (sm_sI s0 43 9 v1) fun s2 =>
  xf_X2_takeWinds_p10 a1 sm_F s2 (0 : Int32)
set_option maxRecDepth 4000 in
theorem xk_X2_takeWinds_p46 {X : sm_VC} (C : sm_Cx X prog_4_method_2_code 4 "SmokeGoesTo$Night" 3 121 none) (hw : xo_is (sm_w X)) {a1 : Nat} (ha1 : xo_tag a1 = 4) {R : Unit × sm_St} {k10 : sm_St → Int32 → Option (Unit × sm_St)} (hk10 : ∀ (s : sm_St) (l2 : Int32), k10 s l2 = some R → sm_V X (sm_QV X R) 4 s 10 [(0, .ref (sm_ad (sm_w X) 43)), (1, .ref (sm_ad (sm_w X) a1)), (2, .int l2)] []) (s0 : sm_St) (l2 : Int32) (t0 : Int32) (t1 : Int32)  (h : xf_X2_takeWinds_p46 a1 k10 s0 l2 t0 t1 = some R) : sm_V X (sm_QV X R) 4 s0 46 [(0, .ref (sm_ad (sm_w X) 43)), (1, .ref (sm_ad (sm_w X) a1)), (2, .int l2)] [.int t0, .int t1, .ref (sm_ad (sm_w X) 46)] := by
  unfold xf_X2_takeWinds_p46 at h
  refine xa_iast C hw (k := 46) rfl rfl dX2_takeWinds_46 h (fun s1 h => ?_)
  refine sm_iinc (lv' := fun v2 => [(2, .int v2), (0, .ref (sm_ad (sm_w X) 43)), (1, .ref (sm_ad (sm_w X) a1))]) C 2 dX2_takeWinds_47 rfl (by decide) (fun _ => rfl) h (fun v2 h => ?_)
  refine sm_goto C 10 dX2_takeWinds_50 (by decide) ?_
  refine sm_sub (lv' := [(0, .ref (sm_ad (sm_w X) 43)), (1, .ref (sm_ad (sm_w X) a1)), (2, .int v2)]) [1, 2, 0] rfl ?_
  exact hk10 s1 v2 h
set_option maxRecDepth 4000 in
theorem xk_X2_takeWinds_p10 {X : sm_VC} (C : sm_Cx X prog_4_method_2_code 4 "SmokeGoesTo$Night" 3 121 none) (hw : xo_is (sm_w X)) {a1 : Nat} (ha1 : xo_tag a1 = 4) {R : Unit × sm_St}   : ∀ (n : Nat) (s0 : sm_St) (l2 : Int32) , xf_X2_takeWinds_p10 a1 n s0 l2 = some R → sm_V X (sm_QV X R) 4 s0 10 [(0, .ref (sm_ad (sm_w X) 43)), (1, .ref (sm_ad (sm_w X) a1)), (2, .int l2)] [] := by
  intro n
  induction n with
  | zero =>
    intro s0 l2 h
    have h : (none : Option (Unit × sm_St)) = some R := h
    cases h
  | succ n ih =>
    intro s0 l2 h
    unfold xf_X2_takeWinds_p10 at h
    refine sm_iload_n C 2 dX2_takeWinds_10 rfl rfl ?_
    refine sm_aload_n C 0 dX2_takeWinds_11 rfl rfl ?_
    refine xr_Night_minutes C hw (k := 43) rfl gf_Night_45 dX2_takeWinds_12 h (fun v1 h => ?_)
    refine sm_icmp_ge C 53 dX2_takeWinds_15 (by decide) h (fun h => ?_) (fun h => ?_)
    · exact sm_vret C dX2_takeWinds_53 h
    · refine sm_aload_n C 1 dX2_takeWinds_18 rfl rfl ?_
      refine sm_iload_n C 2 dX2_takeWinds_19 rfl rfl ?_
      refine sm_callVI (k := a1) C [.int l2] (xc_X5_item hw a1 l2 ha1) gm_X5_item gl_Night_67 gi_X5_item ge_X5_item (xob_Sheet hw ha1) rfl ⟨Nat.le_of_ble_eq_true rfl, Nat.le_of_ble_eq_true rfl⟩ rfl (Nat.le_of_ble_eq_true rfl) dX2_takeWinds_20 h (fun v2 s3 h => ?_)
      refine sm_istore_n (lv' := [(3, .int v2), (0, .ref (sm_ad (sm_w X) 43)), (1, .ref (sm_ad (sm_w X) a1)), (2, .int l2)]) C dX2_takeWinds_23 rfl (by decide) rfl ?_
      refine sm_aload_n C 1 dX2_takeWinds_24 rfl rfl ?_
      refine xr_Night_winds C hw (k := 43) rfl gf_Night_25 dX2_takeWinds_25 ?_
      refine sm_iload_n C 3 dX2_takeWinds_28 rfl rfl ?_
      refine sm_iload_n C 0 dX2_takeWinds_29 rfl rfl ?_
      refine sm_if_ge C 37 dX2_takeWinds_30 (by decide) h (fun h => ?_) (fun h => ?_)
      · refine sm_iload_n C 0 dX2_takeWinds_37 rfl rfl ?_
        refine sm_if_le C 45 dX2_takeWinds_38 (by decide) h (fun h => ?_) (fun h => ?_)
        · refine sm_iconst (v := 0) C dX2_takeWinds_45 (by decide) ?_
          refine sm_sub (lv' := [(0, .ref (sm_ad (sm_w X) 43)), (1, .ref (sm_ad (sm_w X) a1)), (2, .int l2)]) [1, 2, 3] rfl ?_
          exact xk_X2_takeWinds_p46 C hw ha1 ih s3 l2 (0 : Int32) l2 h
        · refine sm_iconst (v := 1) C dX2_takeWinds_41 (by decide) ?_
          refine sm_goto C 46 dX2_takeWinds_42 (by decide) ?_
          refine sm_sub (lv' := [(0, .ref (sm_ad (sm_w X) 43)), (1, .ref (sm_ad (sm_w X) a1)), (2, .int l2)]) [1, 2, 3] rfl ?_
          exact xk_X2_takeWinds_p46 C hw ha1 ih s3 l2 (1 : Int32) l2 h
      · refine sm_iconst (v := (-1)) C dX2_takeWinds_33 (by decide) ?_
        refine sm_goto C 46 dX2_takeWinds_34 (by decide) ?_
        refine sm_sub (lv' := [(0, .ref (sm_ad (sm_w X) 43)), (1, .ref (sm_ad (sm_w X) a1)), (2, .int l2)]) [1, 2, 3] rfl ?_
        exact xk_X2_takeWinds_p46 C hw ha1 ih s3 l2 (-1 : Int32) l2 h
set_option maxRecDepth 4000 in
theorem xc_X2_takeWinds {w : sm_WD} {l : Launch} (hw : xo_is w) (a1 : Nat) (ha1 : xo_tag a1 = 4) : sm_CV w l yX2_takeWinds prog_4_method_2_code 4 none 3 121 [.ref (sm_ad w 43), .ref (sm_ad w a1)] (fun s => xf_X2_takeWinds a1 s) := by
  refine sm_CV.of (by decide +kernel) (Nat.le_of_ble_eq_true rfl) (fun X s0 R hXw hXl C h => ?_)
  subst hXw
  subst hXl
  have h : xf_X2_takeWinds a1 s0 = some R := h
  show sm_V X (sm_QV X R) 4 s0 0 [(0, .ref (sm_ad (sm_w X) 43)), (1, .ref (sm_ad (sm_w X) a1))] []
  unfold xf_X2_takeWinds at h
  refine sm_aload_n C 0 dX2_takeWinds_0 rfl rfl ?_
  refine sm_aload_n C 1 dX2_takeWinds_1 rfl rfl ?_
  refine xr_Sheet_size C hw (k := a1) ha1 gf_Night_62 dX2_takeWinds_2 h (fun v1 h => ?_)
  refine xp_Night_minutes C hw (k := 43) rfl gf_Night_45 dX2_takeWinds_5 h (fun s2 h => ?_)
  refine sm_iconst (v := 0) C dX2_takeWinds_8 (by decide) ?_
  refine sm_istore_n (lv' := [(2, .int (0 : Int32)), (0, .ref (sm_ad (sm_w X) 43)), (1, .ref (sm_ad (sm_w X) a1))]) C dX2_takeWinds_9 rfl (by decide) rfl ?_
  refine sm_sub (lv' := [(0, .ref (sm_ad (sm_w X) 43)), (1, .ref (sm_ad (sm_w X) a1)), (2, .int (0 : Int32))]) [1, 2, 0] rfl ?_
  exact xk_X2_takeWinds_p10 C hw ha1 sm_F s2 (0 : Int32) h
noncomputable def xf_X2_begin (a1 : Nat) (s0 : sm_St) : Option (Unit × sm_St) :=
  sm_c (xf_X0_become 3 a1 s0) fun _ s2 =>
  sm_c (xf_J7_fill_53178 44 (0 : Int32) s2) fun _ s4 =>
  sm_c (xf_J7_fill_53178 45 (0 : Int32) s4) fun _ s6 =>
  sm_c (xf_J7_fill_53178 47 (0 : Int32) s6) fun _ s8 =>
  sm_c (xf_J7_fill_53178 48 (0 : Int32) s8) fun _ s10 =>
  sm_c (xf_J7_fill_53178 49 (0 : Int32) s10) fun _ s12 =>
  sm_b (sm_sI s12 43 10 (0 : Int32)) fun s13 =>
  sm_b (sm_sI s13 43 11 (-1 : Int32)) fun s14 =>
  sm_b (sm_sI s14 43 12 (-1 : Int32)) fun s15 =>
  some ((), s15)
set_option maxRecDepth 4000 in
theorem xc_X2_begin {w : sm_WD} {l : Launch} (hw : xo_is w) (a1 : Nat) (ha1 : xo_tag a1 = 1) : sm_CV w l yX2_begin prog_4_method_6_code 2 none 3 123 [.ref (sm_ad w 43), .ref (sm_ad w a1)] (fun s => xf_X2_begin a1 s) := by
  refine sm_CV.of (by decide +kernel) (Nat.le_of_ble_eq_true rfl) (fun X s0 R hXw hXl C h => ?_)
  subst hXw
  subst hXl
  have h : xf_X2_begin a1 s0 = some R := h
  show sm_V X (sm_QV X R) 2 s0 0 [(0, .ref (sm_ad (sm_w X) 43)), (1, .ref (sm_ad (sm_w X) a1))] []
  unfold xf_X2_begin at h
  refine sm_aload_n C 0 dX2_begin_0 rfl rfl ?_
  refine xr_Night_now C hw (k := 43) rfl gf_Night_12 dX2_begin_1 ?_
  refine sm_aload_n C 1 dX2_begin_4 rfl rfl ?_
  refine sm_callVV (k := 3) C [.ref (sm_ad (sm_w X) a1)] (xc_X0_become hw 3 a1 rfl ha1) gm_X0_become gl_Night_72 gi_X0_become ge_X0_become (xob_Fire hw rfl) rfl ⟨Nat.le_of_ble_eq_true rfl, Nat.le_of_ble_eq_true rfl⟩ rfl (Nat.le_of_ble_eq_true rfl) dX2_begin_5 h (fun v1 s2 h => ?_)
  refine sm_aload_n C 0 dX2_begin_8 rfl rfl ?_
  refine xr_Night_costs C hw (k := 43) rfl gf_Night_18 dX2_begin_9 ?_
  refine sm_iconst (v := 0) C dX2_begin_12 (by decide) ?_
  refine sm_callSV C [.ref (sm_ad (sm_w X) 44), .int (0 : Int32)] (xc_J7_fill_53178 hw 44 (0 : Int32) rfl) gm_J7_fill_53178 gl_Night_76 gs_J7_fill_53178 rfl ⟨Nat.le_of_ble_eq_true rfl, Nat.le_of_ble_eq_true rfl⟩ rfl (Nat.le_of_ble_eq_true rfl) dX2_begin_13 h (fun v3 s4 h => ?_)
  refine sm_aload_n C 0 dX2_begin_16 rfl rfl ?_
  refine xr_Night_smoked C hw (k := 43) rfl gf_Night_22 dX2_begin_17 ?_
  refine sm_iconst (v := 0) C dX2_begin_20 (by decide) ?_
  refine sm_callSV C [.ref (sm_ad (sm_w X) 45), .int (0 : Int32)] (xc_J7_fill_53178 hw 45 (0 : Int32) rfl) gm_J7_fill_53178 gl_Night_76 gs_J7_fill_53178 rfl ⟨Nat.le_of_ble_eq_true rfl, Nat.le_of_ble_eq_true rfl⟩ rfl (Nat.le_of_ble_eq_true rfl) dX2_begin_21 h (fun v5 s6 h => ?_)
  refine sm_aload_n C 0 dX2_begin_24 rfl rfl ?_
  refine xr_Night_longest C hw (k := 43) rfl gf_Night_28 dX2_begin_25 ?_
  refine sm_iconst (v := 0) C dX2_begin_28 (by decide) ?_
  refine sm_callSV C [.ref (sm_ad (sm_w X) 47), .int (0 : Int32)] (xc_J7_fill_53178 hw 47 (0 : Int32) rfl) gm_J7_fill_53178 gl_Night_76 gs_J7_fill_53178 rfl ⟨Nat.le_of_ble_eq_true rfl, Nat.le_of_ble_eq_true rfl⟩ rfl (Nat.le_of_ble_eq_true rfl) dX2_begin_29 h (fun v7 s8 h => ?_)
  refine sm_aload_n C 0 dX2_begin_32 rfl rfl ?_
  refine xr_Night_ups C hw (k := 43) rfl gf_Night_31 dX2_begin_33 ?_
  refine sm_iconst (v := 0) C dX2_begin_36 (by decide) ?_
  refine sm_callSV C [.ref (sm_ad (sm_w X) 48), .int (0 : Int32)] (xc_J7_fill_53178 hw 48 (0 : Int32) rfl) gm_J7_fill_53178 gl_Night_76 gs_J7_fill_53178 rfl ⟨Nat.le_of_ble_eq_true rfl, Nat.le_of_ble_eq_true rfl⟩ rfl (Nat.le_of_ble_eq_true rfl) dX2_begin_37 h (fun v9 s10 h => ?_)
  refine sm_aload_n C 0 dX2_begin_40 rfl rfl ?_
  refine xr_Night_longs C hw (k := 43) rfl gf_Night_34 dX2_begin_41 ?_
  refine sm_iconst (v := 0) C dX2_begin_44 (by decide) ?_
  refine sm_callSV C [.ref (sm_ad (sm_w X) 49), .int (0 : Int32)] (xc_J7_fill_53178 hw 49 (0 : Int32) rfl) gm_J7_fill_53178 gl_Night_76 gs_J7_fill_53178 rfl ⟨Nat.le_of_ble_eq_true rfl, Nat.le_of_ble_eq_true rfl⟩ rfl (Nat.le_of_ble_eq_true rfl) dX2_begin_45 h (fun v11 s12 h => ?_)
  refine sm_aload_n C 0 dX2_begin_48 rfl rfl ?_
  refine sm_iconst (v := 0) C dX2_begin_49 (by decide) ?_
  refine xp_Night_needless C hw (k := 43) rfl gf_Night_49 dX2_begin_50 h (fun s13 h => ?_)
  refine sm_aload_n C 0 dX2_begin_53 rfl rfl ?_
  refine sm_iconst (v := (-1)) C dX2_begin_54 (by decide) ?_
  refine xp_Night_riser C hw (k := 43) rfl gf_Night_52 dX2_begin_55 h (fun s14 h => ?_)
  refine sm_aload_n C 0 dX2_begin_58 rfl rfl ?_
  refine sm_iconst (v := (-1)) C dX2_begin_59 (by decide) ?_
  refine xp_Night_leftPlace C hw (k := 43) rfl gf_Night_55 dX2_begin_60 h (fun s15 h => ?_)
  exact sm_vret C dX2_begin_63 h
noncomputable def xf_X2_turn_p88 (a1 : Int32) (s0 : sm_St) (t0 : Int32) (t1 : Int32) : Option (Unit × sm_St) :=
  sm_b (t1 + t0) fun v1 =>
  sm_c (xf_X7_round v1 s0) fun v2 s3 =>
  sm_b (sm_sI s3 3 0 v2) fun s4 =>
  some ((), s4)
noncomputable def xf_X2_turn (a1 : Int32) (s0 : sm_St) : Option (Unit × sm_St) :=
  sm_b (s0.1 3 0) fun v1 =>
  sm_b (v1 + a1) fun v2 =>
  sm_c (xf_X7_round v2 s0) fun v3 s4 =>
  sm_b (sm_sI s4 3 0 v3) fun s5 =>
  sm_b (s5.1 3 4) fun v6 =>
  if v6 = 0 then (
  some ((), s5))
  else (
  sm_b (s5.1 43 11) fun v7 =>
  if v7 = (-1 : Int32) then (
  some ((), s5))
  else (
  sm_b (s5.1 43 11) fun v8 =>
  sm_g (sm_in v8 5) <| sm_b (s5.1 12 v8.toNatClampNeg) fun v9 =>
  sm_b (s5.1 3 0) fun v10 =>
  sm_b (v9 - v10) fun v11 =>
  sm_c (xf_X7_round v11 s5) fun v12 s13 =>
  if v12 = 0 then (
  some ((), s13))
  else (
  sm_b (s13.1 3 0) fun v14 =>
  if (4 : Int32) < v12 then (
  xf_X2_turn_p88 a1 s13 (-1 : Int32) v14)
  else (
  xf_X2_turn_p88 a1 s13 (1 : Int32) v14))))
set_option maxRecDepth 4000 in
theorem xk_X2_turn_p88 {X : sm_VC} (C : sm_Cx X prog_4_method_8_code 3 "SmokeGoesTo$Night" 3 120 none) (hw : xo_is (sm_w X)) {a1 : Int32}  {R : Unit × sm_St}   (s0 : sm_St) (t0 : Int32) (t1 : Int32)  (h : xf_X2_turn_p88 a1 s0 t0 t1 = some R) : sm_V X (sm_QV X R) 3 s0 88 [] [.int t0, .int t1, .ref (sm_ad (sm_w X) 3)] := by
  unfold xf_X2_turn_p88 at h
  refine sm_iadd C dX2_turn_88 h (fun v1 h => ?_)
  refine sm_callNI C [.int v1] (xc_X7_round hw v1) gm_X7_round gl_Night_117 gs_X7_round rfl ⟨Nat.le_of_ble_eq_true rfl, Nat.le_of_ble_eq_true rfl⟩ rfl (Nat.le_of_ble_eq_true rfl) dX2_turn_89 h (fun v2 s3 h => ?_)
  refine xp_Fire_smoke C hw (k := 3) rfl gf_Night_86 dX2_turn_92 h (fun s4 h => ?_)
  exact sm_vret C dX2_turn_95 h
set_option maxRecDepth 4000 in
theorem xc_X2_turn {w : sm_WD} {l : Launch} (hw : xo_is w) (a1 : Int32) : sm_CV w l yX2_turn prog_4_method_8_code 3 none 3 120 [.ref (sm_ad w 43), .int a1] (fun s => xf_X2_turn a1 s) := by
  refine sm_CV.of (by decide +kernel) (Nat.le_of_ble_eq_true rfl) (fun X s0 R hXw hXl C h => ?_)
  subst hXw
  subst hXl
  have h : xf_X2_turn a1 s0 = some R := h
  show sm_V X (sm_QV X R) 3 s0 0 [(0, .ref (sm_ad (sm_w X) 43)), (1, .int a1)] []
  unfold xf_X2_turn at h
  refine sm_aload_n C 0 dX2_turn_0 rfl rfl ?_
  refine xr_Night_now C hw (k := 43) rfl gf_Night_12 dX2_turn_1 ?_
  refine sm_aload_n C 0 dX2_turn_4 rfl rfl ?_
  refine xr_Night_now C hw (k := 43) rfl gf_Night_12 dX2_turn_5 ?_
  refine xr_Fire_smoke C hw (k := 3) rfl gf_Night_86 dX2_turn_8 h (fun v1 h => ?_)
  refine sm_iload_n C 1 dX2_turn_11 rfl rfl ?_
  refine sm_iadd C dX2_turn_12 h (fun v2 h => ?_)
  refine sm_callNI C [.int v2] (xc_X7_round hw v2) gm_X7_round gl_Night_117 gs_X7_round rfl ⟨Nat.le_of_ble_eq_true rfl, Nat.le_of_ble_eq_true rfl⟩ rfl (Nat.le_of_ble_eq_true rfl) dX2_turn_13 h (fun v3 s4 h => ?_)
  refine xp_Fire_smoke C hw (k := 3) rfl gf_Night_86 dX2_turn_16 h (fun s5 h => ?_)
  refine sm_aload_n C 0 dX2_turn_19 rfl rfl ?_
  refine xr_Night_now C hw (k := 43) rfl gf_Night_12 dX2_turn_20 ?_
  refine xr_Fire_eddy C hw (k := 3) rfl gf_Night_120 dX2_turn_23 h (fun v6 h => ?_)
  refine sm_if_eq C 37 dX2_turn_26 (by decide) h (fun h => ?_) (fun h => ?_)
  · exact sm_vret C dX2_turn_37 h
  · refine sm_aload_n C 0 dX2_turn_29 rfl rfl ?_
    refine xr_Night_riser C hw (k := 43) rfl gf_Night_52 dX2_turn_30 h (fun v7 h => ?_)
    refine sm_iconst (v := (-1)) C dX2_turn_33 (by decide) ?_
    refine sm_icmp_ne C 38 dX2_turn_34 (by decide) h (fun h => ?_) (fun h => ?_)
    · refine sm_aload_n C 0 dX2_turn_38 rfl rfl ?_
      refine xr_Night_now C hw (k := 43) rfl gf_Night_12 dX2_turn_39 ?_
      refine xr_Fire_places C hw (k := 3) rfl gf_Night_123 dX2_turn_42 ?_
      refine sm_aload_n C 0 dX2_turn_45 rfl rfl ?_
      refine xr_Night_riser C hw (k := 43) rfl gf_Night_52 dX2_turn_46 h (fun v8 h => ?_)
      refine xa_iald C hw (k := 12) rfl rfl dX2_turn_49 h (fun v9 h => ?_)
      refine sm_aload_n C 0 dX2_turn_50 rfl rfl ?_
      refine xr_Night_now C hw (k := 43) rfl gf_Night_12 dX2_turn_51 ?_
      refine xr_Fire_smoke C hw (k := 3) rfl gf_Night_86 dX2_turn_54 h (fun v10 h => ?_)
      refine sm_isub C dX2_turn_57 h (fun v11 h => ?_)
      refine sm_callNI C [.int v11] (xc_X7_round hw v11) gm_X7_round gl_Night_117 gs_X7_round rfl ⟨Nat.le_of_ble_eq_true rfl, Nat.le_of_ble_eq_true rfl⟩ rfl (Nat.le_of_ble_eq_true rfl) dX2_turn_58 h (fun v12 s13 h => ?_)
      refine sm_istore_n (lv' := [(2, .int v12), (0, .ref (sm_ad (sm_w X) 43)), (1, .int a1)]) C dX2_turn_61 rfl (by decide) rfl ?_
      refine sm_iload_n C 0 dX2_turn_62 rfl rfl ?_
      refine sm_if_ne C 67 dX2_turn_63 (by decide) h (fun h => ?_) (fun h => ?_)
      · refine sm_aload_n C 1 dX2_turn_67 rfl rfl ?_
        refine xr_Night_now C hw (k := 43) rfl gf_Night_12 dX2_turn_68 ?_
        refine sm_aload_n C 1 dX2_turn_71 rfl rfl ?_
        refine xr_Night_now C hw (k := 43) rfl gf_Night_12 dX2_turn_72 ?_
        refine xr_Fire_smoke C hw (k := 3) rfl gf_Night_86 dX2_turn_75 h (fun v14 h => ?_)
        refine sm_iload_n C 0 dX2_turn_78 rfl rfl ?_
        refine sm_iconst (v := 4) C dX2_turn_79 (by decide) ?_
        refine sm_icmp_gt C 87 dX2_turn_80 (by decide) h (fun h => ?_) (fun h => ?_)
        · refine sm_iconst (v := (-1)) C dX2_turn_87 (by decide) ?_
          refine sm_sub (lv' := []) [] rfl ?_
          exact xk_X2_turn_p88 C hw s13 (-1 : Int32) v14 h
        · refine sm_iconst (v := 1) C dX2_turn_83 (by decide) ?_
          refine sm_goto C 88 dX2_turn_84 (by decide) ?_
          refine sm_sub (lv' := []) [] rfl ?_
          exact xk_X2_turn_p88 C hw s13 (1 : Int32) v14 h
      · exact sm_vret C dX2_turn_66 h
    · exact sm_vret C dX2_turn_37 h
noncomputable def xf_X2_price (a1 : Int32) (a2 : Int32) (a3 : Int32) (s0 : sm_St) : Option (Int32 × sm_St) :=
  sm_b (s0.2.2 43 13) fun r1 =>
  if r1 = none then (
  some ((0 : Int32), s0))
  else (
  sm_g (sm_in a2 5) <| sm_b (s0.1 12 a2.toNatClampNeg) fun v2 =>
  sm_g (sm_in (0 : Int32) 6) <| sm_b (sm_sI s0 50 (0 : Int32).toNatClampNeg v2) fun s3 =>
  sm_b (s3.1 3 0) fun v4 =>
  sm_g (sm_in (1 : Int32) 6) <| sm_b (sm_sI s3 50 (1 : Int32).toNatClampNeg v4) fun s5 =>
  sm_g (sm_in (2 : Int32) 6) <| sm_b (sm_sI s5 50 (2 : Int32).toNatClampNeg a3) fun s6 =>
  sm_g (sm_in a2 5) <| sm_b (s6.1 49 a2.toNatClampNeg) fun v7 =>
  sm_g (sm_in (3 : Int32) 6) <| sm_b (sm_sI s6 50 (3 : Int32).toNatClampNeg v7) fun s8 =>
  sm_g (sm_in a2 5) <| sm_b (s8.1 9 a2.toNatClampNeg) fun v9 =>
  sm_g (sm_in (4 : Int32) 6) <| sm_b (sm_sI s8 50 (4 : Int32).toNatClampNeg v9) fun s10 =>
  sm_g (sm_in (5 : Int32) 6) <| sm_b (sm_sI s10 50 (5 : Int32).toNatClampNeg a2) fun s11 =>
  sm_b (s11.2.2 43 13) fun r12 =>
  sm_o r12 fun c13 => sm_g (decide (xo_tag c13 = 3)) <|
  sm_c (xf_X6_value c13 a1 50 51 s11) fun v14 s15 =>
  sm_b (if v14 < (99 : Int32) then v14 else (99 : Int32)) fun v16 =>
  sm_b (if (0 : Int32) < v16 then v16 else (0 : Int32)) fun v17 =>
  some (v17, s15))
set_option maxRecDepth 4000 in
theorem xc_X2_price {w : sm_WD} {l : Launch} (hw : xo_is w) (a1 : Int32) (a2 : Int32) (a3 : Int32) : sm_CI w l yX2_price prog_4_method_11_code 4 (some .int) 4 149 [.ref (sm_ad w 43), .int a1, .int a2, .int a3] (fun s => xf_X2_price a1 a2 a3 s) := by
  refine sm_CI.of (by decide +kernel) (Nat.le_of_ble_eq_true rfl) (fun X s0 R hXw hXl C h => ?_)
  subst hXw
  subst hXl
  have h : xf_X2_price a1 a2 a3 s0 = some R := h
  show sm_V X (sm_QI X R) 4 s0 0 [(0, .ref (sm_ad (sm_w X) 43)), (1, .int a1), (2, .int a2), (3, .int a3)] []
  unfold xf_X2_price at h
  refine sm_aload_n C 0 dX2_price_0 rfl rfl ?_
  refine xr_Night_rule C hw (k := 43) rfl gf_Night_58 dX2_price_1 h (fun r1 h => ?_)
  have h := sm_optnone h (ad := sm_ad (sm_w X))
  refine sm_ifnonnull C 9 dX2_price_4 (by decide) h (fun h => ?_) (fun h => ?_)
  · refine sm_iconst (v := 0) C dX2_price_7 (by decide) ?_
    exact sm_iret C dX2_price_8 h
  · refine sm_aload_n C 0 dX2_price_9 rfl rfl ?_
    refine xr_Night_names C hw (k := 43) rfl gf_Night_39 dX2_price_10 ?_
    refine sm_iconst (v := 0) C dX2_price_13 (by decide) ?_
    refine sm_aload_n C 0 dX2_price_14 rfl rfl ?_
    refine xr_Night_now C hw (k := 43) rfl gf_Night_12 dX2_price_15 ?_
    refine xr_Fire_places C hw (k := 3) rfl gf_Night_123 dX2_price_18 ?_
    refine sm_iload_n C 2 dX2_price_21 rfl rfl ?_
    refine xa_iald C hw (k := 12) rfl rfl dX2_price_22 h (fun v2 h => ?_)
    refine xa_iast C hw (k := 50) rfl rfl dX2_price_23 h (fun s3 h => ?_)
    refine sm_aload_n C 0 dX2_price_24 rfl rfl ?_
    refine xr_Night_names C hw (k := 43) rfl gf_Night_39 dX2_price_25 ?_
    refine sm_iconst (v := 1) C dX2_price_28 (by decide) ?_
    refine sm_aload_n C 0 dX2_price_29 rfl rfl ?_
    refine xr_Night_now C hw (k := 43) rfl gf_Night_12 dX2_price_30 ?_
    refine xr_Fire_smoke C hw (k := 3) rfl gf_Night_86 dX2_price_33 h (fun v4 h => ?_)
    refine xa_iast C hw (k := 50) rfl rfl dX2_price_36 h (fun s5 h => ?_)
    refine sm_aload_n C 0 dX2_price_37 rfl rfl ?_
    refine xr_Night_names C hw (k := 43) rfl gf_Night_39 dX2_price_38 ?_
    refine sm_iconst (v := 2) C dX2_price_41 (by decide) ?_
    refine sm_iload_n C 3 dX2_price_42 rfl rfl ?_
    refine xa_iast C hw (k := 50) rfl rfl dX2_price_43 h (fun s6 h => ?_)
    refine sm_aload_n C 0 dX2_price_44 rfl rfl ?_
    refine xr_Night_names C hw (k := 43) rfl gf_Night_39 dX2_price_45 ?_
    refine sm_iconst (v := 3) C dX2_price_48 (by decide) ?_
    refine sm_aload_n C 0 dX2_price_49 rfl rfl ?_
    refine xr_Night_longs C hw (k := 43) rfl gf_Night_34 dX2_price_50 ?_
    refine sm_iload_n C 2 dX2_price_53 rfl rfl ?_
    refine xa_iald C hw (k := 49) rfl rfl dX2_price_54 h (fun v7 h => ?_)
    refine xa_iast C hw (k := 50) rfl rfl dX2_price_55 h (fun s8 h => ?_)
    refine sm_aload_n C 0 dX2_price_56 rfl rfl ?_
    refine xr_Night_names C hw (k := 43) rfl gf_Night_39 dX2_price_57 ?_
    refine sm_iconst (v := 4) C dX2_price_60 (by decide) ?_
    refine sm_aload_n C 0 dX2_price_61 rfl rfl ?_
    refine xr_Night_now C hw (k := 43) rfl gf_Night_12 dX2_price_62 ?_
    refine xr_Fire_numbers C hw (k := 3) rfl gf_Night_104 dX2_price_65 ?_
    refine sm_iload_n C 2 dX2_price_68 rfl rfl ?_
    refine xa_iald C hw (k := 9) rfl rfl dX2_price_69 h (fun v9 h => ?_)
    refine xa_iast C hw (k := 50) rfl rfl dX2_price_70 h (fun s10 h => ?_)
    refine sm_aload_n C 0 dX2_price_71 rfl rfl ?_
    refine xr_Night_names C hw (k := 43) rfl gf_Night_39 dX2_price_72 ?_
    refine sm_iconst (v := 5) C dX2_price_75 (by decide) ?_
    refine sm_iload_n C 2 dX2_price_76 rfl rfl ?_
    refine xa_iast C hw (k := 50) rfl rfl dX2_price_77 h (fun s11 h => ?_)
    refine sm_iconst (v := 0) C dX2_price_78 (by decide) ?_
    refine sm_bipush (v := 99) C dX2_price_79 (by decide) ?_
    refine sm_aload_n C 0 dX2_price_81 rfl rfl ?_
    refine xr_Night_rule C hw (k := 43) rfl gf_Night_58 dX2_price_82 h (fun r12 h => ?_)
    refine sm_iload_n C 1 dX2_price_85 rfl rfl ?_
    refine sm_aload_n C 0 dX2_price_86 rfl rfl ?_
    refine xr_Night_names C hw (k := 43) rfl gf_Night_39 dX2_price_87 ?_
    refine sm_aload_n C 0 dX2_price_90 rfl rfl ?_
    refine xr_Night_stack C hw (k := 43) rfl gf_Night_42 dX2_price_91 ?_
    obtain ⟨c13, rfl, h⟩ := sm_oE h
    obtain ⟨hc13, h⟩ := sm_gE h
    have hc13 := of_decide_eq_true hc13
    refine sm_callVI (k := c13) C [.int a1, .ref (sm_ad (sm_w X) 50), .ref (sm_ad (sm_w X) 51)] (xc_X6_value hw c13 a1 50 51 hc13 rfl rfl) gm_X6_value gl_Night_146 gi_X6_value ge_X6_value (xob_Text hw hc13) rfl ⟨Nat.le_of_ble_eq_true rfl, Nat.le_of_ble_eq_true rfl⟩ rfl (Nat.le_of_ble_eq_true rfl) dX2_price_94 h (fun v14 s15 h => ?_)
    refine sm_mmin C gl_Night_150 gs_min gn_Math gc_min (Nat.le_of_ble_eq_true rfl) (Nat.le_of_ble_eq_true rfl) dX2_price_97 h (fun v16 h => ?_)
    refine sm_mmax C gl_Night_130 gs_max gn_Math gc_max (Nat.le_of_ble_eq_true rfl) (Nat.le_of_ble_eq_true rfl) dX2_price_100 h (fun v17 h => ?_)
    exact sm_iret C dX2_price_103 h
noncomputable def xf_X2_feel (a1 : Int32) (a2 : Int32) (a3 : Int32) (s0 : sm_St) : Option (Unit × sm_St) :=
  if a2 = 0 then (
  sm_g (sm_in a1 5) <| sm_b (sm_sI s0 49 a1.toNatClampNeg (0 : Int32)) fun s21 =>
  sm_g (sm_in a1 5) <| sm_b (s21.1 44 a1.toNatClampNeg) fun v22 =>
  sm_c (xf_X2_price (2 : Int32) a1 a3 s21) fun v23 s24 =>
  sm_b (v22 + v23) fun v25 =>
  sm_g (sm_in a1 5) <| sm_b (sm_sI s24 44 a1.toNatClampNeg v25) fun s26 =>
  some ((), s26))
  else (
  sm_g (sm_in a1 5) <| sm_b (s0.1 49 a1.toNatClampNeg) fun v1 =>
  sm_b (v1 + (1 : Int32)) fun v2 =>
  sm_g (sm_in a1 5) <| sm_b (sm_sI s0 49 a1.toNatClampNeg v2) fun s3 =>
  sm_g (sm_in a1 5) <| sm_b (s3.1 47 a1.toNatClampNeg) fun v4 =>
  sm_g (sm_in a1 5) <| sm_b (s3.1 49 a1.toNatClampNeg) fun v5 =>
  sm_b (if v4 < v5 then v5 else v4) fun v6 =>
  sm_g (sm_in a1 5) <| sm_b (sm_sI s3 47 a1.toNatClampNeg v6) fun s7 =>
  sm_g (sm_in a1 5) <| sm_b (s7.1 45 a1.toNatClampNeg) fun v8 =>
  sm_b (v8 + (1 : Int32)) fun v9 =>
  sm_g (sm_in a1 5) <| sm_b (sm_sI s7 45 a1.toNatClampNeg v9) fun s10 =>
  sm_b (s10.2.2 43 13) fun r11 =>
  if r11 = none then (
  some ((), s10))
  else (
  sm_g (sm_in a1 5) <| sm_b (s10.1 44 a1.toNatClampNeg) fun v12 =>
  sm_g (sm_in a1 5) <| sm_b (s10.1 6 a1.toNatClampNeg) fun v13 =>
  sm_c (xf_X2_price (0 : Int32) a1 a3 s10) fun v14 s15 =>
  sm_g (sm_in a1 5) <| sm_b (s15.1 49 a1.toNatClampNeg) fun v16 =>
  sm_c (xf_X1_bears v13 v14 v16 s15) fun v17 s18 =>
  sm_b (v12 + v17) fun v19 =>
  sm_g (sm_in a1 5) <| sm_b (sm_sI s18 44 a1.toNatClampNeg v19) fun s20 =>
  some ((), s20)))
set_option maxRecDepth 4000 in
theorem xc_X2_feel {w : sm_WD} {l : Launch} (hw : xo_is w) (a1 : Int32) (a2 : Int32) (a3 : Int32) : sm_CV w l yX2_feel prog_4_method_9_code 4 none 5 172 [.ref (sm_ad w 43), .int a1, .int a2, .int a3] (fun s => xf_X2_feel a1 a2 a3 s) := by
  refine sm_CV.of (by decide +kernel) (Nat.le_of_ble_eq_true rfl) (fun X s0 R hXw hXl C h => ?_)
  subst hXw
  subst hXl
  have h : xf_X2_feel a1 a2 a3 s0 = some R := h
  show sm_V X (sm_QV X R) 4 s0 0 [(0, .ref (sm_ad (sm_w X) 43)), (1, .int a1), (2, .int a2), (3, .int a3)] []
  unfold xf_X2_feel at h
  refine sm_iload_n C 2 dX2_feel_0 rfl rfl ?_
  refine sm_if_ne C 28 dX2_feel_1 (by decide) h (fun h => ?_) (fun h => ?_)
  · refine sm_aload_n C 0 dX2_feel_28 rfl rfl ?_
    refine xr_Night_longs C hw (k := 43) rfl gf_Night_34 dX2_feel_29 ?_
    refine sm_iload_n C 1 dX2_feel_32 rfl rfl ?_
    refine sm_dup2 C dX2_feel_33 rfl rfl ?_
    refine xa_iald C hw (k := 49) rfl rfl dX2_feel_34 h (fun v1 h => ?_)
    refine sm_iconst (v := 1) C dX2_feel_35 (by decide) ?_
    refine sm_iadd C dX2_feel_36 h (fun v2 h => ?_)
    refine xa_iast C hw (k := 49) rfl rfl dX2_feel_37 h (fun s3 h => ?_)
    refine sm_aload_n C 0 dX2_feel_38 rfl rfl ?_
    refine xr_Night_longest C hw (k := 43) rfl gf_Night_28 dX2_feel_39 ?_
    refine sm_iload_n C 1 dX2_feel_42 rfl rfl ?_
    refine sm_aload_n C 0 dX2_feel_43 rfl rfl ?_
    refine xr_Night_longest C hw (k := 43) rfl gf_Night_28 dX2_feel_44 ?_
    refine sm_iload_n C 1 dX2_feel_47 rfl rfl ?_
    refine xa_iald C hw (k := 47) rfl rfl dX2_feel_48 h (fun v4 h => ?_)
    refine sm_aload_n C 0 dX2_feel_49 rfl rfl ?_
    refine xr_Night_longs C hw (k := 43) rfl gf_Night_34 dX2_feel_50 ?_
    refine sm_iload_n C 1 dX2_feel_53 rfl rfl ?_
    refine xa_iald C hw (k := 49) rfl rfl dX2_feel_54 h (fun v5 h => ?_)
    refine sm_mmax C gl_Night_130 gs_max gn_Math gc_max (Nat.le_of_ble_eq_true rfl) (Nat.le_of_ble_eq_true rfl) dX2_feel_55 h (fun v6 h => ?_)
    refine xa_iast C hw (k := 47) rfl rfl dX2_feel_58 h (fun s7 h => ?_)
    refine sm_aload_n C 0 dX2_feel_59 rfl rfl ?_
    refine xr_Night_smoked C hw (k := 43) rfl gf_Night_22 dX2_feel_60 ?_
    refine sm_iload_n C 1 dX2_feel_63 rfl rfl ?_
    refine sm_dup2 C dX2_feel_64 rfl rfl ?_
    refine xa_iald C hw (k := 45) rfl rfl dX2_feel_65 h (fun v8 h => ?_)
    refine sm_iconst (v := 1) C dX2_feel_66 (by decide) ?_
    refine sm_iadd C dX2_feel_67 h (fun v9 h => ?_)
    refine xa_iast C hw (k := 45) rfl rfl dX2_feel_68 h (fun s10 h => ?_)
    refine sm_aload_n C 0 dX2_feel_69 rfl rfl ?_
    refine xr_Night_rule C hw (k := 43) rfl gf_Night_58 dX2_feel_70 h (fun r11 h => ?_)
    have h := sm_optnone h (ad := sm_ad (sm_w X))
    refine sm_ifnonnull C 77 dX2_feel_73 (by decide) h (fun h => ?_) (fun h => ?_)
    · exact sm_vret C dX2_feel_76 h
    · refine sm_aload_n C 0 dX2_feel_77 rfl rfl ?_
      refine xr_Night_costs C hw (k := 43) rfl gf_Night_18 dX2_feel_78 ?_
      refine sm_iload_n C 1 dX2_feel_81 rfl rfl ?_
      refine sm_dup2 C dX2_feel_82 rfl rfl ?_
      refine xa_iald C hw (k := 44) rfl rfl dX2_feel_83 h (fun v12 h => ?_)
      refine sm_aload_n C 0 dX2_feel_84 rfl rfl ?_
      refine xr_Night_now C hw (k := 43) rfl gf_Night_12 dX2_feel_85 ?_
      refine xr_Fire_kinds C hw (k := 3) rfl gf_Night_101 dX2_feel_88 ?_
      refine sm_iload_n C 1 dX2_feel_91 rfl rfl ?_
      refine xa_iald C hw (k := 6) rfl rfl dX2_feel_92 h (fun v13 h => ?_)
      refine sm_aload_n C 0 dX2_feel_93 rfl rfl ?_
      refine sm_iconst (v := 0) C dX2_feel_94 (by decide) ?_
      refine sm_iload_n C 1 dX2_feel_95 rfl rfl ?_
      refine sm_iload_n C 3 dX2_feel_96 rfl rfl ?_
      refine sm_callVI (k := 43) C [.int (0 : Int32), .int a1, .int a3] (xc_X2_price hw (0 : Int32) a1 a3) gm_X2_price gl_Night_126 gi_X2_price ge_X2_price (xob_Night hw rfl) rfl ⟨Nat.le_of_ble_eq_true rfl, Nat.le_of_ble_eq_true rfl⟩ rfl (Nat.le_of_ble_eq_true rfl) dX2_feel_97 h (fun v14 s15 h => ?_)
      refine sm_aload_n C 0 dX2_feel_100 rfl rfl ?_
      refine xr_Night_longs C hw (k := 43) rfl gf_Night_34 dX2_feel_101 ?_
      refine sm_iload_n C 1 dX2_feel_104 rfl rfl ?_
      refine xa_iald C hw (k := 49) rfl rfl dX2_feel_105 h (fun v16 h => ?_)
      refine sm_callSI C [.int v13, .int v14, .int v16] (xc_X1_bears hw v13 v14 v16) gm_X1_bears gl_Night_136 gs_X1_bears rfl ⟨Nat.le_of_ble_eq_true rfl, Nat.le_of_ble_eq_true rfl⟩ rfl (Nat.le_of_ble_eq_true rfl) dX2_feel_106 h (fun v17 s18 h => ?_)
      refine sm_iadd C dX2_feel_109 h (fun v19 h => ?_)
      refine xa_iast C hw (k := 44) rfl rfl dX2_feel_110 h (fun s20 h => ?_)
      exact sm_vret C dX2_feel_111 h
  · refine sm_aload_n C 0 dX2_feel_4 rfl rfl ?_
    refine xr_Night_longs C hw (k := 43) rfl gf_Night_34 dX2_feel_5 ?_
    refine sm_iload_n C 1 dX2_feel_8 rfl rfl ?_
    refine sm_iconst (v := 0) C dX2_feel_9 (by decide) ?_
    refine xa_iast C hw (k := 49) rfl rfl dX2_feel_10 h (fun s21 h => ?_)
    refine sm_aload_n C 0 dX2_feel_11 rfl rfl ?_
    refine xr_Night_costs C hw (k := 43) rfl gf_Night_18 dX2_feel_12 ?_
    refine sm_iload_n C 1 dX2_feel_15 rfl rfl ?_
    refine sm_dup2 C dX2_feel_16 rfl rfl ?_
    refine xa_iald C hw (k := 44) rfl rfl dX2_feel_17 h (fun v22 h => ?_)
    refine sm_aload_n C 0 dX2_feel_18 rfl rfl ?_
    refine sm_iconst (v := 2) C dX2_feel_19 (by decide) ?_
    refine sm_iload_n C 1 dX2_feel_20 rfl rfl ?_
    refine sm_iload_n C 3 dX2_feel_21 rfl rfl ?_
    refine sm_callVI (k := 43) C [.int (2 : Int32), .int a1, .int a3] (xc_X2_price hw (2 : Int32) a1 a3) gm_X2_price gl_Night_126 gi_X2_price ge_X2_price (xob_Night hw rfl) rfl ⟨Nat.le_of_ble_eq_true rfl, Nat.le_of_ble_eq_true rfl⟩ rfl (Nat.le_of_ble_eq_true rfl) dX2_feel_22 h (fun v23 s24 h => ?_)
    refine sm_iadd C dX2_feel_25 h (fun v25 h => ?_)
    refine xa_iast C hw (k := 44) rfl rfl dX2_feel_26 h (fun s26 h => ?_)
    exact sm_vret C dX2_feel_27 h
noncomputable def xf_X2_rise_p101 (a1 : Int32) (a2 : Int32) (a3 : Int32) (s0 : sm_St) (l4 : Int32) : Option (Unit × sm_St) :=
  sm_g (sm_in a1 5) <| sm_b (sm_sI s0 12 a1.toNatClampNeg l4) fun s1 =>
  sm_g (sm_in a1 5) <| sm_b (sm_sI s1 49 a1.toNatClampNeg (0 : Int32)) fun s2 =>
  some ((), s2)
noncomputable def xf_X2_rise_p66 (a1 : Int32) (a2 : Int32) (a3 : Int32) : Nat → sm_St → Int32 → Int32 → Option (Unit × sm_St)
  | 0, _, _, _ => none
  | n + 1, s0, l4, l5 =>
  if (8 : Int32) ≤ l5 then (
  xf_X2_rise_p101 a1 a2 a3 s0 l4)
  else (
  sm_c (xf_X0_isFreeFor 3 a1 l4 s0) fun v1 s2 =>
  if v1 = 0 then (
  sm_b (l4 + (1 : Int32)) fun v3 =>
  sm_c (xf_X7_round v3 s2) fun v4 s5 =>
  sm_b (l5 + Int32.ofInt 1) fun v6 =>
  (xf_X2_rise_p66 a1 a2 a3 n) s5 v4 v6)
  else (
  xf_X2_rise_p101 a1 a2 a3 s2 l4))
noncomputable def xf_X2_rise (a1 : Int32) (a2 : Int32) (a3 : Int32) (s0 : sm_St) : Option (Unit × sm_St) :=
  sm_g (sm_in a1 5) <| sm_b (s0.1 44 a1.toNatClampNeg) fun v1 =>
  sm_c (xf_X2_price (1 : Int32) a1 a2 s0) fun v2 s3 =>
  sm_b (v1 + v2) fun v4 =>
  sm_g (sm_in a1 5) <| sm_b (sm_sI s3 44 a1.toNatClampNeg v4) fun s5 =>
  sm_g (sm_in a1 5) <| sm_b (s5.1 48 a1.toNatClampNeg) fun v6 =>
  sm_b (v6 + (1 : Int32)) fun v7 =>
  sm_g (sm_in a1 5) <| sm_b (sm_sI s5 48 a1.toNatClampNeg v7) fun s8 =>
  sm_b (sm_sI s8 43 11 a1) fun s9 =>
  sm_g (sm_in a1 5) <| sm_b (s9.1 12 a1.toNatClampNeg) fun v10 =>
  sm_b (sm_sI s9 43 12 v10) fun s11 =>
  sm_g (sm_in a1 5) <| sm_b (s11.1 6 a1.toNatClampNeg) fun v12 =>
  sm_b (s11.1 43 12) fun v13 =>
  sm_c (xf_X1_goes v12 v13 a3 s11) fun v14 s15 =>
  xf_X2_rise_p66 a1 a2 a3 sm_F s15 v14 (0 : Int32)
set_option maxRecDepth 4000 in
theorem xk_X2_rise_p101 {X : sm_VC} (C : sm_Cx X prog_4_method_10_code 6 "SmokeGoesTo$Night" 5 172 none) (hw : xo_is (sm_w X)) {a1 : Int32} {a2 : Int32} {a3 : Int32}  {R : Unit × sm_St}   (s0 : sm_St) (l4 : Int32)  (h : xf_X2_rise_p101 a1 a2 a3 s0 l4 = some R) : sm_V X (sm_QV X R) 6 s0 101 [(0, .ref (sm_ad (sm_w X) 43)), (1, .int a1), (4, .int l4)] [] := by
  unfold xf_X2_rise_p101 at h
  refine sm_aload_n C 0 dX2_rise_101 rfl rfl ?_
  refine xr_Night_now C hw (k := 43) rfl gf_Night_12 dX2_rise_102 ?_
  refine xr_Fire_places C hw (k := 3) rfl gf_Night_123 dX2_rise_105 ?_
  refine sm_iload_n C 1 dX2_rise_108 rfl rfl ?_
  refine sm_iload C 2 dX2_rise_109 rfl ?_
  refine xa_iast C hw (k := 12) rfl rfl dX2_rise_111 h (fun s1 h => ?_)
  refine sm_aload_n C 0 dX2_rise_112 rfl rfl ?_
  refine xr_Night_longs C hw (k := 43) rfl gf_Night_34 dX2_rise_113 ?_
  refine sm_iload_n C 1 dX2_rise_116 rfl rfl ?_
  refine sm_iconst (v := 0) C dX2_rise_117 (by decide) ?_
  refine xa_iast C hw (k := 49) rfl rfl dX2_rise_118 h (fun s2 h => ?_)
  exact sm_vret C dX2_rise_119 h
set_option maxRecDepth 4000 in
theorem xk_X2_rise_p66 {X : sm_VC} (C : sm_Cx X prog_4_method_10_code 6 "SmokeGoesTo$Night" 5 172 none) (hw : xo_is (sm_w X)) {a1 : Int32} {a2 : Int32} {a3 : Int32}  {R : Unit × sm_St}   : ∀ (n : Nat) (s0 : sm_St) (l4 : Int32) (l5 : Int32) , xf_X2_rise_p66 a1 a2 a3 n s0 l4 l5 = some R → sm_V X (sm_QV X R) 6 s0 66 [(0, .ref (sm_ad (sm_w X) 43)), (1, .int a1), (4, .int l4), (5, .int l5)] [] := by
  intro n
  induction n with
  | zero =>
    intro s0 l4 l5 h
    have h : (none : Option (Unit × sm_St)) = some R := h
    cases h
  | succ n ih =>
    intro s0 l4 l5 h
    unfold xf_X2_rise_p66 at h
    refine sm_iload C 3 dX2_rise_66 rfl ?_
    refine sm_bipush (v := 8) C dX2_rise_68 (by decide) ?_
    refine sm_icmp_ge C 101 dX2_rise_70 (by decide) h (fun h => ?_) (fun h => ?_)
    · refine sm_sub (lv' := [(0, .ref (sm_ad (sm_w X) 43)), (1, .int a1), (4, .int l4)]) [0, 1, 2] rfl ?_
      exact xk_X2_rise_p101 C hw s0 l4 h
    · refine sm_aload_n C 0 dX2_rise_73 rfl rfl ?_
      refine xr_Night_now C hw (k := 43) rfl gf_Night_12 dX2_rise_74 ?_
      refine sm_iload_n C 1 dX2_rise_77 rfl rfl ?_
      refine sm_iload C 2 dX2_rise_78 rfl ?_
      refine sm_callVI (k := 3) C [.int a1, .int l4] (xc_X0_isFreeFor hw 3 a1 l4 rfl) gm_X0_isFreeFor gl_Night_142 gi_X0_isFreeFor ge_X0_isFreeFor (xob_Fire hw rfl) rfl ⟨Nat.le_of_ble_eq_true rfl, Nat.le_of_ble_eq_true rfl⟩ rfl (Nat.le_of_ble_eq_true rfl) dX2_rise_80 h (fun v1 s2 h => ?_)
      refine sm_if_ne C 101 dX2_rise_83 (by decide) h (fun h => ?_) (fun h => ?_)
      · refine sm_sub (lv' := [(0, .ref (sm_ad (sm_w X) 43)), (1, .int a1), (4, .int l4)]) [0, 1, 2] rfl ?_
        exact xk_X2_rise_p101 C hw s2 l4 h
      · refine sm_iload C 2 dX2_rise_86 rfl ?_
        refine sm_iconst (v := 1) C dX2_rise_88 (by decide) ?_
        refine sm_iadd C dX2_rise_89 h (fun v3 h => ?_)
        refine sm_callNI C [.int v3] (xc_X7_round hw v3) gm_X7_round gl_Night_117 gs_X7_round rfl ⟨Nat.le_of_ble_eq_true rfl, Nat.le_of_ble_eq_true rfl⟩ rfl (Nat.le_of_ble_eq_true rfl) dX2_rise_90 h (fun v4 s5 h => ?_)
        refine sm_istore (lv' := [(4, .int v4), (0, .ref (sm_ad (sm_w X) 43)), (1, .int a1), (5, .int l5)]) C dX2_rise_93 (by decide) rfl ?_
        refine sm_iinc (lv' := fun v6 => [(5, .int v6), (4, .int v4), (0, .ref (sm_ad (sm_w X) 43)), (1, .int a1)]) C 3 dX2_rise_95 rfl (by decide) (fun _ => rfl) h (fun v6 h => ?_)
        refine sm_goto C 66 dX2_rise_98 (by decide) ?_
        refine sm_sub (lv' := [(0, .ref (sm_ad (sm_w X) 43)), (1, .int a1), (4, .int v4), (5, .int v6)]) [2, 3, 1, 0] rfl ?_
        exact ih s5 v4 v6 h
set_option maxRecDepth 4000 in
theorem xc_X2_rise {w : sm_WD} {l : Launch} (hw : xo_is w) (a1 : Int32) (a2 : Int32) (a3 : Int32) : sm_CV w l yX2_rise prog_4_method_10_code 6 none 5 172 [.ref (sm_ad w 43), .int a1, .int a2, .int a3] (fun s => xf_X2_rise a1 a2 a3 s) := by
  refine sm_CV.of (by decide +kernel) (Nat.le_of_ble_eq_true rfl) (fun X s0 R hXw hXl C h => ?_)
  subst hXw
  subst hXl
  have h : xf_X2_rise a1 a2 a3 s0 = some R := h
  show sm_V X (sm_QV X R) 6 s0 0 [(0, .ref (sm_ad (sm_w X) 43)), (1, .int a1), (2, .int a2), (3, .int a3)] []
  unfold xf_X2_rise at h
  refine sm_aload_n C 0 dX2_rise_0 rfl rfl ?_
  refine xr_Night_costs C hw (k := 43) rfl gf_Night_18 dX2_rise_1 ?_
  refine sm_iload_n C 1 dX2_rise_4 rfl rfl ?_
  refine sm_dup2 C dX2_rise_5 rfl rfl ?_
  refine xa_iald C hw (k := 44) rfl rfl dX2_rise_6 h (fun v1 h => ?_)
  refine sm_aload_n C 0 dX2_rise_7 rfl rfl ?_
  refine sm_iconst (v := 1) C dX2_rise_8 (by decide) ?_
  refine sm_iload_n C 1 dX2_rise_9 rfl rfl ?_
  refine sm_iload_n C 2 dX2_rise_10 rfl rfl ?_
  refine sm_callVI (k := 43) C [.int (1 : Int32), .int a1, .int a2] (xc_X2_price hw (1 : Int32) a1 a2) gm_X2_price gl_Night_126 gi_X2_price ge_X2_price (xob_Night hw rfl) rfl ⟨Nat.le_of_ble_eq_true rfl, Nat.le_of_ble_eq_true rfl⟩ rfl (Nat.le_of_ble_eq_true rfl) dX2_rise_11 h (fun v2 s3 h => ?_)
  refine sm_iadd C dX2_rise_14 h (fun v4 h => ?_)
  refine xa_iast C hw (k := 44) rfl rfl dX2_rise_15 h (fun s5 h => ?_)
  refine sm_aload_n C 0 dX2_rise_16 rfl rfl ?_
  refine xr_Night_ups C hw (k := 43) rfl gf_Night_31 dX2_rise_17 ?_
  refine sm_iload_n C 1 dX2_rise_20 rfl rfl ?_
  refine sm_dup2 C dX2_rise_21 rfl rfl ?_
  refine xa_iald C hw (k := 48) rfl rfl dX2_rise_22 h (fun v6 h => ?_)
  refine sm_iconst (v := 1) C dX2_rise_23 (by decide) ?_
  refine sm_iadd C dX2_rise_24 h (fun v7 h => ?_)
  refine xa_iast C hw (k := 48) rfl rfl dX2_rise_25 h (fun s8 h => ?_)
  refine sm_aload_n C 0 dX2_rise_26 rfl rfl ?_
  refine sm_iload_n C 1 dX2_rise_27 rfl rfl ?_
  refine xp_Night_riser C hw (k := 43) rfl gf_Night_52 dX2_rise_28 h (fun s9 h => ?_)
  refine sm_aload_n C 0 dX2_rise_31 rfl rfl ?_
  refine sm_aload_n C 0 dX2_rise_32 rfl rfl ?_
  refine xr_Night_now C hw (k := 43) rfl gf_Night_12 dX2_rise_33 ?_
  refine xr_Fire_places C hw (k := 3) rfl gf_Night_123 dX2_rise_36 ?_
  refine sm_iload_n C 1 dX2_rise_39 rfl rfl ?_
  refine xa_iald C hw (k := 12) rfl rfl dX2_rise_40 h (fun v10 h => ?_)
  refine xp_Night_leftPlace C hw (k := 43) rfl gf_Night_55 dX2_rise_41 h (fun s11 h => ?_)
  refine sm_aload_n C 0 dX2_rise_44 rfl rfl ?_
  refine xr_Night_now C hw (k := 43) rfl gf_Night_12 dX2_rise_45 ?_
  refine xr_Fire_kinds C hw (k := 3) rfl gf_Night_101 dX2_rise_48 ?_
  refine sm_iload_n C 1 dX2_rise_51 rfl rfl ?_
  refine xa_iald C hw (k := 6) rfl rfl dX2_rise_52 h (fun v12 h => ?_)
  refine sm_aload_n C 0 dX2_rise_53 rfl rfl ?_
  refine xr_Night_leftPlace C hw (k := 43) rfl gf_Night_55 dX2_rise_54 h (fun v13 h => ?_)
  refine sm_iload_n C 3 dX2_rise_57 rfl rfl ?_
  refine sm_callSI C [.int v12, .int v13, .int a3] (xc_X1_goes hw v12 v13 a3) gm_X1_goes gl_Night_139 gs_X1_goes rfl ⟨Nat.le_of_ble_eq_true rfl, Nat.le_of_ble_eq_true rfl⟩ rfl (Nat.le_of_ble_eq_true rfl) dX2_rise_58 h (fun v14 s15 h => ?_)
  refine sm_istore (lv' := [(4, .int v14), (0, .ref (sm_ad (sm_w X) 43)), (1, .int a1), (2, .int a2), (3, .int a3)]) C dX2_rise_61 (by decide) rfl ?_
  refine sm_iconst (v := 0) C dX2_rise_63 (by decide) ?_
  refine sm_istore (lv' := [(5, .int (0 : Int32)), (4, .int v14), (0, .ref (sm_ad (sm_w X) 43)), (1, .int a1), (2, .int a2), (3, .int a3)]) C dX2_rise_64 (by decide) rfl ?_
  refine sm_sub (lv' := [(0, .ref (sm_ad (sm_w X) 43)), (1, .int a1), (4, .int v14), (5, .int (0 : Int32))]) [2, 3, 1, 0] rfl ?_
  exact xk_X2_rise_p66 C hw sm_F s15 v14 (0 : Int32) h
noncomputable def xf_X2_run_p122 (a1 : Option Nat) (k7 : sm_St → Int32 → Option (Unit × sm_St)) (k96 : sm_St → Int32 → Int32 → Int32 → Option (Unit × sm_St)) (s0 : sm_St) (l2 : Int32) (l3 : Int32) (l4 : Int32) (t0 : Int32) (t1 : Int32) : Option (Unit × sm_St) :=
  sm_c (xf_X2_feel t1 t0 l2 s0) fun _ s2 =>
  sm_b (l4 + Int32.ofInt 1) fun v3 =>
  k96 s2 l2 l3 v3
noncomputable def xf_X2_run_p189 (a1 : Option Nat) (k7 : sm_St → Int32 → Option (Unit × sm_St)) (s0 : sm_St) (l2 : Int32) : Option (Unit × sm_St) :=
  sm_b (l2 + Int32.ofInt 1) fun v1 =>
  k7 s0 v1
noncomputable def xf_X2_run_p96 (a1 : Option Nat) (k7 : sm_St → Int32 → Option (Unit × sm_St)) : Nat → sm_St → Int32 → Int32 → Int32 → Option (Unit × sm_St)
  | 0, _, _, _, _ => none
  | n + 1, s0, l2, l3, l4 =>
  sm_b (s0.1 3 6) fun v1 =>
  if v1 ≤ l4 then (
  sm_b (sm_sI s0 43 11 (-1 : Int32)) fun s2 =>
  sm_b (sm_sI s2 43 12 (-1 : Int32)) fun s3 =>
  if l3 = (-1 : Int32) then (
  xf_X2_run_p189 a1 k7 s3 l2)
  else (
  sm_g (sm_in l3 5) <| sm_b (s3.1 6 l3.toNatClampNeg) fun v4 =>
  sm_g (sm_in l3 5) <| sm_b (s3.1 9 l3.toNatClampNeg) fun v5 =>
  sm_g (sm_in l3 5) <| sm_b (s3.1 49 l3.toNatClampNeg) fun v6 =>
  sm_c (xf_X1_getsUp v4 v5 v6 s3) fun v7 s8 =>
  if v7 = 0 then (
  xf_X2_run_p189 a1 k7 s8 l2)
  else (
  sm_g (sm_in l2 40) <| sm_b (s8.1 46 l2.toNatClampNeg) fun v9 =>
  sm_c (xf_X2_rise l3 l2 v9 s8) fun _ s11 =>
  xf_X2_run_p189 a1 k7 s11 l2)))
  else (
  if l4 = l3 then (
  xf_X2_run_p122 a1 k7 (xf_X2_run_p96 a1 k7 n) s0 l2 l3 l4 (1 : Int32) l4)
  else (
  xf_X2_run_p122 a1 k7 (xf_X2_run_p96 a1 k7 n) s0 l2 l3 l4 (0 : Int32) l4))
noncomputable def xf_X2_run_p92 (a1 : Option Nat) (k7 : sm_St → Int32 → Option (Unit × sm_St)) (s0 : sm_St) (l2 : Int32) (t0 : Int32) : Option (Unit × sm_St) :=
  xf_X2_run_p96 a1 k7 sm_F s0 l2 t0 (0 : Int32)
noncomputable def xf_X2_run_p57 (a1 : Option Nat) (k7 : sm_St → Int32 → Option (Unit × sm_St)) (s0 : sm_St) (l2 : Int32) : Option (Unit × sm_St) :=
  sm_b (s0.1 3 0) fun v1 =>
  sm_c (xf_X0_hasTent 3 v1 s0) fun v2 s3 =>
  if v2 = 0 then (
  sm_b (s3.1 3 0) fun v4 =>
  sm_c (xf_X0_whoIsOn 3 v4 s3) fun v5 s6 =>
  xf_X2_run_p92 a1 k7 s6 l2 v5)
  else (
  xf_X2_run_p92 a1 k7 s3 l2 (-1 : Int32))
noncomputable def xf_X2_run_p7 (a1 : Option Nat) : Nat → sm_St → Int32 → Option (Unit × sm_St)
  | 0, _, _ => none
  | n + 1, s0, l2 =>
  sm_b (s0.1 43 9) fun v1 =>
  if v1 ≤ l2 then (
  some ((), s0))
  else (
  sm_g (sm_in l2 40) <| sm_b (s0.1 46 l2.toNatClampNeg) fun v2 =>
  sm_c (xf_X2_turn v2 s0) fun _ s4 =>
  sm_b (s4.1 43 12) fun v5 =>
  if v5 = (-1 : Int32) then (
  xf_X2_run_p57 a1 (xf_X2_run_p7 a1 n) s4 l2)
  else (
  sm_b (s4.1 3 0) fun v6 =>
  sm_b (s4.1 43 12) fun v7 =>
  if v6 = v7 then (
  xf_X2_run_p57 a1 (xf_X2_run_p7 a1 n) s4 l2)
  else (
  sm_b (s4.1 43 10) fun v8 =>
  sm_b (v8 + (1 : Int32)) fun v9 =>
  sm_b (sm_sI s4 43 10 v9) fun s10 =>
  xf_X2_run_p57 a1 (xf_X2_run_p7 a1 n) s10 l2)))
noncomputable def xf_X2_run (a1 : Option Nat) (s0 : sm_St) : Option (Unit × sm_St) :=
  sm_b (sm_sR s0 43 13 a1) fun s1 =>
  xf_X2_run_p7 a1 sm_F s1 (0 : Int32)
set_option maxRecDepth 4000 in
theorem xk_X2_run_p122 {X : sm_VC} (C : sm_Cx X prog_4_method_7_code 5 "SmokeGoesTo$Night" 6 197 none) (hw : xo_is (sm_w X)) {a1 : Option Nat}  {R : Unit × sm_St} {k7 : sm_St → Int32 → Option (Unit × sm_St)} {k96 : sm_St → Int32 → Int32 → Int32 → Option (Unit × sm_St)} (hk7 : ∀ (s : sm_St) (l2 : Int32), k7 s l2 = some R → sm_V X (sm_QV X R) 5 s 7 [(0, .ref (sm_ad (sm_w X) 43)), (2, .int l2)] []) (hk96 : ∀ (s : sm_St) (l2 : Int32) (l3 : Int32) (l4 : Int32), k96 s l2 l3 l4 = some R → sm_V X (sm_QV X R) 5 s 96 [(0, .ref (sm_ad (sm_w X) 43)), (2, .int l2), (3, .int l3), (4, .int l4)] []) (s0 : sm_St) (l2 : Int32) (l3 : Int32) (l4 : Int32) (t0 : Int32) (t1 : Int32)  (h : xf_X2_run_p122 a1 k7 k96 s0 l2 l3 l4 t0 t1 = some R) : sm_V X (sm_QV X R) 5 s0 122 [(0, .ref (sm_ad (sm_w X) 43)), (2, .int l2), (3, .int l3), (4, .int l4)] [.int t0, .int t1, .ref (sm_ad (sm_w X) 43)] := by
  unfold xf_X2_run_p122 at h
  refine sm_iload_n C 1 dX2_run_122 rfl rfl ?_
  refine sm_callVV (k := 43) C [.int t1, .int t0, .int l2] (xc_X2_feel hw t1 t0 l2) gm_X2_feel gl_Night_97 gi_X2_feel ge_X2_feel (xob_Night hw rfl) rfl ⟨Nat.le_of_ble_eq_true rfl, Nat.le_of_ble_eq_true rfl⟩ rfl (Nat.le_of_ble_eq_true rfl) dX2_run_123 h (fun v1 s2 h => ?_)
  refine sm_iinc (lv' := fun v3 => [(4, .int v3), (0, .ref (sm_ad (sm_w X) 43)), (2, .int l2), (3, .int l3)]) C 3 dX2_run_126 rfl (by decide) (fun _ => rfl) h (fun v3 h => ?_)
  refine sm_goto C 96 dX2_run_129 (by decide) ?_
  refine sm_sub (lv' := [(0, .ref (sm_ad (sm_w X) 43)), (2, .int l2), (3, .int l3), (4, .int v3)]) [1, 2, 3, 0] rfl ?_
  exact hk96 s2 l2 l3 v3 h
set_option maxRecDepth 4000 in
theorem xk_X2_run_p189 {X : sm_VC} (C : sm_Cx X prog_4_method_7_code 5 "SmokeGoesTo$Night" 6 197 none) (hw : xo_is (sm_w X)) {a1 : Option Nat}  {R : Unit × sm_St} {k7 : sm_St → Int32 → Option (Unit × sm_St)} (hk7 : ∀ (s : sm_St) (l2 : Int32), k7 s l2 = some R → sm_V X (sm_QV X R) 5 s 7 [(0, .ref (sm_ad (sm_w X) 43)), (2, .int l2)] []) (s0 : sm_St) (l2 : Int32)  (h : xf_X2_run_p189 a1 k7 s0 l2 = some R) : sm_V X (sm_QV X R) 5 s0 189 [(0, .ref (sm_ad (sm_w X) 43)), (2, .int l2)] [] := by
  unfold xf_X2_run_p189 at h
  refine sm_iinc (lv' := fun v1 => [(2, .int v1), (0, .ref (sm_ad (sm_w X) 43))]) C 1 dX2_run_189 rfl (by decide) (fun _ => rfl) h (fun v1 h => ?_)
  refine sm_goto C 7 dX2_run_192 (by decide) ?_
  refine sm_sub (lv' := [(0, .ref (sm_ad (sm_w X) 43)), (2, .int v1)]) [1, 0] rfl ?_
  exact hk7 s0 v1 h
set_option maxRecDepth 4000 in
theorem xk_X2_run_p96 {X : sm_VC} (C : sm_Cx X prog_4_method_7_code 5 "SmokeGoesTo$Night" 6 197 none) (hw : xo_is (sm_w X)) {a1 : Option Nat}  {R : Unit × sm_St} {k7 : sm_St → Int32 → Option (Unit × sm_St)} (hk7 : ∀ (s : sm_St) (l2 : Int32), k7 s l2 = some R → sm_V X (sm_QV X R) 5 s 7 [(0, .ref (sm_ad (sm_w X) 43)), (2, .int l2)] []) : ∀ (n : Nat) (s0 : sm_St) (l2 : Int32) (l3 : Int32) (l4 : Int32) , xf_X2_run_p96 a1 k7 n s0 l2 l3 l4 = some R → sm_V X (sm_QV X R) 5 s0 96 [(0, .ref (sm_ad (sm_w X) 43)), (2, .int l2), (3, .int l3), (4, .int l4)] [] := by
  intro n
  induction n with
  | zero =>
    intro s0 l2 l3 l4 h
    have h : (none : Option (Unit × sm_St)) = some R := h
    cases h
  | succ n ih =>
    intro s0 l2 l3 l4 h
    unfold xf_X2_run_p96 at h
    refine sm_iload C 3 dX2_run_96 rfl ?_
    refine sm_aload_n C 0 dX2_run_98 rfl rfl ?_
    refine xr_Night_now C hw (k := 43) rfl gf_Night_12 dX2_run_99 ?_
    refine xr_Fire_size C hw (k := 3) rfl gf_Night_96 dX2_run_102 h (fun v1 h => ?_)
    refine sm_icmp_ge C 132 dX2_run_105 (by decide) h (fun h => ?_) (fun h => ?_)
    · refine sm_aload_n C 0 dX2_run_132 rfl rfl ?_
      refine sm_iconst (v := (-1)) C dX2_run_133 (by decide) ?_
      refine xp_Night_riser C hw (k := 43) rfl gf_Night_52 dX2_run_134 h (fun s2 h => ?_)
      refine sm_aload_n C 0 dX2_run_137 rfl rfl ?_
      refine sm_iconst (v := (-1)) C dX2_run_138 (by decide) ?_
      refine xp_Night_leftPlace C hw (k := 43) rfl gf_Night_55 dX2_run_139 h (fun s3 h => ?_)
      refine sm_iload_n C 2 dX2_run_142 rfl rfl ?_
      refine sm_iconst (v := (-1)) C dX2_run_143 (by decide) ?_
      refine sm_icmp_eq C 189 dX2_run_144 (by decide) h (fun h => ?_) (fun h => ?_)
      · refine sm_sub (lv' := [(0, .ref (sm_ad (sm_w X) 43)), (2, .int l2)]) [0, 1] rfl ?_
        exact xk_X2_run_p189 C hw hk7 s3 l2 h
      · refine sm_aload_n C 0 dX2_run_147 rfl rfl ?_
        refine xr_Night_now C hw (k := 43) rfl gf_Night_12 dX2_run_148 ?_
        refine xr_Fire_kinds C hw (k := 3) rfl gf_Night_101 dX2_run_151 ?_
        refine sm_iload_n C 2 dX2_run_154 rfl rfl ?_
        refine xa_iald C hw (k := 6) rfl rfl dX2_run_155 h (fun v4 h => ?_)
        refine sm_aload_n C 0 dX2_run_156 rfl rfl ?_
        refine xr_Night_now C hw (k := 43) rfl gf_Night_12 dX2_run_157 ?_
        refine xr_Fire_numbers C hw (k := 3) rfl gf_Night_104 dX2_run_160 ?_
        refine sm_iload_n C 2 dX2_run_163 rfl rfl ?_
        refine xa_iald C hw (k := 9) rfl rfl dX2_run_164 h (fun v5 h => ?_)
        refine sm_aload_n C 0 dX2_run_165 rfl rfl ?_
        refine xr_Night_longs C hw (k := 43) rfl gf_Night_34 dX2_run_166 ?_
        refine sm_iload_n C 2 dX2_run_169 rfl rfl ?_
        refine xa_iald C hw (k := 49) rfl rfl dX2_run_170 h (fun v6 h => ?_)
        refine sm_callSI C [.int v4, .int v5, .int v6] (xc_X1_getsUp hw v4 v5 v6) gm_X1_getsUp gl_Night_107 gs_X1_getsUp rfl ⟨Nat.le_of_ble_eq_true rfl, Nat.le_of_ble_eq_true rfl⟩ rfl (Nat.le_of_ble_eq_true rfl) dX2_run_171 h (fun v7 s8 h => ?_)
        refine sm_if_eq C 189 dX2_run_174 (by decide) h (fun h => ?_) (fun h => ?_)
        · refine sm_sub (lv' := [(0, .ref (sm_ad (sm_w X) 43)), (2, .int l2)]) [0, 1] rfl ?_
          exact xk_X2_run_p189 C hw hk7 s8 l2 h
        · refine sm_aload_n C 0 dX2_run_177 rfl rfl ?_
          refine sm_iload_n C 2 dX2_run_178 rfl rfl ?_
          refine sm_iload_n C 1 dX2_run_179 rfl rfl ?_
          refine sm_aload_n C 0 dX2_run_180 rfl rfl ?_
          refine xr_Night_winds C hw (k := 43) rfl gf_Night_25 dX2_run_181 ?_
          refine sm_iload_n C 1 dX2_run_184 rfl rfl ?_
          refine xa_iald C hw (k := 46) rfl rfl dX2_run_185 h (fun v9 h => ?_)
          refine sm_callVV (k := 43) C [.int l3, .int l2, .int v9] (xc_X2_rise hw l3 l2 v9) gm_X2_rise gl_Night_113 gi_X2_rise ge_X2_rise (xob_Night hw rfl) rfl ⟨Nat.le_of_ble_eq_true rfl, Nat.le_of_ble_eq_true rfl⟩ rfl (Nat.le_of_ble_eq_true rfl) dX2_run_186 h (fun v10 s11 h => ?_)
          refine sm_sub (lv' := [(0, .ref (sm_ad (sm_w X) 43)), (2, .int l2)]) [0, 1] rfl ?_
          exact xk_X2_run_p189 C hw hk7 s11 l2 h
    · refine sm_aload_n C 0 dX2_run_108 rfl rfl ?_
      refine sm_iload C 3 dX2_run_109 rfl ?_
      refine sm_iload C 3 dX2_run_111 rfl ?_
      refine sm_iload_n C 2 dX2_run_113 rfl rfl ?_
      refine sm_icmp_ne C 121 dX2_run_114 (by decide) h (fun h => ?_) (fun h => ?_)
      · refine sm_iconst (v := 0) C dX2_run_121 (by decide) ?_
        exact xk_X2_run_p122 C hw hk7 ih s0 l2 l3 l4 (0 : Int32) l4 h
      · refine sm_iconst (v := 1) C dX2_run_117 (by decide) ?_
        refine sm_goto C 122 dX2_run_118 (by decide) ?_
        exact xk_X2_run_p122 C hw hk7 ih s0 l2 l3 l4 (1 : Int32) l4 h
set_option maxRecDepth 4000 in
theorem xk_X2_run_p92 {X : sm_VC} (C : sm_Cx X prog_4_method_7_code 5 "SmokeGoesTo$Night" 6 197 none) (hw : xo_is (sm_w X)) {a1 : Option Nat}  {R : Unit × sm_St} {k7 : sm_St → Int32 → Option (Unit × sm_St)} (hk7 : ∀ (s : sm_St) (l2 : Int32), k7 s l2 = some R → sm_V X (sm_QV X R) 5 s 7 [(0, .ref (sm_ad (sm_w X) 43)), (2, .int l2)] []) (s0 : sm_St) (l2 : Int32) (t0 : Int32)  (h : xf_X2_run_p92 a1 k7 s0 l2 t0 = some R) : sm_V X (sm_QV X R) 5 s0 92 [(0, .ref (sm_ad (sm_w X) 43)), (2, .int l2)] [.int t0] := by
  unfold xf_X2_run_p92 at h
  refine sm_istore_n (lv' := [(3, .int t0), (0, .ref (sm_ad (sm_w X) 43)), (2, .int l2)]) C dX2_run_92 rfl (by decide) rfl ?_
  refine sm_iconst (v := 0) C dX2_run_93 (by decide) ?_
  refine sm_istore (lv' := [(4, .int (0 : Int32)), (3, .int t0), (0, .ref (sm_ad (sm_w X) 43)), (2, .int l2)]) C dX2_run_94 (by decide) rfl ?_
  refine sm_sub (lv' := [(0, .ref (sm_ad (sm_w X) 43)), (2, .int l2), (3, .int t0), (4, .int (0 : Int32))]) [2, 3, 1, 0] rfl ?_
  exact xk_X2_run_p96 C hw hk7 sm_F s0 l2 t0 (0 : Int32) h
set_option maxRecDepth 4000 in
theorem xk_X2_run_p57 {X : sm_VC} (C : sm_Cx X prog_4_method_7_code 5 "SmokeGoesTo$Night" 6 197 none) (hw : xo_is (sm_w X)) {a1 : Option Nat}  {R : Unit × sm_St} {k7 : sm_St → Int32 → Option (Unit × sm_St)} (hk7 : ∀ (s : sm_St) (l2 : Int32), k7 s l2 = some R → sm_V X (sm_QV X R) 5 s 7 [(0, .ref (sm_ad (sm_w X) 43)), (2, .int l2)] []) (s0 : sm_St) (l2 : Int32)  (h : xf_X2_run_p57 a1 k7 s0 l2 = some R) : sm_V X (sm_QV X R) 5 s0 57 [(0, .ref (sm_ad (sm_w X) 43)), (2, .int l2)] [] := by
  unfold xf_X2_run_p57 at h
  refine sm_aload_n C 0 dX2_run_57 rfl rfl ?_
  refine xr_Night_now C hw (k := 43) rfl gf_Night_12 dX2_run_58 ?_
  refine sm_aload_n C 0 dX2_run_61 rfl rfl ?_
  refine xr_Night_now C hw (k := 43) rfl gf_Night_12 dX2_run_62 ?_
  refine xr_Fire_smoke C hw (k := 3) rfl gf_Night_86 dX2_run_65 h (fun v1 h => ?_)
  refine sm_callVI (k := 3) C [.int v1] (xc_X0_hasTent hw 3 v1 rfl) gm_X0_hasTent gl_Night_89 gi_X0_hasTent ge_X0_hasTent (xob_Fire hw rfl) rfl ⟨Nat.le_of_ble_eq_true rfl, Nat.le_of_ble_eq_true rfl⟩ rfl (Nat.le_of_ble_eq_true rfl) dX2_run_68 h (fun v2 s3 h => ?_)
  refine sm_if_eq C 78 dX2_run_71 (by decide) h (fun h => ?_) (fun h => ?_)
  · refine sm_aload_n C 0 dX2_run_78 rfl rfl ?_
    refine xr_Night_now C hw (k := 43) rfl gf_Night_12 dX2_run_79 ?_
    refine sm_aload_n C 0 dX2_run_82 rfl rfl ?_
    refine xr_Night_now C hw (k := 43) rfl gf_Night_12 dX2_run_83 ?_
    refine xr_Fire_smoke C hw (k := 3) rfl gf_Night_86 dX2_run_86 h (fun v4 h => ?_)
    refine sm_callVI (k := 3) C [.int v4] (xc_X0_whoIsOn hw 3 v4 rfl) gm_X0_whoIsOn gl_Night_93 gi_X0_whoIsOn ge_X0_whoIsOn (xob_Fire hw rfl) rfl ⟨Nat.le_of_ble_eq_true rfl, Nat.le_of_ble_eq_true rfl⟩ rfl (Nat.le_of_ble_eq_true rfl) dX2_run_89 h (fun v5 s6 h => ?_)
    exact xk_X2_run_p92 C hw hk7 s6 l2 v5 h
  · refine sm_iconst (v := (-1)) C dX2_run_74 (by decide) ?_
    refine sm_goto C 92 dX2_run_75 (by decide) ?_
    exact xk_X2_run_p92 C hw hk7 s3 l2 (-1 : Int32) h
set_option maxRecDepth 4000 in
theorem xk_X2_run_p7 {X : sm_VC} (C : sm_Cx X prog_4_method_7_code 5 "SmokeGoesTo$Night" 6 197 none) (hw : xo_is (sm_w X)) {a1 : Option Nat}  {R : Unit × sm_St}   : ∀ (n : Nat) (s0 : sm_St) (l2 : Int32) , xf_X2_run_p7 a1 n s0 l2 = some R → sm_V X (sm_QV X R) 5 s0 7 [(0, .ref (sm_ad (sm_w X) 43)), (2, .int l2)] [] := by
  intro n
  induction n with
  | zero =>
    intro s0 l2 h
    have h : (none : Option (Unit × sm_St)) = some R := h
    cases h
  | succ n ih =>
    intro s0 l2 h
    unfold xf_X2_run_p7 at h
    refine sm_iload_n C 1 dX2_run_7 rfl rfl ?_
    refine sm_aload_n C 0 dX2_run_8 rfl rfl ?_
    refine xr_Night_minutes C hw (k := 43) rfl gf_Night_45 dX2_run_9 h (fun v1 h => ?_)
    refine sm_icmp_ge C 195 dX2_run_12 (by decide) h (fun h => ?_) (fun h => ?_)
    · exact sm_vret C dX2_run_195 h
    · refine sm_aload_n C 0 dX2_run_15 rfl rfl ?_
      refine sm_aload_n C 0 dX2_run_16 rfl rfl ?_
      refine xr_Night_winds C hw (k := 43) rfl gf_Night_25 dX2_run_17 ?_
      refine sm_iload_n C 1 dX2_run_20 rfl rfl ?_
      refine xa_iald C hw (k := 46) rfl rfl dX2_run_21 h (fun v2 h => ?_)
      refine sm_callVV (k := 43) C [.int v2] (xc_X2_turn hw v2) gm_X2_turn gl_Night_82 gi_X2_turn ge_X2_turn (xob_Night hw rfl) rfl ⟨Nat.le_of_ble_eq_true rfl, Nat.le_of_ble_eq_true rfl⟩ rfl (Nat.le_of_ble_eq_true rfl) dX2_run_22 h (fun v3 s4 h => ?_)
      refine sm_aload_n C 0 dX2_run_25 rfl rfl ?_
      refine xr_Night_leftPlace C hw (k := 43) rfl gf_Night_55 dX2_run_26 h (fun v5 h => ?_)
      refine sm_iconst (v := (-1)) C dX2_run_29 (by decide) ?_
      refine sm_icmp_eq C 57 dX2_run_30 (by decide) h (fun h => ?_) (fun h => ?_)
      · exact xk_X2_run_p57 C hw ih s4 l2 h
      · refine sm_aload_n C 0 dX2_run_33 rfl rfl ?_
        refine xr_Night_now C hw (k := 43) rfl gf_Night_12 dX2_run_34 ?_
        refine xr_Fire_smoke C hw (k := 3) rfl gf_Night_86 dX2_run_37 h (fun v6 h => ?_)
        refine sm_aload_n C 0 dX2_run_40 rfl rfl ?_
        refine xr_Night_leftPlace C hw (k := 43) rfl gf_Night_55 dX2_run_41 h (fun v7 h => ?_)
        refine sm_icmp_eq C 57 dX2_run_44 (by decide) h (fun h => ?_) (fun h => ?_)
        · exact xk_X2_run_p57 C hw ih s4 l2 h
        · refine sm_aload_n C 0 dX2_run_47 rfl rfl ?_
          refine sm_dup C dX2_run_48 rfl ?_
          refine xr_Night_needless C hw (k := 43) rfl gf_Night_49 dX2_run_49 h (fun v8 h => ?_)
          refine sm_iconst (v := 1) C dX2_run_52 (by decide) ?_
          refine sm_iadd C dX2_run_53 h (fun v9 h => ?_)
          refine xp_Night_needless C hw (k := 43) rfl gf_Night_49 dX2_run_54 h (fun s10 h => ?_)
          exact xk_X2_run_p57 C hw ih s10 l2 h
set_option maxRecDepth 4000 in
theorem xc_X2_run {w : sm_WD} {l : Launch} (hw : xo_is w) (a1 : Option Nat) : sm_CV w l yX2_run prog_4_method_7_code 5 none 6 197 [.ref (sm_ad w 43), va_rf (Option.map (sm_ad w) a1)] (fun s => xf_X2_run a1 s) := by
  refine sm_CV.of (by decide +kernel) (by cases a1 <;> exact Nat.le_of_ble_eq_true rfl) (fun X s0 R hXw hXl C h => ?_)
  subst hXw
  subst hXl
  have h : xf_X2_run a1 s0 = some R := h
  show sm_V X (sm_QV X R) 5 s0 0 [(0, .ref (sm_ad (sm_w X) 43)), (1, va_rf (Option.map (sm_ad (sm_w X)) a1))] []
  unfold xf_X2_run at h
  refine sm_aload_n C 0 dX2_run_0 rfl rfl ?_
  refine sm_aload_nq (r := (Option.map (sm_ad (sm_w X)) a1)) C 1 dX2_run_1 rfl rfl ?_
  refine xp_Night_rule C hw (k := 43) (r := a1) rfl gf_Night_58 dX2_run_2 h (fun s1 h => ?_)
  refine sm_iconst (v := 0) C dX2_run_5 (by decide) ?_
  refine sm_sub (lv' := [(0, .ref (sm_ad (sm_w X) 43))]) [0] rfl ?_
  refine sm_istore_n (lv' := [(2, .int (0 : Int32)), (0, .ref (sm_ad (sm_w X) 43))]) C dX2_run_6 rfl (by decide) rfl ?_
  refine sm_sub (lv' := [(0, .ref (sm_ad (sm_w X) 43)), (2, .int (0 : Int32))]) [1, 0] rfl ?_
  exact xk_X2_run_p7 C hw sm_F s1 (0 : Int32) h
noncomputable def xf_X2_sum_p4 (a1 : Nat) : Nat → sm_St → Int32 → Int32 → Option (Int32 × sm_St)
  | 0, _, _, _ => none
  | n + 1, s0, l1, l2 =>
  sm_b (Int32.ofNat (xo_len a1)) fun v1 =>
  if v1 ≤ l2 then (
  some (l1, s0))
  else (
  sm_g (sm_in l2 (xo_len a1)) <| sm_b (s0.1 a1 l2.toNatClampNeg) fun v2 =>
  sm_b (l1 + v2) fun v3 =>
  sm_b (l2 + Int32.ofInt 1) fun v4 =>
  (xf_X2_sum_p4 a1 n) s0 v3 v4)
noncomputable def xf_X2_sum (a1 : Nat) (s0 : sm_St) : Option (Int32 × sm_St) :=
  xf_X2_sum_p4 a1 sm_F s0 (0 : Int32) (0 : Int32)
set_option maxRecDepth 4000 in
theorem xk_X2_sum_p4 {X : sm_VC} (C : sm_Cx X prog_4_method_16_code 3 "SmokeGoesTo$Night" 2 100 (some .int)) (hw : xo_is (sm_w X)) {a1 : Nat} (ha1 : xo_tag a1 = 10) {R : Int32 × sm_St}   : ∀ (n : Nat) (s0 : sm_St) (l1 : Int32) (l2 : Int32) , xf_X2_sum_p4 a1 n s0 l1 l2 = some R → sm_V X (sm_QI X R) 3 s0 4 [(0, .ref (sm_ad (sm_w X) a1)), (1, .int l1), (2, .int l2)] [] := by
  intro n
  induction n with
  | zero =>
    intro s0 l1 l2 h
    have h : (none : Option (Int32 × sm_St)) = some R := h
    cases h
  | succ n ih =>
    intro s0 l1 l2 h
    unfold xf_X2_sum_p4 at h
    refine sm_iload_n C 2 dX2_sum_4 rfl rfl ?_
    refine sm_aload_n C 0 dX2_sum_5 rfl rfl ?_
    refine xa_alenI C hw (k := a1) ha1 rfl dX2_sum_6 h (fun v1 h => ?_)
    refine sm_icmp_ge C 22 dX2_sum_7 (by decide) h (fun h => ?_) (fun h => ?_)
    · refine sm_iload_n C 1 dX2_sum_22 rfl rfl ?_
      exact sm_iret C dX2_sum_23 h
    · refine sm_iload_n C 1 dX2_sum_10 rfl rfl ?_
      refine sm_aload_n C 0 dX2_sum_11 rfl rfl ?_
      refine sm_iload_n C 2 dX2_sum_12 rfl rfl ?_
      refine xa_iald C hw (k := a1) ha1 rfl dX2_sum_13 h (fun v2 h => ?_)
      refine sm_iadd C dX2_sum_14 h (fun v3 h => ?_)
      refine sm_istore_n (lv' := [(1, .int v3), (0, .ref (sm_ad (sm_w X) a1)), (2, .int l2)]) C dX2_sum_15 rfl (by decide) rfl ?_
      refine sm_iinc (lv' := fun v4 => [(2, .int v4), (1, .int v3), (0, .ref (sm_ad (sm_w X) a1))]) C 2 dX2_sum_16 rfl (by decide) (fun _ => rfl) h (fun v4 h => ?_)
      refine sm_goto C 4 dX2_sum_19 (by decide) ?_
      refine sm_sub (lv' := [(0, .ref (sm_ad (sm_w X) a1)), (1, .int v3), (2, .int v4)]) [2, 1, 0] rfl ?_
      exact ih s0 v3 v4 h
set_option maxRecDepth 4000 in
theorem xc_X2_sum {w : sm_WD} {l : Launch} (hw : xo_is w) (a1 : Nat) (ha1 : xo_tag a1 = 10) : sm_CI w l yX2_sum prog_4_method_16_code 3 (some .int) 2 100 [.ref (sm_ad w a1)] (fun s => xf_X2_sum a1 s) := by
  refine sm_CI.of (by decide +kernel) (Nat.le_of_ble_eq_true rfl) (fun X s0 R hXw hXl C h => ?_)
  subst hXw
  subst hXl
  have h : xf_X2_sum a1 s0 = some R := h
  show sm_V X (sm_QI X R) 3 s0 0 [(0, .ref (sm_ad (sm_w X) a1))] []
  unfold xf_X2_sum at h
  refine sm_iconst (v := 0) C dX2_sum_0 (by decide) ?_
  refine sm_istore_n (lv' := [(1, .int (0 : Int32)), (0, .ref (sm_ad (sm_w X) a1))]) C dX2_sum_1 rfl (by decide) rfl ?_
  refine sm_iconst (v := 0) C dX2_sum_2 (by decide) ?_
  refine sm_istore_n (lv' := [(2, .int (0 : Int32)), (1, .int (0 : Int32)), (0, .ref (sm_ad (sm_w X) a1))]) C dX2_sum_3 rfl (by decide) rfl ?_
  refine sm_sub (lv' := [(0, .ref (sm_ad (sm_w X) a1)), (1, .int (0 : Int32)), (2, .int (0 : Int32))]) [2, 1, 0] rfl ?_
  exact xk_X2_sum_p4 C hw ha1 sm_F s0 (0 : Int32) (0 : Int32) h
noncomputable def xf_X2_costOfAll (s0 : sm_St) : Option (Int32 × sm_St) :=
  sm_c (xf_X2_sum 44 s0) fun v1 s2 =>
  some (v1, s2)
set_option maxRecDepth 4000 in
theorem xc_X2_costOfAll {w : sm_WD} {l : Launch} (hw : xo_is w)  : sm_CI w l yX2_costOfAll prog_4_method_14_code 1 (some .int) 3 122 [.ref (sm_ad w 43)] (fun s => xf_X2_costOfAll s) := by
  refine sm_CI.of (by decide +kernel) (Nat.le_of_ble_eq_true rfl) (fun X s0 R hXw hXl C h => ?_)
  subst hXw
  subst hXl
  have h : xf_X2_costOfAll s0 = some R := h
  show sm_V X (sm_QI X R) 1 s0 0 [(0, .ref (sm_ad (sm_w X) 43))] []
  unfold xf_X2_costOfAll at h
  refine sm_aload_n C 0 dX2_costOfAll_0 rfl rfl ?_
  refine xr_Night_costs C hw (k := 43) rfl gf_Night_18 dX2_costOfAll_1 ?_
  refine sm_callSI C [.ref (sm_ad (sm_w X) 44)] (xc_X2_sum hw 44 rfl) gm_X2_sum gl_Night_160 gs_X2_sum rfl ⟨Nat.le_of_ble_eq_true rfl, Nat.le_of_ble_eq_true rfl⟩ rfl (Nat.le_of_ble_eq_true rfl) dX2_costOfAll_4 h (fun v1 s2 h => ?_)
  exact sm_iret C dX2_costOfAll_7 h
noncomputable def xf_X2_upsOfAll (s0 : sm_St) : Option (Int32 × sm_St) :=
  sm_c (xf_X2_sum 48 s0) fun v1 s2 =>
  some (v1, s2)
set_option maxRecDepth 4000 in
theorem xc_X2_upsOfAll {w : sm_WD} {l : Launch} (hw : xo_is w)  : sm_CI w l yX2_upsOfAll prog_4_method_15_code 1 (some .int) 3 122 [.ref (sm_ad w 43)] (fun s => xf_X2_upsOfAll s) := by
  refine sm_CI.of (by decide +kernel) (Nat.le_of_ble_eq_true rfl) (fun X s0 R hXw hXl C h => ?_)
  subst hXw
  subst hXl
  have h : xf_X2_upsOfAll s0 = some R := h
  show sm_V X (sm_QI X R) 1 s0 0 [(0, .ref (sm_ad (sm_w X) 43))] []
  unfold xf_X2_upsOfAll at h
  refine sm_aload_n C 0 dX2_upsOfAll_0 rfl rfl ?_
  refine xr_Night_ups C hw (k := 43) rfl gf_Night_31 dX2_upsOfAll_1 ?_
  refine sm_callSI C [.ref (sm_ad (sm_w X) 48)] (xc_X2_sum hw 48 rfl) gm_X2_sum gl_Night_160 gs_X2_sum rfl ⟨Nat.le_of_ble_eq_true rfl, Nat.le_of_ble_eq_true rfl⟩ rfl (Nat.le_of_ble_eq_true rfl) dX2_upsOfAll_4 h (fun v1 s2 h => ?_)
  exact sm_iret C dX2_upsOfAll_7 h
noncomputable def xf_X2_ofAll (a1 : Int32) (s0 : sm_St) : Option (Int32 × sm_St) :=
  if a1 = (0 : Int32) then (
  sm_c (xf_X2_costOfAll s0) fun v1 s2 =>
  some (v1, s2))
  else if a1 = (1 : Int32) then (
  sm_b (s0.1 3 0) fun v3 =>
  some (v3, s0))
  else if a1 = (2 : Int32) then (
  sm_c (xf_X2_upsOfAll s0) fun v4 s5 =>
  some (v4, s5))
  else (
  sm_b (s0.1 43 10) fun v6 =>
  some (v6, s0))
set_option maxRecDepth 4000 in
theorem xc_X2_ofAll {w : sm_WD} {l : Launch} (hw : xo_is w) (a1 : Int32) : sm_CI w l yX2_ofAll prog_4_method_12_code 2 (some .int) 4 142 [.ref (sm_ad w 43), .int a1] (fun s => xf_X2_ofAll a1 s) := by
  refine sm_CI.of (by decide +kernel) (Nat.le_of_ble_eq_true rfl) (fun X s0 R hXw hXl C h => ?_)
  subst hXw
  subst hXl
  have h : xf_X2_ofAll a1 s0 = some R := h
  show sm_V X (sm_QI X R) 2 s0 0 [(0, .ref (sm_ad (sm_w X) 43)), (1, .int a1)] []
  unfold xf_X2_ofAll at h
  refine sm_iload_n C 1 dX2_ofAll_0 rfl rfl ?_
  by_cases q1_0 : a1 = (0 : Int32)
  · rw [if_pos q1_0] at h
    refine sm_tswIn C 27 28 dX2_ofAll_1 (by rw [q1_0]; decide) (by decide) ?_
    refine sm_aload_n C 0 dX2_ofAll_28 rfl rfl ?_
    refine sm_callVI (k := 43) C [] (xc_X2_costOfAll hw) gm_X2_costOfAll gl_Night_153 gi_X2_costOfAll ge_X2_costOfAll (xob_Night hw rfl) rfl ⟨Nat.le_of_ble_eq_true rfl, Nat.le_of_ble_eq_true rfl⟩ rfl (Nat.le_of_ble_eq_true rfl) dX2_ofAll_29 h (fun v1 s2 h => ?_)
    exact sm_iret C dX2_ofAll_32 h
  · rw [if_neg q1_0] at h
    by_cases q1_1 : a1 = (1 : Int32)
    · rw [if_pos q1_1] at h
      refine sm_tswIn C 32 33 dX2_ofAll_1 (by rw [q1_1]; decide) (by decide) ?_
      refine sm_aload_n C 0 dX2_ofAll_33 rfl rfl ?_
      refine xr_Night_now C hw (k := 43) rfl gf_Night_12 dX2_ofAll_34 ?_
      refine xr_Fire_smoke C hw (k := 3) rfl gf_Night_86 dX2_ofAll_37 h (fun v3 h => ?_)
      exact sm_iret C dX2_ofAll_40 h
    · rw [if_neg q1_1] at h
      by_cases q1_2 : a1 = (2 : Int32)
      · rw [if_pos q1_2] at h
        refine sm_tswIn C 40 41 dX2_ofAll_1 (by rw [q1_2]; decide) (by decide) ?_
        refine sm_aload_n C 0 dX2_ofAll_41 rfl rfl ?_
        refine sm_callVI (k := 43) C [] (xc_X2_upsOfAll hw) gm_X2_upsOfAll gl_Night_157 gi_X2_upsOfAll ge_X2_upsOfAll (xob_Night hw rfl) rfl ⟨Nat.le_of_ble_eq_true rfl, Nat.le_of_ble_eq_true rfl⟩ rfl (Nat.le_of_ble_eq_true rfl) dX2_ofAll_42 h (fun v4 s5 h => ?_)
        exact sm_iret C dX2_ofAll_45 h
      · rw [if_neg q1_2] at h
        refine sm_tswOut C 46 dX2_ofAll_1 (by have w0 := lv_neT q1_0 (a := 0) rfl; have w1 := lv_neT q1_1 (a := 1) rfl; have w2 := lv_neT q1_2 (a := 2) rfl; omega) (by decide) ?_
        refine sm_aload_n C 0 dX2_ofAll_46 rfl rfl ?_
        refine xr_Night_needless C hw (k := 43) rfl gf_Night_49 dX2_ofAll_47 h (fun v6 h => ?_)
        exact sm_iret C dX2_ofAll_50 h
noncomputable def xf_X2_ofOne (a1 : Int32) (a2 : Int32) (s0 : sm_St) : Option (Int32 × sm_St) :=
  if a1 = (1 : Int32) then (
  sm_g (sm_in a2 5) <| sm_b (s0.1 44 a2.toNatClampNeg) fun v1 =>
  some (v1, s0))
  else if a1 = (2 : Int32) then (
  sm_g (sm_in a2 5) <| sm_b (s0.1 45 a2.toNatClampNeg) fun v2 =>
  some (v2, s0))
  else if a1 = (3 : Int32) then (
  sm_g (sm_in a2 5) <| sm_b (s0.1 47 a2.toNatClampNeg) fun v3 =>
  some (v3, s0))
  else if a1 = (4 : Int32) then (
  sm_g (sm_in a2 5) <| sm_b (s0.1 48 a2.toNatClampNeg) fun v4 =>
  some (v4, s0))
  else (
  sm_g (sm_in a2 5) <| sm_b (s0.1 12 a2.toNatClampNeg) fun v5 =>
  some (v5, s0))
set_option maxRecDepth 4000 in
theorem xc_X2_ofOne {w : sm_WD} {l : Launch} (hw : xo_is w) (a1 : Int32) (a2 : Int32) : sm_CI w l yX2_ofOne prog_4_method_13_code 3 (some .int) 2 100 [.ref (sm_ad w 43), .int a1, .int a2] (fun s => xf_X2_ofOne a1 a2 s) := by
  refine sm_CI.of (by decide +kernel) (Nat.le_of_ble_eq_true rfl) (fun X s0 R hXw hXl C h => ?_)
  subst hXw
  subst hXl
  have h : xf_X2_ofOne a1 a2 s0 = some R := h
  show sm_V X (sm_QI X R) 3 s0 0 [(0, .ref (sm_ad (sm_w X) 43)), (1, .int a1), (2, .int a2)] []
  unfold xf_X2_ofOne at h
  refine sm_iload_n C 1 dX2_ofOne_0 rfl rfl ?_
  by_cases q1_0 : a1 = (1 : Int32)
  · rw [if_pos q1_0] at h
    refine sm_tswIn C 31 32 dX2_ofOne_1 (by rw [q1_0]; decide) (by decide) ?_
    refine sm_aload_n C 0 dX2_ofOne_32 rfl rfl ?_
    refine xr_Night_costs C hw (k := 43) rfl gf_Night_18 dX2_ofOne_33 ?_
    refine sm_iload_n C 2 dX2_ofOne_36 rfl rfl ?_
    refine xa_iald C hw (k := 44) rfl rfl dX2_ofOne_37 h (fun v1 h => ?_)
    exact sm_iret C dX2_ofOne_38 h
  · rw [if_neg q1_0] at h
    by_cases q1_1 : a1 = (2 : Int32)
    · rw [if_pos q1_1] at h
      refine sm_tswIn C 38 39 dX2_ofOne_1 (by rw [q1_1]; decide) (by decide) ?_
      refine sm_aload_n C 0 dX2_ofOne_39 rfl rfl ?_
      refine xr_Night_smoked C hw (k := 43) rfl gf_Night_22 dX2_ofOne_40 ?_
      refine sm_iload_n C 2 dX2_ofOne_43 rfl rfl ?_
      refine xa_iald C hw (k := 45) rfl rfl dX2_ofOne_44 h (fun v2 h => ?_)
      exact sm_iret C dX2_ofOne_45 h
    · rw [if_neg q1_1] at h
      by_cases q1_2 : a1 = (3 : Int32)
      · rw [if_pos q1_2] at h
        refine sm_tswIn C 45 46 dX2_ofOne_1 (by rw [q1_2]; decide) (by decide) ?_
        refine sm_aload_n C 0 dX2_ofOne_46 rfl rfl ?_
        refine xr_Night_longest C hw (k := 43) rfl gf_Night_28 dX2_ofOne_47 ?_
        refine sm_iload_n C 2 dX2_ofOne_50 rfl rfl ?_
        refine xa_iald C hw (k := 47) rfl rfl dX2_ofOne_51 h (fun v3 h => ?_)
        exact sm_iret C dX2_ofOne_52 h
      · rw [if_neg q1_2] at h
        by_cases q1_3 : a1 = (4 : Int32)
        · rw [if_pos q1_3] at h
          refine sm_tswIn C 52 53 dX2_ofOne_1 (by rw [q1_3]; decide) (by decide) ?_
          refine sm_aload_n C 0 dX2_ofOne_53 rfl rfl ?_
          refine xr_Night_ups C hw (k := 43) rfl gf_Night_31 dX2_ofOne_54 ?_
          refine sm_iload_n C 2 dX2_ofOne_57 rfl rfl ?_
          refine xa_iald C hw (k := 48) rfl rfl dX2_ofOne_58 h (fun v4 h => ?_)
          exact sm_iret C dX2_ofOne_59 h
        · rw [if_neg q1_3] at h
          refine sm_tswOut C 60 dX2_ofOne_1 (by have w0 := lv_neT q1_0 (a := 1) rfl; have w1 := lv_neT q1_1 (a := 2) rfl; have w2 := lv_neT q1_2 (a := 3) rfl; have w3 := lv_neT q1_3 (a := 4) rfl; omega) (by decide) ?_
          refine sm_aload_n C 0 dX2_ofOne_60 rfl rfl ?_
          refine xr_Night_now C hw (k := 43) rfl gf_Night_12 dX2_ofOne_61 ?_
          refine xr_Fire_places C hw (k := 3) rfl gf_Night_123 dX2_ofOne_64 ?_
          refine sm_iload_n C 2 dX2_ofOne_67 rfl rfl ?_
          refine xa_iald C hw (k := 12) rfl rfl dX2_ofOne_68 h (fun v5 h => ?_)
          exact sm_iret C dX2_ofOne_69 h
noncomputable def xf_X2_takeRow_p12 (a1 : Int32) (a2 : Int32) : Nat → sm_St → Int32 → Int32 → Option (Unit × sm_St)
  | 0, _, _, _ => none
  | n + 1, s0, l3, l4 =>
  if l4 < 0 then (
  some ((), s0))
  else (
  sm_g (!decide ((3 : Int32) = 0)) <| sm_b (l3 - l3 / (3 : Int32) * (3 : Int32)) fun v1 =>
  sm_b (v1 - (1 : Int32)) fun v2 =>
  sm_g (sm_in l4 40) <| sm_b (sm_sI s0 46 l4.toNatClampNeg v2) fun s3 =>
  sm_g (!decide ((3 : Int32) = 0)) <| sm_b (l3 / (3 : Int32)) fun v4 =>
  sm_b (l4 + Int32.ofInt (-1)) fun v5 =>
  (xf_X2_takeRow_p12 a1 a2 n) s3 v4 v5)
noncomputable def xf_X2_takeRow (a1 : Int32) (a2 : Int32) (s0 : sm_St) : Option (Unit × sm_St) :=
  sm_b (sm_sI s0 43 9 a2) fun s1 =>
  sm_b (a2 - (1 : Int32)) fun v2 =>
  xf_X2_takeRow_p12 a1 a2 sm_F s1 a1 v2
set_option maxRecDepth 4000 in
theorem xk_X2_takeRow_p12 {X : sm_VC} (C : sm_Cx X prog_4_method_3_code 5 "SmokeGoesTo$Night" 2 100 none) (hw : xo_is (sm_w X)) {a1 : Int32} {a2 : Int32}  {R : Unit × sm_St}   : ∀ (n : Nat) (s0 : sm_St) (l3 : Int32) (l4 : Int32) , xf_X2_takeRow_p12 a1 a2 n s0 l3 l4 = some R → sm_V X (sm_QV X R) 5 s0 12 [(0, .ref (sm_ad (sm_w X) 43)), (3, .int l3), (4, .int l4)] [] := by
  intro n
  induction n with
  | zero =>
    intro s0 l3 l4 h
    have h : (none : Option (Unit × sm_St)) = some R := h
    cases h
  | succ n ih =>
    intro s0 l3 l4 h
    unfold xf_X2_takeRow_p12 at h
    refine sm_iload C 2 dX2_takeRow_12 rfl ?_
    refine sm_if_lt C 39 dX2_takeRow_14 (by decide) h (fun h => ?_) (fun h => ?_)
    · exact sm_vret C dX2_takeRow_39 h
    · refine sm_aload_n C 0 dX2_takeRow_17 rfl rfl ?_
      refine xr_Night_winds C hw (k := 43) rfl gf_Night_25 dX2_takeRow_18 ?_
      refine sm_iload C 2 dX2_takeRow_21 rfl ?_
      refine sm_iload_n C 1 dX2_takeRow_23 rfl rfl ?_
      refine sm_iconst (v := 3) C dX2_takeRow_24 (by decide) ?_
      refine sm_irem C dX2_takeRow_25 h (fun v1 h => ?_)
      refine sm_iconst (v := 1) C dX2_takeRow_26 (by decide) ?_
      refine sm_isub C dX2_takeRow_27 h (fun v2 h => ?_)
      refine xa_iast C hw (k := 46) rfl rfl dX2_takeRow_28 h (fun s3 h => ?_)
      refine sm_iload_n C 1 dX2_takeRow_29 rfl rfl ?_
      refine sm_iconst (v := 3) C dX2_takeRow_30 (by decide) ?_
      refine sm_idiv C dX2_takeRow_31 h (fun v4 h => ?_)
      refine sm_istore_n (lv' := [(3, .int v4), (0, .ref (sm_ad (sm_w X) 43)), (4, .int l4)]) C dX2_takeRow_32 rfl (by decide) rfl ?_
      refine sm_iinc (lv' := fun v5 => [(4, .int v5), (3, .int v4), (0, .ref (sm_ad (sm_w X) 43))]) C 2 dX2_takeRow_33 rfl (by decide) (fun _ => rfl) h (fun v5 h => ?_)
      refine sm_goto C 12 dX2_takeRow_36 (by decide) ?_
      refine sm_sub (lv' := [(0, .ref (sm_ad (sm_w X) 43)), (3, .int v4), (4, .int v5)]) [2, 1, 0] rfl ?_
      exact ih s3 v4 v5 h
set_option maxRecDepth 4000 in
theorem xc_X2_takeRow {w : sm_WD} {l : Launch} (hw : xo_is w) (a1 : Int32) (a2 : Int32) : sm_CV w l yX2_takeRow prog_4_method_3_code 5 none 2 100 [.ref (sm_ad w 43), .int a1, .int a2] (fun s => xf_X2_takeRow a1 a2 s) := by
  refine sm_CV.of (by decide +kernel) (Nat.le_of_ble_eq_true rfl) (fun X s0 R hXw hXl C h => ?_)
  subst hXw
  subst hXl
  have h : xf_X2_takeRow a1 a2 s0 = some R := h
  show sm_V X (sm_QV X R) 5 s0 0 [(0, .ref (sm_ad (sm_w X) 43)), (1, .int a1), (2, .int a2)] []
  unfold xf_X2_takeRow at h
  refine sm_aload_n C 0 dX2_takeRow_0 rfl rfl ?_
  refine sm_iload_n C 2 dX2_takeRow_1 rfl rfl ?_
  refine xp_Night_minutes C hw (k := 43) rfl gf_Night_45 dX2_takeRow_2 h (fun s1 h => ?_)
  refine sm_iload_n C 1 dX2_takeRow_5 rfl rfl ?_
  refine sm_istore_n (lv' := [(3, .int a1), (0, .ref (sm_ad (sm_w X) 43)), (1, .int a1), (2, .int a2)]) C dX2_takeRow_6 rfl (by decide) rfl ?_
  refine sm_iload_n C 3 dX2_takeRow_7 rfl rfl ?_
  refine sm_iconst (v := 1) C dX2_takeRow_8 (by decide) ?_
  refine sm_isub C dX2_takeRow_9 h (fun v2 h => ?_)
  refine sm_istore (lv' := [(4, .int v2), (3, .int a1), (0, .ref (sm_ad (sm_w X) 43)), (1, .int a1), (2, .int a2)]) C dX2_takeRow_10 (by decide) rfl ?_
  refine sm_sub (lv' := [(0, .ref (sm_ad (sm_w X) 43)), (3, .int a1), (4, .int v2)]) [2, 1, 0] rfl ?_
  exact xk_X2_takeRow_p12 C hw sm_F s1 a1 v2 h
noncomputable def xf_X2_digits_p4  : Nat → sm_St → Int32 → Int32 → Option (Int32 × sm_St)
  | 0, _, _, _ => none
  | n + 1, s0, l1, l2 =>
  sm_b (s0.1 43 9) fun v1 =>
  if v1 ≤ l2 then (
  some (l1, s0))
  else (
  sm_b (l1 * (10 : Int32)) fun v2 =>
  sm_g (sm_in l2 40) <| sm_b (s0.1 46 l2.toNatClampNeg) fun v3 =>
  sm_b (v2 + v3) fun v4 =>
  sm_b (v4 + (2 : Int32)) fun v5 =>
  sm_b (l2 + Int32.ofInt 1) fun v6 =>
  (xf_X2_digits_p4 n) s0 v5 v6)
noncomputable def xf_X2_digits (s0 : sm_St) : Option (Int32 × sm_St) :=
  xf_X2_digits_p4 sm_F s0 (0 : Int32) (0 : Int32)
set_option maxRecDepth 4000 in
theorem xk_X2_digits_p4 {X : sm_VC} (C : sm_Cx X prog_4_method_5_code 3 "SmokeGoesTo$Night" 2 100 (some .int)) (hw : xo_is (sm_w X))   {R : Int32 × sm_St}   : ∀ (n : Nat) (s0 : sm_St) (l1 : Int32) (l2 : Int32) , xf_X2_digits_p4 n s0 l1 l2 = some R → sm_V X (sm_QI X R) 3 s0 4 [(0, .ref (sm_ad (sm_w X) 43)), (1, .int l1), (2, .int l2)] [] := by
  intro n
  induction n with
  | zero =>
    intro s0 l1 l2 h
    have h : (none : Option (Int32 × sm_St)) = some R := h
    cases h
  | succ n ih =>
    intro s0 l1 l2 h
    unfold xf_X2_digits_p4 at h
    refine sm_iload_n C 2 dX2_digits_4 rfl rfl ?_
    refine sm_aload_n C 0 dX2_digits_5 rfl rfl ?_
    refine xr_Night_minutes C hw (k := 43) rfl gf_Night_45 dX2_digits_6 h (fun v1 h => ?_)
    refine sm_icmp_ge C 32 dX2_digits_9 (by decide) h (fun h => ?_) (fun h => ?_)
    · refine sm_iload_n C 1 dX2_digits_32 rfl rfl ?_
      exact sm_iret C dX2_digits_33 h
    · refine sm_iload_n C 1 dX2_digits_12 rfl rfl ?_
      refine sm_bipush (v := 10) C dX2_digits_13 (by decide) ?_
      refine sm_imul C dX2_digits_15 h (fun v2 h => ?_)
      refine sm_aload_n C 0 dX2_digits_16 rfl rfl ?_
      refine xr_Night_winds C hw (k := 43) rfl gf_Night_25 dX2_digits_17 ?_
      refine sm_iload_n C 2 dX2_digits_20 rfl rfl ?_
      refine xa_iald C hw (k := 46) rfl rfl dX2_digits_21 h (fun v3 h => ?_)
      refine sm_iadd C dX2_digits_22 h (fun v4 h => ?_)
      refine sm_iconst (v := 2) C dX2_digits_23 (by decide) ?_
      refine sm_iadd C dX2_digits_24 h (fun v5 h => ?_)
      refine sm_istore_n (lv' := [(1, .int v5), (0, .ref (sm_ad (sm_w X) 43)), (2, .int l2)]) C dX2_digits_25 rfl (by decide) rfl ?_
      refine sm_iinc (lv' := fun v6 => [(2, .int v6), (1, .int v5), (0, .ref (sm_ad (sm_w X) 43))]) C 2 dX2_digits_26 rfl (by decide) (fun _ => rfl) h (fun v6 h => ?_)
      refine sm_goto C 4 dX2_digits_29 (by decide) ?_
      refine sm_sub (lv' := [(0, .ref (sm_ad (sm_w X) 43)), (1, .int v5), (2, .int v6)]) [2, 1, 0] rfl ?_
      exact ih s0 v5 v6 h
set_option maxRecDepth 4000 in
theorem xc_X2_digits {w : sm_WD} {l : Launch} (hw : xo_is w)  : sm_CI w l yX2_digits prog_4_method_5_code 3 (some .int) 2 100 [.ref (sm_ad w 43)] (fun s => xf_X2_digits s) := by
  refine sm_CI.of (by decide +kernel) (Nat.le_of_ble_eq_true rfl) (fun X s0 R hXw hXl C h => ?_)
  subst hXw
  subst hXl
  have h : xf_X2_digits s0 = some R := h
  show sm_V X (sm_QI X R) 3 s0 0 [(0, .ref (sm_ad (sm_w X) 43))] []
  unfold xf_X2_digits at h
  refine sm_iconst (v := 0) C dX2_digits_0 (by decide) ?_
  refine sm_istore_n (lv' := [(1, .int (0 : Int32)), (0, .ref (sm_ad (sm_w X) 43))]) C dX2_digits_1 rfl (by decide) rfl ?_
  refine sm_iconst (v := 0) C dX2_digits_2 (by decide) ?_
  refine sm_istore_n (lv' := [(2, .int (0 : Int32)), (1, .int (0 : Int32)), (0, .ref (sm_ad (sm_w X) 43))]) C dX2_digits_3 rfl (by decide) rfl ?_
  refine sm_sub (lv' := [(0, .ref (sm_ad (sm_w X) 43)), (1, .int (0 : Int32)), (2, .int (0 : Int32))]) [2, 1, 0] rfl ?_
  exact xk_X2_digits_p4 C hw sm_F s0 (0 : Int32) (0 : Int32) h
noncomputable def xf_X2_drawWinds_p71 (a1 : Int32) (a2 : Int32) (a3 : Int32) (k12 : sm_St → Int32 → Int32 → Option (Unit × sm_St)) (s0 : sm_St) (l4 : Int32) (l5 : Int32) (t0 : Int32) (t1 : Int32) : Option (Unit × sm_St) :=
  sm_g (sm_in t1 40) <| sm_b (sm_sI s0 46 t1.toNatClampNeg t0) fun s1 =>
  sm_b (l5 + Int32.ofInt 1) fun v2 =>
  k12 s1 l4 v2
noncomputable def xf_X2_drawWinds_p12 (a1 : Int32) (a2 : Int32) (a3 : Int32) : Nat → sm_St → Int32 → Int32 → Option (Unit × sm_St)
  | 0, _, _, _ => none
  | n + 1, s0, l4, l5 =>
  sm_b (s0.1 43 9) fun v1 =>
  if v1 ≤ l5 then (
  some ((), s0))
  else (
  sm_b (l4 * (1103515245 : Int32)) fun v2 =>
  sm_b (v2 + (12345 : Int32)) fun v3 =>
  sm_b ((v3.toUInt32 >>> ((9 : Int32).toUInt32 &&& Int32.toUInt32 31)).toInt32) fun v4 =>
  sm_g (!decide ((100 : Int32) = 0)) <| sm_b (v4 - v4 / (100 : Int32) * (100 : Int32)) fun v5 =>
  if a2 ≤ v5 then (
  sm_b (a2 + a3) fun v6 =>
  if v6 ≤ v5 then (
  xf_X2_drawWinds_p71 a1 a2 a3 (xf_X2_drawWinds_p12 a1 a2 a3 n) s0 v3 l5 (0 : Int32) l5)
  else (
  xf_X2_drawWinds_p71 a1 a2 a3 (xf_X2_drawWinds_p12 a1 a2 a3 n) s0 v3 l5 (1 : Int32) l5))
  else (
  xf_X2_drawWinds_p71 a1 a2 a3 (xf_X2_drawWinds_p12 a1 a2 a3 n) s0 v3 l5 (-1 : Int32) l5))
noncomputable def xf_X2_drawWinds (a1 : Int32) (a2 : Int32) (a3 : Int32) (s0 : sm_St) : Option (Unit × sm_St) :=
  sm_b (sm_sI s0 43 9 (10 : Int32)) fun s1 =>
  xf_X2_drawWinds_p12 a1 a2 a3 sm_F s1 a1 (0 : Int32)
set_option maxRecDepth 4000 in
theorem xk_X2_drawWinds_p71 {X : sm_VC} (C : sm_Cx X prog_4_method_4_code 7 "SmokeGoesTo$Night" 2 100 none) (hw : xo_is (sm_w X)) {a1 : Int32} {a2 : Int32} {a3 : Int32}  {R : Unit × sm_St} {k12 : sm_St → Int32 → Int32 → Option (Unit × sm_St)} (hk12 : ∀ (s : sm_St) (l4 : Int32) (l5 : Int32), k12 s l4 l5 = some R → sm_V X (sm_QV X R) 7 s 12 [(0, .ref (sm_ad (sm_w X) 43)), (2, .int a2), (3, .int a3), (4, .int l4), (5, .int l5)] []) (s0 : sm_St) (l4 : Int32) (l5 : Int32) (t0 : Int32) (t1 : Int32)  (h : xf_X2_drawWinds_p71 a1 a2 a3 k12 s0 l4 l5 t0 t1 = some R) : sm_V X (sm_QV X R) 7 s0 71 [(0, .ref (sm_ad (sm_w X) 43)), (2, .int a2), (3, .int a3), (4, .int l4), (5, .int l5)] [.int t0, .int t1, .ref (sm_ad (sm_w X) 46)] := by
  unfold xf_X2_drawWinds_p71 at h
  refine xa_iast C hw (k := 46) rfl rfl dX2_drawWinds_71 h (fun s1 h => ?_)
  refine sm_iinc (lv' := fun v2 => [(5, .int v2), (0, .ref (sm_ad (sm_w X) 43)), (2, .int a2), (3, .int a3), (4, .int l4)]) C 4 dX2_drawWinds_72 rfl (by decide) (fun _ => rfl) h (fun v2 h => ?_)
  refine sm_goto C 12 dX2_drawWinds_75 (by decide) ?_
  refine sm_sub (lv' := [(0, .ref (sm_ad (sm_w X) 43)), (2, .int a2), (3, .int a3), (4, .int l4), (5, .int v2)]) [1, 2, 3, 4, 0] rfl ?_
  exact hk12 s1 l4 v2 h
set_option maxRecDepth 4000 in
theorem xk_X2_drawWinds_p12 {X : sm_VC} (C : sm_Cx X prog_4_method_4_code 7 "SmokeGoesTo$Night" 2 100 none) (hw : xo_is (sm_w X)) {a1 : Int32} {a2 : Int32} {a3 : Int32}  {R : Unit × sm_St}   : ∀ (n : Nat) (s0 : sm_St) (l4 : Int32) (l5 : Int32) , xf_X2_drawWinds_p12 a1 a2 a3 n s0 l4 l5 = some R → sm_V X (sm_QV X R) 7 s0 12 [(0, .ref (sm_ad (sm_w X) 43)), (2, .int a2), (3, .int a3), (4, .int l4), (5, .int l5)] [] := by
  intro n
  induction n with
  | zero =>
    intro s0 l4 l5 h
    have h : (none : Option (Unit × sm_St)) = some R := h
    cases h
  | succ n ih =>
    intro s0 l4 l5 h
    unfold xf_X2_drawWinds_p12 at h
    refine sm_iload C 4 dX2_drawWinds_12 rfl ?_
    refine sm_aload_n C 0 dX2_drawWinds_14 rfl rfl ?_
    refine xr_Night_minutes C hw (k := 43) rfl gf_Night_45 dX2_drawWinds_15 h (fun v1 h => ?_)
    refine sm_icmp_ge C 78 dX2_drawWinds_18 (by decide) h (fun h => ?_) (fun h => ?_)
    · exact sm_vret C dX2_drawWinds_78 h
    · refine sm_iload C 3 dX2_drawWinds_21 rfl ?_
      refine sm_ldc C gk_Night_71 dX2_drawWinds_23 ?_
      refine sm_imul C dX2_drawWinds_25 h (fun v2 h => ?_)
      refine sm_sipush (v := 12345) C dX2_drawWinds_26 (by decide) ?_
      refine sm_iadd C dX2_drawWinds_29 h (fun v3 h => ?_)
      refine sm_istore (lv' := [(4, .int v3), (0, .ref (sm_ad (sm_w X) 43)), (2, .int a2), (3, .int a3), (5, .int l5)]) C dX2_drawWinds_30 (by decide) rfl ?_
      refine sm_iload C 0 dX2_drawWinds_32 rfl ?_
      refine sm_bipush (v := 9) C dX2_drawWinds_34 (by decide) ?_
      refine sm_iushr C dX2_drawWinds_36 h (fun v4 h => ?_)
      refine sm_bipush (v := 100) C dX2_drawWinds_37 (by decide) ?_
      refine sm_irem C dX2_drawWinds_39 h (fun v5 h => ?_)
      refine sm_istore (lv' := [(6, .int v5), (4, .int v3), (0, .ref (sm_ad (sm_w X) 43)), (2, .int a2), (3, .int a3), (5, .int l5)]) C dX2_drawWinds_40 (by decide) rfl ?_
      refine sm_aload_n C 2 dX2_drawWinds_42 rfl rfl ?_
      refine xr_Night_winds C hw (k := 43) rfl gf_Night_25 dX2_drawWinds_43 ?_
      refine sm_iload C 5 dX2_drawWinds_46 rfl ?_
      refine sm_iload C 0 dX2_drawWinds_48 rfl ?_
      refine sm_iload_n C 3 dX2_drawWinds_50 rfl rfl ?_
      refine sm_icmp_ge C 58 dX2_drawWinds_51 (by decide) h (fun h => ?_) (fun h => ?_)
      · refine sm_iload C 0 dX2_drawWinds_58 rfl ?_
        refine sm_iload_n C 3 dX2_drawWinds_60 rfl rfl ?_
        refine sm_iload_n C 4 dX2_drawWinds_61 rfl rfl ?_
        refine sm_iadd C dX2_drawWinds_62 h (fun v6 h => ?_)
        refine sm_icmp_ge C 70 dX2_drawWinds_63 (by decide) h (fun h => ?_) (fun h => ?_)
        · refine sm_iconst (v := 0) C dX2_drawWinds_70 (by decide) ?_
          refine sm_sub (lv' := [(0, .ref (sm_ad (sm_w X) 43)), (2, .int a2), (3, .int a3), (4, .int v3), (5, .int l5)]) [2, 3, 4, 1, 5] rfl ?_
          exact xk_X2_drawWinds_p71 C hw ih s0 v3 l5 (0 : Int32) l5 h
        · refine sm_iconst (v := 1) C dX2_drawWinds_66 (by decide) ?_
          refine sm_goto C 71 dX2_drawWinds_67 (by decide) ?_
          refine sm_sub (lv' := [(0, .ref (sm_ad (sm_w X) 43)), (2, .int a2), (3, .int a3), (4, .int v3), (5, .int l5)]) [2, 3, 4, 1, 5] rfl ?_
          exact xk_X2_drawWinds_p71 C hw ih s0 v3 l5 (1 : Int32) l5 h
      · refine sm_iconst (v := (-1)) C dX2_drawWinds_54 (by decide) ?_
        refine sm_goto C 71 dX2_drawWinds_55 (by decide) ?_
        refine sm_sub (lv' := [(0, .ref (sm_ad (sm_w X) 43)), (2, .int a2), (3, .int a3), (4, .int v3), (5, .int l5)]) [2, 3, 4, 1, 5] rfl ?_
        exact xk_X2_drawWinds_p71 C hw ih s0 v3 l5 (-1 : Int32) l5 h
set_option maxRecDepth 4000 in
theorem xc_X2_drawWinds {w : sm_WD} {l : Launch} (hw : xo_is w) (a1 : Int32) (a2 : Int32) (a3 : Int32) : sm_CV w l yX2_drawWinds prog_4_method_4_code 7 none 2 100 [.ref (sm_ad w 43), .int a1, .int a2, .int a3] (fun s => xf_X2_drawWinds a1 a2 a3 s) := by
  refine sm_CV.of (by decide +kernel) (Nat.le_of_ble_eq_true rfl) (fun X s0 R hXw hXl C h => ?_)
  subst hXw
  subst hXl
  have h : xf_X2_drawWinds a1 a2 a3 s0 = some R := h
  show sm_V X (sm_QV X R) 7 s0 0 [(0, .ref (sm_ad (sm_w X) 43)), (1, .int a1), (2, .int a2), (3, .int a3)] []
  unfold xf_X2_drawWinds at h
  refine sm_aload_n C 0 dX2_drawWinds_0 rfl rfl ?_
  refine sm_bipush (v := 10) C dX2_drawWinds_1 (by decide) ?_
  refine xp_Night_minutes C hw (k := 43) rfl gf_Night_45 dX2_drawWinds_3 h (fun s1 h => ?_)
  refine sm_iload_n C 1 dX2_drawWinds_6 rfl rfl ?_
  refine sm_istore (lv' := [(4, .int a1), (0, .ref (sm_ad (sm_w X) 43)), (1, .int a1), (2, .int a2), (3, .int a3)]) C dX2_drawWinds_7 (by decide) rfl ?_
  refine sm_iconst (v := 0) C dX2_drawWinds_9 (by decide) ?_
  refine sm_istore (lv' := [(5, .int (0 : Int32)), (4, .int a1), (0, .ref (sm_ad (sm_w X) 43)), (1, .int a1), (2, .int a2), (3, .int a3)]) C dX2_drawWinds_10 (by decide) rfl ?_
  refine sm_sub (lv' := [(0, .ref (sm_ad (sm_w X) 43)), (2, .int a2), (3, .int a3), (4, .int a1), (5, .int (0 : Int32))]) [2, 4, 5, 1, 0] rfl ?_
  exact xk_X2_drawWinds_p12 C hw sm_F s1 a1 (0 : Int32) h
