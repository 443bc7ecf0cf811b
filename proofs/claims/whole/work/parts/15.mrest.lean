/-! 15.mrest: pure words by program, and their contracts -/
noncomputable def mf_X8_stay_p94 (a1 : Int32) (k26 : sm_St → Int32 → Int32 → Option (Int32 × sm_St)) (s0 : sm_St) (l3 : Int32) (t0 : Int32) (t1 : Int32) : Option (Int32 × sm_St) :=
  sm_b (t0 <<< (l3 &&& 31)) fun v1 =>
  sm_b (t1 ||| v1) fun v2 =>
  sm_b (l3 + Int32.ofInt 1) fun v3 =>
  k26 s0 v2 v3
noncomputable def mf_X8_stay_p26 (a1 : Int32) : Nat → sm_St → Int32 → Int32 → Option (Int32 × sm_St)
  | 0, _, _, _ => none
  | n + 1, s0, l2, l3 =>
  sm_b (s0.1 0 15) fun v1 =>
  if v1 ≤ l3 then (
  some (l2, s0))
  else (
  sm_c (mf_X8_costOf a1 s0) fun v2 s3 =>
  sm_g (sm_in l3 5) <| sm_b (s3.1 8 l3.toNatClampNeg) fun v4 =>
  sm_g (sm_in l3 5) <| sm_b (s3.1 4 l3.toNatClampNeg) fun v5 =>
  sm_g (sm_in l3 5) <| sm_b (sm_sI s3 4 l3.toNatClampNeg (0 : Int32)) fun s6 =>
  sm_c (mf_X8_costOf a1 s6) fun v7 s8 =>
  sm_g (sm_in l3 5) <| sm_b (sm_sI s8 4 l3.toNatClampNeg v5) fun s9 =>
  sm_g (sm_in l3 5) <| sm_b (s9.1 8 l3.toNatClampNeg) fun v10 =>
  if v4 ≤ v10 then (
  mf_X8_stay_p94 a1 (mf_X8_stay_p26 a1 n) s9 l3 (0 : Int32) l2)
  else (
  mf_X8_stay_p94 a1 (mf_X8_stay_p26 a1 n) s9 l3 (1 : Int32) l2))
noncomputable def mf_X8_stay (a1 : Int32) (s0 : sm_St) : Option (Int32 × sm_St) :=
  sm_c (mf_X8_isSheet a1 s0) fun v1 s2 =>
  if v1 = 0 then (
  some ((-2 : Int32), s2))
  else (
  sm_g (sm_in a1 4) <| sm_b (s2.1 20 a1.toNatClampNeg) fun v3 =>
  if v3 = 0 then (
  some ((-11 : Int32), s2))
  else (
  mf_X8_stay_p26 a1 sm_F s2 (0 : Int32) (0 : Int32)))
set_option maxRecDepth 4000 in
theorem mk_X8_stay_p94 {X : sm_VC} (C : sm_Cx X prog_10_method_55_code 6 "SmokeGoesToModel" 78 1850 (some .int)) (hw : mo_is (sm_w X)) {a1 : Int32}  {R : Int32 × sm_St} {k26 : sm_St → Int32 → Int32 → Option (Int32 × sm_St)} (hk26 : ∀ (s : sm_St) (l2 : Int32) (l3 : Int32), k26 s l2 l3 = some R → sm_V X (sm_QI X R) 6 s 26 [(0, .ref (sm_ad (sm_w X) 0)), (1, .int a1), (2, .int l2), (3, .int l3)] []) (s0 : sm_St) (l3 : Int32) (t0 : Int32) (t1 : Int32)  (h : mf_X8_stay_p94 a1 k26 s0 l3 t0 t1 = some R) : sm_V X (sm_QI X R) 6 s0 94 [(0, .ref (sm_ad (sm_w X) 0)), (1, .int a1), (3, .int l3)] [.int t0, .int t1] := by
  unfold mf_X8_stay_p94 at h
  refine sm_iload_n C 2 dX8_stay_94 rfl rfl ?_
  refine sm_ishl C dX8_stay_95 h (fun v1 h => ?_)
  refine sm_ior C dX8_stay_96 h (fun v2 h => ?_)
  refine sm_istore_n (lv' := [(2, .int v2), (0, .ref (sm_ad (sm_w X) 0)), (1, .int a1), (3, .int l3)]) C dX8_stay_97 rfl (by decide) rfl ?_
  refine sm_iinc (lv' := fun v3 => [(3, .int v3), (2, .int v2), (0, .ref (sm_ad (sm_w X) 0)), (1, .int a1)]) C 3 dX8_stay_98 rfl (by decide) (fun _ => rfl) h (fun v3 h => ?_)
  refine sm_goto C 26 dX8_stay_101 (by decide) ?_
  refine sm_sub (lv' := [(0, .ref (sm_ad (sm_w X) 0)), (1, .int a1), (2, .int v2), (3, .int v3)]) [2, 3, 1, 0] rfl ?_
  exact hk26 s0 v2 v3 h
set_option maxRecDepth 4000 in
theorem mk_X8_stay_p26 {X : sm_VC} (C : sm_Cx X prog_10_method_55_code 6 "SmokeGoesToModel" 78 1850 (some .int)) (hw : mo_is (sm_w X)) {a1 : Int32}  {R : Int32 × sm_St}   : ∀ (n : Nat) (s0 : sm_St) (l2 : Int32) (l3 : Int32) , mf_X8_stay_p26 a1 n s0 l2 l3 = some R → sm_V X (sm_QI X R) 6 s0 26 [(0, .ref (sm_ad (sm_w X) 0)), (1, .int a1), (2, .int l2), (3, .int l3)] [] := by
  intro n
  induction n with
  | zero =>
    intro s0 l2 l3 h
    have h : (none : Option (Int32 × sm_St)) = some R := h
    cases h
  | succ n ih =>
    intro s0 l2 l3 h
    unfold mf_X8_stay_p26 at h
    refine sm_iload_n C 3 dX8_stay_26 rfl rfl ?_
    refine sm_aload_n C 0 dX8_stay_27 rfl rfl ?_
    refine mr_M_sitterMany C hw (k := 0) rfl gf_M_101 dX8_stay_28 h (fun v1 h => ?_)
    refine sm_icmp_ge C 104 dX8_stay_31 (by decide) h (fun h => ?_) (fun h => ?_)
    · refine sm_iload_n C 2 dX8_stay_104 rfl rfl ?_
      exact sm_iret C dX8_stay_105 h
    · refine sm_aload_n C 0 dX8_stay_34 rfl rfl ?_
      refine sm_iload_n C 1 dX8_stay_35 rfl rfl ?_
      refine sm_callVI (k := 0) C [.int a1] (mc_X8_costOf hw a1) gm_X8_costOf gl_M_348 gi_X8_costOf ge_X8_costOf (mob_M hw rfl) rfl ⟨Nat.le_of_ble_eq_true rfl, Nat.le_of_ble_eq_true rfl⟩ rfl (Nat.le_of_ble_eq_true rfl) dX8_stay_36 h (fun v2 s3 h => ?_)
      refine sm_pop C dX8_stay_39 rfl ?_
      refine sm_aload_n C 0 dX8_stay_40 rfl rfl ?_
      refine mr_M_costs C hw (k := 0) rfl gf_M_41 dX8_stay_41 ?_
      refine sm_iload_n C 3 dX8_stay_44 rfl rfl ?_
      refine ma_iald C hw (k := 8) rfl rfl dX8_stay_45 h (fun v4 h => ?_)
      refine sm_istore (lv' := [(4, .int v4), (0, .ref (sm_ad (sm_w X) 0)), (1, .int a1), (2, .int l2), (3, .int l3)]) C dX8_stay_46 (by decide) rfl ?_
      refine sm_aload_n C 1 dX8_stay_48 rfl rfl ?_
      refine mr_M_kinds C hw (k := 0) rfl gf_M_29 dX8_stay_49 ?_
      refine sm_iload_n C 4 dX8_stay_52 rfl rfl ?_
      refine ma_iald C hw (k := 4) rfl rfl dX8_stay_53 h (fun v5 h => ?_)
      refine sm_istore (lv' := [(5, .int v5), (4, .int v4), (0, .ref (sm_ad (sm_w X) 0)), (1, .int a1), (2, .int l2), (3, .int l3)]) C dX8_stay_54 (by decide) rfl ?_
      refine sm_aload_n C 2 dX8_stay_56 rfl rfl ?_
      refine mr_M_kinds C hw (k := 0) rfl gf_M_29 dX8_stay_57 ?_
      refine sm_iload_n C 5 dX8_stay_60 rfl rfl ?_
      refine sm_iconst (v := 0) C dX8_stay_61 (by decide) ?_
      refine ma_iast C hw (k := 4) rfl rfl dX8_stay_62 h (fun s6 h => ?_)
      refine sm_aload_n C 2 dX8_stay_63 rfl rfl ?_
      refine sm_iload_n C 3 dX8_stay_64 rfl rfl ?_
      refine sm_callVI (k := 0) C [.int a1] (mc_X8_costOf hw a1) gm_X8_costOf gl_M_348 gi_X8_costOf ge_X8_costOf (mob_M hw rfl) rfl ⟨Nat.le_of_ble_eq_true rfl, Nat.le_of_ble_eq_true rfl⟩ rfl (Nat.le_of_ble_eq_true rfl) dX8_stay_65 h (fun v7 s8 h => ?_)
      refine sm_pop C dX8_stay_68 rfl ?_
      refine sm_aload_n C 2 dX8_stay_69 rfl rfl ?_
      refine mr_M_kinds C hw (k := 0) rfl gf_M_29 dX8_stay_70 ?_
      refine sm_iload_n C 5 dX8_stay_73 rfl rfl ?_
      refine sm_iload C 0 dX8_stay_74 rfl ?_
      refine ma_iast C hw (k := 4) rfl rfl dX8_stay_76 h (fun s9 h => ?_)
      refine sm_iload_n C 4 dX8_stay_77 rfl rfl ?_
      refine sm_aload_n C 2 dX8_stay_78 rfl rfl ?_
      refine mr_M_costs C hw (k := 0) rfl gf_M_41 dX8_stay_79 ?_
      refine sm_iload_n C 5 dX8_stay_82 rfl rfl ?_
      refine ma_iald C hw (k := 8) rfl rfl dX8_stay_83 h (fun v10 h => ?_)
      refine sm_iload C 1 dX8_stay_84 rfl ?_
      refine sm_icmp_ge C 93 dX8_stay_86 (by decide) h (fun h => ?_) (fun h => ?_)
      · refine sm_iconst (v := 0) C dX8_stay_93 (by decide) ?_
        refine sm_sub (lv' := [(0, .ref (sm_ad (sm_w X) 0)), (1, .int a1), (3, .int l3)]) [2, 3, 5] rfl ?_
        exact mk_X8_stay_p94 C hw ih s9 l3 (0 : Int32) l2 h
      · refine sm_iconst (v := 1) C dX8_stay_89 (by decide) ?_
        refine sm_goto C 94 dX8_stay_90 (by decide) ?_
        refine sm_sub (lv' := [(0, .ref (sm_ad (sm_w X) 0)), (1, .int a1), (3, .int l3)]) [2, 3, 5] rfl ?_
        exact mk_X8_stay_p94 C hw ih s9 l3 (1 : Int32) l2 h
set_option maxRecDepth 4000 in
theorem mc_X8_stay {w : sm_WD} {l : Launch} (hw : mo_is w) (a1 : Int32) : sm_CI w l yX8_stay prog_10_method_55_code 6 (some .int) 78 1850 [.ref (sm_ad w 0), .int a1] (fun s => mf_X8_stay a1 s) := by
  refine sm_CI.of (by decide +kernel) (Nat.le_of_ble_eq_true rfl) (fun X s0 R hXw hXl C h => ?_)
  subst hXw
  subst hXl
  have h : mf_X8_stay a1 s0 = some R := h
  show sm_V X (sm_QI X R) 6 s0 0 [(0, .ref (sm_ad (sm_w X) 0)), (1, .int a1)] []
  unfold mf_X8_stay at h
  refine sm_iload_n C 1 dX8_stay_0 rfl rfl ?_
  refine sm_callSI C [.int a1] (mc_X8_isSheet hw a1) gm_X8_isSheet gl_M_315 gs_X8_isSheet rfl ⟨Nat.le_of_ble_eq_true rfl, Nat.le_of_ble_eq_true rfl⟩ rfl (Nat.le_of_ble_eq_true rfl) dX8_stay_1 h (fun v1 s2 h => ?_)
  refine sm_if_ne C 10 dX8_stay_4 (by decide) h (fun h => ?_) (fun h => ?_)
  · refine sm_aload_n C 0 dX8_stay_10 rfl rfl ?_
    refine mr_M_isThere C hw (k := 0) rfl gf_M_81 dX8_stay_11 ?_
    refine sm_iload_n C 1 dX8_stay_14 rfl rfl ?_
    refine ma_zald C hw (k := 20) rfl rfl dX8_stay_15 h (fun v3 h => ?_)
    refine sm_if_ne C 22 dX8_stay_16 (by decide) h (fun h => ?_) (fun h => ?_)
    · refine sm_iconst (v := 0) C dX8_stay_22 (by decide) ?_
      refine sm_istore_n (lv' := [(2, .int (0 : Int32)), (0, .ref (sm_ad (sm_w X) 0)), (1, .int a1)]) C dX8_stay_23 rfl (by decide) rfl ?_
      refine sm_iconst (v := 0) C dX8_stay_24 (by decide) ?_
      refine sm_istore_n (lv' := [(3, .int (0 : Int32)), (2, .int (0 : Int32)), (0, .ref (sm_ad (sm_w X) 0)), (1, .int a1)]) C dX8_stay_25 rfl (by decide) rfl ?_
      refine sm_sub (lv' := [(0, .ref (sm_ad (sm_w X) 0)), (1, .int a1), (2, .int (0 : Int32)), (3, .int (0 : Int32))]) [2, 3, 1, 0] rfl ?_
      exact mk_X8_stay_p26 C hw sm_F s2 (0 : Int32) (0 : Int32) h
    · refine sm_bipush (v := (-11)) C dX8_stay_19 (by decide) ?_
      exact sm_iret C dX8_stay_21 h
  · refine sm_bipush (v := (-2)) C dX8_stay_7 (by decide) ?_
    exact sm_iret C dX8_stay_9 h
noncomputable def mf_X8_eddies (a1 : Int32) (s0 : sm_St) : Option (Int32 × sm_St) :=
  sm_c (mf_X8_isSheet a1 s0) fun v1 s2 =>
  if v1 = 0 then (
  some ((-100000 : Int32), s2))
  else (
  sm_g (sm_in a1 4) <| sm_b (s2.1 20 a1.toNatClampNeg) fun v3 =>
  if v3 = 0 then (
  some ((-100000 : Int32), s2))
  else (
  sm_b (s2.1 0 11) fun v4 =>
  sm_b (sm_sI s2 0 11 (1 : Int32)) fun s5 =>
  sm_c (mf_X8_costOf a1 s5) fun v6 s7 =>
  sm_b (sm_sI s7 0 11 (0 : Int32)) fun s8 =>
  sm_c (mf_X8_costOf a1 s8) fun v9 s10 =>
  sm_b (sm_sI s10 0 11 v4) fun s11 =>
  sm_b (v6 - v9) fun v12 =>
  some (v12, s11)))
set_option maxRecDepth 4000 in
theorem mc_X8_eddies {w : sm_WD} {l : Launch} (hw : mo_is w) (a1 : Int32) : sm_CI w l yX8_eddies prog_10_method_56_code 5 (some .int) 78 1850 [.ref (sm_ad w 0), .int a1] (fun s => mf_X8_eddies a1 s) := by
  refine sm_CI.of (by decide +kernel) (Nat.le_of_ble_eq_true rfl) (fun X s0 R hXw hXl C h => ?_)
  subst hXw
  subst hXl
  have h : mf_X8_eddies a1 s0 = some R := h
  show sm_V X (sm_QI X R) 5 s0 0 [(0, .ref (sm_ad (sm_w X) 0)), (1, .int a1)] []
  unfold mf_X8_eddies at h
  refine sm_iload_n C 1 dX8_eddies_0 rfl rfl ?_
  refine sm_callSI C [.int a1] (mc_X8_isSheet hw a1) gm_X8_isSheet gl_M_315 gs_X8_isSheet rfl ⟨Nat.le_of_ble_eq_true rfl, Nat.le_of_ble_eq_true rfl⟩ rfl (Nat.le_of_ble_eq_true rfl) dX8_eddies_1 h (fun v1 s2 h => ?_)
  refine sm_if_eq C 16 dX8_eddies_4 (by decide) h (fun h => ?_) (fun h => ?_)
  · refine sm_ldcw C gk_M_351 dX8_eddies_16 ?_
    exact sm_iret C dX8_eddies_19 h
  · refine sm_aload_n C 0 dX8_eddies_7 rfl rfl ?_
    refine mr_M_isThere C hw (k := 0) rfl gf_M_81 dX8_eddies_8 ?_
    refine sm_iload_n C 1 dX8_eddies_11 rfl rfl ?_
    refine ma_zald C hw (k := 20) rfl rfl dX8_eddies_12 h (fun v3 h => ?_)
    refine sm_if_ne C 20 dX8_eddies_13 (by decide) h (fun h => ?_) (fun h => ?_)
    · refine sm_aload_n C 0 dX8_eddies_20 rfl rfl ?_
      refine mr_M_eddy C hw (k := 0) rfl gf_M_126 dX8_eddies_21 h (fun v4 h => ?_)
      refine sm_istore_n (lv' := [(2, .int v4), (0, .ref (sm_ad (sm_w X) 0)), (1, .int a1)]) C dX8_eddies_24 rfl (by decide) rfl ?_
      refine sm_aload_n C 1 dX8_eddies_25 rfl rfl ?_
      refine sm_iconst (v := 1) C dX8_eddies_26 (by decide) ?_
      refine mp_M_eddy C hw (k := 0) rfl gf_M_126 dX8_eddies_27 h (fun s5 h => ?_)
      refine sm_aload_n C 1 dX8_eddies_30 rfl rfl ?_
      refine sm_iload_n C 2 dX8_eddies_31 rfl rfl ?_
      refine sm_callVI (k := 0) C [.int a1] (mc_X8_costOf hw a1) gm_X8_costOf gl_M_348 gi_X8_costOf ge_X8_costOf (mob_M hw rfl) rfl ⟨Nat.le_of_ble_eq_true rfl, Nat.le_of_ble_eq_true rfl⟩ rfl (Nat.le_of_ble_eq_true rfl) dX8_eddies_32 h (fun v6 s7 h => ?_)
      refine sm_istore_n (lv' := [(3, .int v6), (2, .int v4), (0, .ref (sm_ad (sm_w X) 0)), (1, .int a1)]) C dX8_eddies_35 rfl (by decide) rfl ?_
      refine sm_aload_n C 2 dX8_eddies_36 rfl rfl ?_
      refine sm_iconst (v := 0) C dX8_eddies_37 (by decide) ?_
      refine mp_M_eddy C hw (k := 0) rfl gf_M_126 dX8_eddies_38 h (fun s8 h => ?_)
      refine sm_aload_n C 2 dX8_eddies_41 rfl rfl ?_
      refine sm_iload_n C 3 dX8_eddies_42 rfl rfl ?_
      refine sm_callVI (k := 0) C [.int a1] (mc_X8_costOf hw a1) gm_X8_costOf gl_M_348 gi_X8_costOf ge_X8_costOf (mob_M hw rfl) rfl ⟨Nat.le_of_ble_eq_true rfl, Nat.le_of_ble_eq_true rfl⟩ rfl (Nat.le_of_ble_eq_true rfl) dX8_eddies_43 h (fun v9 s10 h => ?_)
      refine sm_istore (lv' := [(4, .int v9), (3, .int v6), (2, .int v4), (0, .ref (sm_ad (sm_w X) 0)), (1, .int a1)]) C dX8_eddies_46 (by decide) rfl ?_
      refine sm_aload_n C 3 dX8_eddies_48 rfl rfl ?_
      refine sm_iload_n C 2 dX8_eddies_49 rfl rfl ?_
      refine mp_M_eddy C hw (k := 0) rfl gf_M_126 dX8_eddies_50 h (fun s11 h => ?_)
      refine sm_iload_n C 1 dX8_eddies_53 rfl rfl ?_
      refine sm_iload C 0 dX8_eddies_54 rfl ?_
      refine sm_isub C dX8_eddies_56 h (fun v12 h => ?_)
      exact sm_iret C dX8_eddies_57 h
    · refine sm_ldcw C gk_M_351 dX8_eddies_16 ?_
      exact sm_iret C dX8_eddies_19 h
noncomputable def mf_X8_best_p126 (a1 : Int32) (a2 : Int32) (a3 : Int32) (k57 : sm_St → Int32 → Int32 → Int32 → Int32 → Option (Int32 × sm_St)) (s0 : sm_St) (l4 : Int32) (l5 : Int32) (l6 : Int32) (l7 : Int32) : Option (Int32 × sm_St) :=
  sm_b (l7 + Int32.ofInt 1) fun v1 =>
  k57 s0 l4 l5 l6 v1
noncomputable def mf_X8_best_p114 (a1 : Int32) (a2 : Int32) (a3 : Int32) (k57 : sm_St → Int32 → Int32 → Int32 → Int32 → Option (Int32 × sm_St)) (s0 : sm_St) (l4 : Int32) (l7 : Int32) : Option (Int32 × sm_St) :=
  sm_g (sm_in a2 5) <| sm_b (s0.1 8 a2.toNatClampNeg) fun v1 =>
  mf_X8_best_p126 a1 a2 a3 k57 s0 l4 l7 v1 l7
noncomputable def mf_X8_best_p57 (a1 : Int32) (a2 : Int32) (a3 : Int32) : Nat → sm_St → Int32 → Int32 → Int32 → Int32 → Option (Int32 × sm_St)
  | 0, _, _, _, _, _ => none
  | n + 1, s0, l4, l5, l6, l7 =>
  if (8 : Int32) ≤ l7 then (
  if a3 = 0 then (
  some (l5, s0))
  else (
  some (l6, s0)))
  else (
  sm_c (mf_X8_onPlace l7 a2 s0) fun v1 s2 =>
  if v1 = (-1 : Int32) then (
  sm_g (sm_in a2 5) <| sm_b (sm_sI s2 6 a2.toNatClampNeg l7) fun s3 =>
  sm_c (mf_X8_costOf a1 s3) fun v4 s5 =>
  sm_g (sm_in a2 5) <| sm_b (sm_sI s5 6 a2.toNatClampNeg l4) fun s6 =>
  if l5 = (-1 : Int32) then (
  mf_X8_best_p114 a1 a2 a3 (mf_X8_best_p57 a1 a2 a3 n) s6 l4 l7)
  else (
  sm_g (sm_in a2 5) <| sm_b (s6.1 8 a2.toNatClampNeg) fun v7 =>
  if l6 ≤ v7 then (
  mf_X8_best_p126 a1 a2 a3 (mf_X8_best_p57 a1 a2 a3 n) s6 l4 l5 l6 l7)
  else (
  mf_X8_best_p114 a1 a2 a3 (mf_X8_best_p57 a1 a2 a3 n) s6 l4 l7)))
  else (
  mf_X8_best_p126 a1 a2 a3 (mf_X8_best_p57 a1 a2 a3 n) s2 l4 l5 l6 l7))
noncomputable def mf_X8_best (a1 : Int32) (a2 : Int32) (a3 : Int32) (s0 : sm_St) : Option (Int32 × sm_St) :=
  sm_c (mf_X8_isSheet a1 s0) fun v1 s2 =>
  if v1 = 0 then (
  some ((-2 : Int32), s2))
  else (
  sm_c (mf_X8_isSitter a2 s2) fun v3 s4 =>
  if v3 = 0 then (
  some ((-2 : Int32), s4))
  else (
  sm_b (a3.toInt64) fun v5 =>
  sm_c (mf_X8_in v5 (0 : Int64) (1 : Int64) s4) fun v6 s7 =>
  if v6 = 0 then (
  some ((-2 : Int32), s7))
  else (
  sm_g (sm_in a1 4) <| sm_b (s7.1 20 a1.toNatClampNeg) fun v8 =>
  if v8 = 0 then (
  some ((-11 : Int32), s7))
  else (
  sm_g (sm_in a2 5) <| sm_b (s7.1 6 a2.toNatClampNeg) fun v9 =>
  mf_X8_best_p57 a1 a2 a3 sm_F s7 v9 (-1 : Int32) (0 : Int32) (0 : Int32)))))
set_option maxRecDepth 4000 in
theorem mk_X8_best_p126 {X : sm_VC} (C : sm_Cx X prog_10_method_57_code 8 "SmokeGoesToModel" 78 1850 (some .int)) (hw : mo_is (sm_w X)) {a1 : Int32} {a2 : Int32} {a3 : Int32}  {R : Int32 × sm_St} {k57 : sm_St → Int32 → Int32 → Int32 → Int32 → Option (Int32 × sm_St)} (hk57 : ∀ (s : sm_St) (l4 : Int32) (l5 : Int32) (l6 : Int32) (l7 : Int32), k57 s l4 l5 l6 l7 = some R → sm_V X (sm_QI X R) 8 s 57 [(0, .ref (sm_ad (sm_w X) 0)), (1, .int a1), (2, .int a2), (3, .int a3), (4, .int l4), (5, .int l5), (6, .int l6), (7, .int l7)] []) (s0 : sm_St) (l4 : Int32) (l5 : Int32) (l6 : Int32) (l7 : Int32)  (h : mf_X8_best_p126 a1 a2 a3 k57 s0 l4 l5 l6 l7 = some R) : sm_V X (sm_QI X R) 8 s0 126 [(0, .ref (sm_ad (sm_w X) 0)), (1, .int a1), (2, .int a2), (3, .int a3), (4, .int l4), (5, .int l5), (6, .int l6), (7, .int l7)] [] := by
  unfold mf_X8_best_p126 at h
  refine sm_iinc (lv' := fun v1 => [(7, .int v1), (0, .ref (sm_ad (sm_w X) 0)), (1, .int a1), (2, .int a2), (3, .int a3), (4, .int l4), (5, .int l5), (6, .int l6)]) C 7 dX8_best_126 rfl (by decide) (fun _ => rfl) h (fun v1 h => ?_)
  refine sm_goto C 57 dX8_best_129 (by decide) ?_
  refine sm_sub (lv' := [(0, .ref (sm_ad (sm_w X) 0)), (1, .int a1), (2, .int a2), (3, .int a3), (4, .int l4), (5, .int l5), (6, .int l6), (7, .int v1)]) [1, 2, 3, 4, 5, 6, 7, 0] rfl ?_
  exact hk57 s0 l4 l5 l6 v1 h
set_option maxRecDepth 4000 in
theorem mk_X8_best_p114 {X : sm_VC} (C : sm_Cx X prog_10_method_57_code 8 "SmokeGoesToModel" 78 1850 (some .int)) (hw : mo_is (sm_w X)) {a1 : Int32} {a2 : Int32} {a3 : Int32}  {R : Int32 × sm_St} {k57 : sm_St → Int32 → Int32 → Int32 → Int32 → Option (Int32 × sm_St)} (hk57 : ∀ (s : sm_St) (l4 : Int32) (l5 : Int32) (l6 : Int32) (l7 : Int32), k57 s l4 l5 l6 l7 = some R → sm_V X (sm_QI X R) 8 s 57 [(0, .ref (sm_ad (sm_w X) 0)), (1, .int a1), (2, .int a2), (3, .int a3), (4, .int l4), (5, .int l5), (6, .int l6), (7, .int l7)] []) (s0 : sm_St) (l4 : Int32) (l7 : Int32)  (h : mf_X8_best_p114 a1 a2 a3 k57 s0 l4 l7 = some R) : sm_V X (sm_QI X R) 8 s0 114 [(0, .ref (sm_ad (sm_w X) 0)), (1, .int a1), (2, .int a2), (3, .int a3), (4, .int l4), (7, .int l7)] [] := by
  unfold mf_X8_best_p114 at h
  refine sm_iload C 5 dX8_best_114 rfl ?_
  refine sm_istore (lv' := [(5, .int l7), (0, .ref (sm_ad (sm_w X) 0)), (1, .int a1), (2, .int a2), (3, .int a3), (4, .int l4), (7, .int l7)]) C dX8_best_116 (by decide) rfl ?_
  refine sm_aload_n C 1 dX8_best_118 rfl rfl ?_
  refine mr_M_costs C hw (k := 0) rfl gf_M_41 dX8_best_119 ?_
  refine sm_iload_n C 3 dX8_best_122 rfl rfl ?_
  refine ma_iald C hw (k := 8) rfl rfl dX8_best_123 h (fun v1 h => ?_)
  refine sm_istore (lv' := [(6, .int v1), (5, .int l7), (0, .ref (sm_ad (sm_w X) 0)), (1, .int a1), (2, .int a2), (3, .int a3), (4, .int l4), (7, .int l7)]) C dX8_best_124 (by decide) rfl ?_
  refine sm_sub (lv' := [(0, .ref (sm_ad (sm_w X) 0)), (1, .int a1), (2, .int a2), (3, .int a3), (4, .int l4), (5, .int l7), (6, .int v1), (7, .int l7)]) [2, 3, 4, 5, 6, 1, 0, 7] rfl ?_
  exact mk_X8_best_p126 C hw hk57 s0 l4 l7 v1 l7 h
set_option maxRecDepth 4000 in
theorem mk_X8_best_p57 {X : sm_VC} (C : sm_Cx X prog_10_method_57_code 8 "SmokeGoesToModel" 78 1850 (some .int)) (hw : mo_is (sm_w X)) {a1 : Int32} {a2 : Int32} {a3 : Int32}  {R : Int32 × sm_St}   : ∀ (n : Nat) (s0 : sm_St) (l4 : Int32) (l5 : Int32) (l6 : Int32) (l7 : Int32) , mf_X8_best_p57 a1 a2 a3 n s0 l4 l5 l6 l7 = some R → sm_V X (sm_QI X R) 8 s0 57 [(0, .ref (sm_ad (sm_w X) 0)), (1, .int a1), (2, .int a2), (3, .int a3), (4, .int l4), (5, .int l5), (6, .int l6), (7, .int l7)] [] := by
  intro n
  induction n with
  | zero =>
    intro s0 l4 l5 l6 l7 h
    have h : (none : Option (Int32 × sm_St)) = some R := h
    cases h
  | succ n ih =>
    intro s0 l4 l5 l6 l7 h
    unfold mf_X8_best_p57 at h
    refine sm_iload C 7 dX8_best_57 rfl ?_
    refine sm_bipush (v := 8) C dX8_best_59 (by decide) ?_
    refine sm_icmp_ge C 132 dX8_best_61 (by decide) h (fun h => ?_) (fun h => ?_)
    · refine sm_iload_n C 3 dX8_best_132 rfl rfl ?_
      refine sm_if_ne C 141 dX8_best_133 (by decide) h (fun h => ?_) (fun h => ?_)
      · refine sm_iload C 6 dX8_best_141 rfl ?_
        exact sm_iret C dX8_best_143 h
      · refine sm_iload C 5 dX8_best_136 rfl ?_
        refine sm_goto C 143 dX8_best_138 (by decide) ?_
        exact sm_iret C dX8_best_143 h
    · refine sm_aload_n C 0 dX8_best_64 rfl rfl ?_
      refine sm_iload C 7 dX8_best_65 rfl ?_
      refine sm_iload_n C 2 dX8_best_67 rfl rfl ?_
      refine sm_callVI (k := 0) C [.int l7, .int a2] (mc_X8_onPlace hw l7 a2) gm_X8_onPlace gl_M_116 gi_X8_onPlace ge_X8_onPlace (mob_M hw rfl) rfl ⟨Nat.le_of_ble_eq_true rfl, Nat.le_of_ble_eq_true rfl⟩ rfl (Nat.le_of_ble_eq_true rfl) dX8_best_68 h (fun v1 s2 h => ?_)
      refine sm_iconst (v := (-1)) C dX8_best_71 (by decide) ?_
      refine sm_icmp_ne C 126 dX8_best_72 (by decide) h (fun h => ?_) (fun h => ?_)
      · exact mk_X8_best_p126 C hw ih s2 l4 l5 l6 l7 h
      · refine sm_aload_n C 0 dX8_best_75 rfl rfl ?_
        refine mr_M_places C hw (k := 0) rfl gf_M_35 dX8_best_76 ?_
        refine sm_iload_n C 2 dX8_best_79 rfl rfl ?_
        refine sm_iload C 7 dX8_best_80 rfl ?_
        refine ma_iast C hw (k := 6) rfl rfl dX8_best_82 h (fun s3 h => ?_)
        refine sm_aload_n C 0 dX8_best_83 rfl rfl ?_
        refine sm_iload_n C 1 dX8_best_84 rfl rfl ?_
        refine sm_callVI (k := 0) C [.int a1] (mc_X8_costOf hw a1) gm_X8_costOf gl_M_348 gi_X8_costOf ge_X8_costOf (mob_M hw rfl) rfl ⟨Nat.le_of_ble_eq_true rfl, Nat.le_of_ble_eq_true rfl⟩ rfl (Nat.le_of_ble_eq_true rfl) dX8_best_85 h (fun v4 s5 h => ?_)
        refine sm_pop C dX8_best_88 rfl ?_
        refine sm_aload_n C 0 dX8_best_89 rfl rfl ?_
        refine mr_M_places C hw (k := 0) rfl gf_M_35 dX8_best_90 ?_
        refine sm_iload_n C 2 dX8_best_93 rfl rfl ?_
        refine sm_iload C 4 dX8_best_94 rfl ?_
        refine ma_iast C hw (k := 6) rfl rfl dX8_best_96 h (fun s6 h => ?_)
        refine sm_iload C 5 dX8_best_97 rfl ?_
        refine sm_iconst (v := (-1)) C dX8_best_99 (by decide) ?_
        refine sm_icmp_eq C 114 dX8_best_100 (by decide) h (fun h => ?_) (fun h => ?_)
        · refine sm_sub (lv' := [(0, .ref (sm_ad (sm_w X) 0)), (1, .int a1), (2, .int a2), (3, .int a3), (4, .int l4), (7, .int l7)]) [0, 1, 2, 3, 4, 7] rfl ?_
          exact mk_X8_best_p114 C hw ih s6 l4 l7 h
        · refine sm_aload_n C 0 dX8_best_103 rfl rfl ?_
          refine mr_M_costs C hw (k := 0) rfl gf_M_41 dX8_best_104 ?_
          refine sm_iload_n C 2 dX8_best_107 rfl rfl ?_
          refine ma_iald C hw (k := 8) rfl rfl dX8_best_108 h (fun v7 h => ?_)
          refine sm_iload C 6 dX8_best_109 rfl ?_
          refine sm_icmp_ge C 126 dX8_best_111 (by decide) h (fun h => ?_) (fun h => ?_)
          · exact mk_X8_best_p126 C hw ih s6 l4 l5 l6 l7 h
          · refine sm_sub (lv' := [(0, .ref (sm_ad (sm_w X) 0)), (1, .int a1), (2, .int a2), (3, .int a3), (4, .int l4), (7, .int l7)]) [0, 1, 2, 3, 4, 7] rfl ?_
            exact mk_X8_best_p114 C hw ih s6 l4 l7 h
set_option maxRecDepth 4000 in
theorem mc_X8_best {w : sm_WD} {l : Launch} (hw : mo_is w) (a1 : Int32) (a2 : Int32) (a3 : Int32) : sm_CI w l yX8_best prog_10_method_57_code 8 (some .int) 78 1850 [.ref (sm_ad w 0), .int a1, .int a2, .int a3] (fun s => mf_X8_best a1 a2 a3 s) := by
  refine sm_CI.of (by decide +kernel) (Nat.le_of_ble_eq_true rfl) (fun X s0 R hXw hXl C h => ?_)
  subst hXw
  subst hXl
  have h : mf_X8_best a1 a2 a3 s0 = some R := h
  show sm_V X (sm_QI X R) 8 s0 0 [(0, .ref (sm_ad (sm_w X) 0)), (1, .int a1), (2, .int a2), (3, .int a3)] []
  unfold mf_X8_best at h
  refine sm_iload_n C 1 dX8_best_0 rfl rfl ?_
  refine sm_callSI C [.int a1] (mc_X8_isSheet hw a1) gm_X8_isSheet gl_M_315 gs_X8_isSheet rfl ⟨Nat.le_of_ble_eq_true rfl, Nat.le_of_ble_eq_true rfl⟩ rfl (Nat.le_of_ble_eq_true rfl) dX8_best_1 h (fun v1 s2 h => ?_)
  refine sm_if_eq C 25 dX8_best_4 (by decide) h (fun h => ?_) (fun h => ?_)
  · refine sm_bipush (v := (-2)) C dX8_best_25 (by decide) ?_
    exact sm_iret C dX8_best_27 h
  · refine sm_aload_n C 0 dX8_best_7 rfl rfl ?_
    refine sm_iload_n C 2 dX8_best_8 rfl rfl ?_
    refine sm_callVI (k := 0) C [.int a2] (mc_X8_isSitter hw a2) gm_X8_isSitter gl_M_112 gi_X8_isSitter ge_X8_isSitter (mob_M hw rfl) rfl ⟨Nat.le_of_ble_eq_true rfl, Nat.le_of_ble_eq_true rfl⟩ rfl (Nat.le_of_ble_eq_true rfl) dX8_best_9 h (fun v3 s4 h => ?_)
    refine sm_if_eq C 25 dX8_best_12 (by decide) h (fun h => ?_) (fun h => ?_)
    · refine sm_bipush (v := (-2)) C dX8_best_25 (by decide) ?_
      exact sm_iret C dX8_best_27 h
    · refine sm_iload_n C 3 dX8_best_15 rfl rfl ?_
      refine sm_i2l C dX8_best_16 h (fun v5 h => ?_)
      refine sm_lconst (v := 0) C dX8_best_17 (by decide) ?_
      refine sm_lconst (v := 1) C dX8_best_18 (by decide) ?_
      refine sm_callSI C [.long v5, .long (0 : Int64), .long (1 : Int64)] (mc_X8_in hw v5 (0 : Int64) (1 : Int64)) gm_X8_in gl_M_104 gs_X8_in rfl ⟨Nat.le_of_ble_eq_true rfl, Nat.le_of_ble_eq_true rfl⟩ rfl (Nat.le_of_ble_eq_true rfl) dX8_best_19 h (fun v6 s7 h => ?_)
      refine sm_if_ne C 28 dX8_best_22 (by decide) h (fun h => ?_) (fun h => ?_)
      · refine sm_aload_n C 0 dX8_best_28 rfl rfl ?_
        refine mr_M_isThere C hw (k := 0) rfl gf_M_81 dX8_best_29 ?_
        refine sm_iload_n C 1 dX8_best_32 rfl rfl ?_
        refine ma_zald C hw (k := 20) rfl rfl dX8_best_33 h (fun v8 h => ?_)
        refine sm_if_ne C 40 dX8_best_34 (by decide) h (fun h => ?_) (fun h => ?_)
        · refine sm_aload_n C 0 dX8_best_40 rfl rfl ?_
          refine mr_M_places C hw (k := 0) rfl gf_M_35 dX8_best_41 ?_
          refine sm_iload_n C 2 dX8_best_44 rfl rfl ?_
          refine ma_iald C hw (k := 6) rfl rfl dX8_best_45 h (fun v9 h => ?_)
          refine sm_istore (lv' := [(4, .int v9), (0, .ref (sm_ad (sm_w X) 0)), (1, .int a1), (2, .int a2), (3, .int a3)]) C dX8_best_46 (by decide) rfl ?_
          refine sm_iconst (v := (-1)) C dX8_best_48 (by decide) ?_
          refine sm_istore (lv' := [(5, .int (-1 : Int32)), (4, .int v9), (0, .ref (sm_ad (sm_w X) 0)), (1, .int a1), (2, .int a2), (3, .int a3)]) C dX8_best_49 (by decide) rfl ?_
          refine sm_iconst (v := 0) C dX8_best_51 (by decide) ?_
          refine sm_istore (lv' := [(6, .int (0 : Int32)), (5, .int (-1 : Int32)), (4, .int v9), (0, .ref (sm_ad (sm_w X) 0)), (1, .int a1), (2, .int a2), (3, .int a3)]) C dX8_best_52 (by decide) rfl ?_
          refine sm_iconst (v := 0) C dX8_best_54 (by decide) ?_
          refine sm_istore (lv' := [(7, .int (0 : Int32)), (6, .int (0 : Int32)), (5, .int (-1 : Int32)), (4, .int v9), (0, .ref (sm_ad (sm_w X) 0)), (1, .int a1), (2, .int a2), (3, .int a3)]) C dX8_best_55 (by decide) rfl ?_
          refine sm_sub (lv' := [(0, .ref (sm_ad (sm_w X) 0)), (1, .int a1), (2, .int a2), (3, .int a3), (4, .int v9), (5, .int (-1 : Int32)), (6, .int (0 : Int32)), (7, .int (0 : Int32))]) [4, 5, 6, 7, 3, 2, 1, 0] rfl ?_
          exact mk_X8_best_p57 C hw sm_F s7 v9 (-1 : Int32) (0 : Int32) (0 : Int32) h
        · refine sm_bipush (v := (-11)) C dX8_best_37 (by decide) ?_
          exact sm_iret C dX8_best_39 h
      · refine sm_bipush (v := (-2)) C dX8_best_25 (by decide) ?_
        exact sm_iret C dX8_best_27 h
noncomputable def mf_X8_rowsOf_p157 (a1 : Int32) (a2 : Int32) (k34 : sm_St → Int32 → Int32 → Option (Unit × sm_St)) (k116 : sm_St → Int32 → Int32 → Int32 → Int32 → Int32 → Option (Unit × sm_St)) (s0 : sm_St) (l3 : Int32) (l4 : Int32) (l5 : Int32) (l8 : Int32) (t0 : Int32) : Option (Unit × sm_St) :=
  sm_b (l8 + Int32.ofInt 1) fun v1 =>
  k116 s0 l3 l4 l5 t0 v1
noncomputable def mf_X8_rowsOf_p156 (a1 : Int32) (a2 : Int32) (k34 : sm_St → Int32 → Int32 → Option (Unit × sm_St)) (k116 : sm_St → Int32 → Int32 → Int32 → Int32 → Int32 → Option (Unit × sm_St)) (s0 : sm_St) (l3 : Int32) (l4 : Int32) (l5 : Int32) (l8 : Int32) : Option (Unit × sm_St) :=
  mf_X8_rowsOf_p157 a1 a2 k34 k116 s0 l3 l4 l5 l8 (0 : Int32)
noncomputable def mf_X8_rowsOf_p201 (a1 : Int32) (a2 : Int32) (k34 : sm_St → Int32 → Int32 → Option (Unit × sm_St)) (s0 : sm_St) (l3 : Int32) (l4 : Int32) : Option (Unit × sm_St) :=
  sm_b (l4 + Int32.ofInt 1) fun v1 =>
  k34 s0 l3 v1
noncomputable def mf_X8_rowsOf_p198 (a1 : Int32) (a2 : Int32) (k34 : sm_St → Int32 → Int32 → Option (Unit × sm_St)) (s0 : sm_St) (l3 : Int32) (l4 : Int32) (t0 : Int32) : Option (Unit × sm_St) :=
  sm_b (sm_sI s0 0 49 t0) fun s1 =>
  mf_X8_rowsOf_p201 a1 a2 k34 s1 l3 l4
noncomputable def mf_X8_rowsOf_p116 (a1 : Int32) (a2 : Int32) (k34 : sm_St → Int32 → Int32 → Option (Unit × sm_St)) : Nat → sm_St → Int32 → Int32 → Int32 → Int32 → Int32 → Option (Unit × sm_St)
  | 0, _, _, _, _, _, _ => none
  | n + 1, s0, l3, l4, l5, l7, l8 =>
  sm_b (s0.1 0 15) fun v1 =>
  if v1 ≤ l8 then (
  if l7 = 0 then (
  mf_X8_rowsOf_p201 a1 a2 k34 s0 l3 l4)
  else (
  sm_b (s0.1 0 48) fun v2 =>
  sm_b (v2 + (1 : Int32)) fun v3 =>
  sm_b (sm_sI s0 0 48 v3) fun s4 =>
  sm_b (s4.1 0 48) fun v5 =>
  if v5 = (1 : Int32) then (
  mf_X8_rowsOf_p198 a1 a2 k34 s4 l3 l4 l5)
  else (
  sm_b (s4.1 0 49) fun v6 =>
  mf_X8_rowsOf_p198 a1 a2 k34 s4 l3 l4 v6)))
  else (
  if l7 = 0 then (
  mf_X8_rowsOf_p156 a1 a2 k34 (mf_X8_rowsOf_p116 a1 a2 k34 n) s0 l3 l4 l5 l8)
  else (
  sm_g (sm_in l8 5) <| sm_b (s0.1 9 l8.toNatClampNeg) fun v7 =>
  sm_b ((40 : Int32) * a1) fun v8 =>
  sm_b (v8 + l8) fun v9 =>
  sm_g (sm_in v9 160) <| sm_b (s0.1 23 v9.toNatClampNeg) fun v10 =>
  if v7 = v10 then (
  mf_X8_rowsOf_p157 a1 a2 k34 (mf_X8_rowsOf_p116 a1 a2 k34 n) s0 l3 l4 l5 l8 (1 : Int32))
  else (
  mf_X8_rowsOf_p156 a1 a2 k34 (mf_X8_rowsOf_p116 a1 a2 k34 n) s0 l3 l4 l5 l8)))
noncomputable def mf_X8_rowsOf_p57 (a1 : Int32) (a2 : Int32) (k34 : sm_St → Int32 → Int32 → Option (Unit × sm_St)) : Nat → sm_St → Int32 → Int32 → Int32 → Int32 → Int32 → Option (Unit × sm_St)
  | 0, _, _, _, _, _, _ => none
  | n + 1, s0, l3, l4, l5, l6, l7 =>
  if a2 ≤ l7 then (
  sm_c (mf_X8_takeBack s0) fun _ s2 =>
  mf_X8_rowsOf_p116 a1 a2 k34 sm_F s2 l3 l4 l5 (1 : Int32) (0 : Int32))
  else (
  sm_g (!decide ((3 : Int32) = 0)) <| sm_b (l6 / (3 : Int32)) fun v3 =>
  sm_g (!decide (v3 = 0)) <| sm_b (l4 / v3) fun v4 =>
  sm_g (!decide ((3 : Int32) = 0)) <| sm_b (v4 - v4 / (3 : Int32) * (3 : Int32)) fun v5 =>
  sm_b ((10 : Int32) * l5) fun v6 =>
  sm_b (v6 + v5) fun v7 =>
  sm_b (v7 + (1 : Int32)) fun v8 =>
  sm_b (v5 - (1 : Int32)) fun v9 =>
  sm_c (mf_X8_passes l7 v9 s0) fun _ s11 =>
  sm_b (l7 + Int32.ofInt 1) fun v12 =>
  (mf_X8_rowsOf_p57 a1 a2 k34 n) s11 l3 l4 v8 v3 v12)
noncomputable def mf_X8_rowsOf_p34 (a1 : Int32) (a2 : Int32) : Nat → sm_St → Int32 → Int32 → Option (Unit × sm_St)
  | 0, _, _, _ => none
  | n + 1, s0, l3, l4 =>
  if l3 ≤ l4 then (
  some ((), s0))
  else (
  sm_c (mf_X8_layAside s0) fun _ s2 =>
  sm_c (mf_X8_begins s2) fun _ s4 =>
  mf_X8_rowsOf_p57 a1 a2 (mf_X8_rowsOf_p34 a1 a2 n) sm_F s4 l3 l4 (0 : Int32) l3 (0 : Int32))
noncomputable def mf_X8_rowsOf_p5 (a1 : Int32) (a2 : Int32) : Nat → sm_St → Int32 → Int32 → Option (Unit × sm_St)
  | 0, _, _, _ => none
  | n + 1, s0, l3, l4 =>
  if a2 ≤ l4 then (
  sm_b (sm_sI s0 0 48 (0 : Int32)) fun s1 =>
  sm_b (sm_sI s1 0 49 (-1 : Int32)) fun s2 =>
  mf_X8_rowsOf_p34 a1 a2 sm_F s2 l3 (0 : Int32))
  else (
  sm_b (l3 * (3 : Int32)) fun v3 =>
  sm_b (l4 + Int32.ofInt 1) fun v4 =>
  (mf_X8_rowsOf_p5 a1 a2 n) s0 v3 v4)
noncomputable def mf_X8_rowsOf (a1 : Int32) (a2 : Int32) (s0 : sm_St) : Option (Unit × sm_St) :=
  mf_X8_rowsOf_p5 a1 a2 sm_F s0 (1 : Int32) (0 : Int32)
set_option maxRecDepth 4000 in
theorem mk_X8_rowsOf_p157 {X : sm_VC} (C : sm_Cx X prog_10_method_58_code 9 "SmokeGoesToModel" 76 1807 none) (hw : mo_is (sm_w X)) {a1 : Int32} {a2 : Int32}  {R : Unit × sm_St} {k34 : sm_St → Int32 → Int32 → Option (Unit × sm_St)} {k116 : sm_St → Int32 → Int32 → Int32 → Int32 → Int32 → Option (Unit × sm_St)} (hk34 : ∀ (s : sm_St) (l3 : Int32) (l4 : Int32), k34 s l3 l4 = some R → sm_V X (sm_QV X R) 9 s 34 [(0, .ref (sm_ad (sm_w X) 0)), (1, .int a1), (2, .int a2), (3, .int l3), (4, .int l4)] []) (hk116 : ∀ (s : sm_St) (l3 : Int32) (l4 : Int32) (l5 : Int32) (l7 : Int32) (l8 : Int32), k116 s l3 l4 l5 l7 l8 = some R → sm_V X (sm_QV X R) 9 s 116 [(0, .ref (sm_ad (sm_w X) 0)), (1, .int a1), (2, .int a2), (3, .int l3), (4, .int l4), (5, .int l5), (7, .int l7), (8, .int l8)] []) (s0 : sm_St) (l3 : Int32) (l4 : Int32) (l5 : Int32) (l8 : Int32) (t0 : Int32)  (h : mf_X8_rowsOf_p157 a1 a2 k34 k116 s0 l3 l4 l5 l8 t0 = some R) : sm_V X (sm_QV X R) 9 s0 157 [(0, .ref (sm_ad (sm_w X) 0)), (1, .int a1), (2, .int a2), (3, .int l3), (4, .int l4), (5, .int l5), (8, .int l8)] [.int t0] := by
  unfold mf_X8_rowsOf_p157 at h
  refine sm_istore (lv' := [(7, .int t0), (0, .ref (sm_ad (sm_w X) 0)), (1, .int a1), (2, .int a2), (3, .int l3), (4, .int l4), (5, .int l5), (8, .int l8)]) C dX8_rowsOf_157 (by decide) rfl ?_
  refine sm_iinc (lv' := fun v1 => [(8, .int v1), (7, .int t0), (0, .ref (sm_ad (sm_w X) 0)), (1, .int a1), (2, .int a2), (3, .int l3), (4, .int l4), (5, .int l5)]) C 7 dX8_rowsOf_159 rfl (by decide) (fun _ => rfl) h (fun v1 h => ?_)
  refine sm_goto C 116 dX8_rowsOf_162 (by decide) ?_
  refine sm_sub (lv' := [(0, .ref (sm_ad (sm_w X) 0)), (1, .int a1), (2, .int a2), (3, .int l3), (4, .int l4), (5, .int l5), (7, .int t0), (8, .int v1)]) [2, 3, 4, 5, 6, 7, 1, 0] rfl ?_
  exact hk116 s0 l3 l4 l5 t0 v1 h
set_option maxRecDepth 4000 in
theorem mk_X8_rowsOf_p156 {X : sm_VC} (C : sm_Cx X prog_10_method_58_code 9 "SmokeGoesToModel" 76 1807 none) (hw : mo_is (sm_w X)) {a1 : Int32} {a2 : Int32}  {R : Unit × sm_St} {k34 : sm_St → Int32 → Int32 → Option (Unit × sm_St)} {k116 : sm_St → Int32 → Int32 → Int32 → Int32 → Int32 → Option (Unit × sm_St)} (hk34 : ∀ (s : sm_St) (l3 : Int32) (l4 : Int32), k34 s l3 l4 = some R → sm_V X (sm_QV X R) 9 s 34 [(0, .ref (sm_ad (sm_w X) 0)), (1, .int a1), (2, .int a2), (3, .int l3), (4, .int l4)] []) (hk116 : ∀ (s : sm_St) (l3 : Int32) (l4 : Int32) (l5 : Int32) (l7 : Int32) (l8 : Int32), k116 s l3 l4 l5 l7 l8 = some R → sm_V X (sm_QV X R) 9 s 116 [(0, .ref (sm_ad (sm_w X) 0)), (1, .int a1), (2, .int a2), (3, .int l3), (4, .int l4), (5, .int l5), (7, .int l7), (8, .int l8)] []) (s0 : sm_St) (l3 : Int32) (l4 : Int32) (l5 : Int32) (l8 : Int32)  (h : mf_X8_rowsOf_p156 a1 a2 k34 k116 s0 l3 l4 l5 l8 = some R) : sm_V X (sm_QV X R) 9 s0 156 [(0, .ref (sm_ad (sm_w X) 0)), (1, .int a1), (2, .int a2), (3, .int l3), (4, .int l4), (5, .int l5), (8, .int l8)] [] := by
  unfold mf_X8_rowsOf_p156 at h
  refine sm_iconst (v := 0) C dX8_rowsOf_156 (by decide) ?_
  exact mk_X8_rowsOf_p157 C hw hk34 hk116 s0 l3 l4 l5 l8 (0 : Int32) h
set_option maxRecDepth 4000 in
theorem mk_X8_rowsOf_p201 {X : sm_VC} (C : sm_Cx X prog_10_method_58_code 9 "SmokeGoesToModel" 76 1807 none) (hw : mo_is (sm_w X)) {a1 : Int32} {a2 : Int32}  {R : Unit × sm_St} {k34 : sm_St → Int32 → Int32 → Option (Unit × sm_St)} (hk34 : ∀ (s : sm_St) (l3 : Int32) (l4 : Int32), k34 s l3 l4 = some R → sm_V X (sm_QV X R) 9 s 34 [(0, .ref (sm_ad (sm_w X) 0)), (1, .int a1), (2, .int a2), (3, .int l3), (4, .int l4)] []) (s0 : sm_St) (l3 : Int32) (l4 : Int32)  (h : mf_X8_rowsOf_p201 a1 a2 k34 s0 l3 l4 = some R) : sm_V X (sm_QV X R) 9 s0 201 [(0, .ref (sm_ad (sm_w X) 0)), (1, .int a1), (2, .int a2), (3, .int l3), (4, .int l4)] [] := by
  unfold mf_X8_rowsOf_p201 at h
  refine sm_iinc (lv' := fun v1 => [(4, .int v1), (0, .ref (sm_ad (sm_w X) 0)), (1, .int a1), (2, .int a2), (3, .int l3)]) C 4 dX8_rowsOf_201 rfl (by decide) (fun _ => rfl) h (fun v1 h => ?_)
  refine sm_goto C 34 dX8_rowsOf_204 (by decide) ?_
  refine sm_sub (lv' := [(0, .ref (sm_ad (sm_w X) 0)), (1, .int a1), (2, .int a2), (3, .int l3), (4, .int v1)]) [1, 2, 3, 4, 0] rfl ?_
  exact hk34 s0 l3 v1 h
set_option maxRecDepth 4000 in
theorem mk_X8_rowsOf_p198 {X : sm_VC} (C : sm_Cx X prog_10_method_58_code 9 "SmokeGoesToModel" 76 1807 none) (hw : mo_is (sm_w X)) {a1 : Int32} {a2 : Int32}  {R : Unit × sm_St} {k34 : sm_St → Int32 → Int32 → Option (Unit × sm_St)} (hk34 : ∀ (s : sm_St) (l3 : Int32) (l4 : Int32), k34 s l3 l4 = some R → sm_V X (sm_QV X R) 9 s 34 [(0, .ref (sm_ad (sm_w X) 0)), (1, .int a1), (2, .int a2), (3, .int l3), (4, .int l4)] []) (s0 : sm_St) (l3 : Int32) (l4 : Int32) (t0 : Int32)  (h : mf_X8_rowsOf_p198 a1 a2 k34 s0 l3 l4 t0 = some R) : sm_V X (sm_QV X R) 9 s0 198 [(0, .ref (sm_ad (sm_w X) 0)), (1, .int a1), (2, .int a2), (3, .int l3), (4, .int l4)] [.int t0, .ref (sm_ad (sm_w X) 0)] := by
  unfold mf_X8_rowsOf_p198 at h
  refine mp_M_rowsFirst C hw (k := 0) rfl gf_M_355 dX8_rowsOf_198 h (fun s1 h => ?_)
  exact mk_X8_rowsOf_p201 C hw hk34 s1 l3 l4 h
set_option maxRecDepth 4000 in
theorem mk_X8_rowsOf_p116 {X : sm_VC} (C : sm_Cx X prog_10_method_58_code 9 "SmokeGoesToModel" 76 1807 none) (hw : mo_is (sm_w X)) {a1 : Int32} {a2 : Int32}  {R : Unit × sm_St} {k34 : sm_St → Int32 → Int32 → Option (Unit × sm_St)} (hk34 : ∀ (s : sm_St) (l3 : Int32) (l4 : Int32), k34 s l3 l4 = some R → sm_V X (sm_QV X R) 9 s 34 [(0, .ref (sm_ad (sm_w X) 0)), (1, .int a1), (2, .int a2), (3, .int l3), (4, .int l4)] []) : ∀ (n : Nat) (s0 : sm_St) (l3 : Int32) (l4 : Int32) (l5 : Int32) (l7 : Int32) (l8 : Int32) , mf_X8_rowsOf_p116 a1 a2 k34 n s0 l3 l4 l5 l7 l8 = some R → sm_V X (sm_QV X R) 9 s0 116 [(0, .ref (sm_ad (sm_w X) 0)), (1, .int a1), (2, .int a2), (3, .int l3), (4, .int l4), (5, .int l5), (7, .int l7), (8, .int l8)] [] := by
  intro n
  induction n with
  | zero =>
    intro s0 l3 l4 l5 l7 l8 h
    have h : (none : Option (Unit × sm_St)) = some R := h
    cases h
  | succ n ih =>
    intro s0 l3 l4 l5 l7 l8 h
    unfold mf_X8_rowsOf_p116 at h
    refine sm_iload C 7 dX8_rowsOf_116 rfl ?_
    refine sm_aload_n C 0 dX8_rowsOf_118 rfl rfl ?_
    refine mr_M_sitterMany C hw (k := 0) rfl gf_M_101 dX8_rowsOf_119 h (fun v1 h => ?_)
    refine sm_icmp_ge C 165 dX8_rowsOf_122 (by decide) h (fun h => ?_) (fun h => ?_)
    · refine sm_iload C 6 dX8_rowsOf_165 rfl ?_
      refine sm_if_eq C 201 dX8_rowsOf_167 (by decide) h (fun h => ?_) (fun h => ?_)
      · refine sm_sub (lv' := [(0, .ref (sm_ad (sm_w X) 0)), (1, .int a1), (2, .int a2), (3, .int l3), (4, .int l4)]) [0, 1, 2, 3, 4] rfl ?_
        exact mk_X8_rowsOf_p201 C hw hk34 s0 l3 l4 h
      · refine sm_aload_n C 0 dX8_rowsOf_170 rfl rfl ?_
        refine sm_dup C dX8_rowsOf_171 rfl ?_
        refine mr_M_rowsMany C hw (k := 0) rfl gf_M_352 dX8_rowsOf_172 h (fun v2 h => ?_)
        refine sm_iconst (v := 1) C dX8_rowsOf_175 (by decide) ?_
        refine sm_iadd C dX8_rowsOf_176 h (fun v3 h => ?_)
        refine mp_M_rowsMany C hw (k := 0) rfl gf_M_352 dX8_rowsOf_177 h (fun s4 h => ?_)
        refine sm_aload_n C 0 dX8_rowsOf_180 rfl rfl ?_
        refine sm_aload_n C 0 dX8_rowsOf_181 rfl rfl ?_
        refine mr_M_rowsMany C hw (k := 0) rfl gf_M_352 dX8_rowsOf_182 h (fun v5 h => ?_)
        refine sm_iconst (v := 1) C dX8_rowsOf_185 (by decide) ?_
        refine sm_icmp_ne C 194 dX8_rowsOf_186 (by decide) h (fun h => ?_) (fun h => ?_)
        · refine sm_aload_n C 0 dX8_rowsOf_194 rfl rfl ?_
          refine mr_M_rowsFirst C hw (k := 0) rfl gf_M_355 dX8_rowsOf_195 h (fun v6 h => ?_)
          refine sm_sub (lv' := [(0, .ref (sm_ad (sm_w X) 0)), (1, .int a1), (2, .int a2), (3, .int l3), (4, .int l4)]) [0, 1, 2, 3, 4] rfl ?_
          exact mk_X8_rowsOf_p198 C hw hk34 s4 l3 l4 v6 h
        · refine sm_iload C 5 dX8_rowsOf_189 rfl ?_
          refine sm_goto C 198 dX8_rowsOf_191 (by decide) ?_
          refine sm_sub (lv' := [(0, .ref (sm_ad (sm_w X) 0)), (1, .int a1), (2, .int a2), (3, .int l3), (4, .int l4)]) [0, 1, 2, 3, 4] rfl ?_
          exact mk_X8_rowsOf_p198 C hw hk34 s4 l3 l4 l5 h
    · refine sm_iload C 6 dX8_rowsOf_125 rfl ?_
      refine sm_if_eq C 156 dX8_rowsOf_127 (by decide) h (fun h => ?_) (fun h => ?_)
      · refine sm_sub (lv' := [(0, .ref (sm_ad (sm_w X) 0)), (1, .int a1), (2, .int a2), (3, .int l3), (4, .int l4), (5, .int l5), (8, .int l8)]) [0, 1, 2, 3, 4, 5, 7] rfl ?_
        exact mk_X8_rowsOf_p156 C hw hk34 ih s0 l3 l4 l5 l8 h
      · refine sm_aload_n C 0 dX8_rowsOf_130 rfl rfl ?_
        refine mr_M_smoked C hw (k := 0) rfl gf_M_44 dX8_rowsOf_131 ?_
        refine sm_iload C 7 dX8_rowsOf_134 rfl ?_
        refine ma_iald C hw (k := 9) rfl rfl dX8_rowsOf_136 h (fun v7 h => ?_)
        refine sm_aload_n C 0 dX8_rowsOf_137 rfl rfl ?_
        refine mr_M_items C hw (k := 0) rfl gf_M_91 dX8_rowsOf_138 ?_
        refine sm_bipush (v := 40) C dX8_rowsOf_141 (by decide) ?_
        refine sm_iload_n C 1 dX8_rowsOf_143 rfl rfl ?_
        refine sm_imul C dX8_rowsOf_144 h (fun v8 h => ?_)
        refine sm_iload C 7 dX8_rowsOf_145 rfl ?_
        refine sm_iadd C dX8_rowsOf_147 h (fun v9 h => ?_)
        refine ma_iald C hw (k := 23) rfl rfl dX8_rowsOf_148 h (fun v10 h => ?_)
        refine sm_icmp_ne C 156 dX8_rowsOf_149 (by decide) h (fun h => ?_) (fun h => ?_)
        · refine sm_sub (lv' := [(0, .ref (sm_ad (sm_w X) 0)), (1, .int a1), (2, .int a2), (3, .int l3), (4, .int l4), (5, .int l5), (8, .int l8)]) [0, 1, 2, 3, 4, 5, 7] rfl ?_
          exact mk_X8_rowsOf_p156 C hw hk34 ih s0 l3 l4 l5 l8 h
        · refine sm_iconst (v := 1) C dX8_rowsOf_152 (by decide) ?_
          refine sm_goto C 157 dX8_rowsOf_153 (by decide) ?_
          refine sm_sub (lv' := [(0, .ref (sm_ad (sm_w X) 0)), (1, .int a1), (2, .int a2), (3, .int l3), (4, .int l4), (5, .int l5), (8, .int l8)]) [0, 1, 2, 3, 4, 5, 7] rfl ?_
          exact mk_X8_rowsOf_p157 C hw hk34 ih s0 l3 l4 l5 l8 (1 : Int32) h
set_option maxRecDepth 4000 in
theorem mk_X8_rowsOf_p57 {X : sm_VC} (C : sm_Cx X prog_10_method_58_code 9 "SmokeGoesToModel" 76 1807 none) (hw : mo_is (sm_w X)) {a1 : Int32} {a2 : Int32}  {R : Unit × sm_St} {k34 : sm_St → Int32 → Int32 → Option (Unit × sm_St)} (hk34 : ∀ (s : sm_St) (l3 : Int32) (l4 : Int32), k34 s l3 l4 = some R → sm_V X (sm_QV X R) 9 s 34 [(0, .ref (sm_ad (sm_w X) 0)), (1, .int a1), (2, .int a2), (3, .int l3), (4, .int l4)] []) : ∀ (n : Nat) (s0 : sm_St) (l3 : Int32) (l4 : Int32) (l5 : Int32) (l6 : Int32) (l7 : Int32) , mf_X8_rowsOf_p57 a1 a2 k34 n s0 l3 l4 l5 l6 l7 = some R → sm_V X (sm_QV X R) 9 s0 57 [(0, .ref (sm_ad (sm_w X) 0)), (1, .int a1), (2, .int a2), (3, .int l3), (4, .int l4), (5, .int l5), (6, .int l6), (7, .int l7)] [] := by
  intro n
  induction n with
  | zero =>
    intro s0 l3 l4 l5 l6 l7 h
    have h : (none : Option (Unit × sm_St)) = some R := h
    cases h
  | succ n ih =>
    intro s0 l3 l4 l5 l6 l7 h
    unfold mf_X8_rowsOf_p57 at h
    refine sm_iload C 7 dX8_rowsOf_57 rfl ?_
    refine sm_iload_n C 2 dX8_rowsOf_59 rfl rfl ?_
    refine sm_icmp_ge C 106 dX8_rowsOf_60 (by decide) h (fun h => ?_) (fun h => ?_)
    · refine sm_aload_n C 0 dX8_rowsOf_106 rfl rfl ?_
      refine sm_callVV (k := 0) C [] (mc_X8_takeBack hw) gm_X8_takeBack gl_M_308 gi_X8_takeBack ge_X8_takeBack (mob_M hw rfl) rfl ⟨Nat.le_of_ble_eq_true rfl, Nat.le_of_ble_eq_true rfl⟩ rfl (Nat.le_of_ble_eq_true rfl) dX8_rowsOf_107 h (fun v1 s2 h => ?_)
      refine sm_iconst (v := 1) C dX8_rowsOf_110 (by decide) ?_
      refine sm_istore (lv' := [(7, .int (1 : Int32)), (0, .ref (sm_ad (sm_w X) 0)), (1, .int a1), (2, .int a2), (3, .int l3), (4, .int l4), (5, .int l5), (6, .int l6)]) C dX8_rowsOf_111 (by decide) rfl ?_
      refine sm_iconst (v := 0) C dX8_rowsOf_113 (by decide) ?_
      refine sm_istore (lv' := [(8, .int (0 : Int32)), (7, .int (1 : Int32)), (0, .ref (sm_ad (sm_w X) 0)), (1, .int a1), (2, .int a2), (3, .int l3), (4, .int l4), (5, .int l5), (6, .int l6)]) C dX8_rowsOf_114 (by decide) rfl ?_
      refine sm_sub (lv' := [(0, .ref (sm_ad (sm_w X) 0)), (1, .int a1), (2, .int a2), (3, .int l3), (4, .int l4), (5, .int l5), (7, .int (1 : Int32)), (8, .int (0 : Int32))]) [2, 3, 4, 5, 6, 7, 1, 0] rfl ?_
      exact mk_X8_rowsOf_p116 C hw hk34 sm_F s2 l3 l4 l5 (1 : Int32) (0 : Int32) h
    · refine sm_iload C 6 dX8_rowsOf_63 rfl ?_
      refine sm_iconst (v := 3) C dX8_rowsOf_65 (by decide) ?_
      refine sm_idiv C dX8_rowsOf_66 h (fun v3 h => ?_)
      refine sm_istore (lv' := [(6, .int v3), (0, .ref (sm_ad (sm_w X) 0)), (1, .int a1), (2, .int a2), (3, .int l3), (4, .int l4), (5, .int l5), (7, .int l7)]) C dX8_rowsOf_67 (by decide) rfl ?_
      refine sm_iload C 5 dX8_rowsOf_69 rfl ?_
      refine sm_iload C 0 dX8_rowsOf_71 rfl ?_
      refine sm_idiv C dX8_rowsOf_73 h (fun v4 h => ?_)
      refine sm_iconst (v := 3) C dX8_rowsOf_74 (by decide) ?_
      refine sm_irem C dX8_rowsOf_75 h (fun v5 h => ?_)
      refine sm_istore (lv' := [(8, .int v5), (6, .int v3), (0, .ref (sm_ad (sm_w X) 0)), (1, .int a1), (2, .int a2), (3, .int l3), (4, .int l4), (5, .int l5), (7, .int l7)]) C dX8_rowsOf_76 (by decide) rfl ?_
      refine sm_bipush (v := 10) C dX8_rowsOf_78 (by decide) ?_
      refine sm_iload C 7 dX8_rowsOf_80 rfl ?_
      refine sm_imul C dX8_rowsOf_82 h (fun v6 h => ?_)
      refine sm_iload C 0 dX8_rowsOf_83 rfl ?_
      refine sm_iadd C dX8_rowsOf_85 h (fun v7 h => ?_)
      refine sm_iconst (v := 1) C dX8_rowsOf_86 (by decide) ?_
      refine sm_iadd C dX8_rowsOf_87 h (fun v8 h => ?_)
      refine sm_istore (lv' := [(5, .int v8), (8, .int v5), (6, .int v3), (0, .ref (sm_ad (sm_w X) 0)), (1, .int a1), (2, .int a2), (3, .int l3), (4, .int l4), (7, .int l7)]) C dX8_rowsOf_88 (by decide) rfl ?_
      refine sm_aload_n C 3 dX8_rowsOf_90 rfl rfl ?_
      refine sm_iload C 8 dX8_rowsOf_91 rfl ?_
      refine sm_iload C 1 dX8_rowsOf_93 rfl ?_
      refine sm_iconst (v := 1) C dX8_rowsOf_95 (by decide) ?_
      refine sm_isub C dX8_rowsOf_96 h (fun v9 h => ?_)
      refine sm_callVV (k := 0) C [.int l7, .int v9] (mc_X8_passes hw l7 v9) gm_X8_passes gl_M_298 gi_X8_passes ge_X8_passes (mob_M hw rfl) rfl ⟨Nat.le_of_ble_eq_true rfl, Nat.le_of_ble_eq_true rfl⟩ rfl (Nat.le_of_ble_eq_true rfl) dX8_rowsOf_97 h (fun v10 s11 h => ?_)
      refine sm_iinc (lv' := fun v12 => [(7, .int v12), (5, .int v8), (8, .int v5), (6, .int v3), (0, .ref (sm_ad (sm_w X) 0)), (1, .int a1), (2, .int a2), (3, .int l3), (4, .int l4)]) C 8 dX8_rowsOf_100 rfl (by decide) (fun _ => rfl) h (fun v12 h => ?_)
      refine sm_goto C 57 dX8_rowsOf_103 (by decide) ?_
      refine sm_sub (lv' := [(0, .ref (sm_ad (sm_w X) 0)), (1, .int a1), (2, .int a2), (3, .int l3), (4, .int l4), (5, .int v8), (6, .int v3), (7, .int v12)]) [4, 5, 6, 7, 8, 1, 3, 0] rfl ?_
      exact ih s11 l3 l4 v8 v3 v12 h
set_option maxRecDepth 4000 in
theorem mk_X8_rowsOf_p34 {X : sm_VC} (C : sm_Cx X prog_10_method_58_code 9 "SmokeGoesToModel" 76 1807 none) (hw : mo_is (sm_w X)) {a1 : Int32} {a2 : Int32}  {R : Unit × sm_St}   : ∀ (n : Nat) (s0 : sm_St) (l3 : Int32) (l4 : Int32) , mf_X8_rowsOf_p34 a1 a2 n s0 l3 l4 = some R → sm_V X (sm_QV X R) 9 s0 34 [(0, .ref (sm_ad (sm_w X) 0)), (1, .int a1), (2, .int a2), (3, .int l3), (4, .int l4)] [] := by
  intro n
  induction n with
  | zero =>
    intro s0 l3 l4 h
    have h : (none : Option (Unit × sm_St)) = some R := h
    cases h
  | succ n ih =>
    intro s0 l3 l4 h
    unfold mf_X8_rowsOf_p34 at h
    refine sm_iload C 4 dX8_rowsOf_34 rfl ?_
    refine sm_iload_n C 3 dX8_rowsOf_36 rfl rfl ?_
    refine sm_icmp_ge C 207 dX8_rowsOf_37 (by decide) h (fun h => ?_) (fun h => ?_)
    · exact sm_vret C dX8_rowsOf_207 h
    · refine sm_aload_n C 0 dX8_rowsOf_40 rfl rfl ?_
      refine sm_callVV (k := 0) C [] (mc_X8_layAside hw) gm_X8_layAside gl_M_302 gi_X8_layAside ge_X8_layAside (mob_M hw rfl) rfl ⟨Nat.le_of_ble_eq_true rfl, Nat.le_of_ble_eq_true rfl⟩ rfl (Nat.le_of_ble_eq_true rfl) dX8_rowsOf_41 h (fun v1 s2 h => ?_)
      refine sm_aload_n C 0 dX8_rowsOf_44 rfl rfl ?_
      refine sm_callVV (k := 0) C [] (mc_X8_begins hw) gm_X8_begins gl_M_292 gi_X8_begins ge_X8_begins (mob_M hw rfl) rfl ⟨Nat.le_of_ble_eq_true rfl, Nat.le_of_ble_eq_true rfl⟩ rfl (Nat.le_of_ble_eq_true rfl) dX8_rowsOf_45 h (fun v3 s4 h => ?_)
      refine sm_iconst (v := 0) C dX8_rowsOf_48 (by decide) ?_
      refine sm_istore (lv' := [(5, .int (0 : Int32)), (0, .ref (sm_ad (sm_w X) 0)), (1, .int a1), (2, .int a2), (3, .int l3), (4, .int l4)]) C dX8_rowsOf_49 (by decide) rfl ?_
      refine sm_iload_n C 4 dX8_rowsOf_51 rfl rfl ?_
      refine sm_istore (lv' := [(6, .int l3), (5, .int (0 : Int32)), (0, .ref (sm_ad (sm_w X) 0)), (1, .int a1), (2, .int a2), (3, .int l3), (4, .int l4)]) C dX8_rowsOf_52 (by decide) rfl ?_
      refine sm_iconst (v := 0) C dX8_rowsOf_54 (by decide) ?_
      refine sm_istore (lv' := [(7, .int (0 : Int32)), (6, .int l3), (5, .int (0 : Int32)), (0, .ref (sm_ad (sm_w X) 0)), (1, .int a1), (2, .int a2), (3, .int l3), (4, .int l4)]) C dX8_rowsOf_55 (by decide) rfl ?_
      refine sm_sub (lv' := [(0, .ref (sm_ad (sm_w X) 0)), (1, .int a1), (2, .int a2), (3, .int l3), (4, .int l4), (5, .int (0 : Int32)), (6, .int l3), (7, .int (0 : Int32))]) [3, 4, 5, 6, 7, 2, 1, 0] rfl ?_
      exact mk_X8_rowsOf_p57 C hw ih sm_F s4 l3 l4 (0 : Int32) l3 (0 : Int32) h
set_option maxRecDepth 4000 in
theorem mk_X8_rowsOf_p5 {X : sm_VC} (C : sm_Cx X prog_10_method_58_code 9 "SmokeGoesToModel" 76 1807 none) (hw : mo_is (sm_w X)) {a1 : Int32} {a2 : Int32}  {R : Unit × sm_St}   : ∀ (n : Nat) (s0 : sm_St) (l3 : Int32) (l4 : Int32) , mf_X8_rowsOf_p5 a1 a2 n s0 l3 l4 = some R → sm_V X (sm_QV X R) 9 s0 5 [(0, .ref (sm_ad (sm_w X) 0)), (1, .int a1), (2, .int a2), (3, .int l3), (4, .int l4)] [] := by
  intro n
  induction n with
  | zero =>
    intro s0 l3 l4 h
    have h : (none : Option (Unit × sm_St)) = some R := h
    cases h
  | succ n ih =>
    intro s0 l3 l4 h
    unfold mf_X8_rowsOf_p5 at h
    refine sm_iload C 4 dX8_rowsOf_5 rfl ?_
    refine sm_iload_n C 2 dX8_rowsOf_7 rfl rfl ?_
    refine sm_icmp_ge C 21 dX8_rowsOf_8 (by decide) h (fun h => ?_) (fun h => ?_)
    · refine sm_aload_n C 0 dX8_rowsOf_21 rfl rfl ?_
      refine sm_iconst (v := 0) C dX8_rowsOf_22 (by decide) ?_
      refine mp_M_rowsMany C hw (k := 0) rfl gf_M_352 dX8_rowsOf_23 h (fun s1 h => ?_)
      refine sm_aload_n C 0 dX8_rowsOf_26 rfl rfl ?_
      refine sm_iconst (v := (-1)) C dX8_rowsOf_27 (by decide) ?_
      refine mp_M_rowsFirst C hw (k := 0) rfl gf_M_355 dX8_rowsOf_28 h (fun s2 h => ?_)
      refine sm_iconst (v := 0) C dX8_rowsOf_31 (by decide) ?_
      refine sm_istore (lv' := [(4, .int (0 : Int32)), (0, .ref (sm_ad (sm_w X) 0)), (1, .int a1), (2, .int a2), (3, .int l3)]) C dX8_rowsOf_32 (by decide) rfl ?_
      refine sm_sub (lv' := [(0, .ref (sm_ad (sm_w X) 0)), (1, .int a1), (2, .int a2), (3, .int l3), (4, .int (0 : Int32))]) [1, 2, 3, 4, 0] rfl ?_
      exact mk_X8_rowsOf_p34 C hw sm_F s2 l3 (0 : Int32) h
    · refine sm_iload_n C 3 dX8_rowsOf_11 rfl rfl ?_
      refine sm_iconst (v := 3) C dX8_rowsOf_12 (by decide) ?_
      refine sm_imul C dX8_rowsOf_13 h (fun v3 h => ?_)
      refine sm_istore_n (lv' := [(3, .int v3), (0, .ref (sm_ad (sm_w X) 0)), (1, .int a1), (2, .int a2), (4, .int l4)]) C dX8_rowsOf_14 rfl (by decide) rfl ?_
      refine sm_iinc (lv' := fun v4 => [(4, .int v4), (3, .int v3), (0, .ref (sm_ad (sm_w X) 0)), (1, .int a1), (2, .int a2)]) C 4 dX8_rowsOf_15 rfl (by decide) (fun _ => rfl) h (fun v4 h => ?_)
      refine sm_goto C 5 dX8_rowsOf_18 (by decide) ?_
      refine sm_sub (lv' := [(0, .ref (sm_ad (sm_w X) 0)), (1, .int a1), (2, .int a2), (3, .int v3), (4, .int v4)]) [2, 3, 4, 1, 0] rfl ?_
      exact ih s0 v3 v4 h
set_option maxRecDepth 4000 in
theorem mc_X8_rowsOf {w : sm_WD} {l : Launch} (hw : mo_is w) (a1 : Int32) (a2 : Int32) : sm_CV w l yX8_rowsOf prog_10_method_58_code 9 none 76 1807 [.ref (sm_ad w 0), .int a1, .int a2] (fun s => mf_X8_rowsOf a1 a2 s) := by
  refine sm_CV.of (by decide +kernel) (Nat.le_of_ble_eq_true rfl) (fun X s0 R hXw hXl C h => ?_)
  subst hXw
  subst hXl
  have h : mf_X8_rowsOf a1 a2 s0 = some R := h
  show sm_V X (sm_QV X R) 9 s0 0 [(0, .ref (sm_ad (sm_w X) 0)), (1, .int a1), (2, .int a2)] []
  unfold mf_X8_rowsOf at h
  refine sm_iconst (v := 1) C dX8_rowsOf_0 (by decide) ?_
  refine sm_istore_n (lv' := [(3, .int (1 : Int32)), (0, .ref (sm_ad (sm_w X) 0)), (1, .int a1), (2, .int a2)]) C dX8_rowsOf_1 rfl (by decide) rfl ?_
  refine sm_iconst (v := 0) C dX8_rowsOf_2 (by decide) ?_
  refine sm_istore (lv' := [(4, .int (0 : Int32)), (3, .int (1 : Int32)), (0, .ref (sm_ad (sm_w X) 0)), (1, .int a1), (2, .int a2)]) C dX8_rowsOf_3 (by decide) rfl ?_
  refine sm_sub (lv' := [(0, .ref (sm_ad (sm_w X) 0)), (1, .int a1), (2, .int a2), (3, .int (1 : Int32)), (4, .int (0 : Int32))]) [2, 3, 4, 1, 0] rfl ?_
  exact mk_X8_rowsOf_p5 C hw sm_F s0 (1 : Int32) (0 : Int32) h
noncomputable def mf_X8_eyes_p141 (a1 : Int32) (a2 : Int32) (a3 : Int32) (k107 : sm_St → Int32 → Int32 → Int32 → Option (Int32 × sm_St)) (s0 : sm_St) (l4 : Int32) (l6 : Int32) (t0 : Int32) (t1 : Int32) : Option (Int32 × sm_St) :=
  sm_b (t0 <<< (l6 &&& 31)) fun v1 =>
  sm_b (t1 ||| v1) fun v2 =>
  sm_b (l6 + Int32.ofInt 1) fun v3 =>
  k107 s0 l4 v2 v3
noncomputable def mf_X8_eyes_p107 (a1 : Int32) (a2 : Int32) (a3 : Int32) : Nat → sm_St → Int32 → Int32 → Int32 → Option (Int32 × sm_St)
  | 0, _, _, _, _ => none
  | n + 1, s0, l4, l5, l6 =>
  if (5 : Int32) < l6 then (
  sm_g (sm_in a3 5) <| sm_b (sm_sI s0 4 a3.toNatClampNeg l4) fun s1 =>
  some (l5, s1))
  else (
  sm_g (sm_in a3 5) <| sm_b (sm_sI s0 4 a3.toNatClampNeg l6) fun s2 =>
  sm_c (mf_X8_rowsOf a1 a2 s2) fun _ s4 =>
  sm_b (s4.1 0 48) fun v5 =>
  if v5 ≤ 0 then (
  mf_X8_eyes_p141 a1 a2 a3 (mf_X8_eyes_p107 a1 a2 a3 n) s4 l4 l6 (0 : Int32) l5)
  else (
  mf_X8_eyes_p141 a1 a2 a3 (mf_X8_eyes_p107 a1 a2 a3 n) s4 l4 l6 (1 : Int32) l5))
noncomputable def mf_X8_eyes_p41 (a1 : Int32) (a2 : Int32) (a3 : Int32) (s0 : sm_St) : Option (Int32 × sm_St) :=
  sm_g (sm_in a1 4) <| sm_b (s0.1 20 a1.toNatClampNeg) fun v1 =>
  if v1 = 0 then (
  some ((-100 : Int32), s0))
  else (
  sm_g (sm_in a1 4) <| sm_b (s0.1 22 a1.toNatClampNeg) fun v2 =>
  sm_b (s0.1 0 15) fun v3 =>
  if v2 = v3 then (
  if 0 ≤ a3 then (
  sm_g (sm_in a3 5) <| sm_b (s0.1 4 a3.toNatClampNeg) fun v4 =>
  mf_X8_eyes_p107 a1 a2 a3 sm_F s0 v4 (0 : Int32) (0 : Int32))
  else (
  sm_c (mf_X8_rowsOf a1 a2 s0) fun _ s6 =>
  if a3 = (-1 : Int32) then (
  sm_b (s6.1 0 48) fun v8 =>
  some (v8, s6))
  else (
  sm_b (s6.1 0 49) fun v7 =>
  some (v7, s6))))
  else (
  some ((-100 : Int32), s0)))
noncomputable def mf_X8_eyes (a1 : Int32) (a2 : Int32) (a3 : Int32) (s0 : sm_St) : Option (Int32 × sm_St) :=
  sm_c (mf_X8_isSheet a1 s0) fun v1 s2 =>
  if v1 = 0 then (
  some ((-100 : Int32), s2))
  else (
  sm_b (a2.toInt64) fun v3 =>
  sm_c (mf_X8_in v3 (0 : Int64) (5 : Int64) s2) fun v4 s5 =>
  if v4 = 0 then (
  some ((-100 : Int32), s5))
  else (
  sm_b (a3.toInt64) fun v6 =>
  sm_c (mf_X8_in v6 (-2 : Int64) (-1 : Int64) s5) fun v7 s8 =>
  if v7 = 0 then (
  sm_c (mf_X8_isSitter a3 s8) fun v9 s10 =>
  if v9 = 0 then (
  some ((-100 : Int32), s10))
  else (
  mf_X8_eyes_p41 a1 a2 a3 s10))
  else (
  mf_X8_eyes_p41 a1 a2 a3 s8)))
set_option maxRecDepth 4000 in
theorem mk_X8_eyes_p141 {X : sm_VC} (C : sm_Cx X prog_10_method_59_code 7 "SmokeGoesToModel" 77 1835 (some .int)) (hw : mo_is (sm_w X)) {a1 : Int32} {a2 : Int32} {a3 : Int32}  {R : Int32 × sm_St} {k107 : sm_St → Int32 → Int32 → Int32 → Option (Int32 × sm_St)} (hk107 : ∀ (s : sm_St) (l4 : Int32) (l5 : Int32) (l6 : Int32), k107 s l4 l5 l6 = some R → sm_V X (sm_QI X R) 7 s 107 [(0, .ref (sm_ad (sm_w X) 0)), (1, .int a1), (2, .int a2), (3, .int a3), (4, .int l4), (5, .int l5), (6, .int l6)] []) (s0 : sm_St) (l4 : Int32) (l6 : Int32) (t0 : Int32) (t1 : Int32)  (h : mf_X8_eyes_p141 a1 a2 a3 k107 s0 l4 l6 t0 t1 = some R) : sm_V X (sm_QI X R) 7 s0 141 [(0, .ref (sm_ad (sm_w X) 0)), (1, .int a1), (2, .int a2), (3, .int a3), (4, .int l4), (6, .int l6)] [.int t0, .int t1] := by
  unfold mf_X8_eyes_p141 at h
  refine sm_iload C 5 dX8_eyes_141 rfl ?_
  refine sm_ishl C dX8_eyes_143 h (fun v1 h => ?_)
  refine sm_ior C dX8_eyes_144 h (fun v2 h => ?_)
  refine sm_istore (lv' := [(5, .int v2), (0, .ref (sm_ad (sm_w X) 0)), (1, .int a1), (2, .int a2), (3, .int a3), (4, .int l4), (6, .int l6)]) C dX8_eyes_145 (by decide) rfl ?_
  refine sm_iinc (lv' := fun v3 => [(6, .int v3), (5, .int v2), (0, .ref (sm_ad (sm_w X) 0)), (1, .int a1), (2, .int a2), (3, .int a3), (4, .int l4)]) C 6 dX8_eyes_147 rfl (by decide) (fun _ => rfl) h (fun v3 h => ?_)
  refine sm_goto C 107 dX8_eyes_150 (by decide) ?_
  refine sm_sub (lv' := [(0, .ref (sm_ad (sm_w X) 0)), (1, .int a1), (2, .int a2), (3, .int a3), (4, .int l4), (5, .int v2), (6, .int v3)]) [2, 3, 4, 5, 6, 1, 0] rfl ?_
  exact hk107 s0 l4 v2 v3 h
set_option maxRecDepth 4000 in
theorem mk_X8_eyes_p107 {X : sm_VC} (C : sm_Cx X prog_10_method_59_code 7 "SmokeGoesToModel" 77 1835 (some .int)) (hw : mo_is (sm_w X)) {a1 : Int32} {a2 : Int32} {a3 : Int32}  {R : Int32 × sm_St}   : ∀ (n : Nat) (s0 : sm_St) (l4 : Int32) (l5 : Int32) (l6 : Int32) , mf_X8_eyes_p107 a1 a2 a3 n s0 l4 l5 l6 = some R → sm_V X (sm_QI X R) 7 s0 107 [(0, .ref (sm_ad (sm_w X) 0)), (1, .int a1), (2, .int a2), (3, .int a3), (4, .int l4), (5, .int l5), (6, .int l6)] [] := by
  intro n
  induction n with
  | zero =>
    intro s0 l4 l5 l6 h
    have h : (none : Option (Int32 × sm_St)) = some R := h
    cases h
  | succ n ih =>
    intro s0 l4 l5 l6 h
    unfold mf_X8_eyes_p107 at h
    refine sm_iload C 6 dX8_eyes_107 rfl ?_
    refine sm_iconst (v := 5) C dX8_eyes_109 (by decide) ?_
    refine sm_icmp_gt C 153 dX8_eyes_110 (by decide) h (fun h => ?_) (fun h => ?_)
    · refine sm_aload_n C 0 dX8_eyes_153 rfl rfl ?_
      refine mr_M_kinds C hw (k := 0) rfl gf_M_29 dX8_eyes_154 ?_
      refine sm_iload_n C 3 dX8_eyes_157 rfl rfl ?_
      refine sm_iload C 4 dX8_eyes_158 rfl ?_
      refine ma_iast C hw (k := 4) rfl rfl dX8_eyes_160 h (fun s1 h => ?_)
      refine sm_iload C 5 dX8_eyes_161 rfl ?_
      exact sm_iret C dX8_eyes_163 h
    · refine sm_aload_n C 0 dX8_eyes_113 rfl rfl ?_
      refine mr_M_kinds C hw (k := 0) rfl gf_M_29 dX8_eyes_114 ?_
      refine sm_iload_n C 3 dX8_eyes_117 rfl rfl ?_
      refine sm_iload C 6 dX8_eyes_118 rfl ?_
      refine ma_iast C hw (k := 4) rfl rfl dX8_eyes_120 h (fun s2 h => ?_)
      refine sm_aload_n C 0 dX8_eyes_121 rfl rfl ?_
      refine sm_iload_n C 1 dX8_eyes_122 rfl rfl ?_
      refine sm_iload_n C 2 dX8_eyes_123 rfl rfl ?_
      refine sm_callVV (k := 0) C [.int a1, .int a2] (mc_X8_rowsOf hw a1 a2) gm_X8_rowsOf gl_M_362 gi_X8_rowsOf ge_X8_rowsOf (mob_M hw rfl) rfl ⟨Nat.le_of_ble_eq_true rfl, Nat.le_of_ble_eq_true rfl⟩ rfl (Nat.le_of_ble_eq_true rfl) dX8_eyes_124 h (fun v3 s4 h => ?_)
      refine sm_iload C 5 dX8_eyes_127 rfl ?_
      refine sm_aload_n C 0 dX8_eyes_129 rfl rfl ?_
      refine mr_M_rowsMany C hw (k := 0) rfl gf_M_352 dX8_eyes_130 h (fun v5 h => ?_)
      refine sm_if_le C 140 dX8_eyes_133 (by decide) h (fun h => ?_) (fun h => ?_)
      · refine sm_iconst (v := 0) C dX8_eyes_140 (by decide) ?_
        refine sm_sub (lv' := [(0, .ref (sm_ad (sm_w X) 0)), (1, .int a1), (2, .int a2), (3, .int a3), (4, .int l4), (6, .int l6)]) [0, 1, 2, 3, 4, 6] rfl ?_
        exact mk_X8_eyes_p141 C hw ih s4 l4 l6 (0 : Int32) l5 h
      · refine sm_iconst (v := 1) C dX8_eyes_136 (by decide) ?_
        refine sm_goto C 141 dX8_eyes_137 (by decide) ?_
        refine sm_sub (lv' := [(0, .ref (sm_ad (sm_w X) 0)), (1, .int a1), (2, .int a2), (3, .int a3), (4, .int l4), (6, .int l6)]) [0, 1, 2, 3, 4, 6] rfl ?_
        exact mk_X8_eyes_p141 C hw ih s4 l4 l6 (1 : Int32) l5 h
set_option maxRecDepth 4000 in
theorem mk_X8_eyes_p41 {X : sm_VC} (C : sm_Cx X prog_10_method_59_code 7 "SmokeGoesToModel" 77 1835 (some .int)) (hw : mo_is (sm_w X)) {a1 : Int32} {a2 : Int32} {a3 : Int32}  {R : Int32 × sm_St}   (s0 : sm_St)   (h : mf_X8_eyes_p41 a1 a2 a3 s0 = some R) : sm_V X (sm_QI X R) 7 s0 41 [(0, .ref (sm_ad (sm_w X) 0)), (1, .int a1), (2, .int a2), (3, .int a3)] [] := by
  unfold mf_X8_eyes_p41 at h
  refine sm_aload_n C 0 dX8_eyes_41 rfl rfl ?_
  refine mr_M_isThere C hw (k := 0) rfl gf_M_81 dX8_eyes_42 ?_
  refine sm_iload_n C 1 dX8_eyes_45 rfl rfl ?_
  refine ma_zald C hw (k := 20) rfl rfl dX8_eyes_46 h (fun v1 h => ?_)
  refine sm_if_eq C 63 dX8_eyes_47 (by decide) h (fun h => ?_) (fun h => ?_)
  · refine sm_bipush (v := (-100)) C dX8_eyes_63 (by decide) ?_
    exact sm_iret C dX8_eyes_65 h
  · refine sm_aload_n C 0 dX8_eyes_50 rfl rfl ?_
    refine mr_M_sheetSize C hw (k := 0) rfl gf_M_88 dX8_eyes_51 ?_
    refine sm_iload_n C 1 dX8_eyes_54 rfl rfl ?_
    refine ma_iald C hw (k := 22) rfl rfl dX8_eyes_55 h (fun v2 h => ?_)
    refine sm_aload_n C 0 dX8_eyes_56 rfl rfl ?_
    refine mr_M_sitterMany C hw (k := 0) rfl gf_M_101 dX8_eyes_57 h (fun v3 h => ?_)
    refine sm_icmp_eq C 66 dX8_eyes_60 (by decide) h (fun h => ?_) (fun h => ?_)
    · refine sm_iload_n C 3 dX8_eyes_66 rfl rfl ?_
      refine sm_if_ge C 93 dX8_eyes_67 (by decide) h (fun h => ?_) (fun h => ?_)
      · refine sm_aload_n C 0 dX8_eyes_93 rfl rfl ?_
        refine mr_M_kinds C hw (k := 0) rfl gf_M_29 dX8_eyes_94 ?_
        refine sm_iload_n C 3 dX8_eyes_97 rfl rfl ?_
        refine ma_iald C hw (k := 4) rfl rfl dX8_eyes_98 h (fun v4 h => ?_)
        refine sm_istore (lv' := [(4, .int v4), (0, .ref (sm_ad (sm_w X) 0)), (1, .int a1), (2, .int a2), (3, .int a3)]) C dX8_eyes_99 (by decide) rfl ?_
        refine sm_iconst (v := 0) C dX8_eyes_101 (by decide) ?_
        refine sm_istore (lv' := [(5, .int (0 : Int32)), (4, .int v4), (0, .ref (sm_ad (sm_w X) 0)), (1, .int a1), (2, .int a2), (3, .int a3)]) C dX8_eyes_102 (by decide) rfl ?_
        refine sm_iconst (v := 0) C dX8_eyes_104 (by decide) ?_
        refine sm_istore (lv' := [(6, .int (0 : Int32)), (5, .int (0 : Int32)), (4, .int v4), (0, .ref (sm_ad (sm_w X) 0)), (1, .int a1), (2, .int a2), (3, .int a3)]) C dX8_eyes_105 (by decide) rfl ?_
        refine sm_sub (lv' := [(0, .ref (sm_ad (sm_w X) 0)), (1, .int a1), (2, .int a2), (3, .int a3), (4, .int v4), (5, .int (0 : Int32)), (6, .int (0 : Int32))]) [3, 4, 5, 6, 2, 1, 0] rfl ?_
        exact mk_X8_eyes_p107 C hw sm_F s0 v4 (0 : Int32) (0 : Int32) h
      · refine sm_aload_n C 0 dX8_eyes_70 rfl rfl ?_
        refine sm_iload_n C 1 dX8_eyes_71 rfl rfl ?_
        refine sm_iload_n C 2 dX8_eyes_72 rfl rfl ?_
        refine sm_callVV (k := 0) C [.int a1, .int a2] (mc_X8_rowsOf hw a1 a2) gm_X8_rowsOf gl_M_362 gi_X8_rowsOf ge_X8_rowsOf (mob_M hw rfl) rfl ⟨Nat.le_of_ble_eq_true rfl, Nat.le_of_ble_eq_true rfl⟩ rfl (Nat.le_of_ble_eq_true rfl) dX8_eyes_73 h (fun v5 s6 h => ?_)
        refine sm_iload_n C 3 dX8_eyes_76 rfl rfl ?_
        refine sm_iconst (v := (-1)) C dX8_eyes_77 (by decide) ?_
        refine sm_icmp_ne C 88 dX8_eyes_78 (by decide) h (fun h => ?_) (fun h => ?_)
        · refine sm_aload_n C 0 dX8_eyes_88 rfl rfl ?_
          refine mr_M_rowsFirst C hw (k := 0) rfl gf_M_355 dX8_eyes_89 h (fun v7 h => ?_)
          exact sm_iret C dX8_eyes_92 h
        · refine sm_aload_n C 0 dX8_eyes_81 rfl rfl ?_
          refine mr_M_rowsMany C hw (k := 0) rfl gf_M_352 dX8_eyes_82 h (fun v8 h => ?_)
          refine sm_goto C 92 dX8_eyes_85 (by decide) ?_
          exact sm_iret C dX8_eyes_92 h
    · refine sm_bipush (v := (-100)) C dX8_eyes_63 (by decide) ?_
      exact sm_iret C dX8_eyes_65 h
set_option maxRecDepth 4000 in
theorem mc_X8_eyes {w : sm_WD} {l : Launch} (hw : mo_is w) (a1 : Int32) (a2 : Int32) (a3 : Int32) : sm_CI w l yX8_eyes prog_10_method_59_code 7 (some .int) 77 1835 [.ref (sm_ad w 0), .int a1, .int a2, .int a3] (fun s => mf_X8_eyes a1 a2 a3 s) := by
  refine sm_CI.of (by decide +kernel) (Nat.le_of_ble_eq_true rfl) (fun X s0 R hXw hXl C h => ?_)
  subst hXw
  subst hXl
  have h : mf_X8_eyes a1 a2 a3 s0 = some R := h
  show sm_V X (sm_QI X R) 7 s0 0 [(0, .ref (sm_ad (sm_w X) 0)), (1, .int a1), (2, .int a2), (3, .int a3)] []
  unfold mf_X8_eyes at h
  refine sm_iload_n C 1 dX8_eyes_0 rfl rfl ?_
  refine sm_callSI C [.int a1] (mc_X8_isSheet hw a1) gm_X8_isSheet gl_M_315 gs_X8_isSheet rfl ⟨Nat.le_of_ble_eq_true rfl, Nat.le_of_ble_eq_true rfl⟩ rfl (Nat.le_of_ble_eq_true rfl) dX8_eyes_1 h (fun v1 s2 h => ?_)
  refine sm_if_eq C 63 dX8_eyes_4 (by decide) h (fun h => ?_) (fun h => ?_)
  · refine sm_bipush (v := (-100)) C dX8_eyes_63 (by decide) ?_
    exact sm_iret C dX8_eyes_65 h
  · refine sm_iload_n C 2 dX8_eyes_7 rfl rfl ?_
    refine sm_i2l C dX8_eyes_8 h (fun v3 h => ?_)
    refine sm_lconst (v := 0) C dX8_eyes_9 (by decide) ?_
    refine sm_ldc2 C gk_M_129 dX8_eyes_10 ?_
    refine sm_callSI C [.long v3, .long (0 : Int64), .long (5 : Int64)] (mc_X8_in hw v3 (0 : Int64) (5 : Int64)) gm_X8_in gl_M_104 gs_X8_in rfl ⟨Nat.le_of_ble_eq_true rfl, Nat.le_of_ble_eq_true rfl⟩ rfl (Nat.le_of_ble_eq_true rfl) dX8_eyes_13 h (fun v4 s5 h => ?_)
    refine sm_if_eq C 63 dX8_eyes_16 (by decide) h (fun h => ?_) (fun h => ?_)
    · refine sm_bipush (v := (-100)) C dX8_eyes_63 (by decide) ?_
      exact sm_iret C dX8_eyes_65 h
    · refine sm_iload_n C 3 dX8_eyes_19 rfl rfl ?_
      refine sm_i2l C dX8_eyes_20 h (fun v6 h => ?_)
      refine sm_ldc2 C gk_M_358 dX8_eyes_21 ?_
      refine sm_ldc2 C gk_M_360 dX8_eyes_24 ?_
      refine sm_callSI C [.long v6, .long (-2 : Int64), .long (-1 : Int64)] (mc_X8_in hw v6 (-2 : Int64) (-1 : Int64)) gm_X8_in gl_M_104 gs_X8_in rfl ⟨Nat.le_of_ble_eq_true rfl, Nat.le_of_ble_eq_true rfl⟩ rfl (Nat.le_of_ble_eq_true rfl) dX8_eyes_27 h (fun v7 s8 h => ?_)
      refine sm_if_ne C 41 dX8_eyes_30 (by decide) h (fun h => ?_) (fun h => ?_)
      · exact mk_X8_eyes_p41 C hw s8 h
      · refine sm_aload_n C 0 dX8_eyes_33 rfl rfl ?_
        refine sm_iload_n C 3 dX8_eyes_34 rfl rfl ?_
        refine sm_callVI (k := 0) C [.int a3] (mc_X8_isSitter hw a3) gm_X8_isSitter gl_M_112 gi_X8_isSitter ge_X8_isSitter (mob_M hw rfl) rfl ⟨Nat.le_of_ble_eq_true rfl, Nat.le_of_ble_eq_true rfl⟩ rfl (Nat.le_of_ble_eq_true rfl) dX8_eyes_35 h (fun v9 s10 h => ?_)
        refine sm_if_eq C 63 dX8_eyes_38 (by decide) h (fun h => ?_) (fun h => ?_)
        · refine sm_bipush (v := (-100)) C dX8_eyes_63 (by decide) ?_
          exact sm_iret C dX8_eyes_65 h
        · exact mk_X8_eyes_p41 C hw s10 h
noncomputable def mf_X8_sheet_p77 (a1 : Int32) (a2 : Int32) (a3 : Int32) : Nat → sm_St → Int32 → Option (Int32 × sm_St)
  | 0, _, _ => none
  | n + 1, s0, l4 =>
  if a3 ≤ l4 then (
  some ((1 : Int32), s0))
  else (
  if a2 < 0 then (
  some ((1 : Int32), s0))
  else (
  sm_b ((40 : Int32) * a1) fun v1 =>
  sm_b (v1 + l4) fun v2 =>
  sm_g (sm_in v2 160) <| sm_b (sm_sI s0 23 v2.toNatClampNeg (0 : Int32)) fun s3 =>
  sm_b (l4 + Int32.ofInt 1) fun v4 =>
  (mf_X8_sheet_p77 a1 a2 a3 n) s3 v4))
noncomputable def mf_X8_sheet_p59 (a1 : Int32) (a2 : Int32) (a3 : Int32) (s0 : sm_St) (t0 : Int32) (t1 : Int32) : Option (Int32 × sm_St) :=
  sm_g (sm_in t1 4) <| sm_b (sm_sI s0 20 t1.toNatClampNeg (vp_nar .boolean t0)) fun s1 =>
  sm_g (sm_in a1 4) <| sm_b (sm_sI s1 21 a1.toNatClampNeg a2) fun s2 =>
  sm_g (sm_in a1 4) <| sm_b (sm_sI s2 22 a1.toNatClampNeg a3) fun s3 =>
  mf_X8_sheet_p77 a1 a2 a3 sm_F s3 (0 : Int32)
noncomputable def mf_X8_sheet_p45 (a1 : Int32) (a2 : Int32) (a3 : Int32) (s0 : sm_St) : Option (Int32 × sm_St) :=
  if a2 < 0 then (
  mf_X8_sheet_p59 a1 a2 a3 s0 (0 : Int32) a1)
  else (
  mf_X8_sheet_p59 a1 a2 a3 s0 (1 : Int32) a1)
noncomputable def mf_X8_sheet_p34 (a1 : Int32) (a2 : Int32) (a3 : Int32) (s0 : sm_St) : Option (Int32 × sm_St) :=
  if a2 < 0 then (
  mf_X8_sheet_p45 a1 a2 a3 s0)
  else (
  if 0 ≤ a3 then (
  mf_X8_sheet_p45 a1 a2 a3 s0)
  else (
  some ((-14 : Int32), s0)))
noncomputable def mf_X8_sheet (a1 : Int32) (a2 : Int32) (a3 : Int32) (s0 : sm_St) : Option (Int32 × sm_St) :=
  sm_c (mf_X8_isSheet a1 s0) fun v1 s2 =>
  if v1 = 0 then (
  some ((-2 : Int32), s2))
  else (
  sm_b (a2.toInt64) fun v3 =>
  sm_c (mf_X8_in v3 (-1 : Int64) (2 : Int64) s2) fun v4 s5 =>
  if v4 = 0 then (
  some ((-2 : Int32), s5))
  else (
  if a2 < 0 then (
  mf_X8_sheet_p34 a1 a2 a3 s5)
  else (
  if a3 ≤ (40 : Int32) then (
  mf_X8_sheet_p34 a1 a2 a3 s5)
  else (
  some ((-2 : Int32), s5)))))
set_option maxRecDepth 4000 in
theorem mk_X8_sheet_p77 {X : sm_VC} (C : sm_Cx X prog_10_method_68_code 5 "SmokeGoesToModel" 4 145 (some .int)) (hw : mo_is (sm_w X)) {a1 : Int32} {a2 : Int32} {a3 : Int32}  {R : Int32 × sm_St}   : ∀ (n : Nat) (s0 : sm_St) (l4 : Int32) , mf_X8_sheet_p77 a1 a2 a3 n s0 l4 = some R → sm_V X (sm_QI X R) 5 s0 77 [(0, .ref (sm_ad (sm_w X) 0)), (1, .int a1), (2, .int a2), (3, .int a3), (4, .int l4)] [] := by
  intro n
  induction n with
  | zero =>
    intro s0 l4 h
    have h : (none : Option (Int32 × sm_St)) = some R := h
    cases h
  | succ n ih =>
    intro s0 l4 h
    unfold mf_X8_sheet_p77 at h
    refine sm_iload C 4 dX8_sheet_77 rfl ?_
    refine sm_iload_n C 3 dX8_sheet_79 rfl rfl ?_
    refine sm_icmp_ge C 106 dX8_sheet_80 (by decide) h (fun h => ?_) (fun h => ?_)
    · refine sm_iconst (v := 1) C dX8_sheet_106 (by decide) ?_
      exact sm_iret C dX8_sheet_107 h
    · refine sm_iload_n C 2 dX8_sheet_83 rfl rfl ?_
      refine sm_if_lt C 106 dX8_sheet_84 (by decide) h (fun h => ?_) (fun h => ?_)
      · refine sm_iconst (v := 1) C dX8_sheet_106 (by decide) ?_
        exact sm_iret C dX8_sheet_107 h
      · refine sm_aload_n C 0 dX8_sheet_87 rfl rfl ?_
        refine mr_M_items C hw (k := 0) rfl gf_M_91 dX8_sheet_88 ?_
        refine sm_bipush (v := 40) C dX8_sheet_91 (by decide) ?_
        refine sm_iload_n C 1 dX8_sheet_93 rfl rfl ?_
        refine sm_imul C dX8_sheet_94 h (fun v1 h => ?_)
        refine sm_iload C 4 dX8_sheet_95 rfl ?_
        refine sm_iadd C dX8_sheet_97 h (fun v2 h => ?_)
        refine sm_iconst (v := 0) C dX8_sheet_98 (by decide) ?_
        refine ma_iast C hw (k := 23) rfl rfl dX8_sheet_99 h (fun s3 h => ?_)
        refine sm_iinc (lv' := fun v4 => [(4, .int v4), (0, .ref (sm_ad (sm_w X) 0)), (1, .int a1), (2, .int a2), (3, .int a3)]) C 4 dX8_sheet_100 rfl (by decide) (fun _ => rfl) h (fun v4 h => ?_)
        refine sm_goto C 77 dX8_sheet_103 (by decide) ?_
        refine sm_sub (lv' := [(0, .ref (sm_ad (sm_w X) 0)), (1, .int a1), (2, .int a2), (3, .int a3), (4, .int v4)]) [1, 2, 3, 4, 0] rfl ?_
        exact ih s3 v4 h
set_option maxRecDepth 4000 in
theorem mk_X8_sheet_p59 {X : sm_VC} (C : sm_Cx X prog_10_method_68_code 5 "SmokeGoesToModel" 4 145 (some .int)) (hw : mo_is (sm_w X)) {a1 : Int32} {a2 : Int32} {a3 : Int32}  {R : Int32 × sm_St}   (s0 : sm_St) (t0 : Int32) (t1 : Int32)  (h : mf_X8_sheet_p59 a1 a2 a3 s0 t0 t1 = some R) : sm_V X (sm_QI X R) 5 s0 59 [(0, .ref (sm_ad (sm_w X) 0)), (1, .int a1), (2, .int a2), (3, .int a3)] [.int t0, .int t1, .ref (sm_ad (sm_w X) 20)] := by
  unfold mf_X8_sheet_p59 at h
  refine ma_zast C hw (k := 20) rfl rfl dX8_sheet_59 h (fun s1 h => ?_)
  refine sm_aload_n C 0 dX8_sheet_60 rfl rfl ?_
  refine mr_M_sorts C hw (k := 0) rfl gf_M_85 dX8_sheet_61 ?_
  refine sm_iload_n C 1 dX8_sheet_64 rfl rfl ?_
  refine sm_iload_n C 2 dX8_sheet_65 rfl rfl ?_
  refine ma_iast C hw (k := 21) rfl rfl dX8_sheet_66 h (fun s2 h => ?_)
  refine sm_aload_n C 0 dX8_sheet_67 rfl rfl ?_
  refine mr_M_sheetSize C hw (k := 0) rfl gf_M_88 dX8_sheet_68 ?_
  refine sm_iload_n C 1 dX8_sheet_71 rfl rfl ?_
  refine sm_iload_n C 3 dX8_sheet_72 rfl rfl ?_
  refine ma_iast C hw (k := 22) rfl rfl dX8_sheet_73 h (fun s3 h => ?_)
  refine sm_iconst (v := 0) C dX8_sheet_74 (by decide) ?_
  refine sm_istore (lv' := [(4, .int (0 : Int32)), (0, .ref (sm_ad (sm_w X) 0)), (1, .int a1), (2, .int a2), (3, .int a3)]) C dX8_sheet_75 (by decide) rfl ?_
  refine sm_sub (lv' := [(0, .ref (sm_ad (sm_w X) 0)), (1, .int a1), (2, .int a2), (3, .int a3), (4, .int (0 : Int32))]) [1, 2, 3, 4, 0] rfl ?_
  exact mk_X8_sheet_p77 C hw sm_F s3 (0 : Int32) h
set_option maxRecDepth 4000 in
theorem mk_X8_sheet_p45 {X : sm_VC} (C : sm_Cx X prog_10_method_68_code 5 "SmokeGoesToModel" 4 145 (some .int)) (hw : mo_is (sm_w X)) {a1 : Int32} {a2 : Int32} {a3 : Int32}  {R : Int32 × sm_St}   (s0 : sm_St)   (h : mf_X8_sheet_p45 a1 a2 a3 s0 = some R) : sm_V X (sm_QI X R) 5 s0 45 [(0, .ref (sm_ad (sm_w X) 0)), (1, .int a1), (2, .int a2), (3, .int a3)] [] := by
  unfold mf_X8_sheet_p45 at h
  refine sm_aload_n C 0 dX8_sheet_45 rfl rfl ?_
  refine mr_M_isThere C hw (k := 0) rfl gf_M_81 dX8_sheet_46 ?_
  refine sm_iload_n C 1 dX8_sheet_49 rfl rfl ?_
  refine sm_iload_n C 2 dX8_sheet_50 rfl rfl ?_
  refine sm_if_lt C 58 dX8_sheet_51 (by decide) h (fun h => ?_) (fun h => ?_)
  · refine sm_iconst (v := 0) C dX8_sheet_58 (by decide) ?_
    exact mk_X8_sheet_p59 C hw s0 (0 : Int32) a1 h
  · refine sm_iconst (v := 1) C dX8_sheet_54 (by decide) ?_
    refine sm_goto C 59 dX8_sheet_55 (by decide) ?_
    exact mk_X8_sheet_p59 C hw s0 (1 : Int32) a1 h
set_option maxRecDepth 4000 in
theorem mk_X8_sheet_p34 {X : sm_VC} (C : sm_Cx X prog_10_method_68_code 5 "SmokeGoesToModel" 4 145 (some .int)) (hw : mo_is (sm_w X)) {a1 : Int32} {a2 : Int32} {a3 : Int32}  {R : Int32 × sm_St}   (s0 : sm_St)   (h : mf_X8_sheet_p34 a1 a2 a3 s0 = some R) : sm_V X (sm_QI X R) 5 s0 34 [(0, .ref (sm_ad (sm_w X) 0)), (1, .int a1), (2, .int a2), (3, .int a3)] [] := by
  unfold mf_X8_sheet_p34 at h
  refine sm_iload_n C 2 dX8_sheet_34 rfl rfl ?_
  refine sm_if_lt C 45 dX8_sheet_35 (by decide) h (fun h => ?_) (fun h => ?_)
  · exact mk_X8_sheet_p45 C hw s0 h
  · refine sm_iload_n C 3 dX8_sheet_38 rfl rfl ?_
    refine sm_if_ge C 45 dX8_sheet_39 (by decide) h (fun h => ?_) (fun h => ?_)
    · exact mk_X8_sheet_p45 C hw s0 h
    · refine sm_bipush (v := (-14)) C dX8_sheet_42 (by decide) ?_
      exact sm_iret C dX8_sheet_44 h
set_option maxRecDepth 4000 in
theorem mc_X8_sheet {w : sm_WD} {l : Launch} (hw : mo_is w) (a1 : Int32) (a2 : Int32) (a3 : Int32) : sm_CI w l yX8_sheet prog_10_method_68_code 5 (some .int) 4 145 [.ref (sm_ad w 0), .int a1, .int a2, .int a3] (fun s => mf_X8_sheet a1 a2 a3 s) := by
  refine sm_CI.of (by decide +kernel) (Nat.le_of_ble_eq_true rfl) (fun X s0 R hXw hXl C h => ?_)
  subst hXw
  subst hXl
  have h : mf_X8_sheet a1 a2 a3 s0 = some R := h
  show sm_V X (sm_QI X R) 5 s0 0 [(0, .ref (sm_ad (sm_w X) 0)), (1, .int a1), (2, .int a2), (3, .int a3)] []
  unfold mf_X8_sheet at h
  refine sm_iload_n C 1 dX8_sheet_0 rfl rfl ?_
  refine sm_callSI C [.int a1] (mc_X8_isSheet hw a1) gm_X8_isSheet gl_M_315 gs_X8_isSheet rfl ⟨Nat.le_of_ble_eq_true rfl, Nat.le_of_ble_eq_true rfl⟩ rfl (Nat.le_of_ble_eq_true rfl) dX8_sheet_1 h (fun v1 s2 h => ?_)
  refine sm_if_eq C 31 dX8_sheet_4 (by decide) h (fun h => ?_) (fun h => ?_)
  · refine sm_bipush (v := (-2)) C dX8_sheet_31 (by decide) ?_
    exact sm_iret C dX8_sheet_33 h
  · refine sm_iload_n C 2 dX8_sheet_7 rfl rfl ?_
    refine sm_i2l C dX8_sheet_8 h (fun v3 h => ?_)
    refine sm_ldc2 C gk_M_360 dX8_sheet_9 ?_
    refine sm_ldc2 C gk_M_377 dX8_sheet_12 ?_
    refine sm_callSI C [.long v3, .long (-1 : Int64), .long (2 : Int64)] (mc_X8_in hw v3 (-1 : Int64) (2 : Int64)) gm_X8_in gl_M_104 gs_X8_in rfl ⟨Nat.le_of_ble_eq_true rfl, Nat.le_of_ble_eq_true rfl⟩ rfl (Nat.le_of_ble_eq_true rfl) dX8_sheet_15 h (fun v4 s5 h => ?_)
    refine sm_if_eq C 31 dX8_sheet_18 (by decide) h (fun h => ?_) (fun h => ?_)
    · refine sm_bipush (v := (-2)) C dX8_sheet_31 (by decide) ?_
      exact sm_iret C dX8_sheet_33 h
    · refine sm_iload_n C 2 dX8_sheet_21 rfl rfl ?_
      refine sm_if_lt C 34 dX8_sheet_22 (by decide) h (fun h => ?_) (fun h => ?_)
      · exact mk_X8_sheet_p34 C hw s5 h
      · refine sm_iload_n C 3 dX8_sheet_25 rfl rfl ?_
        refine sm_bipush (v := 40) C dX8_sheet_26 (by decide) ?_
        refine sm_icmp_le C 34 dX8_sheet_28 (by decide) h (fun h => ?_) (fun h => ?_)
        · exact mk_X8_sheet_p34 C hw s5 h
        · refine sm_bipush (v := (-2)) C dX8_sheet_31 (by decide) ?_
          exact sm_iret C dX8_sheet_33 h
noncomputable def mf_X8_film_p48 (a1 : Int32) (a2 : Int32) : Nat → sm_St → Int32 → Option (Int32 × sm_St)
  | 0, _, _ => none
  | n + 1, s0, l3 =>
  sm_b (s0.1 0 15) fun v1 =>
  if v1 ≤ l3 then (
  sm_b (s0.1 0 15) fun v2 =>
  some (v2, s0))
  else (
  sm_b ((40 : Int32) * a1) fun v3 =>
  sm_b (v3 + l3) fun v4 =>
  sm_g (sm_in l3 5) <| sm_b (s0.1 9 l3.toNatClampNeg) fun v5 =>
  sm_g (sm_in v4 160) <| sm_b (sm_sI s0 23 v4.toNatClampNeg v5) fun s6 =>
  sm_b (l3 + Int32.ofInt 1) fun v7 =>
  (mf_X8_film_p48 a1 a2 n) s6 v7)
noncomputable def mf_X8_film (a1 : Int32) (a2 : Int32) (s0 : sm_St) : Option (Int32 × sm_St) :=
  sm_c (mf_X8_isSheet a1 s0) fun v1 s2 =>
  if v1 = 0 then (
  some ((-2 : Int32), s2))
  else (
  sm_c (mf_X8_isSheet a2 s2) fun v3 s4 =>
  if v3 = 0 then (
  some ((-2 : Int32), s4))
  else (
  sm_g (sm_in a2 4) <| sm_b (s4.1 20 a2.toNatClampNeg) fun v5 =>
  if v5 = 0 then (
  some ((-11 : Int32), s4))
  else (
  sm_c (mf_X8_costOf a2 s4) fun v6 s7 =>
  sm_b (s7.1 0 15) fun v8 =>
  sm_c (mf_X8_sheet a1 (0 : Int32) v8 s7) fun v9 s10 =>
  mf_X8_film_p48 a1 a2 sm_F s10 (0 : Int32))))
set_option maxRecDepth 4000 in
theorem mk_X8_film_p48 {X : sm_VC} (C : sm_Cx X prog_10_method_60_code 4 "SmokeGoesToModel" 78 1850 (some .int)) (hw : mo_is (sm_w X)) {a1 : Int32} {a2 : Int32}  {R : Int32 × sm_St}   : ∀ (n : Nat) (s0 : sm_St) (l3 : Int32) , mf_X8_film_p48 a1 a2 n s0 l3 = some R → sm_V X (sm_QI X R) 4 s0 48 [(0, .ref (sm_ad (sm_w X) 0)), (1, .int a1), (3, .int l3)] [] := by
  intro n
  induction n with
  | zero =>
    intro s0 l3 h
    have h : (none : Option (Int32 × sm_St)) = some R := h
    cases h
  | succ n ih =>
    intro s0 l3 h
    unfold mf_X8_film_p48 at h
    refine sm_iload_n C 2 dX8_film_48 rfl rfl ?_
    refine sm_aload_n C 0 dX8_film_49 rfl rfl ?_
    refine mr_M_sitterMany C hw (k := 0) rfl gf_M_101 dX8_film_50 h (fun v1 h => ?_)
    refine sm_icmp_ge C 79 dX8_film_53 (by decide) h (fun h => ?_) (fun h => ?_)
    · refine sm_aload_n C 0 dX8_film_79 rfl rfl ?_
      refine mr_M_sitterMany C hw (k := 0) rfl gf_M_101 dX8_film_80 h (fun v2 h => ?_)
      exact sm_iret C dX8_film_83 h
    · refine sm_aload_n C 0 dX8_film_56 rfl rfl ?_
      refine mr_M_items C hw (k := 0) rfl gf_M_91 dX8_film_57 ?_
      refine sm_bipush (v := 40) C dX8_film_60 (by decide) ?_
      refine sm_iload_n C 1 dX8_film_62 rfl rfl ?_
      refine sm_imul C dX8_film_63 h (fun v3 h => ?_)
      refine sm_iload_n C 2 dX8_film_64 rfl rfl ?_
      refine sm_iadd C dX8_film_65 h (fun v4 h => ?_)
      refine sm_aload_n C 0 dX8_film_66 rfl rfl ?_
      refine mr_M_smoked C hw (k := 0) rfl gf_M_44 dX8_film_67 ?_
      refine sm_iload_n C 2 dX8_film_70 rfl rfl ?_
      refine ma_iald C hw (k := 9) rfl rfl dX8_film_71 h (fun v5 h => ?_)
      refine ma_iast C hw (k := 23) rfl rfl dX8_film_72 h (fun s6 h => ?_)
      refine sm_iinc (lv' := fun v7 => [(3, .int v7), (0, .ref (sm_ad (sm_w X) 0)), (1, .int a1)]) C 2 dX8_film_73 rfl (by decide) (fun _ => rfl) h (fun v7 h => ?_)
      refine sm_goto C 48 dX8_film_76 (by decide) ?_
      refine sm_sub (lv' := [(0, .ref (sm_ad (sm_w X) 0)), (1, .int a1), (3, .int v7)]) [1, 2, 0] rfl ?_
      exact ih s6 v7 h
set_option maxRecDepth 4000 in
theorem mc_X8_film {w : sm_WD} {l : Launch} (hw : mo_is w) (a1 : Int32) (a2 : Int32) : sm_CI w l yX8_film prog_10_method_60_code 4 (some .int) 78 1850 [.ref (sm_ad w 0), .int a1, .int a2] (fun s => mf_X8_film a1 a2 s) := by
  refine sm_CI.of (by decide +kernel) (Nat.le_of_ble_eq_true rfl) (fun X s0 R hXw hXl C h => ?_)
  subst hXw
  subst hXl
  have h : mf_X8_film a1 a2 s0 = some R := h
  show sm_V X (sm_QI X R) 4 s0 0 [(0, .ref (sm_ad (sm_w X) 0)), (1, .int a1), (2, .int a2)] []
  unfold mf_X8_film at h
  refine sm_iload_n C 1 dX8_film_0 rfl rfl ?_
  refine sm_callSI C [.int a1] (mc_X8_isSheet hw a1) gm_X8_isSheet gl_M_315 gs_X8_isSheet rfl ⟨Nat.le_of_ble_eq_true rfl, Nat.le_of_ble_eq_true rfl⟩ rfl (Nat.le_of_ble_eq_true rfl) dX8_film_1 h (fun v1 s2 h => ?_)
  refine sm_if_eq C 14 dX8_film_4 (by decide) h (fun h => ?_) (fun h => ?_)
  · refine sm_bipush (v := (-2)) C dX8_film_14 (by decide) ?_
    exact sm_iret C dX8_film_16 h
  · refine sm_iload_n C 2 dX8_film_7 rfl rfl ?_
    refine sm_callSI C [.int a2] (mc_X8_isSheet hw a2) gm_X8_isSheet gl_M_315 gs_X8_isSheet rfl ⟨Nat.le_of_ble_eq_true rfl, Nat.le_of_ble_eq_true rfl⟩ rfl (Nat.le_of_ble_eq_true rfl) dX8_film_8 h (fun v3 s4 h => ?_)
    refine sm_if_ne C 17 dX8_film_11 (by decide) h (fun h => ?_) (fun h => ?_)
    · refine sm_aload_n C 0 dX8_film_17 rfl rfl ?_
      refine mr_M_isThere C hw (k := 0) rfl gf_M_81 dX8_film_18 ?_
      refine sm_iload_n C 2 dX8_film_21 rfl rfl ?_
      refine ma_zald C hw (k := 20) rfl rfl dX8_film_22 h (fun v5 h => ?_)
      refine sm_if_ne C 29 dX8_film_23 (by decide) h (fun h => ?_) (fun h => ?_)
      · refine sm_aload_n C 0 dX8_film_29 rfl rfl ?_
        refine sm_iload_n C 2 dX8_film_30 rfl rfl ?_
        refine sm_callVI (k := 0) C [.int a2] (mc_X8_costOf hw a2) gm_X8_costOf gl_M_348 gi_X8_costOf ge_X8_costOf (mob_M hw rfl) rfl ⟨Nat.le_of_ble_eq_true rfl, Nat.le_of_ble_eq_true rfl⟩ rfl (Nat.le_of_ble_eq_true rfl) dX8_film_31 h (fun v6 s7 h => ?_)
        refine sm_pop C dX8_film_34 rfl ?_
        refine sm_aload_n C 0 dX8_film_35 rfl rfl ?_
        refine sm_iload_n C 1 dX8_film_36 rfl rfl ?_
        refine sm_iconst (v := 0) C dX8_film_37 (by decide) ?_
        refine sm_aload_n C 0 dX8_film_38 rfl rfl ?_
        refine mr_M_sitterMany C hw (k := 0) rfl gf_M_101 dX8_film_39 h (fun v8 h => ?_)
        refine sm_callVI (k := 0) C [.int a1, .int (0 : Int32), .int v8] (mc_X8_sheet hw a1 (0 : Int32) v8) gm_X8_sheet gl_M_365 gi_X8_sheet ge_X8_sheet (mob_M hw rfl) rfl ⟨Nat.le_of_ble_eq_true rfl, Nat.le_of_ble_eq_true rfl⟩ rfl (Nat.le_of_ble_eq_true rfl) dX8_film_42 h (fun v9 s10 h => ?_)
        refine sm_pop C dX8_film_45 rfl ?_
        refine sm_iconst (v := 0) C dX8_film_46 (by decide) ?_
        refine sm_istore_n (lv' := [(3, .int (0 : Int32)), (0, .ref (sm_ad (sm_w X) 0)), (1, .int a1), (2, .int a2)]) C dX8_film_47 rfl (by decide) rfl ?_
        refine sm_sub (lv' := [(0, .ref (sm_ad (sm_w X) 0)), (1, .int a1), (3, .int (0 : Int32))]) [1, 2, 0] rfl ?_
        exact mk_X8_film_p48 C hw sm_F s10 (0 : Int32) h
      · refine sm_bipush (v := (-11)) C dX8_film_26 (by decide) ?_
        exact sm_iret C dX8_film_28 h
    · refine sm_bipush (v := (-2)) C dX8_film_14 (by decide) ?_
      exact sm_iret C dX8_film_16 h
noncomputable def mf_X8_draws_p71 (a1 : Int32) (k12 : sm_St → Int32 → Int32 → Option (Int32 × sm_St)) (s0 : sm_St) (l2 : Int32) (l3 : Int32) (t0 : Int32) (t1 : Int32) : Option (Int32 × sm_St) :=
  sm_c (mf_X8_passes t1 t0 s0) fun _ s2 =>
  sm_b (l3 + Int32.ofInt 1) fun v3 =>
  k12 s2 l2 v3
noncomputable def mf_X8_draws_p12 (a1 : Int32) : Nat → sm_St → Int32 → Int32 → Option (Int32 × sm_St)
  | 0, _, _, _ => none
  | n + 1, s0, l2, l3 =>
  if (10 : Int32) ≤ l3 then (
  sm_c (mf_X8_takeBack s0) fun _ s2 =>
  sm_c (mf_X8_sumOf 8 s2) fun v3 s4 =>
  some (v3, s4))
  else (
  sm_b (l2 * (1103515245 : Int32)) fun v5 =>
  sm_b (v5 + (12345 : Int32)) fun v6 =>
  sm_b ((v6.toUInt32 >>> ((9 : Int32).toUInt32 &&& Int32.toUInt32 31)).toInt32) fun v7 =>
  sm_g (!decide ((100 : Int32) = 0)) <| sm_b (v7 - v7 / (100 : Int32) * (100 : Int32)) fun v8 =>
  sm_b (s0.1 0 8) fun v9 =>
  if v9 ≤ v8 then (
  sm_b (s0.1 0 8) fun v10 =>
  sm_b (s0.1 0 9) fun v11 =>
  sm_b (v10 + v11) fun v12 =>
  if v12 ≤ v8 then (
  mf_X8_draws_p71 a1 (mf_X8_draws_p12 a1 n) s0 v6 l3 (0 : Int32) l3)
  else (
  mf_X8_draws_p71 a1 (mf_X8_draws_p12 a1 n) s0 v6 l3 (1 : Int32) l3))
  else (
  mf_X8_draws_p71 a1 (mf_X8_draws_p12 a1 n) s0 v6 l3 (-1 : Int32) l3))
noncomputable def mf_X8_draws (a1 : Int32) (s0 : sm_St) : Option (Int32 × sm_St) :=
  sm_c (mf_X8_layAside s0) fun _ s2 =>
  sm_c (mf_X8_begins s2) fun _ s4 =>
  mf_X8_draws_p12 a1 sm_F s4 a1 (0 : Int32)
set_option maxRecDepth 4000 in
theorem mk_X8_draws_p71 {X : sm_VC} (C : sm_Cx X prog_10_method_61_code 5 "SmokeGoesToModel" 76 1807 (some .int)) (hw : mo_is (sm_w X)) {a1 : Int32}  {R : Int32 × sm_St} {k12 : sm_St → Int32 → Int32 → Option (Int32 × sm_St)} (hk12 : ∀ (s : sm_St) (l2 : Int32) (l3 : Int32), k12 s l2 l3 = some R → sm_V X (sm_QI X R) 5 s 12 [(0, .ref (sm_ad (sm_w X) 0)), (2, .int l2), (3, .int l3)] []) (s0 : sm_St) (l2 : Int32) (l3 : Int32) (t0 : Int32) (t1 : Int32)  (h : mf_X8_draws_p71 a1 k12 s0 l2 l3 t0 t1 = some R) : sm_V X (sm_QI X R) 5 s0 71 [(0, .ref (sm_ad (sm_w X) 0)), (2, .int l2), (3, .int l3)] [.int t0, .int t1, .ref (sm_ad (sm_w X) 0)] := by
  unfold mf_X8_draws_p71 at h
  refine sm_callVV (k := 0) C [.int t1, .int t0] (mc_X8_passes hw t1 t0) gm_X8_passes gl_M_298 gi_X8_passes ge_X8_passes (mob_M hw rfl) rfl ⟨Nat.le_of_ble_eq_true rfl, Nat.le_of_ble_eq_true rfl⟩ rfl (Nat.le_of_ble_eq_true rfl) dX8_draws_71 h (fun v1 s2 h => ?_)
  refine sm_iinc (lv' := fun v3 => [(3, .int v3), (0, .ref (sm_ad (sm_w X) 0)), (2, .int l2)]) C 2 dX8_draws_74 rfl (by decide) (fun _ => rfl) h (fun v3 h => ?_)
  refine sm_goto C 12 dX8_draws_77 (by decide) ?_
  refine sm_sub (lv' := [(0, .ref (sm_ad (sm_w X) 0)), (2, .int l2), (3, .int v3)]) [1, 2, 0] rfl ?_
  exact hk12 s2 l2 v3 h
set_option maxRecDepth 4000 in
theorem mk_X8_draws_p12 {X : sm_VC} (C : sm_Cx X prog_10_method_61_code 5 "SmokeGoesToModel" 76 1807 (some .int)) (hw : mo_is (sm_w X)) {a1 : Int32}  {R : Int32 × sm_St}   : ∀ (n : Nat) (s0 : sm_St) (l2 : Int32) (l3 : Int32) , mf_X8_draws_p12 a1 n s0 l2 l3 = some R → sm_V X (sm_QI X R) 5 s0 12 [(0, .ref (sm_ad (sm_w X) 0)), (2, .int l2), (3, .int l3)] [] := by
  intro n
  induction n with
  | zero =>
    intro s0 l2 l3 h
    have h : (none : Option (Int32 × sm_St)) = some R := h
    cases h
  | succ n ih =>
    intro s0 l2 l3 h
    unfold mf_X8_draws_p12 at h
    refine sm_iload_n C 2 dX8_draws_12 rfl rfl ?_
    refine sm_bipush (v := 10) C dX8_draws_13 (by decide) ?_
    refine sm_icmp_ge C 80 dX8_draws_15 (by decide) h (fun h => ?_) (fun h => ?_)
    · refine sm_aload_n C 0 dX8_draws_80 rfl rfl ?_
      refine sm_callVV (k := 0) C [] (mc_X8_takeBack hw) gm_X8_takeBack gl_M_308 gi_X8_takeBack ge_X8_takeBack (mob_M hw rfl) rfl ⟨Nat.le_of_ble_eq_true rfl, Nat.le_of_ble_eq_true rfl⟩ rfl (Nat.le_of_ble_eq_true rfl) dX8_draws_81 h (fun v1 s2 h => ?_)
      refine sm_aload_n C 0 dX8_draws_84 rfl rfl ?_
      refine sm_aload_n C 0 dX8_draws_85 rfl rfl ?_
      refine mr_M_costs C hw (k := 0) rfl gf_M_41 dX8_draws_86 ?_
      refine sm_callVI (k := 0) C [.ref (sm_ad (sm_w X) 8)] (mc_X8_sumOf hw 8 rfl) gm_X8_sumOf gl_M_311 gi_X8_sumOf ge_X8_sumOf (mob_M hw rfl) rfl ⟨Nat.le_of_ble_eq_true rfl, Nat.le_of_ble_eq_true rfl⟩ rfl (Nat.le_of_ble_eq_true rfl) dX8_draws_89 h (fun v3 s4 h => ?_)
      exact sm_iret C dX8_draws_92 h
    · refine sm_iload_n C 1 dX8_draws_18 rfl rfl ?_
      refine sm_ldcw C gk_M_368 dX8_draws_19 ?_
      refine sm_imul C dX8_draws_22 h (fun v5 h => ?_)
      refine sm_sipush (v := 12345) C dX8_draws_23 (by decide) ?_
      refine sm_iadd C dX8_draws_26 h (fun v6 h => ?_)
      refine sm_istore_n (lv' := [(2, .int v6), (0, .ref (sm_ad (sm_w X) 0)), (3, .int l3)]) C dX8_draws_27 rfl (by decide) rfl ?_
      refine sm_iload_n C 0 dX8_draws_28 rfl rfl ?_
      refine sm_bipush (v := 9) C dX8_draws_29 (by decide) ?_
      refine sm_iushr C dX8_draws_31 h (fun v7 h => ?_)
      refine sm_bipush (v := 100) C dX8_draws_32 (by decide) ?_
      refine sm_irem C dX8_draws_34 h (fun v8 h => ?_)
      refine sm_istore (lv' := [(4, .int v8), (2, .int v6), (0, .ref (sm_ad (sm_w X) 0)), (3, .int l3)]) C dX8_draws_35 (by decide) rfl ?_
      refine sm_aload_n C 2 dX8_draws_37 rfl rfl ?_
      refine sm_iload_n C 3 dX8_draws_38 rfl rfl ?_
      refine sm_iload C 0 dX8_draws_39 rfl ?_
      refine sm_aload_n C 2 dX8_draws_41 rfl rfl ?_
      refine mr_M_left C hw (k := 0) rfl gf_M_23 dX8_draws_42 h (fun v9 h => ?_)
      refine sm_icmp_ge C 52 dX8_draws_45 (by decide) h (fun h => ?_) (fun h => ?_)
      · refine sm_iload C 0 dX8_draws_52 rfl ?_
        refine sm_aload_n C 2 dX8_draws_54 rfl rfl ?_
        refine mr_M_left C hw (k := 0) rfl gf_M_23 dX8_draws_55 h (fun v10 h => ?_)
        refine sm_aload_n C 2 dX8_draws_58 rfl rfl ?_
        refine mr_M_right C hw (k := 0) rfl gf_M_26 dX8_draws_59 h (fun v11 h => ?_)
        refine sm_iadd C dX8_draws_62 h (fun v12 h => ?_)
        refine sm_icmp_ge C 70 dX8_draws_63 (by decide) h (fun h => ?_) (fun h => ?_)
        · refine sm_iconst (v := 0) C dX8_draws_70 (by decide) ?_
          refine sm_sub (lv' := [(0, .ref (sm_ad (sm_w X) 0)), (2, .int v6), (3, .int l3)]) [2, 1, 3] rfl ?_
          exact mk_X8_draws_p71 C hw ih s0 v6 l3 (0 : Int32) l3 h
        · refine sm_iconst (v := 1) C dX8_draws_66 (by decide) ?_
          refine sm_goto C 71 dX8_draws_67 (by decide) ?_
          refine sm_sub (lv' := [(0, .ref (sm_ad (sm_w X) 0)), (2, .int v6), (3, .int l3)]) [2, 1, 3] rfl ?_
          exact mk_X8_draws_p71 C hw ih s0 v6 l3 (1 : Int32) l3 h
      · refine sm_iconst (v := (-1)) C dX8_draws_48 (by decide) ?_
        refine sm_goto C 71 dX8_draws_49 (by decide) ?_
        refine sm_sub (lv' := [(0, .ref (sm_ad (sm_w X) 0)), (2, .int v6), (3, .int l3)]) [2, 1, 3] rfl ?_
        exact mk_X8_draws_p71 C hw ih s0 v6 l3 (-1 : Int32) l3 h
set_option maxRecDepth 4000 in
theorem mc_X8_draws {w : sm_WD} {l : Launch} (hw : mo_is w) (a1 : Int32) : sm_CI w l yX8_draws prog_10_method_61_code 5 (some .int) 76 1807 [.ref (sm_ad w 0), .int a1] (fun s => mf_X8_draws a1 s) := by
  refine sm_CI.of (by decide +kernel) (Nat.le_of_ble_eq_true rfl) (fun X s0 R hXw hXl C h => ?_)
  subst hXw
  subst hXl
  have h : mf_X8_draws a1 s0 = some R := h
  show sm_V X (sm_QI X R) 5 s0 0 [(0, .ref (sm_ad (sm_w X) 0)), (1, .int a1)] []
  unfold mf_X8_draws at h
  refine sm_aload_n C 0 dX8_draws_0 rfl rfl ?_
  refine sm_callVV (k := 0) C [] (mc_X8_layAside hw) gm_X8_layAside gl_M_302 gi_X8_layAside ge_X8_layAside (mob_M hw rfl) rfl ⟨Nat.le_of_ble_eq_true rfl, Nat.le_of_ble_eq_true rfl⟩ rfl (Nat.le_of_ble_eq_true rfl) dX8_draws_1 h (fun v1 s2 h => ?_)
  refine sm_aload_n C 0 dX8_draws_4 rfl rfl ?_
  refine sm_callVV (k := 0) C [] (mc_X8_begins hw) gm_X8_begins gl_M_292 gi_X8_begins ge_X8_begins (mob_M hw rfl) rfl ⟨Nat.le_of_ble_eq_true rfl, Nat.le_of_ble_eq_true rfl⟩ rfl (Nat.le_of_ble_eq_true rfl) dX8_draws_5 h (fun v3 s4 h => ?_)
  refine sm_iload_n C 1 dX8_draws_8 rfl rfl ?_
  refine sm_istore_n (lv' := [(2, .int a1), (0, .ref (sm_ad (sm_w X) 0)), (1, .int a1)]) C dX8_draws_9 rfl (by decide) rfl ?_
  refine sm_iconst (v := 0) C dX8_draws_10 (by decide) ?_
  refine sm_istore_n (lv' := [(3, .int (0 : Int32)), (2, .int a1), (0, .ref (sm_ad (sm_w X) 0)), (1, .int a1)]) C dX8_draws_11 rfl (by decide) rfl ?_
  refine sm_sub (lv' := [(0, .ref (sm_ad (sm_w X) 0)), (2, .int a1), (3, .int (0 : Int32))]) [2, 1, 0] rfl ?_
  exact mk_X8_draws_p12 C hw sm_F s4 a1 (0 : Int32) h
noncomputable def mf_X8_drawn (a1 : Int32) (s0 : sm_St) : Option (Int32 × sm_St) :=
  sm_c (mf_X8_draws a1 s0) fun v1 s2 =>
  some (v1, s2)
set_option maxRecDepth 4000 in
theorem mc_X8_drawn {w : sm_WD} {l : Launch} (hw : mo_is w) (a1 : Int32) : sm_CI w l yX8_drawn prog_10_method_62_code 2 (some .int) 77 1831 [.ref (sm_ad w 0), .int a1] (fun s => mf_X8_drawn a1 s) := by
  refine sm_CI.of (by decide +kernel) (Nat.le_of_ble_eq_true rfl) (fun X s0 R hXw hXl C h => ?_)
  subst hXw
  subst hXl
  have h : mf_X8_drawn a1 s0 = some R := h
  show sm_V X (sm_QI X R) 2 s0 0 [(0, .ref (sm_ad (sm_w X) 0)), (1, .int a1)] []
  unfold mf_X8_drawn at h
  refine sm_aload_n C 0 dX8_drawn_0 rfl rfl ?_
  refine sm_iload_n C 1 dX8_drawn_1 rfl rfl ?_
  refine sm_callVI (k := 0) C [.int a1] (mc_X8_draws hw a1) gm_X8_draws gl_M_369 gi_X8_draws ge_X8_draws (mob_M hw rfl) rfl ⟨Nat.le_of_ble_eq_true rfl, Nat.le_of_ble_eq_true rfl⟩ rfl (Nat.le_of_ble_eq_true rfl) dX8_drawn_2 h (fun v1 s2 h => ?_)
  exact sm_iret C dX8_drawn_5 h
noncomputable def mf_X8_chance_p65 (a1 : Int32) (a2 : Int32) (a3 : Int32) (k32 : sm_St → Int64 → Int32 → Option (Int64 × sm_St)) (s0 : sm_St) (l6 : Int32) (t0 : Int64) (t1 : Int64) : Option (Int64 × sm_St) :=
  sm_b (t1 + t0) fun v1 =>
  sm_b (l6 + Int32.ofInt 1) fun v2 =>
  k32 s0 v1 v2
noncomputable def mf_X8_chance_p32 (a1 : Int32) (a2 : Int32) (a3 : Int32) : Nat → sm_St → Int64 → Int32 → Option (Int64 × sm_St)
  | 0, _, _, _ => none
  | n + 1, s0, l4, l6 =>
  if a2 ≤ l6 then (
  sm_b (a2.toInt64) fun v1 =>
  sm_c (mf_X8_lowest l4 v1 a3 s0) fun v2 s3 =>
  some (v2, s3))
  else (
  sm_b (a1 + l6) fun v4 =>
  sm_c (mf_X8_draws v4 s0) fun v5 s6 =>
  sm_c (mf_X8_sumOf 11 s6) fun v7 s8 =>
  if v7 = 0 then (
  mf_X8_chance_p65 a1 a2 a3 (mf_X8_chance_p32 a1 a2 a3 n) s8 l6 (1 : Int64) l4)
  else (
  mf_X8_chance_p65 a1 a2 a3 (mf_X8_chance_p32 a1 a2 a3 n) s8 l6 (0 : Int64) l4))
noncomputable def mf_X8_chance (a1 : Int32) (a2 : Int32) (a3 : Int32) (s0 : sm_St) : Option (Int64 × sm_St) :=
  sm_b (a2.toInt64) fun v1 =>
  sm_c (mf_X8_in v1 (1 : Int64) (20 : Int64) s0) fun v2 s3 =>
  if v2 = 0 then (
  some ((-4611686018427387904 : Int64), s3))
  else (
  sm_b (a3.toInt64) fun v4 =>
  sm_c (mf_X8_in v4 (0 : Int64) (1 : Int64) s3) fun v5 s6 =>
  if v5 = 0 then (
  some ((-4611686018427387904 : Int64), s6))
  else (
  mf_X8_chance_p32 a1 a2 a3 sm_F s6 (0 : Int64) (0 : Int32)))
set_option maxRecDepth 4000 in
theorem mk_X8_chance_p65 {X : sm_VC} (C : sm_Cx X prog_10_method_63_code 7 "SmokeGoesToModel" 77 1831 (some .long)) (hw : mo_is (sm_w X)) {a1 : Int32} {a2 : Int32} {a3 : Int32}  {R : Int64 × sm_St} {k32 : sm_St → Int64 → Int32 → Option (Int64 × sm_St)} (hk32 : ∀ (s : sm_St) (l4 : Int64) (l6 : Int32), k32 s l4 l6 = some R → sm_V X (sm_QL X R) 7 s 32 [(0, .ref (sm_ad (sm_w X) 0)), (1, .int a1), (2, .int a2), (3, .int a3), (4, .long l4), (6, .int l6)] []) (s0 : sm_St) (l6 : Int32) (t0 : Int64) (t1 : Int64)  (h : mf_X8_chance_p65 a1 a2 a3 k32 s0 l6 t0 t1 = some R) : sm_V X (sm_QL X R) 7 s0 65 [(0, .ref (sm_ad (sm_w X) 0)), (1, .int a1), (2, .int a2), (3, .int a3), (6, .int l6)] [.long t0, .long t1] := by
  unfold mf_X8_chance_p65 at h
  refine sm_ladd C dX8_chance_65 h (fun v1 h => ?_)
  refine sm_lstore (lv' := [(4, .long v1), (0, .ref (sm_ad (sm_w X) 0)), (1, .int a1), (2, .int a2), (3, .int a3), (6, .int l6)]) C dX8_chance_66 (by decide) rfl ?_
  refine sm_iinc (lv' := fun v2 => [(6, .int v2), (4, .long v1), (0, .ref (sm_ad (sm_w X) 0)), (1, .int a1), (2, .int a2), (3, .int a3)]) C 5 dX8_chance_68 rfl (by decide) (fun _ => rfl) h (fun v2 h => ?_)
  refine sm_goto C 32 dX8_chance_71 (by decide) ?_
  refine sm_sub (lv' := [(0, .ref (sm_ad (sm_w X) 0)), (1, .int a1), (2, .int a2), (3, .int a3), (4, .long v1), (6, .int v2)]) [2, 3, 4, 5, 1, 0] rfl ?_
  exact hk32 s0 v1 v2 h
set_option maxRecDepth 4000 in
theorem mk_X8_chance_p32 {X : sm_VC} (C : sm_Cx X prog_10_method_63_code 7 "SmokeGoesToModel" 77 1831 (some .long)) (hw : mo_is (sm_w X)) {a1 : Int32} {a2 : Int32} {a3 : Int32}  {R : Int64 × sm_St}   : ∀ (n : Nat) (s0 : sm_St) (l4 : Int64) (l6 : Int32) , mf_X8_chance_p32 a1 a2 a3 n s0 l4 l6 = some R → sm_V X (sm_QL X R) 7 s0 32 [(0, .ref (sm_ad (sm_w X) 0)), (1, .int a1), (2, .int a2), (3, .int a3), (4, .long l4), (6, .int l6)] [] := by
  intro n
  induction n with
  | zero =>
    intro s0 l4 l6 h
    have h : (none : Option (Int64 × sm_St)) = some R := h
    cases h
  | succ n ih =>
    intro s0 l4 l6 h
    unfold mf_X8_chance_p32 at h
    refine sm_iload C 5 dX8_chance_32 rfl ?_
    refine sm_iload_n C 2 dX8_chance_34 rfl rfl ?_
    refine sm_icmp_ge C 74 dX8_chance_35 (by decide) h (fun h => ?_) (fun h => ?_)
    · refine sm_lload C 4 dX8_chance_74 rfl ?_
      refine sm_iload_n C 2 dX8_chance_76 rfl rfl ?_
      refine sm_i2l C dX8_chance_77 h (fun v1 h => ?_)
      refine sm_iload_n C 3 dX8_chance_78 rfl rfl ?_
      refine sm_callSL C [.long l4, .long v1, .int a3] (mc_X8_lowest hw l4 v1 a3) gm_X8_lowest gl_M_334 gs_X8_lowest rfl ⟨Nat.le_of_ble_eq_true rfl, Nat.le_of_ble_eq_true rfl⟩ rfl (Nat.le_of_ble_eq_true rfl) dX8_chance_79 h (fun v2 s3 h => ?_)
      exact sm_lret C dX8_chance_82 h
    · refine sm_aload_n C 0 dX8_chance_38 rfl rfl ?_
      refine sm_iload_n C 1 dX8_chance_39 rfl rfl ?_
      refine sm_iload C 5 dX8_chance_40 rfl ?_
      refine sm_iadd C dX8_chance_42 h (fun v4 h => ?_)
      refine sm_callVI (k := 0) C [.int v4] (mc_X8_draws hw v4) gm_X8_draws gl_M_369 gi_X8_draws ge_X8_draws (mob_M hw rfl) rfl ⟨Nat.le_of_ble_eq_true rfl, Nat.le_of_ble_eq_true rfl⟩ rfl (Nat.le_of_ble_eq_true rfl) dX8_chance_43 h (fun v5 s6 h => ?_)
      refine sm_pop C dX8_chance_46 rfl ?_
      refine sm_lload C 4 dX8_chance_47 rfl ?_
      refine sm_aload_n C 0 dX8_chance_49 rfl rfl ?_
      refine sm_aload_n C 0 dX8_chance_50 rfl rfl ?_
      refine mr_M_risen C hw (k := 0) rfl gf_M_50 dX8_chance_51 ?_
      refine sm_callVI (k := 0) C [.ref (sm_ad (sm_w X) 11)] (mc_X8_sumOf hw 11 rfl) gm_X8_sumOf gl_M_311 gi_X8_sumOf ge_X8_sumOf (mob_M hw rfl) rfl ⟨Nat.le_of_ble_eq_true rfl, Nat.le_of_ble_eq_true rfl⟩ rfl (Nat.le_of_ble_eq_true rfl) dX8_chance_54 h (fun v7 s8 h => ?_)
      refine sm_if_ne C 64 dX8_chance_57 (by decide) h (fun h => ?_) (fun h => ?_)
      · refine sm_lconst (v := 0) C dX8_chance_64 (by decide) ?_
        refine sm_sub (lv' := [(0, .ref (sm_ad (sm_w X) 0)), (1, .int a1), (2, .int a2), (3, .int a3), (6, .int l6)]) [0, 1, 2, 3, 5] rfl ?_
        exact mk_X8_chance_p65 C hw ih s8 l6 (0 : Int64) l4 h
      · refine sm_lconst (v := 1) C dX8_chance_60 (by decide) ?_
        refine sm_goto C 65 dX8_chance_61 (by decide) ?_
        refine sm_sub (lv' := [(0, .ref (sm_ad (sm_w X) 0)), (1, .int a1), (2, .int a2), (3, .int a3), (6, .int l6)]) [0, 1, 2, 3, 5] rfl ?_
        exact mk_X8_chance_p65 C hw ih s8 l6 (1 : Int64) l4 h
set_option maxRecDepth 4000 in
theorem mc_X8_chance {w : sm_WD} {l : Launch} (hw : mo_is w) (a1 : Int32) (a2 : Int32) (a3 : Int32) : sm_CL w l yX8_chance prog_10_method_63_code 7 (some .long) 77 1831 [.ref (sm_ad w 0), .int a1, .int a2, .int a3] (fun s => mf_X8_chance a1 a2 a3 s) := by
  refine sm_CL.of (by decide +kernel) (Nat.le_of_ble_eq_true rfl) (fun X s0 R hXw hXl C h => ?_)
  subst hXw
  subst hXl
  have h : mf_X8_chance a1 a2 a3 s0 = some R := h
  show sm_V X (sm_QL X R) 7 s0 0 [(0, .ref (sm_ad (sm_w X) 0)), (1, .int a1), (2, .int a2), (3, .int a3)] []
  unfold mf_X8_chance at h
  refine sm_iload_n C 2 dX8_chance_0 rfl rfl ?_
  refine sm_i2l C dX8_chance_1 h (fun v1 h => ?_)
  refine sm_lconst (v := 1) C dX8_chance_2 (by decide) ?_
  refine sm_ldc2 C gk_M_372 dX8_chance_3 ?_
  refine sm_callSI C [.long v1, .long (1 : Int64), .long (20 : Int64)] (mc_X8_in hw v1 (1 : Int64) (20 : Int64)) gm_X8_in gl_M_104 gs_X8_in rfl ⟨Nat.le_of_ble_eq_true rfl, Nat.le_of_ble_eq_true rfl⟩ rfl (Nat.le_of_ble_eq_true rfl) dX8_chance_6 h (fun v2 s3 h => ?_)
  refine sm_if_eq C 22 dX8_chance_9 (by decide) h (fun h => ?_) (fun h => ?_)
  · refine sm_ldc2 C gk_M_329 dX8_chance_22 ?_
    exact sm_lret C dX8_chance_25 h
  · refine sm_iload_n C 3 dX8_chance_12 rfl rfl ?_
    refine sm_i2l C dX8_chance_13 h (fun v4 h => ?_)
    refine sm_lconst (v := 0) C dX8_chance_14 (by decide) ?_
    refine sm_lconst (v := 1) C dX8_chance_15 (by decide) ?_
    refine sm_callSI C [.long v4, .long (0 : Int64), .long (1 : Int64)] (mc_X8_in hw v4 (0 : Int64) (1 : Int64)) gm_X8_in gl_M_104 gs_X8_in rfl ⟨Nat.le_of_ble_eq_true rfl, Nat.le_of_ble_eq_true rfl⟩ rfl (Nat.le_of_ble_eq_true rfl) dX8_chance_16 h (fun v5 s6 h => ?_)
    refine sm_if_ne C 26 dX8_chance_19 (by decide) h (fun h => ?_) (fun h => ?_)
    · refine sm_lconst (v := 0) C dX8_chance_26 (by decide) ?_
      refine sm_lstore (lv' := [(4, .long (0 : Int64)), (0, .ref (sm_ad (sm_w X) 0)), (1, .int a1), (2, .int a2), (3, .int a3)]) C dX8_chance_27 (by decide) rfl ?_
      refine sm_iconst (v := 0) C dX8_chance_29 (by decide) ?_
      refine sm_istore (lv' := [(6, .int (0 : Int32)), (4, .long (0 : Int64)), (0, .ref (sm_ad (sm_w X) 0)), (1, .int a1), (2, .int a2), (3, .int a3)]) C dX8_chance_30 (by decide) rfl ?_
      refine sm_sub (lv' := [(0, .ref (sm_ad (sm_w X) 0)), (1, .int a1), (2, .int a2), (3, .int a3), (4, .long (0 : Int64)), (6, .int (0 : Int32))]) [2, 3, 4, 5, 1, 0] rfl ?_
      exact mk_X8_chance_p32 C hw sm_F s6 (0 : Int64) (0 : Int32) h
    · refine sm_ldc2 C gk_M_329 dX8_chance_22 ?_
      exact sm_lret C dX8_chance_25 h
noncomputable def mf_X8_image_p2  : Nat → sm_St → Int32 → Option (Int32 × sm_St)
  | 0, _, _ => none
  | n + 1, s0, l1 =>
  if (5 : Int32) ≤ l1 then (
  sm_b (s0.1 0 7) fun v1 =>
  sm_g (sm_in (10 : Int32) 15) <| sm_b (sm_sI s0 19 (10 : Int32).toNatClampNeg v1) fun s2 =>
  sm_b (s2.1 0 8) fun v3 =>
  sm_g (sm_in (11 : Int32) 15) <| sm_b (sm_sI s2 19 (11 : Int32).toNatClampNeg v3) fun s4 =>
  sm_b (s4.1 0 9) fun v5 =>
  sm_g (sm_in (12 : Int32) 15) <| sm_b (sm_sI s4 19 (12 : Int32).toNatClampNeg v5) fun s6 =>
  sm_b (s6.1 0 10) fun v7 =>
  sm_g (sm_in (13 : Int32) 15) <| sm_b (sm_sI s6 19 (13 : Int32).toNatClampNeg v7) fun s8 =>
  sm_b (s8.1 0 11) fun v9 =>
  sm_g (sm_in (14 : Int32) 15) <| sm_b (sm_sI s8 19 (14 : Int32).toNatClampNeg v9) fun s10 =>
  sm_b (s10.1 0 15) fun v11 =>
  sm_b (sm_sI s10 0 51 v11) fun s12 =>
  sm_b (s12.1 0 4) fun v13 =>
  sm_b (sm_sI s12 0 52 v13) fun s14 =>
  sm_b (s14.1 0 15) fun v15 =>
  some (v15, s14))
  else (
  sm_g (sm_in l1 5) <| sm_b (s0.1 5 l1.toNatClampNeg) fun v16 =>
  sm_g (sm_in l1 15) <| sm_b (sm_sI s0 19 l1.toNatClampNeg v16) fun s17 =>
  sm_b ((5 : Int32) + l1) fun v18 =>
  sm_g (sm_in l1 5) <| sm_b (s17.1 6 l1.toNatClampNeg) fun v19 =>
  sm_g (sm_in v18 15) <| sm_b (sm_sI s17 19 v18.toNatClampNeg v19) fun s20 =>
  sm_b (l1 + Int32.ofInt 1) fun v21 =>
  (mf_X8_image_p2 n) s20 v21)
noncomputable def mf_X8_image (s0 : sm_St) : Option (Int32 × sm_St) :=
  mf_X8_image_p2 sm_F s0 (0 : Int32)
set_option maxRecDepth 4000 in
theorem mk_X8_image_p2 {X : sm_VC} (C : sm_Cx X prog_10_method_64_code 2 "SmokeGoesToModel" 2 100 (some .int)) (hw : mo_is (sm_w X))   {R : Int32 × sm_St}   : ∀ (n : Nat) (s0 : sm_St) (l1 : Int32) , mf_X8_image_p2 n s0 l1 = some R → sm_V X (sm_QI X R) 2 s0 2 [(0, .ref (sm_ad (sm_w X) 0)), (1, .int l1)] [] := by
  intro n
  induction n with
  | zero =>
    intro s0 l1 h
    have h : (none : Option (Int32 × sm_St)) = some R := h
    cases h
  | succ n ih =>
    intro s0 l1 h
    unfold mf_X8_image_p2 at h
    refine sm_iload_n C 1 dX8_image_2 rfl rfl ?_
    refine sm_iconst (v := 5) C dX8_image_3 (by decide) ?_
    refine sm_icmp_ge C 39 dX8_image_4 (by decide) h (fun h => ?_) (fun h => ?_)
    · refine sm_aload_n C 0 dX8_image_39 rfl rfl ?_
      refine mr_M_kept C hw (k := 0) rfl gf_M_75 dX8_image_40 ?_
      refine sm_bipush (v := 10) C dX8_image_43 (by decide) ?_
      refine sm_aload_n C 0 dX8_image_45 rfl rfl ?_
      refine mr_M_smoke C hw (k := 0) rfl gf_M_120 dX8_image_46 h (fun v1 h => ?_)
      refine ma_iast C hw (k := 19) rfl rfl dX8_image_49 h (fun s2 h => ?_)
      refine sm_aload_n C 0 dX8_image_50 rfl rfl ?_
      refine mr_M_kept C hw (k := 0) rfl gf_M_75 dX8_image_51 ?_
      refine sm_bipush (v := 11) C dX8_image_54 (by decide) ?_
      refine sm_aload_n C 0 dX8_image_56 rfl rfl ?_
      refine mr_M_left C hw (k := 0) rfl gf_M_23 dX8_image_57 h (fun v3 h => ?_)
      refine ma_iast C hw (k := 19) rfl rfl dX8_image_60 h (fun s4 h => ?_)
      refine sm_aload_n C 0 dX8_image_61 rfl rfl ?_
      refine mr_M_kept C hw (k := 0) rfl gf_M_75 dX8_image_62 ?_
      refine sm_bipush (v := 12) C dX8_image_65 (by decide) ?_
      refine sm_aload_n C 0 dX8_image_67 rfl rfl ?_
      refine mr_M_right C hw (k := 0) rfl gf_M_26 dX8_image_68 h (fun v5 h => ?_)
      refine ma_iast C hw (k := 19) rfl rfl dX8_image_71 h (fun s6 h => ?_)
      refine sm_aload_n C 0 dX8_image_72 rfl rfl ?_
      refine mr_M_kept C hw (k := 0) rfl gf_M_75 dX8_image_73 ?_
      refine sm_bipush (v := 13) C dX8_image_76 (by decide) ?_
      refine sm_aload_n C 0 dX8_image_78 rfl rfl ?_
      refine mr_M_tents C hw (k := 0) rfl gf_M_123 dX8_image_79 h (fun v7 h => ?_)
      refine ma_iast C hw (k := 19) rfl rfl dX8_image_82 h (fun s8 h => ?_)
      refine sm_aload_n C 0 dX8_image_83 rfl rfl ?_
      refine mr_M_kept C hw (k := 0) rfl gf_M_75 dX8_image_84 ?_
      refine sm_bipush (v := 14) C dX8_image_87 (by decide) ?_
      refine sm_aload_n C 0 dX8_image_89 rfl rfl ?_
      refine mr_M_eddy C hw (k := 0) rfl gf_M_126 dX8_image_90 h (fun v9 h => ?_)
      refine ma_iast C hw (k := 19) rfl rfl dX8_image_93 h (fun s10 h => ?_)
      refine sm_aload_n C 0 dX8_image_94 rfl rfl ?_
      refine sm_aload_n C 0 dX8_image_95 rfl rfl ?_
      refine mr_M_sitterMany C hw (k := 0) rfl gf_M_101 dX8_image_96 h (fun v11 h => ?_)
      refine mp_M_manyKept C hw (k := 0) rfl gf_M_78 dX8_image_99 h (fun s12 h => ?_)
      refine sm_aload_n C 0 dX8_image_102 rfl rfl ?_
      refine sm_aload_n C 0 dX8_image_103 rfl rfl ?_
      refine mr_M_rule C hw (k := 0) rfl gf_M_266 dX8_image_104 h (fun v13 h => ?_)
      refine mp_M_ruleKept C hw (k := 0) rfl gf_M_374 dX8_image_107 h (fun s14 h => ?_)
      refine sm_aload_n C 0 dX8_image_110 rfl rfl ?_
      refine mr_M_sitterMany C hw (k := 0) rfl gf_M_101 dX8_image_111 h (fun v15 h => ?_)
      exact sm_iret C dX8_image_114 h
    · refine sm_aload_n C 0 dX8_image_7 rfl rfl ?_
      refine mr_M_kept C hw (k := 0) rfl gf_M_75 dX8_image_8 ?_
      refine sm_iload_n C 1 dX8_image_11 rfl rfl ?_
      refine sm_aload_n C 0 dX8_image_12 rfl rfl ?_
      refine mr_M_numbers C hw (k := 0) rfl gf_M_32 dX8_image_13 ?_
      refine sm_iload_n C 1 dX8_image_16 rfl rfl ?_
      refine ma_iald C hw (k := 5) rfl rfl dX8_image_17 h (fun v16 h => ?_)
      refine ma_iast C hw (k := 19) rfl rfl dX8_image_18 h (fun s17 h => ?_)
      refine sm_aload_n C 0 dX8_image_19 rfl rfl ?_
      refine mr_M_kept C hw (k := 0) rfl gf_M_75 dX8_image_20 ?_
      refine sm_iconst (v := 5) C dX8_image_23 (by decide) ?_
      refine sm_iload_n C 1 dX8_image_24 rfl rfl ?_
      refine sm_iadd C dX8_image_25 h (fun v18 h => ?_)
      refine sm_aload_n C 0 dX8_image_26 rfl rfl ?_
      refine mr_M_places C hw (k := 0) rfl gf_M_35 dX8_image_27 ?_
      refine sm_iload_n C 1 dX8_image_30 rfl rfl ?_
      refine ma_iald C hw (k := 6) rfl rfl dX8_image_31 h (fun v19 h => ?_)
      refine ma_iast C hw (k := 19) rfl rfl dX8_image_32 h (fun s20 h => ?_)
      refine sm_iinc (lv' := fun v21 => [(1, .int v21), (0, .ref (sm_ad (sm_w X) 0))]) C 1 dX8_image_33 rfl (by decide) (fun _ => rfl) h (fun v21 h => ?_)
      refine sm_goto C 2 dX8_image_36 (by decide) ?_
      refine sm_sub (lv' := [(0, .ref (sm_ad (sm_w X) 0)), (1, .int v21)]) [1, 0] rfl ?_
      exact ih s20 v21 h
set_option maxRecDepth 4000 in
theorem mc_X8_image {w : sm_WD} {l : Launch} (hw : mo_is w)  : sm_CI w l yX8_image prog_10_method_64_code 2 (some .int) 2 100 [.ref (sm_ad w 0)] (fun s => mf_X8_image s) := by
  refine sm_CI.of (by decide +kernel) (Nat.le_of_ble_eq_true rfl) (fun X s0 R hXw hXl C h => ?_)
  subst hXw
  subst hXl
  have h : mf_X8_image s0 = some R := h
  show sm_V X (sm_QI X R) 2 s0 0 [(0, .ref (sm_ad (sm_w X) 0))] []
  unfold mf_X8_image at h
  refine sm_iconst (v := 0) C dX8_image_0 (by decide) ?_
  refine sm_istore_n (lv' := [(1, .int (0 : Int32)), (0, .ref (sm_ad (sm_w X) 0))]) C dX8_image_1 rfl (by decide) rfl ?_
  refine sm_sub (lv' := [(0, .ref (sm_ad (sm_w X) 0)), (1, .int (0 : Int32))]) [1, 0] rfl ?_
  exact mk_X8_image_p2 C hw sm_F s0 (0 : Int32) h
noncomputable def mf_X8_back_p13  : Nat → sm_St → Int32 → Option (Int32 × sm_St)
  | 0, _, _ => none
  | n + 1, s0, l1 =>
  if (5 : Int32) ≤ l1 then (
  sm_g (sm_in (10 : Int32) 15) <| sm_b (s0.1 19 (10 : Int32).toNatClampNeg) fun v1 =>
  sm_b (sm_sI s0 0 7 v1) fun s2 =>
  sm_g (sm_in (11 : Int32) 15) <| sm_b (s2.1 19 (11 : Int32).toNatClampNeg) fun v3 =>
  sm_b (sm_sI s2 0 8 v3) fun s4 =>
  sm_g (sm_in (12 : Int32) 15) <| sm_b (s4.1 19 (12 : Int32).toNatClampNeg) fun v5 =>
  sm_b (sm_sI s4 0 9 v5) fun s6 =>
  sm_g (sm_in (13 : Int32) 15) <| sm_b (s6.1 19 (13 : Int32).toNatClampNeg) fun v7 =>
  sm_b (sm_sI s6 0 10 v7) fun s8 =>
  sm_g (sm_in (14 : Int32) 15) <| sm_b (s8.1 19 (14 : Int32).toNatClampNeg) fun v9 =>
  sm_b (sm_sI s8 0 11 v9) fun s10 =>
  sm_b (s10.1 0 51) fun v11 =>
  sm_b (sm_sI s10 0 15 v11) fun s12 =>
  sm_b (s12.1 0 52) fun v13 =>
  sm_b (sm_sI s12 0 4 v13) fun s14 =>
  sm_b (s14.1 0 15) fun v15 =>
  some (v15, s14))
  else (
  sm_g (sm_in l1 15) <| sm_b (s0.1 19 l1.toNatClampNeg) fun v16 =>
  sm_g (sm_in l1 5) <| sm_b (sm_sI s0 5 l1.toNatClampNeg v16) fun s17 =>
  sm_b ((5 : Int32) + l1) fun v18 =>
  sm_g (sm_in v18 15) <| sm_b (s17.1 19 v18.toNatClampNeg) fun v19 =>
  sm_g (sm_in l1 5) <| sm_b (sm_sI s17 6 l1.toNatClampNeg v19) fun s20 =>
  sm_b (l1 + Int32.ofInt 1) fun v21 =>
  (mf_X8_back_p13 n) s20 v21)
noncomputable def mf_X8_back (s0 : sm_St) : Option (Int32 × sm_St) :=
  sm_b (s0.1 0 51) fun v1 =>
  if v1 = (-1 : Int32) then (
  some ((-3 : Int32), s0))
  else (
  mf_X8_back_p13 sm_F s0 (0 : Int32))
set_option maxRecDepth 4000 in
theorem mk_X8_back_p13 {X : sm_VC} (C : sm_Cx X prog_10_method_65_code 2 "SmokeGoesToModel" 2 100 (some .int)) (hw : mo_is (sm_w X))   {R : Int32 × sm_St}   : ∀ (n : Nat) (s0 : sm_St) (l1 : Int32) , mf_X8_back_p13 n s0 l1 = some R → sm_V X (sm_QI X R) 2 s0 13 [(0, .ref (sm_ad (sm_w X) 0)), (1, .int l1)] [] := by
  intro n
  induction n with
  | zero =>
    intro s0 l1 h
    have h : (none : Option (Int32 × sm_St)) = some R := h
    cases h
  | succ n ih =>
    intro s0 l1 h
    unfold mf_X8_back_p13 at h
    refine sm_iload_n C 1 dX8_back_13 rfl rfl ?_
    refine sm_iconst (v := 5) C dX8_back_14 (by decide) ?_
    refine sm_icmp_ge C 50 dX8_back_15 (by decide) h (fun h => ?_) (fun h => ?_)
    · refine sm_aload_n C 0 dX8_back_50 rfl rfl ?_
      refine sm_aload_n C 0 dX8_back_51 rfl rfl ?_
      refine mr_M_kept C hw (k := 0) rfl gf_M_75 dX8_back_52 ?_
      refine sm_bipush (v := 10) C dX8_back_55 (by decide) ?_
      refine ma_iald C hw (k := 19) rfl rfl dX8_back_57 h (fun v1 h => ?_)
      refine mp_M_smoke C hw (k := 0) rfl gf_M_120 dX8_back_58 h (fun s2 h => ?_)
      refine sm_aload_n C 0 dX8_back_61 rfl rfl ?_
      refine sm_aload_n C 0 dX8_back_62 rfl rfl ?_
      refine mr_M_kept C hw (k := 0) rfl gf_M_75 dX8_back_63 ?_
      refine sm_bipush (v := 11) C dX8_back_66 (by decide) ?_
      refine ma_iald C hw (k := 19) rfl rfl dX8_back_68 h (fun v3 h => ?_)
      refine mp_M_left C hw (k := 0) rfl gf_M_23 dX8_back_69 h (fun s4 h => ?_)
      refine sm_aload_n C 0 dX8_back_72 rfl rfl ?_
      refine sm_aload_n C 0 dX8_back_73 rfl rfl ?_
      refine mr_M_kept C hw (k := 0) rfl gf_M_75 dX8_back_74 ?_
      refine sm_bipush (v := 12) C dX8_back_77 (by decide) ?_
      refine ma_iald C hw (k := 19) rfl rfl dX8_back_79 h (fun v5 h => ?_)
      refine mp_M_right C hw (k := 0) rfl gf_M_26 dX8_back_80 h (fun s6 h => ?_)
      refine sm_aload_n C 0 dX8_back_83 rfl rfl ?_
      refine sm_aload_n C 0 dX8_back_84 rfl rfl ?_
      refine mr_M_kept C hw (k := 0) rfl gf_M_75 dX8_back_85 ?_
      refine sm_bipush (v := 13) C dX8_back_88 (by decide) ?_
      refine ma_iald C hw (k := 19) rfl rfl dX8_back_90 h (fun v7 h => ?_)
      refine mp_M_tents C hw (k := 0) rfl gf_M_123 dX8_back_91 h (fun s8 h => ?_)
      refine sm_aload_n C 0 dX8_back_94 rfl rfl ?_
      refine sm_aload_n C 0 dX8_back_95 rfl rfl ?_
      refine mr_M_kept C hw (k := 0) rfl gf_M_75 dX8_back_96 ?_
      refine sm_bipush (v := 14) C dX8_back_99 (by decide) ?_
      refine ma_iald C hw (k := 19) rfl rfl dX8_back_101 h (fun v9 h => ?_)
      refine mp_M_eddy C hw (k := 0) rfl gf_M_126 dX8_back_102 h (fun s10 h => ?_)
      refine sm_aload_n C 0 dX8_back_105 rfl rfl ?_
      refine sm_aload_n C 0 dX8_back_106 rfl rfl ?_
      refine mr_M_manyKept C hw (k := 0) rfl gf_M_78 dX8_back_107 h (fun v11 h => ?_)
      refine mp_M_sitterMany C hw (k := 0) rfl gf_M_101 dX8_back_110 h (fun s12 h => ?_)
      refine sm_aload_n C 0 dX8_back_113 rfl rfl ?_
      refine sm_aload_n C 0 dX8_back_114 rfl rfl ?_
      refine mr_M_ruleKept C hw (k := 0) rfl gf_M_374 dX8_back_115 h (fun v13 h => ?_)
      refine mp_M_rule C hw (k := 0) rfl gf_M_266 dX8_back_118 h (fun s14 h => ?_)
      refine sm_aload_n C 0 dX8_back_121 rfl rfl ?_
      refine mr_M_sitterMany C hw (k := 0) rfl gf_M_101 dX8_back_122 h (fun v15 h => ?_)
      exact sm_iret C dX8_back_125 h
    · refine sm_aload_n C 0 dX8_back_18 rfl rfl ?_
      refine mr_M_numbers C hw (k := 0) rfl gf_M_32 dX8_back_19 ?_
      refine sm_iload_n C 1 dX8_back_22 rfl rfl ?_
      refine sm_aload_n C 0 dX8_back_23 rfl rfl ?_
      refine mr_M_kept C hw (k := 0) rfl gf_M_75 dX8_back_24 ?_
      refine sm_iload_n C 1 dX8_back_27 rfl rfl ?_
      refine ma_iald C hw (k := 19) rfl rfl dX8_back_28 h (fun v16 h => ?_)
      refine ma_iast C hw (k := 5) rfl rfl dX8_back_29 h (fun s17 h => ?_)
      refine sm_aload_n C 0 dX8_back_30 rfl rfl ?_
      refine mr_M_places C hw (k := 0) rfl gf_M_35 dX8_back_31 ?_
      refine sm_iload_n C 1 dX8_back_34 rfl rfl ?_
      refine sm_aload_n C 0 dX8_back_35 rfl rfl ?_
      refine mr_M_kept C hw (k := 0) rfl gf_M_75 dX8_back_36 ?_
      refine sm_iconst (v := 5) C dX8_back_39 (by decide) ?_
      refine sm_iload_n C 1 dX8_back_40 rfl rfl ?_
      refine sm_iadd C dX8_back_41 h (fun v18 h => ?_)
      refine ma_iald C hw (k := 19) rfl rfl dX8_back_42 h (fun v19 h => ?_)
      refine ma_iast C hw (k := 6) rfl rfl dX8_back_43 h (fun s20 h => ?_)
      refine sm_iinc (lv' := fun v21 => [(1, .int v21), (0, .ref (sm_ad (sm_w X) 0))]) C 1 dX8_back_44 rfl (by decide) (fun _ => rfl) h (fun v21 h => ?_)
      refine sm_goto C 13 dX8_back_47 (by decide) ?_
      refine sm_sub (lv' := [(0, .ref (sm_ad (sm_w X) 0)), (1, .int v21)]) [1, 0] rfl ?_
      exact ih s20 v21 h
set_option maxRecDepth 4000 in
theorem mc_X8_back {w : sm_WD} {l : Launch} (hw : mo_is w)  : sm_CI w l yX8_back prog_10_method_65_code 2 (some .int) 2 100 [.ref (sm_ad w 0)] (fun s => mf_X8_back s) := by
  refine sm_CI.of (by decide +kernel) (Nat.le_of_ble_eq_true rfl) (fun X s0 R hXw hXl C h => ?_)
  subst hXw
  subst hXl
  have h : mf_X8_back s0 = some R := h
  show sm_V X (sm_QI X R) 2 s0 0 [(0, .ref (sm_ad (sm_w X) 0))] []
  unfold mf_X8_back at h
  refine sm_aload_n C 0 dX8_back_0 rfl rfl ?_
  refine mr_M_manyKept C hw (k := 0) rfl gf_M_78 dX8_back_1 h (fun v1 h => ?_)
  refine sm_iconst (v := (-1)) C dX8_back_4 (by decide) ?_
  refine sm_icmp_ne C 11 dX8_back_5 (by decide) h (fun h => ?_) (fun h => ?_)
  · refine sm_iconst (v := 0) C dX8_back_11 (by decide) ?_
    refine sm_istore_n (lv' := [(1, .int (0 : Int32)), (0, .ref (sm_ad (sm_w X) 0))]) C dX8_back_12 rfl (by decide) rfl ?_
    refine sm_sub (lv' := [(0, .ref (sm_ad (sm_w X) 0)), (1, .int (0 : Int32))]) [1, 0] rfl ?_
    exact mk_X8_back_p13 C hw sm_F s0 (0 : Int32) h
  · refine sm_bipush (v := (-3)) C dX8_back_8 (by decide) ?_
    exact sm_iret C dX8_back_10 h
noncomputable def mf_X8_count (a1 : Int32) (s0 : sm_St) : Option (Int32 × sm_St) :=
  sm_b (a1.toInt64) fun v1 =>
  sm_c (mf_X8_in v1 (0 : Int64) (8 : Int64) s0) fun v2 s3 =>
  if v2 = 0 then (
  some ((-2 : Int32), s3))
  else (
  if (6 : Int32) ≤ a1 then (
  if a1 = (6 : Int32) then (
  sm_b (s3.1 0 3) fun v6 =>
  some (v6, s3))
  else (
  if a1 = (7 : Int32) then (
  sm_b (s3.1 0 6) fun v5 =>
  some (v5, s3))
  else (
  sm_b (s3.1 0 4) fun v4 =>
  some (v4, s3))))
  else (
  if a1 = 0 then (
  sm_b (s3.1 0 15) fun v12 =>
  some (v12, s3))
  else (
  if a1 = (1 : Int32) then (
  sm_b (s3.1 0 7) fun v11 =>
  some (v11, s3))
  else (
  if a1 = (2 : Int32) then (
  sm_b (s3.1 0 8) fun v10 =>
  some (v10, s3))
  else (
  if a1 = (3 : Int32) then (
  sm_b (s3.1 0 9) fun v9 =>
  some (v9, s3))
  else (
  if a1 = (4 : Int32) then (
  sm_b (s3.1 0 10) fun v8 =>
  some (v8, s3))
  else (
  sm_b (s3.1 0 11) fun v7 =>
  some (v7, s3))))))))
set_option maxRecDepth 4000 in
theorem mc_X8_count {w : sm_WD} {l : Launch} (hw : mo_is w) (a1 : Int32) : sm_CI w l yX8_count prog_10_method_66_code 2 (some .int) 3 125 [.ref (sm_ad w 0), .int a1] (fun s => mf_X8_count a1 s) := by
  refine sm_CI.of (by decide +kernel) (Nat.le_of_ble_eq_true rfl) (fun X s0 R hXw hXl C h => ?_)
  subst hXw
  subst hXl
  have h : mf_X8_count a1 s0 = some R := h
  show sm_V X (sm_QI X R) 2 s0 0 [(0, .ref (sm_ad (sm_w X) 0)), (1, .int a1)] []
  unfold mf_X8_count at h
  refine sm_iload_n C 1 dX8_count_0 rfl rfl ?_
  refine sm_i2l C dX8_count_1 h (fun v1 h => ?_)
  refine sm_lconst (v := 0) C dX8_count_2 (by decide) ?_
  refine sm_ldc2 C gk_M_327 dX8_count_3 ?_
  refine sm_callSI C [.long v1, .long (0 : Int64), .long (8 : Int64)] (mc_X8_in hw v1 (0 : Int64) (8 : Int64)) gm_X8_in gl_M_104 gs_X8_in rfl ⟨Nat.le_of_ble_eq_true rfl, Nat.le_of_ble_eq_true rfl⟩ rfl (Nat.le_of_ble_eq_true rfl) dX8_count_6 h (fun v2 s3 h => ?_)
  refine sm_if_ne C 15 dX8_count_9 (by decide) h (fun h => ?_) (fun h => ?_)
  · refine sm_iload_n C 1 dX8_count_15 rfl rfl ?_
    refine sm_bipush (v := 6) C dX8_count_16 (by decide) ?_
    refine sm_icmp_ge C 85 dX8_count_18 (by decide) h (fun h => ?_) (fun h => ?_)
    · refine sm_iload_n C 1 dX8_count_85 rfl rfl ?_
      refine sm_bipush (v := 6) C dX8_count_86 (by decide) ?_
      refine sm_icmp_ne C 98 dX8_count_88 (by decide) h (fun h => ?_) (fun h => ?_)
      · refine sm_iload_n C 1 dX8_count_98 rfl rfl ?_
        refine sm_bipush (v := 7) C dX8_count_99 (by decide) ?_
        refine sm_icmp_ne C 111 dX8_count_101 (by decide) h (fun h => ?_) (fun h => ?_)
        · refine sm_aload_n C 0 dX8_count_111 rfl rfl ?_
          refine mr_M_rule C hw (k := 0) rfl gf_M_266 dX8_count_112 h (fun v4 h => ?_)
          exact sm_iret C dX8_count_115 h
        · refine sm_aload_n C 0 dX8_count_104 rfl rfl ?_
          refine mr_M_taped C hw (k := 0) rfl gf_M_150 dX8_count_105 h (fun v5 h => ?_)
          refine sm_goto C 115 dX8_count_108 (by decide) ?_
          exact sm_iret C dX8_count_115 h
      · refine sm_aload_n C 0 dX8_count_91 rfl rfl ?_
        refine mr_M_textCount C hw (k := 0) rfl gf_M_98 dX8_count_92 h (fun v6 h => ?_)
        refine sm_goto C 115 dX8_count_95 (by decide) ?_
        exact sm_iret C dX8_count_115 h
    · refine sm_iload_n C 1 dX8_count_21 rfl rfl ?_
      refine sm_if_ne C 32 dX8_count_22 (by decide) h (fun h => ?_) (fun h => ?_)
      · refine sm_iload_n C 1 dX8_count_32 rfl rfl ?_
        refine sm_iconst (v := 1) C dX8_count_33 (by decide) ?_
        refine sm_icmp_ne C 44 dX8_count_34 (by decide) h (fun h => ?_) (fun h => ?_)
        · refine sm_iload_n C 1 dX8_count_44 rfl rfl ?_
          refine sm_iconst (v := 2) C dX8_count_45 (by decide) ?_
          refine sm_icmp_ne C 56 dX8_count_46 (by decide) h (fun h => ?_) (fun h => ?_)
          · refine sm_iload_n C 1 dX8_count_56 rfl rfl ?_
            refine sm_iconst (v := 3) C dX8_count_57 (by decide) ?_
            refine sm_icmp_ne C 68 dX8_count_58 (by decide) h (fun h => ?_) (fun h => ?_)
            · refine sm_iload_n C 1 dX8_count_68 rfl rfl ?_
              refine sm_iconst (v := 4) C dX8_count_69 (by decide) ?_
              refine sm_icmp_ne C 80 dX8_count_70 (by decide) h (fun h => ?_) (fun h => ?_)
              · refine sm_aload_n C 0 dX8_count_80 rfl rfl ?_
                refine mr_M_eddy C hw (k := 0) rfl gf_M_126 dX8_count_81 h (fun v7 h => ?_)
                exact sm_iret C dX8_count_84 h
              · refine sm_aload_n C 0 dX8_count_73 rfl rfl ?_
                refine mr_M_tents C hw (k := 0) rfl gf_M_123 dX8_count_74 h (fun v8 h => ?_)
                refine sm_goto C 84 dX8_count_77 (by decide) ?_
                exact sm_iret C dX8_count_84 h
            · refine sm_aload_n C 0 dX8_count_61 rfl rfl ?_
              refine mr_M_right C hw (k := 0) rfl gf_M_26 dX8_count_62 h (fun v9 h => ?_)
              refine sm_goto C 84 dX8_count_65 (by decide) ?_
              exact sm_iret C dX8_count_84 h
          · refine sm_aload_n C 0 dX8_count_49 rfl rfl ?_
            refine mr_M_left C hw (k := 0) rfl gf_M_23 dX8_count_50 h (fun v10 h => ?_)
            refine sm_goto C 84 dX8_count_53 (by decide) ?_
            exact sm_iret C dX8_count_84 h
        · refine sm_aload_n C 0 dX8_count_37 rfl rfl ?_
          refine mr_M_smoke C hw (k := 0) rfl gf_M_120 dX8_count_38 h (fun v11 h => ?_)
          refine sm_goto C 84 dX8_count_41 (by decide) ?_
          exact sm_iret C dX8_count_84 h
      · refine sm_aload_n C 0 dX8_count_25 rfl rfl ?_
        refine mr_M_sitterMany C hw (k := 0) rfl gf_M_101 dX8_count_26 h (fun v12 h => ?_)
        refine sm_goto C 84 dX8_count_29 (by decide) ?_
        exact sm_iret C dX8_count_84 h
  · refine sm_bipush (v := (-2)) C dX8_count_12 (by decide) ?_
    exact sm_iret C dX8_count_14 h
noncomputable def mf_X8_cell (a1 : Int32) (a2 : Int32) (a3 : Int32) (s0 : sm_St) : Option (Int32 × sm_St) :=
  sm_c (mf_X8_isSheet a1 s0) fun v1 s2 =>
  if v1 = 0 then (
  some ((-2 : Int32), s2))
  else (
  sm_g (sm_in a1 4) <| sm_b (s2.1 20 a1.toNatClampNeg) fun v3 =>
  if v3 = 0 then (
  some ((-11 : Int32), s2))
  else (
  sm_b (a2.toInt64) fun v4 =>
  sm_g (sm_in a1 4) <| sm_b (s2.1 22 a1.toNatClampNeg) fun v5 =>
  sm_b (v5 - (1 : Int32)) fun v6 =>
  sm_b (v6.toInt64) fun v7 =>
  sm_c (mf_X8_in v4 (0 : Int64) v7 s2) fun v8 s9 =>
  if v8 = 0 then (
  some ((-12 : Int32), s9))
  else (
  sm_b ((40 : Int32) * a1) fun v10 =>
  sm_b (v10 + a2) fun v11 =>
  sm_g (sm_in a1 4) <| sm_b (s9.1 21 a1.toNatClampNeg) fun v12 =>
  if v12 = 0 then (
  sm_b (a3.toInt8.toInt32) fun v17 =>
  sm_g (sm_in v11 160) <| sm_b (sm_sI s9 23 v11.toNatClampNeg v17) fun s18 =>
  some ((1 : Int32), s18))
  else (
  sm_g (sm_in a1 4) <| sm_b (s9.1 21 a1.toNatClampNeg) fun v13 =>
  if v13 = (1 : Int32) then (
  sm_b (a3.toInt16.toInt32) fun v15 =>
  sm_g (sm_in v11 160) <| sm_b (sm_sI s9 23 v11.toNatClampNeg v15) fun s16 =>
  some ((1 : Int32), s16))
  else (
  sm_g (sm_in v11 160) <| sm_b (sm_sI s9 23 v11.toNatClampNeg a3) fun s14 =>
  some ((1 : Int32), s14))))))
set_option maxRecDepth 4000 in
theorem mc_X8_cell {w : sm_WD} {l : Launch} (hw : mo_is w) (a1 : Int32) (a2 : Int32) (a3 : Int32) : sm_CI w l yX8_cell prog_10_method_69_code 4 (some .int) 4 145 [.ref (sm_ad w 0), .int a1, .int a2, .int a3] (fun s => mf_X8_cell a1 a2 a3 s) := by
  refine sm_CI.of (by decide +kernel) (Nat.le_of_ble_eq_true rfl) (fun X s0 R hXw hXl C h => ?_)
  subst hXw
  subst hXl
  have h : mf_X8_cell a1 a2 a3 s0 = some R := h
  show sm_V X (sm_QI X R) 4 s0 0 [(0, .ref (sm_ad (sm_w X) 0)), (1, .int a1), (2, .int a2), (3, .int a3)] []
  unfold mf_X8_cell at h
  refine sm_iload_n C 1 dX8_cell_0 rfl rfl ?_
  refine sm_callSI C [.int a1] (mc_X8_isSheet hw a1) gm_X8_isSheet gl_M_315 gs_X8_isSheet rfl ⟨Nat.le_of_ble_eq_true rfl, Nat.le_of_ble_eq_true rfl⟩ rfl (Nat.le_of_ble_eq_true rfl) dX8_cell_1 h (fun v1 s2 h => ?_)
  refine sm_if_ne C 10 dX8_cell_4 (by decide) h (fun h => ?_) (fun h => ?_)
  · refine sm_aload_n C 0 dX8_cell_10 rfl rfl ?_
    refine mr_M_isThere C hw (k := 0) rfl gf_M_81 dX8_cell_11 ?_
    refine sm_iload_n C 1 dX8_cell_14 rfl rfl ?_
    refine ma_zald C hw (k := 20) rfl rfl dX8_cell_15 h (fun v3 h => ?_)
    refine sm_if_ne C 22 dX8_cell_16 (by decide) h (fun h => ?_) (fun h => ?_)
    · refine sm_iload_n C 2 dX8_cell_22 rfl rfl ?_
      refine sm_i2l C dX8_cell_23 h (fun v4 h => ?_)
      refine sm_lconst (v := 0) C dX8_cell_24 (by decide) ?_
      refine sm_aload_n C 0 dX8_cell_25 rfl rfl ?_
      refine mr_M_sheetSize C hw (k := 0) rfl gf_M_88 dX8_cell_26 ?_
      refine sm_iload_n C 1 dX8_cell_29 rfl rfl ?_
      refine ma_iald C hw (k := 22) rfl rfl dX8_cell_30 h (fun v5 h => ?_)
      refine sm_iconst (v := 1) C dX8_cell_31 (by decide) ?_
      refine sm_isub C dX8_cell_32 h (fun v6 h => ?_)
      refine sm_i2l C dX8_cell_33 h (fun v7 h => ?_)
      refine sm_callSI C [.long v4, .long (0 : Int64), .long v7] (mc_X8_in hw v4 (0 : Int64) v7) gm_X8_in gl_M_104 gs_X8_in rfl ⟨Nat.le_of_ble_eq_true rfl, Nat.le_of_ble_eq_true rfl⟩ rfl (Nat.le_of_ble_eq_true rfl) dX8_cell_34 h (fun v8 s9 h => ?_)
      refine sm_if_ne C 43 dX8_cell_37 (by decide) h (fun h => ?_) (fun h => ?_)
      · refine sm_aload_n C 0 dX8_cell_43 rfl rfl ?_
        refine mr_M_items C hw (k := 0) rfl gf_M_91 dX8_cell_44 ?_
        refine sm_bipush (v := 40) C dX8_cell_47 (by decide) ?_
        refine sm_iload_n C 1 dX8_cell_49 rfl rfl ?_
        refine sm_imul C dX8_cell_50 h (fun v10 h => ?_)
        refine sm_iload_n C 2 dX8_cell_51 rfl rfl ?_
        refine sm_iadd C dX8_cell_52 h (fun v11 h => ?_)
        refine sm_aload_n C 0 dX8_cell_53 rfl rfl ?_
        refine mr_M_sorts C hw (k := 0) rfl gf_M_85 dX8_cell_54 ?_
        refine sm_iload_n C 1 dX8_cell_57 rfl rfl ?_
        refine ma_iald C hw (k := 21) rfl rfl dX8_cell_58 h (fun v12 h => ?_)
        refine sm_if_ne C 67 dX8_cell_59 (by decide) h (fun h => ?_) (fun h => ?_)
        · refine sm_aload_n C 0 dX8_cell_67 rfl rfl ?_
          refine mr_M_sorts C hw (k := 0) rfl gf_M_85 dX8_cell_68 ?_
          refine sm_iload_n C 1 dX8_cell_71 rfl rfl ?_
          refine ma_iald C hw (k := 21) rfl rfl dX8_cell_72 h (fun v13 h => ?_)
          refine sm_iconst (v := 1) C dX8_cell_73 (by decide) ?_
          refine sm_icmp_ne C 82 dX8_cell_74 (by decide) h (fun h => ?_) (fun h => ?_)
          · refine sm_iload_n C 3 dX8_cell_82 rfl rfl ?_
            refine ma_iast C hw (k := 23) rfl rfl dX8_cell_83 h (fun s14 h => ?_)
            refine sm_iconst (v := 1) C dX8_cell_84 (by decide) ?_
            exact sm_iret C dX8_cell_85 h
          · refine sm_iload_n C 3 dX8_cell_77 rfl rfl ?_
            refine sm_i2s C dX8_cell_78 h (fun v15 h => ?_)
            refine sm_goto C 83 dX8_cell_79 (by decide) ?_
            refine ma_iast C hw (k := 23) rfl rfl dX8_cell_83 h (fun s16 h => ?_)
            refine sm_iconst (v := 1) C dX8_cell_84 (by decide) ?_
            exact sm_iret C dX8_cell_85 h
        · refine sm_iload_n C 3 dX8_cell_62 rfl rfl ?_
          refine sm_i2b C dX8_cell_63 h (fun v17 h => ?_)
          refine sm_goto C 83 dX8_cell_64 (by decide) ?_
          refine ma_iast C hw (k := 23) rfl rfl dX8_cell_83 h (fun s18 h => ?_)
          refine sm_iconst (v := 1) C dX8_cell_84 (by decide) ?_
          exact sm_iret C dX8_cell_85 h
      · refine sm_bipush (v := (-12)) C dX8_cell_40 (by decide) ?_
        exact sm_iret C dX8_cell_42 h
    · refine sm_bipush (v := (-11)) C dX8_cell_19 (by decide) ?_
      exact sm_iret C dX8_cell_21 h
  · refine sm_bipush (v := (-2)) C dX8_cell_7 (by decide) ?_
    exact sm_iret C dX8_cell_9 h
noncomputable def mf_X8_copy_p145 (a1 : Int32) (a2 : Int32) (a3 : Int32) (a4 : Int32) (a5 : Int32) (k121 : sm_St → Int32 → Int32 → Option (Int32 × sm_St)) (s0 : sm_St) (l6 : Int32) (l7 : Int32) (t0 : Int32) : Option (Int32 × sm_St) :=
  sm_b ((40 : Int32) * a3) fun v1 =>
  sm_b (v1 + a4) fun v2 =>
  sm_b (v2 + t0) fun v3 =>
  sm_b ((40 : Int32) * a1) fun v4 =>
  sm_b (v4 + a2) fun v5 =>
  sm_b (v5 + t0) fun v6 =>
  sm_g (sm_in v6 160) <| sm_b (s0.1 23 v6.toNatClampNeg) fun v7 =>
  sm_g (sm_in v3 160) <| sm_b (sm_sI s0 23 v3.toNatClampNeg v7) fun s8 =>
  sm_b (l7 + Int32.ofInt 1) fun v9 =>
  k121 s8 l6 v9
noncomputable def mf_X8_copy_p121 (a1 : Int32) (a2 : Int32) (a3 : Int32) (a4 : Int32) (a5 : Int32) : Nat → sm_St → Int32 → Int32 → Option (Int32 × sm_St)
  | 0, _, _, _ => none
  | n + 1, s0, l6, l7 =>
  if a5 ≤ l7 then (
  some (a5, s0))
  else (
  if l6 = 0 then (
  mf_X8_copy_p145 a1 a2 a3 a4 a5 (mf_X8_copy_p121 a1 a2 a3 a4 a5 n) s0 l6 l7 l7)
  else (
  sm_b (a5 - (1 : Int32)) fun v1 =>
  sm_b (v1 - l7) fun v2 =>
  mf_X8_copy_p145 a1 a2 a3 a4 a5 (mf_X8_copy_p121 a1 a2 a3 a4 a5 n) s0 l6 l7 v2))
noncomputable def mf_X8_copy_p116 (a1 : Int32) (a2 : Int32) (a3 : Int32) (a4 : Int32) (a5 : Int32) (s0 : sm_St) (t0 : Int32) : Option (Int32 × sm_St) :=
  mf_X8_copy_p121 a1 a2 a3 a4 a5 sm_F s0 t0 (0 : Int32)
noncomputable def mf_X8_copy_p115 (a1 : Int32) (a2 : Int32) (a3 : Int32) (a4 : Int32) (a5 : Int32) (s0 : sm_St) : Option (Int32 × sm_St) :=
  mf_X8_copy_p116 a1 a2 a3 a4 a5 s0 (0 : Int32)
noncomputable def mf_X8_copy (a1 : Int32) (a2 : Int32) (a3 : Int32) (a4 : Int32) (a5 : Int32) (s0 : sm_St) : Option (Int32 × sm_St) :=
  sm_c (mf_X8_isSheet a1 s0) fun v1 s2 =>
  if v1 = 0 then (
  some ((-2 : Int32), s2))
  else (
  sm_c (mf_X8_isSheet a3 s2) fun v3 s4 =>
  if v3 = 0 then (
  some ((-2 : Int32), s4))
  else (
  sm_g (sm_in a1 4) <| sm_b (s4.1 20 a1.toNatClampNeg) fun v5 =>
  if v5 = 0 then (
  some ((-11 : Int32), s4))
  else (
  sm_g (sm_in a3 4) <| sm_b (s4.1 20 a3.toNatClampNeg) fun v6 =>
  if v6 = 0 then (
  some ((-11 : Int32), s4))
  else (
  sm_g (sm_in a1 4) <| sm_b (s4.1 21 a1.toNatClampNeg) fun v7 =>
  sm_g (sm_in a3 4) <| sm_b (s4.1 21 a3.toNatClampNeg) fun v8 =>
  if v7 = v8 then (
  if a5 < 0 then (
  some ((-12 : Int32), s4))
  else (
  if a2 < 0 then (
  some ((-12 : Int32), s4))
  else (
  if a4 < 0 then (
  some ((-12 : Int32), s4))
  else (
  sm_g (sm_in a1 4) <| sm_b (s4.1 22 a1.toNatClampNeg) fun v9 =>
  sm_b (v9 - a5) fun v10 =>
  if v10 < a2 then (
  some ((-12 : Int32), s4))
  else (
  sm_g (sm_in a3 4) <| sm_b (s4.1 22 a3.toNatClampNeg) fun v11 =>
  sm_b (v11 - a5) fun v12 =>
  if a4 ≤ v12 then (
  if a1 = a3 then (
  if a4 ≤ a2 then (
  mf_X8_copy_p115 a1 a2 a3 a4 a5 s4)
  else (
  mf_X8_copy_p116 a1 a2 a3 a4 a5 s4 (1 : Int32)))
  else (
  mf_X8_copy_p115 a1 a2 a3 a4 a5 s4))
  else (
  some ((-12 : Int32), s4)))))))
  else (
  some ((-13 : Int32), s4))))))
set_option maxRecDepth 4000 in
theorem mk_X8_copy_p145 {X : sm_VC} (C : sm_Cx X prog_10_method_70_code 9 "SmokeGoesToModel" 4 145 (some .int)) (hw : mo_is (sm_w X)) {a1 : Int32} {a2 : Int32} {a3 : Int32} {a4 : Int32} {a5 : Int32}  {R : Int32 × sm_St} {k121 : sm_St → Int32 → Int32 → Option (Int32 × sm_St)} (hk121 : ∀ (s : sm_St) (l6 : Int32) (l7 : Int32), k121 s l6 l7 = some R → sm_V X (sm_QI X R) 9 s 121 [(0, .ref (sm_ad (sm_w X) 0)), (1, .int a1), (2, .int a2), (3, .int a3), (4, .int a4), (5, .int a5), (6, .int l6), (7, .int l7)] []) (s0 : sm_St) (l6 : Int32) (l7 : Int32) (t0 : Int32)  (h : mf_X8_copy_p145 a1 a2 a3 a4 a5 k121 s0 l6 l7 t0 = some R) : sm_V X (sm_QI X R) 9 s0 145 [(0, .ref (sm_ad (sm_w X) 0)), (1, .int a1), (2, .int a2), (3, .int a3), (4, .int a4), (5, .int a5), (6, .int l6), (7, .int l7)] [.int t0] := by
  unfold mf_X8_copy_p145 at h
  refine sm_istore (lv' := [(8, .int t0), (0, .ref (sm_ad (sm_w X) 0)), (1, .int a1), (2, .int a2), (3, .int a3), (4, .int a4), (5, .int a5), (6, .int l6), (7, .int l7)]) C dX8_copy_145 (by decide) rfl ?_
  refine sm_aload_n C 1 dX8_copy_147 rfl rfl ?_
  refine mr_M_items C hw (k := 0) rfl gf_M_91 dX8_copy_148 ?_
  refine sm_bipush (v := 40) C dX8_copy_151 (by decide) ?_
  refine sm_iload_n C 4 dX8_copy_153 rfl rfl ?_
  refine sm_imul C dX8_copy_154 h (fun v1 h => ?_)
  refine sm_iload C 5 dX8_copy_155 rfl ?_
  refine sm_iadd C dX8_copy_157 h (fun v2 h => ?_)
  refine sm_iload C 0 dX8_copy_158 rfl ?_
  refine sm_iadd C dX8_copy_160 h (fun v3 h => ?_)
  refine sm_aload_n C 1 dX8_copy_161 rfl rfl ?_
  refine mr_M_items C hw (k := 0) rfl gf_M_91 dX8_copy_162 ?_
  refine sm_bipush (v := 40) C dX8_copy_165 (by decide) ?_
  refine sm_iload_n C 2 dX8_copy_167 rfl rfl ?_
  refine sm_imul C dX8_copy_168 h (fun v4 h => ?_)
  refine sm_iload_n C 3 dX8_copy_169 rfl rfl ?_
  refine sm_iadd C dX8_copy_170 h (fun v5 h => ?_)
  refine sm_iload C 0 dX8_copy_171 rfl ?_
  refine sm_iadd C dX8_copy_173 h (fun v6 h => ?_)
  refine ma_iald C hw (k := 23) rfl rfl dX8_copy_174 h (fun v7 h => ?_)
  refine ma_iast C hw (k := 23) rfl rfl dX8_copy_175 h (fun s8 h => ?_)
  refine sm_iinc (lv' := fun v9 => [(7, .int v9), (8, .int t0), (0, .ref (sm_ad (sm_w X) 0)), (1, .int a1), (2, .int a2), (3, .int a3), (4, .int a4), (5, .int a5), (6, .int l6)]) C 8 dX8_copy_176 rfl (by decide) (fun _ => rfl) h (fun v9 h => ?_)
  refine sm_goto C 121 dX8_copy_179 (by decide) ?_
  refine sm_sub (lv' := [(0, .ref (sm_ad (sm_w X) 0)), (1, .int a1), (2, .int a2), (3, .int a3), (4, .int a4), (5, .int a5), (6, .int l6), (7, .int v9)]) [2, 3, 4, 5, 6, 7, 8, 0] rfl ?_
  exact hk121 s8 l6 v9 h
set_option maxRecDepth 4000 in
theorem mk_X8_copy_p121 {X : sm_VC} (C : sm_Cx X prog_10_method_70_code 9 "SmokeGoesToModel" 4 145 (some .int)) (hw : mo_is (sm_w X)) {a1 : Int32} {a2 : Int32} {a3 : Int32} {a4 : Int32} {a5 : Int32}  {R : Int32 × sm_St}   : ∀ (n : Nat) (s0 : sm_St) (l6 : Int32) (l7 : Int32) , mf_X8_copy_p121 a1 a2 a3 a4 a5 n s0 l6 l7 = some R → sm_V X (sm_QI X R) 9 s0 121 [(0, .ref (sm_ad (sm_w X) 0)), (1, .int a1), (2, .int a2), (3, .int a3), (4, .int a4), (5, .int a5), (6, .int l6), (7, .int l7)] [] := by
  intro n
  induction n with
  | zero =>
    intro s0 l6 l7 h
    have h : (none : Option (Int32 × sm_St)) = some R := h
    cases h
  | succ n ih =>
    intro s0 l6 l7 h
    unfold mf_X8_copy_p121 at h
    refine sm_iload C 7 dX8_copy_121 rfl ?_
    refine sm_iload C 5 dX8_copy_123 rfl ?_
    refine sm_icmp_ge C 182 dX8_copy_125 (by decide) h (fun h => ?_) (fun h => ?_)
    · refine sm_iload C 5 dX8_copy_182 rfl ?_
      exact sm_iret C dX8_copy_184 h
    · refine sm_iload C 6 dX8_copy_128 rfl ?_
      refine sm_if_eq C 143 dX8_copy_130 (by decide) h (fun h => ?_) (fun h => ?_)
      · refine sm_iload C 7 dX8_copy_143 rfl ?_
        exact mk_X8_copy_p145 C hw ih s0 l6 l7 l7 h
      · refine sm_iload C 5 dX8_copy_133 rfl ?_
        refine sm_iconst (v := 1) C dX8_copy_135 (by decide) ?_
        refine sm_isub C dX8_copy_136 h (fun v1 h => ?_)
        refine sm_iload C 7 dX8_copy_137 rfl ?_
        refine sm_isub C dX8_copy_139 h (fun v2 h => ?_)
        refine sm_goto C 145 dX8_copy_140 (by decide) ?_
        exact mk_X8_copy_p145 C hw ih s0 l6 l7 v2 h
set_option maxRecDepth 4000 in
theorem mk_X8_copy_p116 {X : sm_VC} (C : sm_Cx X prog_10_method_70_code 9 "SmokeGoesToModel" 4 145 (some .int)) (hw : mo_is (sm_w X)) {a1 : Int32} {a2 : Int32} {a3 : Int32} {a4 : Int32} {a5 : Int32}  {R : Int32 × sm_St}   (s0 : sm_St) (t0 : Int32)  (h : mf_X8_copy_p116 a1 a2 a3 a4 a5 s0 t0 = some R) : sm_V X (sm_QI X R) 9 s0 116 [(0, .ref (sm_ad (sm_w X) 0)), (1, .int a1), (2, .int a2), (3, .int a3), (4, .int a4), (5, .int a5)] [.int t0] := by
  unfold mf_X8_copy_p116 at h
  refine sm_istore (lv' := [(6, .int t0), (0, .ref (sm_ad (sm_w X) 0)), (1, .int a1), (2, .int a2), (3, .int a3), (4, .int a4), (5, .int a5)]) C dX8_copy_116 (by decide) rfl ?_
  refine sm_iconst (v := 0) C dX8_copy_118 (by decide) ?_
  refine sm_istore (lv' := [(7, .int (0 : Int32)), (6, .int t0), (0, .ref (sm_ad (sm_w X) 0)), (1, .int a1), (2, .int a2), (3, .int a3), (4, .int a4), (5, .int a5)]) C dX8_copy_119 (by decide) rfl ?_
  refine sm_sub (lv' := [(0, .ref (sm_ad (sm_w X) 0)), (1, .int a1), (2, .int a2), (3, .int a3), (4, .int a4), (5, .int a5), (6, .int t0), (7, .int (0 : Int32))]) [2, 3, 4, 5, 6, 7, 1, 0] rfl ?_
  exact mk_X8_copy_p121 C hw sm_F s0 t0 (0 : Int32) h
set_option maxRecDepth 4000 in
theorem mk_X8_copy_p115 {X : sm_VC} (C : sm_Cx X prog_10_method_70_code 9 "SmokeGoesToModel" 4 145 (some .int)) (hw : mo_is (sm_w X)) {a1 : Int32} {a2 : Int32} {a3 : Int32} {a4 : Int32} {a5 : Int32}  {R : Int32 × sm_St}   (s0 : sm_St)   (h : mf_X8_copy_p115 a1 a2 a3 a4 a5 s0 = some R) : sm_V X (sm_QI X R) 9 s0 115 [(0, .ref (sm_ad (sm_w X) 0)), (1, .int a1), (2, .int a2), (3, .int a3), (4, .int a4), (5, .int a5)] [] := by
  unfold mf_X8_copy_p115 at h
  refine sm_iconst (v := 0) C dX8_copy_115 (by decide) ?_
  exact mk_X8_copy_p116 C hw s0 (0 : Int32) h
set_option maxRecDepth 4000 in
theorem mc_X8_copy {w : sm_WD} {l : Launch} (hw : mo_is w) (a1 : Int32) (a2 : Int32) (a3 : Int32) (a4 : Int32) (a5 : Int32) : sm_CI w l yX8_copy prog_10_method_70_code 9 (some .int) 4 145 [.ref (sm_ad w 0), .int a1, .int a2, .int a3, .int a4, .int a5] (fun s => mf_X8_copy a1 a2 a3 a4 a5 s) := by
  refine sm_CI.of (by decide +kernel) (Nat.le_of_ble_eq_true rfl) (fun X s0 R hXw hXl C h => ?_)
  subst hXw
  subst hXl
  have h : mf_X8_copy a1 a2 a3 a4 a5 s0 = some R := h
  show sm_V X (sm_QI X R) 9 s0 0 [(0, .ref (sm_ad (sm_w X) 0)), (1, .int a1), (2, .int a2), (3, .int a3), (4, .int a4), (5, .int a5)] []
  unfold mf_X8_copy at h
  refine sm_iload_n C 1 dX8_copy_0 rfl rfl ?_
  refine sm_callSI C [.int a1] (mc_X8_isSheet hw a1) gm_X8_isSheet gl_M_315 gs_X8_isSheet rfl ⟨Nat.le_of_ble_eq_true rfl, Nat.le_of_ble_eq_true rfl⟩ rfl (Nat.le_of_ble_eq_true rfl) dX8_copy_1 h (fun v1 s2 h => ?_)
  refine sm_if_eq C 14 dX8_copy_4 (by decide) h (fun h => ?_) (fun h => ?_)
  · refine sm_bipush (v := (-2)) C dX8_copy_14 (by decide) ?_
    exact sm_iret C dX8_copy_16 h
  · refine sm_iload_n C 3 dX8_copy_7 rfl rfl ?_
    refine sm_callSI C [.int a3] (mc_X8_isSheet hw a3) gm_X8_isSheet gl_M_315 gs_X8_isSheet rfl ⟨Nat.le_of_ble_eq_true rfl, Nat.le_of_ble_eq_true rfl⟩ rfl (Nat.le_of_ble_eq_true rfl) dX8_copy_8 h (fun v3 s4 h => ?_)
    refine sm_if_ne C 17 dX8_copy_11 (by decide) h (fun h => ?_) (fun h => ?_)
    · refine sm_aload_n C 0 dX8_copy_17 rfl rfl ?_
      refine mr_M_isThere C hw (k := 0) rfl gf_M_81 dX8_copy_18 ?_
      refine sm_iload_n C 1 dX8_copy_21 rfl rfl ?_
      refine ma_zald C hw (k := 20) rfl rfl dX8_copy_22 h (fun v5 h => ?_)
      refine sm_if_eq C 35 dX8_copy_23 (by decide) h (fun h => ?_) (fun h => ?_)
      · refine sm_bipush (v := (-11)) C dX8_copy_35 (by decide) ?_
        exact sm_iret C dX8_copy_37 h
      · refine sm_aload_n C 0 dX8_copy_26 rfl rfl ?_
        refine mr_M_isThere C hw (k := 0) rfl gf_M_81 dX8_copy_27 ?_
        refine sm_iload_n C 3 dX8_copy_30 rfl rfl ?_
        refine ma_zald C hw (k := 20) rfl rfl dX8_copy_31 h (fun v6 h => ?_)
        refine sm_if_ne C 38 dX8_copy_32 (by decide) h (fun h => ?_) (fun h => ?_)
        · refine sm_aload_n C 0 dX8_copy_38 rfl rfl ?_
          refine mr_M_sorts C hw (k := 0) rfl gf_M_85 dX8_copy_39 ?_
          refine sm_iload_n C 1 dX8_copy_42 rfl rfl ?_
          refine ma_iald C hw (k := 21) rfl rfl dX8_copy_43 h (fun v7 h => ?_)
          refine sm_aload_n C 0 dX8_copy_44 rfl rfl ?_
          refine mr_M_sorts C hw (k := 0) rfl gf_M_85 dX8_copy_45 ?_
          refine sm_iload_n C 3 dX8_copy_48 rfl rfl ?_
          refine ma_iald C hw (k := 21) rfl rfl dX8_copy_49 h (fun v8 h => ?_)
          refine sm_icmp_eq C 56 dX8_copy_50 (by decide) h (fun h => ?_) (fun h => ?_)
          · refine sm_iload C 5 dX8_copy_56 rfl ?_
            refine sm_if_lt C 97 dX8_copy_58 (by decide) h (fun h => ?_) (fun h => ?_)
            · refine sm_bipush (v := (-12)) C dX8_copy_97 (by decide) ?_
              exact sm_iret C dX8_copy_99 h
            · refine sm_iload_n C 2 dX8_copy_61 rfl rfl ?_
              refine sm_if_lt C 97 dX8_copy_62 (by decide) h (fun h => ?_) (fun h => ?_)
              · refine sm_bipush (v := (-12)) C dX8_copy_97 (by decide) ?_
                exact sm_iret C dX8_copy_99 h
              · refine sm_iload C 4 dX8_copy_65 rfl ?_
                refine sm_if_lt C 97 dX8_copy_67 (by decide) h (fun h => ?_) (fun h => ?_)
                · refine sm_bipush (v := (-12)) C dX8_copy_97 (by decide) ?_
                  exact sm_iret C dX8_copy_99 h
                · refine sm_iload_n C 2 dX8_copy_70 rfl rfl ?_
                  refine sm_aload_n C 0 dX8_copy_71 rfl rfl ?_
                  refine mr_M_sheetSize C hw (k := 0) rfl gf_M_88 dX8_copy_72 ?_
                  refine sm_iload_n C 1 dX8_copy_75 rfl rfl ?_
                  refine ma_iald C hw (k := 22) rfl rfl dX8_copy_76 h (fun v9 h => ?_)
                  refine sm_iload C 5 dX8_copy_77 rfl ?_
                  refine sm_isub C dX8_copy_79 h (fun v10 h => ?_)
                  refine sm_icmp_gt C 97 dX8_copy_80 (by decide) h (fun h => ?_) (fun h => ?_)
                  · refine sm_bipush (v := (-12)) C dX8_copy_97 (by decide) ?_
                    exact sm_iret C dX8_copy_99 h
                  · refine sm_iload C 4 dX8_copy_83 rfl ?_
                    refine sm_aload_n C 0 dX8_copy_85 rfl rfl ?_
                    refine mr_M_sheetSize C hw (k := 0) rfl gf_M_88 dX8_copy_86 ?_
                    refine sm_iload_n C 3 dX8_copy_89 rfl rfl ?_
                    refine ma_iald C hw (k := 22) rfl rfl dX8_copy_90 h (fun v11 h => ?_)
                    refine sm_iload C 5 dX8_copy_91 rfl ?_
                    refine sm_isub C dX8_copy_93 h (fun v12 h => ?_)
                    refine sm_icmp_le C 100 dX8_copy_94 (by decide) h (fun h => ?_) (fun h => ?_)
                    · refine sm_iload_n C 1 dX8_copy_100 rfl rfl ?_
                      refine sm_iload_n C 3 dX8_copy_101 rfl rfl ?_
                      refine sm_icmp_ne C 115 dX8_copy_102 (by decide) h (fun h => ?_) (fun h => ?_)
                      · exact mk_X8_copy_p115 C hw s4 h
                      · refine sm_iload_n C 2 dX8_copy_105 rfl rfl ?_
                        refine sm_iload C 4 dX8_copy_106 rfl ?_
                        refine sm_icmp_ge C 115 dX8_copy_108 (by decide) h (fun h => ?_) (fun h => ?_)
                        · exact mk_X8_copy_p115 C hw s4 h
                        · refine sm_iconst (v := 1) C dX8_copy_111 (by decide) ?_
                          refine sm_goto C 116 dX8_copy_112 (by decide) ?_
                          exact mk_X8_copy_p116 C hw s4 (1 : Int32) h
                    · refine sm_bipush (v := (-12)) C dX8_copy_97 (by decide) ?_
                      exact sm_iret C dX8_copy_99 h
          · refine sm_bipush (v := (-13)) C dX8_copy_53 (by decide) ?_
            exact sm_iret C dX8_copy_55 h
        · refine sm_bipush (v := (-11)) C dX8_copy_35 (by decide) ?_
          exact sm_iret C dX8_copy_37 h
    · refine sm_bipush (v := (-2)) C dX8_copy_14 (by decide) ?_
      exact sm_iret C dX8_copy_16 h
noncomputable def mf_X8_sitters_p158 (a1 : Int32) (a2 : Int32) (a3 : Int32) (a4 : Int32) (k75 : sm_St → Int32 → Int32 → Option (Int32 × sm_St)) (s0 : sm_St) (l6 : Int32) (t0 : Int32) (t1 : Int32) : Option (Int32 × sm_St) :=
  sm_b (t1 + t0) fun v1 =>
  sm_b (l6 + Int32.ofInt 1) fun v2 =>
  k75 s0 v1 v2
noncomputable def mf_X8_sitters_p75 (a1 : Int32) (a2 : Int32) (a3 : Int32) (a4 : Int32) : Nat → sm_St → Int32 → Int32 → Option (Int32 × sm_St)
  | 0, _, _, _ => none
  | n + 1, s0, l5, l6 =>
  if a4 ≤ l6 then (
  some (l5, s0))
  else (
  if a3 < 0 then (
  some ((-12 : Int32), s0))
  else (
  sm_g (sm_in a1 4) <| sm_b (s0.1 22 a1.toNatClampNeg) fun v1 =>
  sm_b ((3 : Int32) * l6) fun v2 =>
  sm_b (v1 - v2) fun v3 =>
  sm_b (v3 - (3 : Int32)) fun v4 =>
  if a3 ≤ v4 then (
  sm_b ((40 : Int32) * a1) fun v5 =>
  sm_b (v5 + a3) fun v6 =>
  sm_b ((3 : Int32) * l6) fun v7 =>
  sm_b (v6 + v7) fun v8 =>
  sm_g (sm_in v8 160) <| sm_b (s0.1 23 v8.toNatClampNeg) fun v9 =>
  sm_b (v8 + (1 : Int32)) fun v10 =>
  sm_g (sm_in v10 160) <| sm_b (s0.1 23 v10.toNatClampNeg) fun v11 =>
  sm_b (v8 + (2 : Int32)) fun v12 =>
  sm_g (sm_in v12 160) <| sm_b (s0.1 23 v12.toNatClampNeg) fun v13 =>
  sm_c (mf_X8_sitter v9 v11 v13 s0) fun v14 s15 =>
  if v14 < 0 then (
  mf_X8_sitters_p158 a1 a2 a3 a4 (mf_X8_sitters_p75 a1 a2 a3 a4 n) s15 l6 (0 : Int32) l5)
  else (
  mf_X8_sitters_p158 a1 a2 a3 a4 (mf_X8_sitters_p75 a1 a2 a3 a4 n) s15 l6 (1 : Int32) l5))
  else (
  some ((-12 : Int32), s0))))
noncomputable def mf_X8_sitters_p57 (a1 : Int32) (a2 : Int32) (a3 : Int32) (a4 : Int32) (s0 : sm_St) : Option (Int32 × sm_St) :=
  sm_g (sm_in a1 4) <| sm_b (s0.1 20 a1.toNatClampNeg) fun v1 =>
  if v1 = 0 then (
  some ((-11 : Int32), s0))
  else (
  mf_X8_sitters_p75 a1 a2 a3 a4 sm_F s0 (0 : Int32) (0 : Int32))
noncomputable def mf_X8_sitters (a1 : Int32) (a2 : Int32) (a3 : Int32) (a4 : Int32) (s0 : sm_St) : Option (Int32 × sm_St) :=
  sm_c (mf_X8_isSheet a1 s0) fun v1 s2 =>
  if v1 = 0 then (
  some ((-2 : Int32), s2))
  else (
  sm_b (a2.toInt64) fun v3 =>
  sm_c (mf_X8_in v3 (0 : Int64) (2 : Int64) s2) fun v4 s5 =>
  if v4 = 0 then (
  some ((-2 : Int32), s5))
  else (
  sm_b (a4.toInt64) fun v6 =>
  sm_c (mf_X8_in v6 (0 : Int64) (5 : Int64) s5) fun v7 s8 =>
  if v7 = 0 then (
  some ((-2 : Int32), s8))
  else (
  sm_g (sm_in a1 4) <| sm_b (s8.1 20 a1.toNatClampNeg) fun v9 =>
  if v9 = 0 then (
  mf_X8_sitters_p57 a1 a2 a3 a4 s8)
  else (
  sm_g (sm_in a1 4) <| sm_b (s8.1 21 a1.toNatClampNeg) fun v10 =>
  if v10 = a2 then (
  mf_X8_sitters_p57 a1 a2 a3 a4 s8)
  else (
  some ((-13 : Int32), s8))))))
set_option maxRecDepth 4000 in
theorem mk_X8_sitters_p158 {X : sm_VC} (C : sm_Cx X prog_10_method_71_code 8 "SmokeGoesToModel" 5 168 (some .int)) (hw : mo_is (sm_w X)) {a1 : Int32} {a2 : Int32} {a3 : Int32} {a4 : Int32}  {R : Int32 × sm_St} {k75 : sm_St → Int32 → Int32 → Option (Int32 × sm_St)} (hk75 : ∀ (s : sm_St) (l5 : Int32) (l6 : Int32), k75 s l5 l6 = some R → sm_V X (sm_QI X R) 8 s 75 [(0, .ref (sm_ad (sm_w X) 0)), (1, .int a1), (3, .int a3), (4, .int a4), (5, .int l5), (6, .int l6)] []) (s0 : sm_St) (l6 : Int32) (t0 : Int32) (t1 : Int32)  (h : mf_X8_sitters_p158 a1 a2 a3 a4 k75 s0 l6 t0 t1 = some R) : sm_V X (sm_QI X R) 8 s0 158 [(0, .ref (sm_ad (sm_w X) 0)), (1, .int a1), (3, .int a3), (4, .int a4), (6, .int l6)] [.int t0, .int t1] := by
  unfold mf_X8_sitters_p158 at h
  refine sm_iadd C dX8_sitters_158 h (fun v1 h => ?_)
  refine sm_istore (lv' := [(5, .int v1), (0, .ref (sm_ad (sm_w X) 0)), (1, .int a1), (3, .int a3), (4, .int a4), (6, .int l6)]) C dX8_sitters_159 (by decide) rfl ?_
  refine sm_iinc (lv' := fun v2 => [(6, .int v2), (5, .int v1), (0, .ref (sm_ad (sm_w X) 0)), (1, .int a1), (3, .int a3), (4, .int a4)]) C 5 dX8_sitters_161 rfl (by decide) (fun _ => rfl) h (fun v2 h => ?_)
  refine sm_goto C 75 dX8_sitters_164 (by decide) ?_
  refine sm_sub (lv' := [(0, .ref (sm_ad (sm_w X) 0)), (1, .int a1), (3, .int a3), (4, .int a4), (5, .int v1), (6, .int v2)]) [2, 3, 4, 5, 1, 0] rfl ?_
  exact hk75 s0 v1 v2 h
set_option maxRecDepth 4000 in
theorem mk_X8_sitters_p75 {X : sm_VC} (C : sm_Cx X prog_10_method_71_code 8 "SmokeGoesToModel" 5 168 (some .int)) (hw : mo_is (sm_w X)) {a1 : Int32} {a2 : Int32} {a3 : Int32} {a4 : Int32}  {R : Int32 × sm_St}   : ∀ (n : Nat) (s0 : sm_St) (l5 : Int32) (l6 : Int32) , mf_X8_sitters_p75 a1 a2 a3 a4 n s0 l5 l6 = some R → sm_V X (sm_QI X R) 8 s0 75 [(0, .ref (sm_ad (sm_w X) 0)), (1, .int a1), (3, .int a3), (4, .int a4), (5, .int l5), (6, .int l6)] [] := by
  intro n
  induction n with
  | zero =>
    intro s0 l5 l6 h
    have h : (none : Option (Int32 × sm_St)) = some R := h
    cases h
  | succ n ih =>
    intro s0 l5 l6 h
    unfold mf_X8_sitters_p75 at h
    refine sm_iload C 5 dX8_sitters_75 rfl ?_
    refine sm_iload C 3 dX8_sitters_77 rfl ?_
    refine sm_icmp_ge C 167 dX8_sitters_79 (by decide) h (fun h => ?_) (fun h => ?_)
    · refine sm_iload C 4 dX8_sitters_167 rfl ?_
      exact sm_iret C dX8_sitters_169 h
    · refine sm_iload_n C 2 dX8_sitters_82 rfl rfl ?_
      refine sm_if_lt C 103 dX8_sitters_83 (by decide) h (fun h => ?_) (fun h => ?_)
      · refine sm_bipush (v := (-12)) C dX8_sitters_103 (by decide) ?_
        exact sm_iret C dX8_sitters_105 h
      · refine sm_iload_n C 2 dX8_sitters_86 rfl rfl ?_
        refine sm_aload_n C 0 dX8_sitters_87 rfl rfl ?_
        refine mr_M_sheetSize C hw (k := 0) rfl gf_M_88 dX8_sitters_88 ?_
        refine sm_iload_n C 1 dX8_sitters_91 rfl rfl ?_
        refine ma_iald C hw (k := 22) rfl rfl dX8_sitters_92 h (fun v1 h => ?_)
        refine sm_iconst (v := 3) C dX8_sitters_93 (by decide) ?_
        refine sm_iload C 5 dX8_sitters_94 rfl ?_
        refine sm_imul C dX8_sitters_96 h (fun v2 h => ?_)
        refine sm_isub C dX8_sitters_97 h (fun v3 h => ?_)
        refine sm_iconst (v := 3) C dX8_sitters_98 (by decide) ?_
        refine sm_isub C dX8_sitters_99 h (fun v4 h => ?_)
        refine sm_icmp_le C 106 dX8_sitters_100 (by decide) h (fun h => ?_) (fun h => ?_)
        · refine sm_bipush (v := 40) C dX8_sitters_106 (by decide) ?_
          refine sm_iload_n C 1 dX8_sitters_108 rfl rfl ?_
          refine sm_imul C dX8_sitters_109 h (fun v5 h => ?_)
          refine sm_iload_n C 2 dX8_sitters_110 rfl rfl ?_
          refine sm_iadd C dX8_sitters_111 h (fun v6 h => ?_)
          refine sm_iconst (v := 3) C dX8_sitters_112 (by decide) ?_
          refine sm_iload C 5 dX8_sitters_113 rfl ?_
          refine sm_imul C dX8_sitters_115 h (fun v7 h => ?_)
          refine sm_iadd C dX8_sitters_116 h (fun v8 h => ?_)
          refine sm_istore (lv' := [(7, .int v8), (0, .ref (sm_ad (sm_w X) 0)), (1, .int a1), (3, .int a3), (4, .int a4), (5, .int l5), (6, .int l6)]) C dX8_sitters_117 (by decide) rfl ?_
          refine sm_iload C 5 dX8_sitters_119 rfl ?_
          refine sm_aload_n C 1 dX8_sitters_121 rfl rfl ?_
          refine sm_aload_n C 1 dX8_sitters_122 rfl rfl ?_
          refine mr_M_items C hw (k := 0) rfl gf_M_91 dX8_sitters_123 ?_
          refine sm_iload C 0 dX8_sitters_126 rfl ?_
          refine ma_iald C hw (k := 23) rfl rfl dX8_sitters_128 h (fun v9 h => ?_)
          refine sm_aload_n C 1 dX8_sitters_129 rfl rfl ?_
          refine mr_M_items C hw (k := 0) rfl gf_M_91 dX8_sitters_130 ?_
          refine sm_iload C 0 dX8_sitters_133 rfl ?_
          refine sm_iconst (v := 1) C dX8_sitters_135 (by decide) ?_
          refine sm_iadd C dX8_sitters_136 h (fun v10 h => ?_)
          refine ma_iald C hw (k := 23) rfl rfl dX8_sitters_137 h (fun v11 h => ?_)
          refine sm_aload_n C 1 dX8_sitters_138 rfl rfl ?_
          refine mr_M_items C hw (k := 0) rfl gf_M_91 dX8_sitters_139 ?_
          refine sm_iload C 0 dX8_sitters_142 rfl ?_
          refine sm_iconst (v := 2) C dX8_sitters_144 (by decide) ?_
          refine sm_iadd C dX8_sitters_145 h (fun v12 h => ?_)
          refine ma_iald C hw (k := 23) rfl rfl dX8_sitters_146 h (fun v13 h => ?_)
          refine sm_callVI (k := 0) C [.int v9, .int v11, .int v13] (mc_X8_sitter hw v9 v11 v13) gm_X8_sitter gl_M_379 gi_X8_sitter ge_X8_sitter (mob_M hw rfl) rfl ⟨Nat.le_of_ble_eq_true rfl, Nat.le_of_ble_eq_true rfl⟩ rfl (Nat.le_of_ble_eq_true rfl) dX8_sitters_147 h (fun v14 s15 h => ?_)
          refine sm_if_lt C 157 dX8_sitters_150 (by decide) h (fun h => ?_) (fun h => ?_)
          · refine sm_iconst (v := 0) C dX8_sitters_157 (by decide) ?_
            refine sm_sub (lv' := [(0, .ref (sm_ad (sm_w X) 0)), (1, .int a1), (3, .int a3), (4, .int a4), (6, .int l6)]) [1, 2, 3, 4, 6] rfl ?_
            exact mk_X8_sitters_p158 C hw ih s15 l6 (0 : Int32) l5 h
          · refine sm_iconst (v := 1) C dX8_sitters_153 (by decide) ?_
            refine sm_goto C 158 dX8_sitters_154 (by decide) ?_
            refine sm_sub (lv' := [(0, .ref (sm_ad (sm_w X) 0)), (1, .int a1), (3, .int a3), (4, .int a4), (6, .int l6)]) [1, 2, 3, 4, 6] rfl ?_
            exact mk_X8_sitters_p158 C hw ih s15 l6 (1 : Int32) l5 h
        · refine sm_bipush (v := (-12)) C dX8_sitters_103 (by decide) ?_
          exact sm_iret C dX8_sitters_105 h
set_option maxRecDepth 4000 in
theorem mk_X8_sitters_p57 {X : sm_VC} (C : sm_Cx X prog_10_method_71_code 8 "SmokeGoesToModel" 5 168 (some .int)) (hw : mo_is (sm_w X)) {a1 : Int32} {a2 : Int32} {a3 : Int32} {a4 : Int32}  {R : Int32 × sm_St}   (s0 : sm_St)   (h : mf_X8_sitters_p57 a1 a2 a3 a4 s0 = some R) : sm_V X (sm_QI X R) 8 s0 57 [(0, .ref (sm_ad (sm_w X) 0)), (1, .int a1), (3, .int a3), (4, .int a4)] [] := by
  unfold mf_X8_sitters_p57 at h
  refine sm_aload_n C 0 dX8_sitters_57 rfl rfl ?_
  refine mr_M_isThere C hw (k := 0) rfl gf_M_81 dX8_sitters_58 ?_
  refine sm_iload_n C 1 dX8_sitters_61 rfl rfl ?_
  refine ma_zald C hw (k := 20) rfl rfl dX8_sitters_62 h (fun v1 h => ?_)
  refine sm_if_ne C 69 dX8_sitters_63 (by decide) h (fun h => ?_) (fun h => ?_)
  · refine sm_iconst (v := 0) C dX8_sitters_69 (by decide) ?_
    refine sm_istore (lv' := [(5, .int (0 : Int32)), (0, .ref (sm_ad (sm_w X) 0)), (1, .int a1), (3, .int a3), (4, .int a4)]) C dX8_sitters_70 (by decide) rfl ?_
    refine sm_iconst (v := 0) C dX8_sitters_72 (by decide) ?_
    refine sm_istore (lv' := [(6, .int (0 : Int32)), (5, .int (0 : Int32)), (0, .ref (sm_ad (sm_w X) 0)), (1, .int a1), (3, .int a3), (4, .int a4)]) C dX8_sitters_73 (by decide) rfl ?_
    refine sm_sub (lv' := [(0, .ref (sm_ad (sm_w X) 0)), (1, .int a1), (3, .int a3), (4, .int a4), (5, .int (0 : Int32)), (6, .int (0 : Int32))]) [2, 3, 4, 5, 1, 0] rfl ?_
    exact mk_X8_sitters_p75 C hw sm_F s0 (0 : Int32) (0 : Int32) h
  · refine sm_bipush (v := (-11)) C dX8_sitters_66 (by decide) ?_
    exact sm_iret C dX8_sitters_68 h
set_option maxRecDepth 4000 in
theorem mc_X8_sitters {w : sm_WD} {l : Launch} (hw : mo_is w) (a1 : Int32) (a2 : Int32) (a3 : Int32) (a4 : Int32) : sm_CI w l yX8_sitters prog_10_method_71_code 8 (some .int) 5 168 [.ref (sm_ad w 0), .int a1, .int a2, .int a3, .int a4] (fun s => mf_X8_sitters a1 a2 a3 a4 s) := by
  refine sm_CI.of (by decide +kernel) (Nat.le_of_ble_eq_true rfl) (fun X s0 R hXw hXl C h => ?_)
  subst hXw
  subst hXl
  have h : mf_X8_sitters a1 a2 a3 a4 s0 = some R := h
  show sm_V X (sm_QI X R) 8 s0 0 [(0, .ref (sm_ad (sm_w X) 0)), (1, .int a1), (2, .int a2), (3, .int a3), (4, .int a4)] []
  unfold mf_X8_sitters at h
  refine sm_iload_n C 1 dX8_sitters_0 rfl rfl ?_
  refine sm_callSI C [.int a1] (mc_X8_isSheet hw a1) gm_X8_isSheet gl_M_315 gs_X8_isSheet rfl ⟨Nat.le_of_ble_eq_true rfl, Nat.le_of_ble_eq_true rfl⟩ rfl (Nat.le_of_ble_eq_true rfl) dX8_sitters_1 h (fun v1 s2 h => ?_)
  refine sm_if_eq C 32 dX8_sitters_4 (by decide) h (fun h => ?_) (fun h => ?_)
  · refine sm_bipush (v := (-2)) C dX8_sitters_32 (by decide) ?_
    exact sm_iret C dX8_sitters_34 h
  · refine sm_iload_n C 2 dX8_sitters_7 rfl rfl ?_
    refine sm_i2l C dX8_sitters_8 h (fun v3 h => ?_)
    refine sm_lconst (v := 0) C dX8_sitters_9 (by decide) ?_
    refine sm_ldc2 C gk_M_377 dX8_sitters_10 ?_
    refine sm_callSI C [.long v3, .long (0 : Int64), .long (2 : Int64)] (mc_X8_in hw v3 (0 : Int64) (2 : Int64)) gm_X8_in gl_M_104 gs_X8_in rfl ⟨Nat.le_of_ble_eq_true rfl, Nat.le_of_ble_eq_true rfl⟩ rfl (Nat.le_of_ble_eq_true rfl) dX8_sitters_13 h (fun v4 s5 h => ?_)
    refine sm_if_eq C 32 dX8_sitters_16 (by decide) h (fun h => ?_) (fun h => ?_)
    · refine sm_bipush (v := (-2)) C dX8_sitters_32 (by decide) ?_
      exact sm_iret C dX8_sitters_34 h
    · refine sm_iload C 4 dX8_sitters_19 rfl ?_
      refine sm_i2l C dX8_sitters_21 h (fun v6 h => ?_)
      refine sm_lconst (v := 0) C dX8_sitters_22 (by decide) ?_
      refine sm_ldc2 C gk_M_129 dX8_sitters_23 ?_
      refine sm_callSI C [.long v6, .long (0 : Int64), .long (5 : Int64)] (mc_X8_in hw v6 (0 : Int64) (5 : Int64)) gm_X8_in gl_M_104 gs_X8_in rfl ⟨Nat.le_of_ble_eq_true rfl, Nat.le_of_ble_eq_true rfl⟩ rfl (Nat.le_of_ble_eq_true rfl) dX8_sitters_26 h (fun v7 s8 h => ?_)
      refine sm_if_ne C 35 dX8_sitters_29 (by decide) h (fun h => ?_) (fun h => ?_)
      · refine sm_aload_n C 0 dX8_sitters_35 rfl rfl ?_
        refine mr_M_isThere C hw (k := 0) rfl gf_M_81 dX8_sitters_36 ?_
        refine sm_iload_n C 1 dX8_sitters_39 rfl rfl ?_
        refine ma_zald C hw (k := 20) rfl rfl dX8_sitters_40 h (fun v9 h => ?_)
        refine sm_if_eq C 57 dX8_sitters_41 (by decide) h (fun h => ?_) (fun h => ?_)
        · refine sm_sub (lv' := [(0, .ref (sm_ad (sm_w X) 0)), (1, .int a1), (3, .int a3), (4, .int a4)]) [0, 1, 3, 4] rfl ?_
          exact mk_X8_sitters_p57 C hw s8 h
        · refine sm_aload_n C 0 dX8_sitters_44 rfl rfl ?_
          refine mr_M_sorts C hw (k := 0) rfl gf_M_85 dX8_sitters_45 ?_
          refine sm_iload_n C 1 dX8_sitters_48 rfl rfl ?_
          refine ma_iald C hw (k := 21) rfl rfl dX8_sitters_49 h (fun v10 h => ?_)
          refine sm_iload_n C 2 dX8_sitters_50 rfl rfl ?_
          refine sm_icmp_eq C 57 dX8_sitters_51 (by decide) h (fun h => ?_) (fun h => ?_)
          · refine sm_sub (lv' := [(0, .ref (sm_ad (sm_w X) 0)), (1, .int a1), (3, .int a3), (4, .int a4)]) [0, 1, 3, 4] rfl ?_
            exact mk_X8_sitters_p57 C hw s8 h
          · refine sm_bipush (v := (-13)) C dX8_sitters_54 (by decide) ?_
            exact sm_iret C dX8_sitters_56 h
      · refine sm_bipush (v := (-2)) C dX8_sitters_32 (by decide) ?_
        exact sm_iret C dX8_sitters_34 h
noncomputable def mf_X8_over (a1 : Int32) (s0 : sm_St) : Option (Int32 × sm_St) :=
  if a1 = 0 then (
  some ((-1 : Int32), s0))
  else (
  if a1 = (3 : Int32) then (
  some ((1 : Int32), s0))
  else (
  if a1 = (4 : Int32) then (
  some ((2 : Int32), s0))
  else (
  some ((0 : Int32), s0))))
set_option maxRecDepth 4000 in
theorem mc_X8_over {w : sm_WD} {l : Launch} (hw : mo_is w) (a1 : Int32) : sm_CI w l yX8_over prog_10_method_72_code 1 (some .int) 2 100 [.int a1] (fun s => mf_X8_over a1 s) := by
  refine sm_CI.of (by decide +kernel) (Nat.le_of_ble_eq_true rfl) (fun X s0 R hXw hXl C h => ?_)
  subst hXw
  subst hXl
  have h : mf_X8_over a1 s0 = some R := h
  show sm_V X (sm_QI X R) 1 s0 0 [(0, .int a1)] []
  unfold mf_X8_over at h
  refine sm_iload_n C 0 dX8_over_0 rfl rfl ?_
  refine sm_if_ne C 8 dX8_over_1 (by decide) h (fun h => ?_) (fun h => ?_)
  · refine sm_iload_n C 0 dX8_over_8 rfl rfl ?_
    refine sm_iconst (v := 3) C dX8_over_9 (by decide) ?_
    refine sm_icmp_ne C 17 dX8_over_10 (by decide) h (fun h => ?_) (fun h => ?_)
    · refine sm_iload_n C 0 dX8_over_17 rfl rfl ?_
      refine sm_iconst (v := 4) C dX8_over_18 (by decide) ?_
      refine sm_icmp_ne C 26 dX8_over_19 (by decide) h (fun h => ?_) (fun h => ?_)
      · refine sm_iconst (v := 0) C dX8_over_26 (by decide) ?_
        exact sm_iret C dX8_over_27 h
      · refine sm_iconst (v := 2) C dX8_over_22 (by decide) ?_
        refine sm_goto C 27 dX8_over_23 (by decide) ?_
        exact sm_iret C dX8_over_27 h
    · refine sm_iconst (v := 1) C dX8_over_13 (by decide) ?_
      refine sm_goto C 27 dX8_over_14 (by decide) ?_
      exact sm_iret C dX8_over_27 h
  · refine sm_iconst (v := (-1)) C dX8_over_4 (by decide) ?_
    refine sm_goto C 27 dX8_over_5 (by decide) ?_
    exact sm_iret C dX8_over_27 h
noncomputable def mf_X8_taken_p51 (a1 : Int32) (a2 : Int32) (s0 : sm_St) (l3 : Int32) : Option (Int32 × sm_St) :=
  if l3 = a2 then (
  sm_g (sm_in a1 5) <| sm_b (s0.1 5 a1.toNatClampNeg) fun v1 =>
  some (v1, s0))
  else (
  some ((-13 : Int32), s0))
noncomputable def mf_X8_taken_p33 (a1 : Int32) (a2 : Int32) : Nat → sm_St → Int32 → Option (Int32 × sm_St)
  | 0, _, _ => none
  | n + 1, s0, l3 =>
  if l3 = (-1 : Int32) then (
  mf_X8_taken_p51 a1 a2 s0 l3)
  else (
  if l3 = a2 then (
  mf_X8_taken_p51 a1 a2 s0 l3)
  else (
  sm_c (mf_X8_over l3 s0) fun v1 s2 =>
  (mf_X8_taken_p33 a1 a2 n) s2 v1))
noncomputable def mf_X8_taken (a1 : Int32) (a2 : Int32) (s0 : sm_St) : Option (Int32 × sm_St) :=
  sm_b (a2.toInt64) fun v1 =>
  sm_c (mf_X8_in v1 (0 : Int64) (5 : Int64) s0) fun v2 s3 =>
  if v2 = 0 then (
  some ((-2 : Int32), s3))
  else (
  sm_c (mf_X8_isSitter a1 s3) fun v4 s5 =>
  if v4 = 0 then (
  some ((-11 : Int32), s5))
  else (
  sm_g (sm_in a1 5) <| sm_b (s5.1 4 a1.toNatClampNeg) fun v6 =>
  mf_X8_taken_p33 a1 a2 sm_F s5 v6))
set_option maxRecDepth 4000 in
theorem mk_X8_taken_p51 {X : sm_VC} (C : sm_Cx X prog_10_method_73_code 4 "SmokeGoesToModel" 4 146 (some .int)) (hw : mo_is (sm_w X)) {a1 : Int32} {a2 : Int32}  {R : Int32 × sm_St}   (s0 : sm_St) (l3 : Int32)  (h : mf_X8_taken_p51 a1 a2 s0 l3 = some R) : sm_V X (sm_QI X R) 4 s0 51 [(0, .ref (sm_ad (sm_w X) 0)), (1, .int a1), (2, .int a2), (3, .int l3)] [] := by
  unfold mf_X8_taken_p51 at h
  refine sm_iload_n C 3 dX8_taken_51 rfl rfl ?_
  refine sm_iload_n C 2 dX8_taken_52 rfl rfl ?_
  refine sm_icmp_ne C 65 dX8_taken_53 (by decide) h (fun h => ?_) (fun h => ?_)
  · refine sm_bipush (v := (-13)) C dX8_taken_65 (by decide) ?_
    exact sm_iret C dX8_taken_67 h
  · refine sm_aload_n C 0 dX8_taken_56 rfl rfl ?_
    refine mr_M_numbers C hw (k := 0) rfl gf_M_32 dX8_taken_57 ?_
    refine sm_iload_n C 1 dX8_taken_60 rfl rfl ?_
    refine ma_iald C hw (k := 5) rfl rfl dX8_taken_61 h (fun v1 h => ?_)
    refine sm_goto C 67 dX8_taken_62 (by decide) ?_
    exact sm_iret C dX8_taken_67 h
set_option maxRecDepth 4000 in
theorem mk_X8_taken_p33 {X : sm_VC} (C : sm_Cx X prog_10_method_73_code 4 "SmokeGoesToModel" 4 146 (some .int)) (hw : mo_is (sm_w X)) {a1 : Int32} {a2 : Int32}  {R : Int32 × sm_St}   : ∀ (n : Nat) (s0 : sm_St) (l3 : Int32) , mf_X8_taken_p33 a1 a2 n s0 l3 = some R → sm_V X (sm_QI X R) 4 s0 33 [(0, .ref (sm_ad (sm_w X) 0)), (1, .int a1), (2, .int a2), (3, .int l3)] [] := by
  intro n
  induction n with
  | zero =>
    intro s0 l3 h
    have h : (none : Option (Int32 × sm_St)) = some R := h
    cases h
  | succ n ih =>
    intro s0 l3 h
    unfold mf_X8_taken_p33 at h
    refine sm_iload_n C 3 dX8_taken_33 rfl rfl ?_
    refine sm_iconst (v := (-1)) C dX8_taken_34 (by decide) ?_
    refine sm_icmp_eq C 51 dX8_taken_35 (by decide) h (fun h => ?_) (fun h => ?_)
    · exact mk_X8_taken_p51 C hw s0 l3 h
    · refine sm_iload_n C 3 dX8_taken_38 rfl rfl ?_
      refine sm_iload_n C 2 dX8_taken_39 rfl rfl ?_
      refine sm_icmp_eq C 51 dX8_taken_40 (by decide) h (fun h => ?_) (fun h => ?_)
      · exact mk_X8_taken_p51 C hw s0 l3 h
      · refine sm_iload_n C 3 dX8_taken_43 rfl rfl ?_
        refine sm_callSI C [.int l3] (mc_X8_over hw l3) gm_X8_over gl_M_382 gs_X8_over rfl ⟨Nat.le_of_ble_eq_true rfl, Nat.le_of_ble_eq_true rfl⟩ rfl (Nat.le_of_ble_eq_true rfl) dX8_taken_44 h (fun v1 s2 h => ?_)
        refine sm_istore_n (lv' := [(3, .int v1), (0, .ref (sm_ad (sm_w X) 0)), (1, .int a1), (2, .int a2)]) C dX8_taken_47 rfl (by decide) rfl ?_
        refine sm_goto C 33 dX8_taken_48 (by decide) ?_
        refine sm_sub (lv' := [(0, .ref (sm_ad (sm_w X) 0)), (1, .int a1), (2, .int a2), (3, .int v1)]) [1, 2, 3, 0] rfl ?_
        exact ih s2 v1 h
set_option maxRecDepth 4000 in
theorem mc_X8_taken {w : sm_WD} {l : Launch} (hw : mo_is w) (a1 : Int32) (a2 : Int32) : sm_CI w l yX8_taken prog_10_method_73_code 4 (some .int) 4 146 [.ref (sm_ad w 0), .int a1, .int a2] (fun s => mf_X8_taken a1 a2 s) := by
  refine sm_CI.of (by decide +kernel) (Nat.le_of_ble_eq_true rfl) (fun X s0 R hXw hXl C h => ?_)
  subst hXw
  subst hXl
  have h : mf_X8_taken a1 a2 s0 = some R := h
  show sm_V X (sm_QI X R) 4 s0 0 [(0, .ref (sm_ad (sm_w X) 0)), (1, .int a1), (2, .int a2)] []
  unfold mf_X8_taken at h
  refine sm_iload_n C 2 dX8_taken_0 rfl rfl ?_
  refine sm_i2l C dX8_taken_1 h (fun v1 h => ?_)
  refine sm_lconst (v := 0) C dX8_taken_2 (by decide) ?_
  refine sm_ldc2 C gk_M_129 dX8_taken_3 ?_
  refine sm_callSI C [.long v1, .long (0 : Int64), .long (5 : Int64)] (mc_X8_in hw v1 (0 : Int64) (5 : Int64)) gm_X8_in gl_M_104 gs_X8_in rfl ⟨Nat.le_of_ble_eq_true rfl, Nat.le_of_ble_eq_true rfl⟩ rfl (Nat.le_of_ble_eq_true rfl) dX8_taken_6 h (fun v2 s3 h => ?_)
  refine sm_if_ne C 15 dX8_taken_9 (by decide) h (fun h => ?_) (fun h => ?_)
  · refine sm_aload_n C 0 dX8_taken_15 rfl rfl ?_
    refine sm_iload_n C 1 dX8_taken_16 rfl rfl ?_
    refine sm_callVI (k := 0) C [.int a1] (mc_X8_isSitter hw a1) gm_X8_isSitter gl_M_112 gi_X8_isSitter ge_X8_isSitter (mob_M hw rfl) rfl ⟨Nat.le_of_ble_eq_true rfl, Nat.le_of_ble_eq_true rfl⟩ rfl (Nat.le_of_ble_eq_true rfl) dX8_taken_17 h (fun v4 s5 h => ?_)
    refine sm_if_ne C 26 dX8_taken_20 (by decide) h (fun h => ?_) (fun h => ?_)
    · refine sm_aload_n C 0 dX8_taken_26 rfl rfl ?_
      refine mr_M_kinds C hw (k := 0) rfl gf_M_29 dX8_taken_27 ?_
      refine sm_iload_n C 1 dX8_taken_30 rfl rfl ?_
      refine ma_iald C hw (k := 4) rfl rfl dX8_taken_31 h (fun v6 h => ?_)
      refine sm_istore_n (lv' := [(3, .int v6), (0, .ref (sm_ad (sm_w X) 0)), (1, .int a1), (2, .int a2)]) C dX8_taken_32 rfl (by decide) rfl ?_
      refine sm_sub (lv' := [(0, .ref (sm_ad (sm_w X) 0)), (1, .int a1), (2, .int a2), (3, .int v6)]) [1, 2, 3, 0] rfl ?_
      exact mk_X8_taken_p33 C hw sm_F s5 v6 h
    · refine sm_bipush (v := (-11)) C dX8_taken_23 (by decide) ?_
      exact sm_iret C dX8_taken_25 h
  · refine sm_bipush (v := (-2)) C dX8_taken_12 (by decide) ?_
    exact sm_iret C dX8_taken_14 h
