/-! 13.mparse: pure words by program, and their contracts -/
noncomputable def mf_X8_spell (a1 : Int32) (a2 : Int32) (a3 : Int32) (a4 : Int32) (a5 : Int32) (a6 : Int32) (a7 : Int32) (a8 : Int32) (a9 : Int32) (s0 : sm_St) : Option (Unit × sm_St) :=
  sm_g (sm_in a1 960) <| sm_b (sm_sI s0 1 a1.toNatClampNeg a2) fun s1 =>
  sm_b (a1 + (1 : Int32)) fun v2 =>
  sm_g (sm_in v2 960) <| sm_b (sm_sI s1 1 v2.toNatClampNeg a3) fun s3 =>
  sm_b (a1 + (2 : Int32)) fun v4 =>
  sm_g (sm_in v4 960) <| sm_b (sm_sI s3 1 v4.toNatClampNeg a4) fun s5 =>
  sm_b (a1 + (3 : Int32)) fun v6 =>
  sm_g (sm_in v6 960) <| sm_b (sm_sI s5 1 v6.toNatClampNeg a5) fun s7 =>
  sm_b (a1 + (4 : Int32)) fun v8 =>
  sm_g (sm_in v8 960) <| sm_b (sm_sI s7 1 v8.toNatClampNeg a6) fun s9 =>
  sm_b (a1 + (5 : Int32)) fun v10 =>
  sm_g (sm_in v10 960) <| sm_b (sm_sI s9 1 v10.toNatClampNeg a7) fun s11 =>
  sm_b (a1 + (6 : Int32)) fun v12 =>
  sm_g (sm_in v12 960) <| sm_b (sm_sI s11 1 v12.toNatClampNeg a8) fun s13 =>
  sm_b (a1 + (7 : Int32)) fun v14 =>
  sm_g (sm_in v14 960) <| sm_b (sm_sI s13 1 v14.toNatClampNeg a9) fun s15 =>
  some ((), s15)
set_option maxRecDepth 4000 in
theorem mc_X8_spell {w : sm_WD} {l : Launch} (hw : mo_is w) (a1 : Int32) (a2 : Int32) (a3 : Int32) (a4 : Int32) (a5 : Int32) (a6 : Int32) (a7 : Int32) (a8 : Int32) (a9 : Int32) : sm_CV w l yX8_spell prog_10_method_6_code 10 none 2 100 [.ref (sm_ad w 0), .int a1, .int a2, .int a3, .int a4, .int a5, .int a6, .int a7, .int a8, .int a9] (fun s => mf_X8_spell a1 a2 a3 a4 a5 a6 a7 a8 a9 s) := by
  refine sm_CV.of (by decide +kernel) (Nat.le_of_ble_eq_true rfl) (fun X s0 R hXw hXl C h => ?_)
  subst hXw
  subst hXl
  have h : mf_X8_spell a1 a2 a3 a4 a5 a6 a7 a8 a9 s0 = some R := h
  show sm_V X (sm_QV X R) 10 s0 0 [(0, .ref (sm_ad (sm_w X) 0)), (1, .int a1), (2, .int a2), (3, .int a3), (4, .int a4), (5, .int a5), (6, .int a6), (7, .int a7), (8, .int a8), (9, .int a9)] []
  unfold mf_X8_spell at h
  refine sm_aload_n C 0 dX8_spell_0 rfl rfl ?_
  refine mr_M_texts C hw (k := 0) rfl gf_M_13 dX8_spell_1 ?_
  refine sm_iload_n C 1 dX8_spell_4 rfl rfl ?_
  refine sm_iload_n C 2 dX8_spell_5 rfl rfl ?_
  refine ma_iast C hw (k := 1) rfl rfl dX8_spell_6 h (fun s1 h => ?_)
  refine sm_aload_n C 0 dX8_spell_7 rfl rfl ?_
  refine mr_M_texts C hw (k := 0) rfl gf_M_13 dX8_spell_8 ?_
  refine sm_iload_n C 1 dX8_spell_11 rfl rfl ?_
  refine sm_iconst (v := 1) C dX8_spell_12 (by decide) ?_
  refine sm_iadd C dX8_spell_13 h (fun v2 h => ?_)
  refine sm_iload_n C 3 dX8_spell_14 rfl rfl ?_
  refine ma_iast C hw (k := 1) rfl rfl dX8_spell_15 h (fun s3 h => ?_)
  refine sm_aload_n C 0 dX8_spell_16 rfl rfl ?_
  refine mr_M_texts C hw (k := 0) rfl gf_M_13 dX8_spell_17 ?_
  refine sm_iload_n C 1 dX8_spell_20 rfl rfl ?_
  refine sm_iconst (v := 2) C dX8_spell_21 (by decide) ?_
  refine sm_iadd C dX8_spell_22 h (fun v4 h => ?_)
  refine sm_iload C 4 dX8_spell_23 rfl ?_
  refine ma_iast C hw (k := 1) rfl rfl dX8_spell_25 h (fun s5 h => ?_)
  refine sm_aload_n C 0 dX8_spell_26 rfl rfl ?_
  refine mr_M_texts C hw (k := 0) rfl gf_M_13 dX8_spell_27 ?_
  refine sm_iload_n C 1 dX8_spell_30 rfl rfl ?_
  refine sm_iconst (v := 3) C dX8_spell_31 (by decide) ?_
  refine sm_iadd C dX8_spell_32 h (fun v6 h => ?_)
  refine sm_iload C 5 dX8_spell_33 rfl ?_
  refine ma_iast C hw (k := 1) rfl rfl dX8_spell_35 h (fun s7 h => ?_)
  refine sm_aload_n C 0 dX8_spell_36 rfl rfl ?_
  refine mr_M_texts C hw (k := 0) rfl gf_M_13 dX8_spell_37 ?_
  refine sm_iload_n C 1 dX8_spell_40 rfl rfl ?_
  refine sm_iconst (v := 4) C dX8_spell_41 (by decide) ?_
  refine sm_iadd C dX8_spell_42 h (fun v8 h => ?_)
  refine sm_iload C 6 dX8_spell_43 rfl ?_
  refine ma_iast C hw (k := 1) rfl rfl dX8_spell_45 h (fun s9 h => ?_)
  refine sm_aload_n C 0 dX8_spell_46 rfl rfl ?_
  refine mr_M_texts C hw (k := 0) rfl gf_M_13 dX8_spell_47 ?_
  refine sm_iload_n C 1 dX8_spell_50 rfl rfl ?_
  refine sm_iconst (v := 5) C dX8_spell_51 (by decide) ?_
  refine sm_iadd C dX8_spell_52 h (fun v10 h => ?_)
  refine sm_iload C 7 dX8_spell_53 rfl ?_
  refine ma_iast C hw (k := 1) rfl rfl dX8_spell_55 h (fun s11 h => ?_)
  refine sm_aload_n C 0 dX8_spell_56 rfl rfl ?_
  refine mr_M_texts C hw (k := 0) rfl gf_M_13 dX8_spell_57 ?_
  refine sm_iload_n C 1 dX8_spell_60 rfl rfl ?_
  refine sm_bipush (v := 6) C dX8_spell_61 (by decide) ?_
  refine sm_iadd C dX8_spell_63 h (fun v12 h => ?_)
  refine sm_iload C 8 dX8_spell_64 rfl ?_
  refine ma_iast C hw (k := 1) rfl rfl dX8_spell_66 h (fun s13 h => ?_)
  refine sm_aload_n C 0 dX8_spell_67 rfl rfl ?_
  refine mr_M_texts C hw (k := 0) rfl gf_M_13 dX8_spell_68 ?_
  refine sm_iload_n C 1 dX8_spell_71 rfl rfl ?_
  refine sm_bipush (v := 7) C dX8_spell_72 (by decide) ?_
  refine sm_iadd C dX8_spell_74 h (fun v14 h => ?_)
  refine sm_iload C 9 dX8_spell_75 rfl ?_
  refine ma_iast C hw (k := 1) rfl rfl dX8_spell_77 h (fun s15 h => ?_)
  exact sm_vret C dX8_spell_78 h
noncomputable def mf_X8_in (a1 : Int64) (a2 : Int64) (a3 : Int64) (s0 : sm_St) : Option (Int32 × sm_St) :=
  sm_b (lg_cmp a1 a2) fun v1 =>
  if v1 < 0 then (
  some ((0 : Int32), s0))
  else (
  sm_b (lg_cmp a1 a3) fun v2 =>
  if 0 < v2 then (
  some ((0 : Int32), s0))
  else (
  some ((1 : Int32), s0)))
set_option maxRecDepth 4000 in
theorem mc_X8_in {w : sm_WD} {l : Launch} (hw : mo_is w) (a1 : Int64) (a2 : Int64) (a3 : Int64) : sm_CI w l yX8_in prog_10_method_2_code 6 (some .boolean) 2 100 [.long a1, .long a2, .long a3] (fun s => mf_X8_in a1 a2 a3 s) := by
  refine sm_CI.of (by decide +kernel) (Nat.le_of_ble_eq_true rfl) (fun X s0 R hXw hXl C h => ?_)
  subst hXw
  subst hXl
  have h : mf_X8_in a1 a2 a3 s0 = some R := h
  show sm_V X (sm_QI X R) 6 s0 0 [(0, .long a1), (2, .long a2), (4, .long a3)] []
  unfold mf_X8_in at h
  refine sm_lload_n C 0 dX8_in_0 rfl rfl ?_
  refine sm_lload_n C 1 dX8_in_1 rfl rfl ?_
  refine sm_lcmp C dX8_in_2 h (fun v1 h => ?_)
  refine sm_if_lt C 17 dX8_in_3 (by decide) h (fun h => ?_) (fun h => ?_)
  · refine sm_iconst (v := 0) C dX8_in_17 (by decide) ?_
    exact sm_zretK C rfl dX8_in_18 h
  · refine sm_lload_n C 0 dX8_in_6 rfl rfl ?_
    refine sm_lload C 2 dX8_in_7 rfl ?_
    refine sm_lcmp C dX8_in_9 h (fun v2 h => ?_)
    refine sm_if_gt C 17 dX8_in_10 (by decide) h (fun h => ?_) (fun h => ?_)
    · refine sm_iconst (v := 0) C dX8_in_17 (by decide) ?_
      exact sm_zretK C rfl dX8_in_18 h
    · refine sm_iconst (v := 1) C dX8_in_13 (by decide) ?_
      refine sm_goto C 18 dX8_in_14 (by decide) ?_
      exact sm_zretK C rfl dX8_in_18 h
noncomputable def mf_X8_isSitter (a1 : Int32) (s0 : sm_St) : Option (Int32 × sm_St) :=
  sm_b (a1.toInt64) fun v1 =>
  sm_b (s0.1 0 15) fun v2 =>
  sm_b (v2 - (1 : Int32)) fun v3 =>
  sm_b (v3.toInt64) fun v4 =>
  sm_c (mf_X8_in v1 (0 : Int64) v4 s0) fun v5 s6 =>
  sm_g (decide (narrow .boolean (.int v5) = .int v5)) (some (v5, s6))
set_option maxRecDepth 4000 in
theorem mc_X8_isSitter {w : sm_WD} {l : Launch} (hw : mo_is w) (a1 : Int32) : sm_CI w l yX8_isSitter prog_10_method_7_code 2 (some .boolean) 3 125 [.ref (sm_ad w 0), .int a1] (fun s => mf_X8_isSitter a1 s) := by
  refine sm_CI.of (by decide +kernel) (Nat.le_of_ble_eq_true rfl) (fun X s0 R hXw hXl C h => ?_)
  subst hXw
  subst hXl
  have h : mf_X8_isSitter a1 s0 = some R := h
  show sm_V X (sm_QI X R) 2 s0 0 [(0, .ref (sm_ad (sm_w X) 0)), (1, .int a1)] []
  unfold mf_X8_isSitter at h
  refine sm_iload_n C 1 dX8_isSitter_0 rfl rfl ?_
  refine sm_i2l C dX8_isSitter_1 h (fun v1 h => ?_)
  refine sm_lconst (v := 0) C dX8_isSitter_2 (by decide) ?_
  refine sm_aload_n C 0 dX8_isSitter_3 rfl rfl ?_
  refine mr_M_sitterMany C hw (k := 0) rfl gf_M_101 dX8_isSitter_4 h (fun v2 h => ?_)
  refine sm_iconst (v := 1) C dX8_isSitter_7 (by decide) ?_
  refine sm_isub C dX8_isSitter_8 h (fun v3 h => ?_)
  refine sm_i2l C dX8_isSitter_9 h (fun v4 h => ?_)
  refine sm_callSI C [.long v1, .long (0 : Int64), .long v4] (mc_X8_in hw v1 (0 : Int64) v4) gm_X8_in gl_M_104 gs_X8_in rfl ⟨Nat.le_of_ble_eq_true rfl, Nat.le_of_ble_eq_true rfl⟩ rfl (Nat.le_of_ble_eq_true rfl) dX8_isSitter_10 h (fun v5 s6 h => ?_)
  exact sm_zret C dX8_isSitter_13 h
noncomputable def mf_X8_onPlace_p27 (a1 : Int32) (a2 : Int32) (k2 : sm_St → Int32 → Option (Int32 × sm_St)) (s0 : sm_St) (l3 : Int32) : Option (Int32 × sm_St) :=
  sm_b (l3 + Int32.ofInt 1) fun v1 =>
  k2 s0 v1
noncomputable def mf_X8_onPlace_p2 (a1 : Int32) (a2 : Int32) : Nat → sm_St → Int32 → Option (Int32 × sm_St)
  | 0, _, _ => none
  | n + 1, s0, l3 =>
  sm_b (s0.1 0 15) fun v1 =>
  if v1 ≤ l3 then (
  some ((-1 : Int32), s0))
  else (
  if l3 = a2 then (
  mf_X8_onPlace_p27 a1 a2 (mf_X8_onPlace_p2 a1 a2 n) s0 l3)
  else (
  sm_g (sm_in l3 5) <| sm_b (s0.1 6 l3.toNatClampNeg) fun v2 =>
  if v2 = a1 then (
  some (l3, s0))
  else (
  mf_X8_onPlace_p27 a1 a2 (mf_X8_onPlace_p2 a1 a2 n) s0 l3)))
noncomputable def mf_X8_onPlace (a1 : Int32) (a2 : Int32) (s0 : sm_St) : Option (Int32 × sm_St) :=
  mf_X8_onPlace_p2 a1 a2 sm_F s0 (0 : Int32)
set_option maxRecDepth 4000 in
theorem mk_X8_onPlace_p27 {X : sm_VC} (C : sm_Cx X prog_10_method_9_code 4 "SmokeGoesToModel" 2 100 (some .int)) (hw : mo_is (sm_w X)) {a1 : Int32} {a2 : Int32}  {R : Int32 × sm_St} {k2 : sm_St → Int32 → Option (Int32 × sm_St)} (hk2 : ∀ (s : sm_St) (l3 : Int32), k2 s l3 = some R → sm_V X (sm_QI X R) 4 s 2 [(0, .ref (sm_ad (sm_w X) 0)), (1, .int a1), (2, .int a2), (3, .int l3)] []) (s0 : sm_St) (l3 : Int32)  (h : mf_X8_onPlace_p27 a1 a2 k2 s0 l3 = some R) : sm_V X (sm_QI X R) 4 s0 27 [(0, .ref (sm_ad (sm_w X) 0)), (1, .int a1), (2, .int a2), (3, .int l3)] [] := by
  unfold mf_X8_onPlace_p27 at h
  refine sm_iinc (lv' := fun v1 => [(3, .int v1), (0, .ref (sm_ad (sm_w X) 0)), (1, .int a1), (2, .int a2)]) C 3 dX8_onPlace_27 rfl (by decide) (fun _ => rfl) h (fun v1 h => ?_)
  refine sm_goto C 2 dX8_onPlace_30 (by decide) ?_
  refine sm_sub (lv' := [(0, .ref (sm_ad (sm_w X) 0)), (1, .int a1), (2, .int a2), (3, .int v1)]) [1, 2, 3, 0] rfl ?_
  exact hk2 s0 v1 h
set_option maxRecDepth 4000 in
theorem mk_X8_onPlace_p2 {X : sm_VC} (C : sm_Cx X prog_10_method_9_code 4 "SmokeGoesToModel" 2 100 (some .int)) (hw : mo_is (sm_w X)) {a1 : Int32} {a2 : Int32}  {R : Int32 × sm_St}   : ∀ (n : Nat) (s0 : sm_St) (l3 : Int32) , mf_X8_onPlace_p2 a1 a2 n s0 l3 = some R → sm_V X (sm_QI X R) 4 s0 2 [(0, .ref (sm_ad (sm_w X) 0)), (1, .int a1), (2, .int a2), (3, .int l3)] [] := by
  intro n
  induction n with
  | zero =>
    intro s0 l3 h
    have h : (none : Option (Int32 × sm_St)) = some R := h
    cases h
  | succ n ih =>
    intro s0 l3 h
    unfold mf_X8_onPlace_p2 at h
    refine sm_iload_n C 3 dX8_onPlace_2 rfl rfl ?_
    refine sm_aload_n C 0 dX8_onPlace_3 rfl rfl ?_
    refine mr_M_sitterMany C hw (k := 0) rfl gf_M_101 dX8_onPlace_4 h (fun v1 h => ?_)
    refine sm_icmp_ge C 33 dX8_onPlace_7 (by decide) h (fun h => ?_) (fun h => ?_)
    · refine sm_iconst (v := (-1)) C dX8_onPlace_33 (by decide) ?_
      exact sm_iret C dX8_onPlace_34 h
    · refine sm_iload_n C 3 dX8_onPlace_10 rfl rfl ?_
      refine sm_iload_n C 2 dX8_onPlace_11 rfl rfl ?_
      refine sm_icmp_eq C 27 dX8_onPlace_12 (by decide) h (fun h => ?_) (fun h => ?_)
      · exact mk_X8_onPlace_p27 C hw ih s0 l3 h
      · refine sm_aload_n C 0 dX8_onPlace_15 rfl rfl ?_
        refine mr_M_places C hw (k := 0) rfl gf_M_35 dX8_onPlace_16 ?_
        refine sm_iload_n C 3 dX8_onPlace_19 rfl rfl ?_
        refine ma_iald C hw (k := 6) rfl rfl dX8_onPlace_20 h (fun v2 h => ?_)
        refine sm_iload_n C 1 dX8_onPlace_21 rfl rfl ?_
        refine sm_icmp_ne C 27 dX8_onPlace_22 (by decide) h (fun h => ?_) (fun h => ?_)
        · exact mk_X8_onPlace_p27 C hw ih s0 l3 h
        · refine sm_iload_n C 3 dX8_onPlace_25 rfl rfl ?_
          exact sm_iret C dX8_onPlace_26 h
set_option maxRecDepth 4000 in
theorem mc_X8_onPlace {w : sm_WD} {l : Launch} (hw : mo_is w) (a1 : Int32) (a2 : Int32) : sm_CI w l yX8_onPlace prog_10_method_9_code 4 (some .int) 2 100 [.ref (sm_ad w 0), .int a1, .int a2] (fun s => mf_X8_onPlace a1 a2 s) := by
  refine sm_CI.of (by decide +kernel) (Nat.le_of_ble_eq_true rfl) (fun X s0 R hXw hXl C h => ?_)
  subst hXw
  subst hXl
  have h : mf_X8_onPlace a1 a2 s0 = some R := h
  show sm_V X (sm_QI X R) 4 s0 0 [(0, .ref (sm_ad (sm_w X) 0)), (1, .int a1), (2, .int a2)] []
  unfold mf_X8_onPlace at h
  refine sm_iconst (v := 0) C dX8_onPlace_0 (by decide) ?_
  refine sm_istore_n (lv' := [(3, .int (0 : Int32)), (0, .ref (sm_ad (sm_w X) 0)), (1, .int a1), (2, .int a2)]) C dX8_onPlace_1 rfl (by decide) rfl ?_
  refine sm_sub (lv' := [(0, .ref (sm_ad (sm_w X) 0)), (1, .int a1), (2, .int a2), (3, .int (0 : Int32))]) [1, 2, 3, 0] rfl ?_
  exact mk_X8_onPlace_p2 C hw sm_F s0 (0 : Int32) h
noncomputable def mf_X8_set_p210 (a1 : Int32) (a2 : Int32) (a3 : Int32) (s0 : sm_St) (t0 : Int32) : Option (Int32 × sm_St) :=
  if a1 = 0 then (
  sm_b (sm_sI s0 0 7 a3) fun s7 =>
  some (t0, s7))
  else (
  if a1 = (1 : Int32) then (
  sm_b (sm_sI s0 0 8 a3) fun s6 =>
  some (t0, s6))
  else (
  if a1 = (2 : Int32) then (
  sm_b (sm_sI s0 0 9 a3) fun s5 =>
  some (t0, s5))
  else (
  if a1 = (3 : Int32) then (
  sm_b (sm_sI s0 0 10 a3) fun s4 =>
  some (t0, s4))
  else (
  if a1 = (4 : Int32) then (
  sm_b (sm_sI s0 0 11 a3) fun s3 =>
  some (t0, s3))
  else (
  if a1 = (5 : Int32) then (
  sm_g (sm_in a2 5) <| sm_b (sm_sI s0 5 a2.toNatClampNeg a3) fun s2 =>
  some (t0, s2))
  else (
  sm_g (sm_in a2 5) <| sm_b (sm_sI s0 6 a2.toNatClampNeg a3) fun s1 =>
  some (t0, s1)))))))
noncomputable def mf_X8_set_p131 (a1 : Int32) (a2 : Int32) (a3 : Int32) (s0 : sm_St) : Option (Int32 × sm_St) :=
  if a1 = 0 then (
  sm_b (s0.1 0 7) fun v7 =>
  mf_X8_set_p210 a1 a2 a3 s0 v7)
  else (
  if a1 = (1 : Int32) then (
  sm_b (s0.1 0 8) fun v6 =>
  mf_X8_set_p210 a1 a2 a3 s0 v6)
  else (
  if a1 = (2 : Int32) then (
  sm_b (s0.1 0 9) fun v5 =>
  mf_X8_set_p210 a1 a2 a3 s0 v5)
  else (
  if a1 = (3 : Int32) then (
  sm_b (s0.1 0 10) fun v4 =>
  mf_X8_set_p210 a1 a2 a3 s0 v4)
  else (
  if a1 = (4 : Int32) then (
  sm_b (s0.1 0 11) fun v3 =>
  mf_X8_set_p210 a1 a2 a3 s0 v3)
  else (
  if a1 = (5 : Int32) then (
  sm_g (sm_in a2 5) <| sm_b (s0.1 5 a2.toNatClampNeg) fun v2 =>
  mf_X8_set_p210 a1 a2 a3 s0 v2)
  else (
  sm_g (sm_in a2 5) <| sm_b (s0.1 6 a2.toNatClampNeg) fun v1 =>
  mf_X8_set_p210 a1 a2 a3 s0 v1))))))
noncomputable def mf_X8_set_p95 (a1 : Int32) (a2 : Int32) (a3 : Int32) (s0 : sm_St) (t0 : Int32) : Option (Int32 × sm_St) :=
  sm_b (a3.toInt64) fun v1 =>
  sm_b (t0.toInt64) fun v2 =>
  sm_c (mf_X8_in v1 (0 : Int64) v2 s0) fun v3 s4 =>
  if v3 = 0 then (
  some ((-2 : Int32), s4))
  else (
  if a1 = (6 : Int32) then (
  sm_c (mf_X8_onPlace a3 a2 s4) fun v5 s6 =>
  if v5 = (-1 : Int32) then (
  mf_X8_set_p131 a1 a2 a3 s6)
  else (
  some ((-3 : Int32), s6)))
  else (
  mf_X8_set_p131 a1 a2 a3 s4))
noncomputable def mf_X8_set_p38 (a1 : Int32) (a2 : Int32) (a3 : Int32) (s0 : sm_St) : Option (Int32 × sm_St) :=
  mf_X8_set_p95 a1 a2 a3 s0 (7 : Int32)
noncomputable def mf_X8_set_p28 (a1 : Int32) (a2 : Int32) (a3 : Int32) (s0 : sm_St) : Option (Int32 × sm_St) :=
  if a1 = 0 then (
  mf_X8_set_p38 a1 a2 a3 s0)
  else (
  if a1 = (6 : Int32) then (
  mf_X8_set_p38 a1 a2 a3 s0)
  else (
  if a1 = (1 : Int32) then (
  sm_b (s0.1 0 9) fun v3 =>
  sm_b ((100 : Int32) - v3) fun v4 =>
  mf_X8_set_p95 a1 a2 a3 s0 v4)
  else (
  if a1 = (2 : Int32) then (
  sm_b (s0.1 0 8) fun v1 =>
  sm_b ((100 : Int32) - v1) fun v2 =>
  mf_X8_set_p95 a1 a2 a3 s0 v2)
  else (
  if a1 = (3 : Int32) then (
  mf_X8_set_p95 a1 a2 a3 s0 (255 : Int32))
  else (
  if a1 = (4 : Int32) then (
  mf_X8_set_p95 a1 a2 a3 s0 (1 : Int32))
  else (
  mf_X8_set_p95 a1 a2 a3 s0 (9 : Int32)))))))
noncomputable def mf_X8_set (a1 : Int32) (a2 : Int32) (a3 : Int32) (s0 : sm_St) : Option (Int32 × sm_St) :=
  sm_b (a1.toInt64) fun v1 =>
  sm_c (mf_X8_in v1 (0 : Int64) (6 : Int64) s0) fun v2 s3 =>
  if v2 = 0 then (
  some ((-2 : Int32), s3))
  else (
  if a1 ≤ (4 : Int32) then (
  mf_X8_set_p28 a1 a2 a3 s3)
  else (
  sm_c (mf_X8_isSitter a2 s3) fun v4 s5 =>
  if v4 = 0 then (
  some ((-2 : Int32), s5))
  else (
  mf_X8_set_p28 a1 a2 a3 s5)))
set_option maxRecDepth 4000 in
theorem mk_X8_set_p210 {X : sm_VC} (C : sm_Cx X prog_10_method_10_code 6 "SmokeGoesToModel" 4 146 (some .int)) (hw : mo_is (sm_w X)) {a1 : Int32} {a2 : Int32} {a3 : Int32}  {R : Int32 × sm_St}   (s0 : sm_St) (t0 : Int32)  (h : mf_X8_set_p210 a1 a2 a3 s0 t0 = some R) : sm_V X (sm_QI X R) 6 s0 210 [(0, .ref (sm_ad (sm_w X) 0)), (1, .int a1), (2, .int a2), (3, .int a3)] [.int t0] := by
  unfold mf_X8_set_p210 at h
  refine sm_istore (lv' := [(5, .int t0), (0, .ref (sm_ad (sm_w X) 0)), (1, .int a1), (2, .int a2), (3, .int a3)]) C dX8_set_210 (by decide) rfl ?_
  refine sm_iload_n C 2 dX8_set_212 rfl rfl ?_
  refine sm_if_ne C 224 dX8_set_213 (by decide) h (fun h => ?_) (fun h => ?_)
  · refine sm_iload_n C 2 dX8_set_224 rfl rfl ?_
    refine sm_iconst (v := 1) C dX8_set_225 (by decide) ?_
    refine sm_icmp_ne C 237 dX8_set_226 (by decide) h (fun h => ?_) (fun h => ?_)
    · refine sm_iload_n C 2 dX8_set_237 rfl rfl ?_
      refine sm_iconst (v := 2) C dX8_set_238 (by decide) ?_
      refine sm_icmp_ne C 250 dX8_set_239 (by decide) h (fun h => ?_) (fun h => ?_)
      · refine sm_iload_n C 2 dX8_set_250 rfl rfl ?_
        refine sm_iconst (v := 3) C dX8_set_251 (by decide) ?_
        refine sm_icmp_ne C 263 dX8_set_252 (by decide) h (fun h => ?_) (fun h => ?_)
        · refine sm_iload_n C 2 dX8_set_263 rfl rfl ?_
          refine sm_iconst (v := 4) C dX8_set_264 (by decide) ?_
          refine sm_icmp_ne C 276 dX8_set_265 (by decide) h (fun h => ?_) (fun h => ?_)
          · refine sm_iload_n C 2 dX8_set_276 rfl rfl ?_
            refine sm_iconst (v := 5) C dX8_set_277 (by decide) ?_
            refine sm_icmp_ne C 291 dX8_set_278 (by decide) h (fun h => ?_) (fun h => ?_)
            · refine sm_aload_n C 1 dX8_set_291 rfl rfl ?_
              refine mr_M_places C hw (k := 0) rfl gf_M_35 dX8_set_292 ?_
              refine sm_iload_n C 3 dX8_set_295 rfl rfl ?_
              refine sm_iload_n C 4 dX8_set_296 rfl rfl ?_
              refine ma_iast C hw (k := 6) rfl rfl dX8_set_297 h (fun s1 h => ?_)
              refine sm_iload C 0 dX8_set_298 rfl ?_
              exact sm_iret C dX8_set_300 h
            · refine sm_aload_n C 1 dX8_set_281 rfl rfl ?_
              refine mr_M_numbers C hw (k := 0) rfl gf_M_32 dX8_set_282 ?_
              refine sm_iload_n C 3 dX8_set_285 rfl rfl ?_
              refine sm_iload_n C 4 dX8_set_286 rfl rfl ?_
              refine ma_iast C hw (k := 5) rfl rfl dX8_set_287 h (fun s2 h => ?_)
              refine sm_goto C 298 dX8_set_288 (by decide) ?_
              refine sm_iload C 0 dX8_set_298 rfl ?_
              exact sm_iret C dX8_set_300 h
          · refine sm_aload_n C 1 dX8_set_268 rfl rfl ?_
            refine sm_iload_n C 4 dX8_set_269 rfl rfl ?_
            refine mp_M_eddy C hw (k := 0) rfl gf_M_126 dX8_set_270 h (fun s3 h => ?_)
            refine sm_goto C 298 dX8_set_273 (by decide) ?_
            refine sm_iload C 0 dX8_set_298 rfl ?_
            exact sm_iret C dX8_set_300 h
        · refine sm_aload_n C 1 dX8_set_255 rfl rfl ?_
          refine sm_iload_n C 4 dX8_set_256 rfl rfl ?_
          refine mp_M_tents C hw (k := 0) rfl gf_M_123 dX8_set_257 h (fun s4 h => ?_)
          refine sm_goto C 298 dX8_set_260 (by decide) ?_
          refine sm_iload C 0 dX8_set_298 rfl ?_
          exact sm_iret C dX8_set_300 h
      · refine sm_aload_n C 1 dX8_set_242 rfl rfl ?_
        refine sm_iload_n C 4 dX8_set_243 rfl rfl ?_
        refine mp_M_right C hw (k := 0) rfl gf_M_26 dX8_set_244 h (fun s5 h => ?_)
        refine sm_goto C 298 dX8_set_247 (by decide) ?_
        refine sm_iload C 0 dX8_set_298 rfl ?_
        exact sm_iret C dX8_set_300 h
    · refine sm_aload_n C 1 dX8_set_229 rfl rfl ?_
      refine sm_iload_n C 4 dX8_set_230 rfl rfl ?_
      refine mp_M_left C hw (k := 0) rfl gf_M_23 dX8_set_231 h (fun s6 h => ?_)
      refine sm_goto C 298 dX8_set_234 (by decide) ?_
      refine sm_iload C 0 dX8_set_298 rfl ?_
      exact sm_iret C dX8_set_300 h
  · refine sm_aload_n C 1 dX8_set_216 rfl rfl ?_
    refine sm_iload_n C 4 dX8_set_217 rfl rfl ?_
    refine mp_M_smoke C hw (k := 0) rfl gf_M_120 dX8_set_218 h (fun s7 h => ?_)
    refine sm_goto C 298 dX8_set_221 (by decide) ?_
    refine sm_iload C 0 dX8_set_298 rfl ?_
    exact sm_iret C dX8_set_300 h
set_option maxRecDepth 4000 in
theorem mk_X8_set_p131 {X : sm_VC} (C : sm_Cx X prog_10_method_10_code 6 "SmokeGoesToModel" 4 146 (some .int)) (hw : mo_is (sm_w X)) {a1 : Int32} {a2 : Int32} {a3 : Int32}  {R : Int32 × sm_St}   (s0 : sm_St)   (h : mf_X8_set_p131 a1 a2 a3 s0 = some R) : sm_V X (sm_QI X R) 6 s0 131 [(0, .ref (sm_ad (sm_w X) 0)), (1, .int a1), (2, .int a2), (3, .int a3)] [] := by
  unfold mf_X8_set_p131 at h
  refine sm_iload_n C 1 dX8_set_131 rfl rfl ?_
  refine sm_if_ne C 142 dX8_set_132 (by decide) h (fun h => ?_) (fun h => ?_)
  · refine sm_iload_n C 1 dX8_set_142 rfl rfl ?_
    refine sm_iconst (v := 1) C dX8_set_143 (by decide) ?_
    refine sm_icmp_ne C 154 dX8_set_144 (by decide) h (fun h => ?_) (fun h => ?_)
    · refine sm_iload_n C 1 dX8_set_154 rfl rfl ?_
      refine sm_iconst (v := 2) C dX8_set_155 (by decide) ?_
      refine sm_icmp_ne C 166 dX8_set_156 (by decide) h (fun h => ?_) (fun h => ?_)
      · refine sm_iload_n C 1 dX8_set_166 rfl rfl ?_
        refine sm_iconst (v := 3) C dX8_set_167 (by decide) ?_
        refine sm_icmp_ne C 178 dX8_set_168 (by decide) h (fun h => ?_) (fun h => ?_)
        · refine sm_iload_n C 1 dX8_set_178 rfl rfl ?_
          refine sm_iconst (v := 4) C dX8_set_179 (by decide) ?_
          refine sm_icmp_ne C 190 dX8_set_180 (by decide) h (fun h => ?_) (fun h => ?_)
          · refine sm_iload_n C 1 dX8_set_190 rfl rfl ?_
            refine sm_iconst (v := 5) C dX8_set_191 (by decide) ?_
            refine sm_icmp_ne C 204 dX8_set_192 (by decide) h (fun h => ?_) (fun h => ?_)
            · refine sm_aload_n C 0 dX8_set_204 rfl rfl ?_
              refine mr_M_places C hw (k := 0) rfl gf_M_35 dX8_set_205 ?_
              refine sm_iload_n C 2 dX8_set_208 rfl rfl ?_
              refine ma_iald C hw (k := 6) rfl rfl dX8_set_209 h (fun v1 h => ?_)
              exact mk_X8_set_p210 C hw s0 v1 h
            · refine sm_aload_n C 0 dX8_set_195 rfl rfl ?_
              refine mr_M_numbers C hw (k := 0) rfl gf_M_32 dX8_set_196 ?_
              refine sm_iload_n C 2 dX8_set_199 rfl rfl ?_
              refine ma_iald C hw (k := 5) rfl rfl dX8_set_200 h (fun v2 h => ?_)
              refine sm_goto C 210 dX8_set_201 (by decide) ?_
              exact mk_X8_set_p210 C hw s0 v2 h
          · refine sm_aload_n C 0 dX8_set_183 rfl rfl ?_
            refine mr_M_eddy C hw (k := 0) rfl gf_M_126 dX8_set_184 h (fun v3 h => ?_)
            refine sm_goto C 210 dX8_set_187 (by decide) ?_
            exact mk_X8_set_p210 C hw s0 v3 h
        · refine sm_aload_n C 0 dX8_set_171 rfl rfl ?_
          refine mr_M_tents C hw (k := 0) rfl gf_M_123 dX8_set_172 h (fun v4 h => ?_)
          refine sm_goto C 210 dX8_set_175 (by decide) ?_
          exact mk_X8_set_p210 C hw s0 v4 h
      · refine sm_aload_n C 0 dX8_set_159 rfl rfl ?_
        refine mr_M_right C hw (k := 0) rfl gf_M_26 dX8_set_160 h (fun v5 h => ?_)
        refine sm_goto C 210 dX8_set_163 (by decide) ?_
        exact mk_X8_set_p210 C hw s0 v5 h
    · refine sm_aload_n C 0 dX8_set_147 rfl rfl ?_
      refine mr_M_left C hw (k := 0) rfl gf_M_23 dX8_set_148 h (fun v6 h => ?_)
      refine sm_goto C 210 dX8_set_151 (by decide) ?_
      exact mk_X8_set_p210 C hw s0 v6 h
  · refine sm_aload_n C 0 dX8_set_135 rfl rfl ?_
    refine mr_M_smoke C hw (k := 0) rfl gf_M_120 dX8_set_136 h (fun v7 h => ?_)
    refine sm_goto C 210 dX8_set_139 (by decide) ?_
    exact mk_X8_set_p210 C hw s0 v7 h
set_option maxRecDepth 4000 in
theorem mk_X8_set_p95 {X : sm_VC} (C : sm_Cx X prog_10_method_10_code 6 "SmokeGoesToModel" 4 146 (some .int)) (hw : mo_is (sm_w X)) {a1 : Int32} {a2 : Int32} {a3 : Int32}  {R : Int32 × sm_St}   (s0 : sm_St) (t0 : Int32)  (h : mf_X8_set_p95 a1 a2 a3 s0 t0 = some R) : sm_V X (sm_QI X R) 6 s0 95 [(0, .ref (sm_ad (sm_w X) 0)), (1, .int a1), (2, .int a2), (3, .int a3)] [.int t0] := by
  unfold mf_X8_set_p95 at h
  refine sm_istore (lv' := [(4, .int t0), (0, .ref (sm_ad (sm_w X) 0)), (1, .int a1), (2, .int a2), (3, .int a3)]) C dX8_set_95 (by decide) rfl ?_
  refine sm_iload_n C 4 dX8_set_97 rfl rfl ?_
  refine sm_i2l C dX8_set_98 h (fun v1 h => ?_)
  refine sm_lconst (v := 0) C dX8_set_99 (by decide) ?_
  refine sm_iload C 0 dX8_set_100 rfl ?_
  refine sm_i2l C dX8_set_102 h (fun v2 h => ?_)
  refine sm_callSI C [.long v1, .long (0 : Int64), .long v2] (mc_X8_in hw v1 (0 : Int64) v2) gm_X8_in gl_M_104 gs_X8_in rfl ⟨Nat.le_of_ble_eq_true rfl, Nat.le_of_ble_eq_true rfl⟩ rfl (Nat.le_of_ble_eq_true rfl) dX8_set_103 h (fun v3 s4 h => ?_)
  refine sm_if_ne C 112 dX8_set_106 (by decide) h (fun h => ?_) (fun h => ?_)
  · refine sm_iload_n C 2 dX8_set_112 rfl rfl ?_
    refine sm_bipush (v := 6) C dX8_set_113 (by decide) ?_
    refine sm_icmp_ne C 131 dX8_set_115 (by decide) h (fun h => ?_) (fun h => ?_)
    · refine sm_sub (lv' := [(0, .ref (sm_ad (sm_w X) 0)), (1, .int a1), (2, .int a2), (3, .int a3)]) [1, 2, 3, 4] rfl ?_
      exact mk_X8_set_p131 C hw s4 h
    · refine sm_aload_n C 1 dX8_set_118 rfl rfl ?_
      refine sm_iload_n C 4 dX8_set_119 rfl rfl ?_
      refine sm_iload_n C 3 dX8_set_120 rfl rfl ?_
      refine sm_callVI (k := 0) C [.int a3, .int a2] (mc_X8_onPlace hw a3 a2) gm_X8_onPlace gl_M_116 gi_X8_onPlace ge_X8_onPlace (mob_M hw rfl) rfl ⟨Nat.le_of_ble_eq_true rfl, Nat.le_of_ble_eq_true rfl⟩ rfl (Nat.le_of_ble_eq_true rfl) dX8_set_121 h (fun v5 s6 h => ?_)
      refine sm_iconst (v := (-1)) C dX8_set_124 (by decide) ?_
      refine sm_icmp_eq C 131 dX8_set_125 (by decide) h (fun h => ?_) (fun h => ?_)
      · refine sm_sub (lv' := [(0, .ref (sm_ad (sm_w X) 0)), (1, .int a1), (2, .int a2), (3, .int a3)]) [1, 2, 3, 4] rfl ?_
        exact mk_X8_set_p131 C hw s6 h
      · refine sm_bipush (v := (-3)) C dX8_set_128 (by decide) ?_
        exact sm_iret C dX8_set_130 h
  · refine sm_bipush (v := (-2)) C dX8_set_109 (by decide) ?_
    exact sm_iret C dX8_set_111 h
set_option maxRecDepth 4000 in
theorem mk_X8_set_p38 {X : sm_VC} (C : sm_Cx X prog_10_method_10_code 6 "SmokeGoesToModel" 4 146 (some .int)) (hw : mo_is (sm_w X)) {a1 : Int32} {a2 : Int32} {a3 : Int32}  {R : Int32 × sm_St}   (s0 : sm_St)   (h : mf_X8_set_p38 a1 a2 a3 s0 = some R) : sm_V X (sm_QI X R) 6 s0 38 [(0, .ref (sm_ad (sm_w X) 0)), (1, .int a1), (2, .int a2), (3, .int a3)] [] := by
  unfold mf_X8_set_p38 at h
  refine sm_bipush (v := 7) C dX8_set_38 (by decide) ?_
  refine sm_goto C 95 dX8_set_40 (by decide) ?_
  exact mk_X8_set_p95 C hw s0 (7 : Int32) h
set_option maxRecDepth 4000 in
theorem mk_X8_set_p28 {X : sm_VC} (C : sm_Cx X prog_10_method_10_code 6 "SmokeGoesToModel" 4 146 (some .int)) (hw : mo_is (sm_w X)) {a1 : Int32} {a2 : Int32} {a3 : Int32}  {R : Int32 × sm_St}   (s0 : sm_St)   (h : mf_X8_set_p28 a1 a2 a3 s0 = some R) : sm_V X (sm_QI X R) 6 s0 28 [(0, .ref (sm_ad (sm_w X) 0)), (1, .int a1), (2, .int a2), (3, .int a3)] [] := by
  unfold mf_X8_set_p28 at h
  refine sm_iload_n C 1 dX8_set_28 rfl rfl ?_
  refine sm_if_eq C 38 dX8_set_29 (by decide) h (fun h => ?_) (fun h => ?_)
  · exact mk_X8_set_p38 C hw s0 h
  · refine sm_iload_n C 1 dX8_set_32 rfl rfl ?_
    refine sm_bipush (v := 6) C dX8_set_33 (by decide) ?_
    refine sm_icmp_ne C 43 dX8_set_35 (by decide) h (fun h => ?_) (fun h => ?_)
    · refine sm_iload_n C 1 dX8_set_43 rfl rfl ?_
      refine sm_iconst (v := 1) C dX8_set_44 (by decide) ?_
      refine sm_icmp_ne C 58 dX8_set_45 (by decide) h (fun h => ?_) (fun h => ?_)
      · refine sm_iload_n C 1 dX8_set_58 rfl rfl ?_
        refine sm_iconst (v := 2) C dX8_set_59 (by decide) ?_
        refine sm_icmp_ne C 73 dX8_set_60 (by decide) h (fun h => ?_) (fun h => ?_)
        · refine sm_iload_n C 1 dX8_set_73 rfl rfl ?_
          refine sm_iconst (v := 3) C dX8_set_74 (by decide) ?_
          refine sm_icmp_ne C 84 dX8_set_75 (by decide) h (fun h => ?_) (fun h => ?_)
          · refine sm_iload_n C 1 dX8_set_84 rfl rfl ?_
            refine sm_iconst (v := 4) C dX8_set_85 (by decide) ?_
            refine sm_icmp_ne C 93 dX8_set_86 (by decide) h (fun h => ?_) (fun h => ?_)
            · refine sm_bipush (v := 9) C dX8_set_93 (by decide) ?_
              exact mk_X8_set_p95 C hw s0 (9 : Int32) h
            · refine sm_iconst (v := 1) C dX8_set_89 (by decide) ?_
              refine sm_goto C 95 dX8_set_90 (by decide) ?_
              exact mk_X8_set_p95 C hw s0 (1 : Int32) h
          · refine sm_sipush (v := 255) C dX8_set_78 (by decide) ?_
            refine sm_goto C 95 dX8_set_81 (by decide) ?_
            exact mk_X8_set_p95 C hw s0 (255 : Int32) h
        · refine sm_bipush (v := 100) C dX8_set_63 (by decide) ?_
          refine sm_aload_n C 0 dX8_set_65 rfl rfl ?_
          refine mr_M_left C hw (k := 0) rfl gf_M_23 dX8_set_66 h (fun v1 h => ?_)
          refine sm_isub C dX8_set_69 h (fun v2 h => ?_)
          refine sm_goto C 95 dX8_set_70 (by decide) ?_
          exact mk_X8_set_p95 C hw s0 v2 h
      · refine sm_bipush (v := 100) C dX8_set_48 (by decide) ?_
        refine sm_aload_n C 0 dX8_set_50 rfl rfl ?_
        refine mr_M_right C hw (k := 0) rfl gf_M_26 dX8_set_51 h (fun v3 h => ?_)
        refine sm_isub C dX8_set_54 h (fun v4 h => ?_)
        refine sm_goto C 95 dX8_set_55 (by decide) ?_
        exact mk_X8_set_p95 C hw s0 v4 h
    · exact mk_X8_set_p38 C hw s0 h
set_option maxRecDepth 4000 in
theorem mc_X8_set {w : sm_WD} {l : Launch} (hw : mo_is w) (a1 : Int32) (a2 : Int32) (a3 : Int32) : sm_CI w l yX8_set prog_10_method_10_code 6 (some .int) 4 146 [.ref (sm_ad w 0), .int a1, .int a2, .int a3] (fun s => mf_X8_set a1 a2 a3 s) := by
  refine sm_CI.of (by decide +kernel) (Nat.le_of_ble_eq_true rfl) (fun X s0 R hXw hXl C h => ?_)
  subst hXw
  subst hXl
  have h : mf_X8_set a1 a2 a3 s0 = some R := h
  show sm_V X (sm_QI X R) 6 s0 0 [(0, .ref (sm_ad (sm_w X) 0)), (1, .int a1), (2, .int a2), (3, .int a3)] []
  unfold mf_X8_set at h
  refine sm_iload_n C 1 dX8_set_0 rfl rfl ?_
  refine sm_i2l C dX8_set_1 h (fun v1 h => ?_)
  refine sm_lconst (v := 0) C dX8_set_2 (by decide) ?_
  refine sm_ldc2 C gk_M_110 dX8_set_3 ?_
  refine sm_callSI C [.long v1, .long (0 : Int64), .long (6 : Int64)] (mc_X8_in hw v1 (0 : Int64) (6 : Int64)) gm_X8_in gl_M_104 gs_X8_in rfl ⟨Nat.le_of_ble_eq_true rfl, Nat.le_of_ble_eq_true rfl⟩ rfl (Nat.le_of_ble_eq_true rfl) dX8_set_6 h (fun v2 s3 h => ?_)
  refine sm_if_eq C 25 dX8_set_9 (by decide) h (fun h => ?_) (fun h => ?_)
  · refine sm_bipush (v := (-2)) C dX8_set_25 (by decide) ?_
    exact sm_iret C dX8_set_27 h
  · refine sm_iload_n C 1 dX8_set_12 rfl rfl ?_
    refine sm_iconst (v := 4) C dX8_set_13 (by decide) ?_
    refine sm_icmp_le C 28 dX8_set_14 (by decide) h (fun h => ?_) (fun h => ?_)
    · exact mk_X8_set_p28 C hw s3 h
    · refine sm_aload_n C 0 dX8_set_17 rfl rfl ?_
      refine sm_iload_n C 2 dX8_set_18 rfl rfl ?_
      refine sm_callVI (k := 0) C [.int a2] (mc_X8_isSitter hw a2) gm_X8_isSitter gl_M_112 gi_X8_isSitter ge_X8_isSitter (mob_M hw rfl) rfl ⟨Nat.le_of_ble_eq_true rfl, Nat.le_of_ble_eq_true rfl⟩ rfl (Nat.le_of_ble_eq_true rfl) dX8_set_19 h (fun v4 s5 h => ?_)
      refine sm_if_ne C 28 dX8_set_22 (by decide) h (fun h => ?_) (fun h => ?_)
      · exact mk_X8_set_p28 C hw s5 h
      · refine sm_bipush (v := (-2)) C dX8_set_25 (by decide) ?_
        exact sm_iret C dX8_set_27 h
noncomputable def mf_X8_isPlace (a1 : Int32) (s0 : sm_St) : Option (Int32 × sm_St) :=
  sm_b (a1.toInt64) fun v1 =>
  sm_c (mf_X8_in v1 (0 : Int64) (7 : Int64) s0) fun v2 s3 =>
  sm_g (decide (narrow .boolean (.int v2) = .int v2)) (some (v2, s3))
set_option maxRecDepth 4000 in
theorem mc_X8_isPlace {w : sm_WD} {l : Launch} (hw : mo_is w) (a1 : Int32) : sm_CI w l yX8_isPlace prog_10_method_8_code 1 (some .boolean) 3 125 [.int a1] (fun s => mf_X8_isPlace a1 s) := by
  refine sm_CI.of (by decide +kernel) (Nat.le_of_ble_eq_true rfl) (fun X s0 R hXw hXl C h => ?_)
  subst hXw
  subst hXl
  have h : mf_X8_isPlace a1 s0 = some R := h
  show sm_V X (sm_QI X R) 1 s0 0 [(0, .int a1)] []
  unfold mf_X8_isPlace at h
  refine sm_iload_n C 0 dX8_isPlace_0 rfl rfl ?_
  refine sm_i2l C dX8_isPlace_1 h (fun v1 h => ?_)
  refine sm_lconst (v := 0) C dX8_isPlace_2 (by decide) ?_
  refine sm_ldc2 C gk_M_108 dX8_isPlace_3 ?_
  refine sm_callSI C [.long v1, .long (0 : Int64), .long (7 : Int64)] (mc_X8_in hw v1 (0 : Int64) (7 : Int64)) gm_X8_in gl_M_104 gs_X8_in rfl ⟨Nat.le_of_ble_eq_true rfl, Nat.le_of_ble_eq_true rfl⟩ rfl (Nat.le_of_ble_eq_true rfl) dX8_isPlace_6 h (fun v2 s3 h => ?_)
  exact sm_zret C dX8_isPlace_9 h
noncomputable def mf_X8_sitter (a1 : Int32) (a2 : Int32) (a3 : Int32) (s0 : sm_St) : Option (Int32 × sm_St) :=
  sm_b (a1.toInt64) fun v1 =>
  sm_c (mf_X8_in v1 (0 : Int64) (5 : Int64) s0) fun v2 s3 =>
  if v2 = 0 then (
  some ((-2 : Int32), s3))
  else (
  sm_b (a2.toInt64) fun v4 =>
  sm_c (mf_X8_in v4 (0 : Int64) (9 : Int64) s3) fun v5 s6 =>
  if v5 = 0 then (
  some ((-2 : Int32), s6))
  else (
  sm_c (mf_X8_isPlace a3 s6) fun v7 s8 =>
  if v7 = 0 then (
  some ((-2 : Int32), s8))
  else (
  sm_c (mf_X8_onPlace a3 (-1 : Int32) s8) fun v9 s10 =>
  if v9 = (-1 : Int32) then (
  sm_b (s10.1 0 15) fun v11 =>
  if v11 = (5 : Int32) then (
  some ((-4 : Int32), s10))
  else (
  sm_b (s10.1 0 15) fun v12 =>
  sm_g (sm_in v12 5) <| sm_b (sm_sI s10 4 v12.toNatClampNeg a1) fun s13 =>
  sm_b (s13.1 0 15) fun v14 =>
  sm_g (sm_in v14 5) <| sm_b (sm_sI s13 5 v14.toNatClampNeg a2) fun s15 =>
  sm_b (s15.1 0 15) fun v16 =>
  sm_g (sm_in v16 5) <| sm_b (sm_sI s15 6 v16.toNatClampNeg a3) fun s17 =>
  sm_b (s17.1 0 15) fun v18 =>
  sm_b (v18 + (1 : Int32)) fun v19 =>
  sm_b (sm_sI s17 0 15 v19) fun s20 =>
  sm_b (s20.1 0 15) fun v21 =>
  sm_b (v21 - (1 : Int32)) fun v22 =>
  some (v22, s20)))
  else (
  some ((-3 : Int32), s10)))))
set_option maxRecDepth 4000 in
theorem mc_X8_sitter {w : sm_WD} {l : Launch} (hw : mo_is w) (a1 : Int32) (a2 : Int32) (a3 : Int32) : sm_CI w l yX8_sitter prog_10_method_11_code 4 (some .int) 4 145 [.ref (sm_ad w 0), .int a1, .int a2, .int a3] (fun s => mf_X8_sitter a1 a2 a3 s) := by
  refine sm_CI.of (by decide +kernel) (Nat.le_of_ble_eq_true rfl) (fun X s0 R hXw hXl C h => ?_)
  subst hXw
  subst hXl
  have h : mf_X8_sitter a1 a2 a3 s0 = some R := h
  show sm_V X (sm_QI X R) 4 s0 0 [(0, .ref (sm_ad (sm_w X) 0)), (1, .int a1), (2, .int a2), (3, .int a3)] []
  unfold mf_X8_sitter at h
  refine sm_iload_n C 1 dX8_sitter_0 rfl rfl ?_
  refine sm_i2l C dX8_sitter_1 h (fun v1 h => ?_)
  refine sm_lconst (v := 0) C dX8_sitter_2 (by decide) ?_
  refine sm_ldc2 C gk_M_129 dX8_sitter_3 ?_
  refine sm_callSI C [.long v1, .long (0 : Int64), .long (5 : Int64)] (mc_X8_in hw v1 (0 : Int64) (5 : Int64)) gm_X8_in gl_M_104 gs_X8_in rfl ⟨Nat.le_of_ble_eq_true rfl, Nat.le_of_ble_eq_true rfl⟩ rfl (Nat.le_of_ble_eq_true rfl) dX8_sitter_6 h (fun v2 s3 h => ?_)
  refine sm_if_eq C 31 dX8_sitter_9 (by decide) h (fun h => ?_) (fun h => ?_)
  · refine sm_bipush (v := (-2)) C dX8_sitter_31 (by decide) ?_
    exact sm_iret C dX8_sitter_33 h
  · refine sm_iload_n C 2 dX8_sitter_12 rfl rfl ?_
    refine sm_i2l C dX8_sitter_13 h (fun v4 h => ?_)
    refine sm_lconst (v := 0) C dX8_sitter_14 (by decide) ?_
    refine sm_ldc2 C gk_M_131 dX8_sitter_15 ?_
    refine sm_callSI C [.long v4, .long (0 : Int64), .long (9 : Int64)] (mc_X8_in hw v4 (0 : Int64) (9 : Int64)) gm_X8_in gl_M_104 gs_X8_in rfl ⟨Nat.le_of_ble_eq_true rfl, Nat.le_of_ble_eq_true rfl⟩ rfl (Nat.le_of_ble_eq_true rfl) dX8_sitter_18 h (fun v5 s6 h => ?_)
    refine sm_if_eq C 31 dX8_sitter_21 (by decide) h (fun h => ?_) (fun h => ?_)
    · refine sm_bipush (v := (-2)) C dX8_sitter_31 (by decide) ?_
      exact sm_iret C dX8_sitter_33 h
    · refine sm_iload_n C 3 dX8_sitter_24 rfl rfl ?_
      refine sm_callSI C [.int a3] (mc_X8_isPlace hw a3) gm_X8_isPlace gl_M_133 gs_X8_isPlace rfl ⟨Nat.le_of_ble_eq_true rfl, Nat.le_of_ble_eq_true rfl⟩ rfl (Nat.le_of_ble_eq_true rfl) dX8_sitter_25 h (fun v7 s8 h => ?_)
      refine sm_if_ne C 34 dX8_sitter_28 (by decide) h (fun h => ?_) (fun h => ?_)
      · refine sm_aload_n C 0 dX8_sitter_34 rfl rfl ?_
        refine sm_iload_n C 3 dX8_sitter_35 rfl rfl ?_
        refine sm_iconst (v := (-1)) C dX8_sitter_36 (by decide) ?_
        refine sm_callVI (k := 0) C [.int a3, .int (-1 : Int32)] (mc_X8_onPlace hw a3 (-1 : Int32)) gm_X8_onPlace gl_M_116 gi_X8_onPlace ge_X8_onPlace (mob_M hw rfl) rfl ⟨Nat.le_of_ble_eq_true rfl, Nat.le_of_ble_eq_true rfl⟩ rfl (Nat.le_of_ble_eq_true rfl) dX8_sitter_37 h (fun v9 s10 h => ?_)
        refine sm_iconst (v := (-1)) C dX8_sitter_40 (by decide) ?_
        refine sm_icmp_eq C 47 dX8_sitter_41 (by decide) h (fun h => ?_) (fun h => ?_)
        · refine sm_aload_n C 0 dX8_sitter_47 rfl rfl ?_
          refine mr_M_sitterMany C hw (k := 0) rfl gf_M_101 dX8_sitter_48 h (fun v11 h => ?_)
          refine sm_iconst (v := 5) C dX8_sitter_51 (by decide) ?_
          refine sm_icmp_ne C 58 dX8_sitter_52 (by decide) h (fun h => ?_) (fun h => ?_)
          · refine sm_aload_n C 0 dX8_sitter_58 rfl rfl ?_
            refine mr_M_kinds C hw (k := 0) rfl gf_M_29 dX8_sitter_59 ?_
            refine sm_aload_n C 0 dX8_sitter_62 rfl rfl ?_
            refine mr_M_sitterMany C hw (k := 0) rfl gf_M_101 dX8_sitter_63 h (fun v12 h => ?_)
            refine sm_iload_n C 1 dX8_sitter_66 rfl rfl ?_
            refine ma_iast C hw (k := 4) rfl rfl dX8_sitter_67 h (fun s13 h => ?_)
            refine sm_aload_n C 0 dX8_sitter_68 rfl rfl ?_
            refine mr_M_numbers C hw (k := 0) rfl gf_M_32 dX8_sitter_69 ?_
            refine sm_aload_n C 0 dX8_sitter_72 rfl rfl ?_
            refine mr_M_sitterMany C hw (k := 0) rfl gf_M_101 dX8_sitter_73 h (fun v14 h => ?_)
            refine sm_iload_n C 2 dX8_sitter_76 rfl rfl ?_
            refine ma_iast C hw (k := 5) rfl rfl dX8_sitter_77 h (fun s15 h => ?_)
            refine sm_aload_n C 0 dX8_sitter_78 rfl rfl ?_
            refine mr_M_places C hw (k := 0) rfl gf_M_35 dX8_sitter_79 ?_
            refine sm_aload_n C 0 dX8_sitter_82 rfl rfl ?_
            refine mr_M_sitterMany C hw (k := 0) rfl gf_M_101 dX8_sitter_83 h (fun v16 h => ?_)
            refine sm_iload_n C 3 dX8_sitter_86 rfl rfl ?_
            refine ma_iast C hw (k := 6) rfl rfl dX8_sitter_87 h (fun s17 h => ?_)
            refine sm_aload_n C 0 dX8_sitter_88 rfl rfl ?_
            refine sm_dup C dX8_sitter_89 rfl ?_
            refine mr_M_sitterMany C hw (k := 0) rfl gf_M_101 dX8_sitter_90 h (fun v18 h => ?_)
            refine sm_iconst (v := 1) C dX8_sitter_93 (by decide) ?_
            refine sm_iadd C dX8_sitter_94 h (fun v19 h => ?_)
            refine mp_M_sitterMany C hw (k := 0) rfl gf_M_101 dX8_sitter_95 h (fun s20 h => ?_)
            refine sm_aload_n C 0 dX8_sitter_98 rfl rfl ?_
            refine mr_M_sitterMany C hw (k := 0) rfl gf_M_101 dX8_sitter_99 h (fun v21 h => ?_)
            refine sm_iconst (v := 1) C dX8_sitter_102 (by decide) ?_
            refine sm_isub C dX8_sitter_103 h (fun v22 h => ?_)
            exact sm_iret C dX8_sitter_104 h
          · refine sm_bipush (v := (-4)) C dX8_sitter_55 (by decide) ?_
            exact sm_iret C dX8_sitter_57 h
        · refine sm_bipush (v := (-3)) C dX8_sitter_44 (by decide) ?_
          exact sm_iret C dX8_sitter_46 h
      · refine sm_bipush (v := (-2)) C dX8_sitter_31 (by decide) ?_
        exact sm_iret C dX8_sitter_33 h
noncomputable def mf_X8_round (a1 : Int32) (s0 : sm_St) : Option (Int32 × sm_St) :=
  sm_g (!decide ((8 : Int32) = 0)) <| sm_b (a1 - a1 / (8 : Int32) * (8 : Int32)) fun v1 =>
  sm_b (v1 + (8 : Int32)) fun v2 =>
  sm_g (!decide ((8 : Int32) = 0)) <| sm_b (v2 - v2 / (8 : Int32) * (8 : Int32)) fun v3 =>
  some (v3, s0)
set_option maxRecDepth 4000 in
theorem mc_X8_round {w : sm_WD} {l : Launch} (hw : mo_is w) (a1 : Int32) : sm_CI w l yX8_round prog_10_method_4_code 1 (some .int) 2 100 [.int a1] (fun s => mf_X8_round a1 s) := by
  refine sm_CI.of (by decide +kernel) (Nat.le_of_ble_eq_true rfl) (fun X s0 R hXw hXl C h => ?_)
  subst hXw
  subst hXl
  have h : mf_X8_round a1 s0 = some R := h
  show sm_V X (sm_QI X R) 1 s0 0 [(0, .int a1)] []
  unfold mf_X8_round at h
  refine sm_iload_n C 0 dX8_round_0 rfl rfl ?_
  refine sm_bipush (v := 8) C dX8_round_1 (by decide) ?_
  refine sm_irem C dX8_round_3 h (fun v1 h => ?_)
  refine sm_bipush (v := 8) C dX8_round_4 (by decide) ?_
  refine sm_iadd C dX8_round_6 h (fun v2 h => ?_)
  refine sm_bipush (v := 8) C dX8_round_7 (by decide) ?_
  refine sm_irem C dX8_round_9 h (fun v3 h => ?_)
  exact sm_iret C dX8_round_10 h
noncomputable def mf_X8_goesTo_p45 (a1 : Int32) (a2 : Int32) (a3 : Int32) (s0 : sm_St) (t0 : Int32) : Option (Int32 × sm_St) :=
  sm_c (mf_X8_round t0 s0) fun v1 s2 =>
  some (v1, s2)
noncomputable def mf_X8_goesTo (a1 : Int32) (a2 : Int32) (a3 : Int32) (s0 : sm_St) : Option (Int32 × sm_St) :=
  sm_g (sm_in a1 5) <| sm_b (s0.1 4 a1.toNatClampNeg) fun v1 =>
  if v1 = (3 : Int32) then (
  if a3 = 0 then (
  sm_b (a2 + (1 : Int32)) fun v5 =>
  mf_X8_goesTo_p45 a1 a2 a3 s0 v5)
  else (
  sm_b (a2 + a3) fun v4 =>
  mf_X8_goesTo_p45 a1 a2 a3 s0 v4))
  else (
  if v1 = (4 : Int32) then (
  sm_b (a2 + (2 : Int32)) fun v3 =>
  mf_X8_goesTo_p45 a1 a2 a3 s0 v3)
  else (
  sm_b (a2 + (4 : Int32)) fun v2 =>
  mf_X8_goesTo_p45 a1 a2 a3 s0 v2))
set_option maxRecDepth 4000 in
theorem mk_X8_goesTo_p45 {X : sm_VC} (C : sm_Cx X prog_10_method_13_code 5 "SmokeGoesToModel" 3 120 (some .int)) (hw : mo_is (sm_w X)) {a1 : Int32} {a2 : Int32} {a3 : Int32}  {R : Int32 × sm_St}   (s0 : sm_St) (t0 : Int32)  (h : mf_X8_goesTo_p45 a1 a2 a3 s0 t0 = some R) : sm_V X (sm_QI X R) 5 s0 45 [] [.int t0] := by
  unfold mf_X8_goesTo_p45 at h
  refine sm_callSI C [.int t0] (mc_X8_round hw t0) gm_X8_round gl_M_136 gs_X8_round rfl ⟨Nat.le_of_ble_eq_true rfl, Nat.le_of_ble_eq_true rfl⟩ rfl (Nat.le_of_ble_eq_true rfl) dX8_goesTo_45 h (fun v1 s2 h => ?_)
  exact sm_iret C dX8_goesTo_48 h
set_option maxRecDepth 4000 in
theorem mc_X8_goesTo {w : sm_WD} {l : Launch} (hw : mo_is w) (a1 : Int32) (a2 : Int32) (a3 : Int32) : sm_CI w l yX8_goesTo prog_10_method_13_code 5 (some .int) 3 120 [.ref (sm_ad w 0), .int a1, .int a2, .int a3] (fun s => mf_X8_goesTo a1 a2 a3 s) := by
  refine sm_CI.of (by decide +kernel) (Nat.le_of_ble_eq_true rfl) (fun X s0 R hXw hXl C h => ?_)
  subst hXw
  subst hXl
  have h : mf_X8_goesTo a1 a2 a3 s0 = some R := h
  show sm_V X (sm_QI X R) 5 s0 0 [(0, .ref (sm_ad (sm_w X) 0)), (1, .int a1), (2, .int a2), (3, .int a3)] []
  unfold mf_X8_goesTo at h
  refine sm_aload_n C 0 dX8_goesTo_0 rfl rfl ?_
  refine mr_M_kinds C hw (k := 0) rfl gf_M_29 dX8_goesTo_1 ?_
  refine sm_iload_n C 1 dX8_goesTo_4 rfl rfl ?_
  refine ma_iald C hw (k := 4) rfl rfl dX8_goesTo_5 h (fun v1 h => ?_)
  refine sm_istore (lv' := [(4, .int v1), (0, .ref (sm_ad (sm_w X) 0)), (1, .int a1), (2, .int a2), (3, .int a3)]) C dX8_goesTo_6 (by decide) rfl ?_
  refine sm_iload C 0 dX8_goesTo_8 rfl ?_
  refine sm_iconst (v := 3) C dX8_goesTo_10 (by decide) ?_
  refine sm_icmp_ne C 30 dX8_goesTo_11 (by decide) h (fun h => ?_) (fun h => ?_)
  · refine sm_iload C 0 dX8_goesTo_30 rfl ?_
    refine sm_iconst (v := 4) C dX8_goesTo_32 (by decide) ?_
    refine sm_icmp_ne C 42 dX8_goesTo_33 (by decide) h (fun h => ?_) (fun h => ?_)
    · refine sm_iload_n C 3 dX8_goesTo_42 rfl rfl ?_
      refine sm_iconst (v := 4) C dX8_goesTo_43 (by decide) ?_
      refine sm_iadd C dX8_goesTo_44 h (fun v2 h => ?_)
      refine sm_sub (lv' := []) [] rfl ?_
      exact mk_X8_goesTo_p45 C hw s0 v2 h
    · refine sm_iload_n C 3 dX8_goesTo_36 rfl rfl ?_
      refine sm_iconst (v := 2) C dX8_goesTo_37 (by decide) ?_
      refine sm_iadd C dX8_goesTo_38 h (fun v3 h => ?_)
      refine sm_goto C 45 dX8_goesTo_39 (by decide) ?_
      refine sm_sub (lv' := []) [] rfl ?_
      exact mk_X8_goesTo_p45 C hw s0 v3 h
  · refine sm_iload_n C 4 dX8_goesTo_14 rfl rfl ?_
    refine sm_if_ne C 24 dX8_goesTo_15 (by decide) h (fun h => ?_) (fun h => ?_)
    · refine sm_iload_n C 3 dX8_goesTo_24 rfl rfl ?_
      refine sm_iload_n C 4 dX8_goesTo_25 rfl rfl ?_
      refine sm_iadd C dX8_goesTo_26 h (fun v4 h => ?_)
      refine sm_goto C 45 dX8_goesTo_27 (by decide) ?_
      refine sm_sub (lv' := []) [] rfl ?_
      exact mk_X8_goesTo_p45 C hw s0 v4 h
    · refine sm_iload_n C 3 dX8_goesTo_18 rfl rfl ?_
      refine sm_iconst (v := 1) C dX8_goesTo_19 (by decide) ?_
      refine sm_iadd C dX8_goesTo_20 h (fun v5 h => ?_)
      refine sm_goto C 45 dX8_goesTo_21 (by decide) ?_
      refine sm_sub (lv' := []) [] rfl ?_
      exact mk_X8_goesTo_p45 C hw s0 v5 h
noncomputable def mf_X8_getsUp_p35 (a1 : Int32) (a2 : Int32) (s0 : sm_St) : Option (Int32 × sm_St) :=
  sm_g (sm_in a1 5) <| sm_b (s0.1 5 a1.toNatClampNeg) fun v1 =>
  if a2 ≤ v1 then (
  some ((0 : Int32), s0))
  else (
  some ((1 : Int32), s0))
noncomputable def mf_X8_getsUp (a1 : Int32) (a2 : Int32) (s0 : sm_St) : Option (Int32 × sm_St) :=
  sm_g (sm_in a1 5) <| sm_b (s0.1 4 a1.toNatClampNeg) fun v1 =>
  if v1 = (1 : Int32) then (
  some ((1 : Int32), s0))
  else (
  if v1 = (3 : Int32) then (
  some ((1 : Int32), s0))
  else (
  if v1 = (2 : Int32) then (
  mf_X8_getsUp_p35 a1 a2 s0)
  else (
  if v1 = (4 : Int32) then (
  sm_g (!decide ((2 : Int32) = 0)) <| sm_b (a2 - a2 / (2 : Int32) * (2 : Int32)) fun v2 =>
  if v2 = 0 then (
  mf_X8_getsUp_p35 a1 a2 s0)
  else (
  some ((0 : Int32), s0)))
  else (
  some ((0 : Int32), s0)))))
set_option maxRecDepth 4000 in
theorem mk_X8_getsUp_p35 {X : sm_VC} (C : sm_Cx X prog_10_method_12_code 4 "SmokeGoesToModel" 2 100 (some .boolean)) (hw : mo_is (sm_w X)) {a1 : Int32} {a2 : Int32}  {R : Int32 × sm_St}   (s0 : sm_St)   (h : mf_X8_getsUp_p35 a1 a2 s0 = some R) : sm_V X (sm_QI X R) 4 s0 35 [(0, .ref (sm_ad (sm_w X) 0)), (1, .int a1), (2, .int a2)] [] := by
  unfold mf_X8_getsUp_p35 at h
  refine sm_iload_n C 2 dX8_getsUp_35 rfl rfl ?_
  refine sm_aload_n C 0 dX8_getsUp_36 rfl rfl ?_
  refine mr_M_numbers C hw (k := 0) rfl gf_M_32 dX8_getsUp_37 ?_
  refine sm_iload_n C 1 dX8_getsUp_40 rfl rfl ?_
  refine ma_iald C hw (k := 5) rfl rfl dX8_getsUp_41 h (fun v1 h => ?_)
  refine sm_icmp_le C 49 dX8_getsUp_42 (by decide) h (fun h => ?_) (fun h => ?_)
  · refine sm_iconst (v := 0) C dX8_getsUp_49 (by decide) ?_
    exact sm_zretK C rfl dX8_getsUp_50 h
  · refine sm_iconst (v := 1) C dX8_getsUp_45 (by decide) ?_
    refine sm_goto C 50 dX8_getsUp_46 (by decide) ?_
    exact sm_zretK C rfl dX8_getsUp_50 h
set_option maxRecDepth 4000 in
theorem mc_X8_getsUp {w : sm_WD} {l : Launch} (hw : mo_is w) (a1 : Int32) (a2 : Int32) : sm_CI w l yX8_getsUp prog_10_method_12_code 4 (some .boolean) 2 100 [.ref (sm_ad w 0), .int a1, .int a2] (fun s => mf_X8_getsUp a1 a2 s) := by
  refine sm_CI.of (by decide +kernel) (Nat.le_of_ble_eq_true rfl) (fun X s0 R hXw hXl C h => ?_)
  subst hXw
  subst hXl
  have h : mf_X8_getsUp a1 a2 s0 = some R := h
  show sm_V X (sm_QI X R) 4 s0 0 [(0, .ref (sm_ad (sm_w X) 0)), (1, .int a1), (2, .int a2)] []
  unfold mf_X8_getsUp at h
  refine sm_aload_n C 0 dX8_getsUp_0 rfl rfl ?_
  refine mr_M_kinds C hw (k := 0) rfl gf_M_29 dX8_getsUp_1 ?_
  refine sm_iload_n C 1 dX8_getsUp_4 rfl rfl ?_
  refine ma_iald C hw (k := 4) rfl rfl dX8_getsUp_5 h (fun v1 h => ?_)
  refine sm_istore_n (lv' := [(3, .int v1), (0, .ref (sm_ad (sm_w X) 0)), (1, .int a1), (2, .int a2)]) C dX8_getsUp_6 rfl (by decide) rfl ?_
  refine sm_iload_n C 0 dX8_getsUp_7 rfl rfl ?_
  refine sm_iconst (v := 1) C dX8_getsUp_8 (by decide) ?_
  refine sm_icmp_eq C 17 dX8_getsUp_9 (by decide) h (fun h => ?_) (fun h => ?_)
  · refine sm_iconst (v := 1) C dX8_getsUp_17 (by decide) ?_
    exact sm_zretK C rfl dX8_getsUp_18 h
  · refine sm_iload_n C 0 dX8_getsUp_12 rfl rfl ?_
    refine sm_iconst (v := 3) C dX8_getsUp_13 (by decide) ?_
    refine sm_icmp_ne C 19 dX8_getsUp_14 (by decide) h (fun h => ?_) (fun h => ?_)
    · refine sm_iload_n C 0 dX8_getsUp_19 rfl rfl ?_
      refine sm_iconst (v := 2) C dX8_getsUp_20 (by decide) ?_
      refine sm_icmp_eq C 35 dX8_getsUp_21 (by decide) h (fun h => ?_) (fun h => ?_)
      · refine sm_sub (lv' := [(0, .ref (sm_ad (sm_w X) 0)), (1, .int a1), (2, .int a2)]) [1, 2, 3] rfl ?_
        exact mk_X8_getsUp_p35 C hw s0 h
      · refine sm_iload_n C 0 dX8_getsUp_24 rfl rfl ?_
        refine sm_iconst (v := 4) C dX8_getsUp_25 (by decide) ?_
        refine sm_icmp_ne C 49 dX8_getsUp_26 (by decide) h (fun h => ?_) (fun h => ?_)
        · refine sm_iconst (v := 0) C dX8_getsUp_49 (by decide) ?_
          exact sm_zretK C rfl dX8_getsUp_50 h
        · refine sm_iload_n C 3 dX8_getsUp_29 rfl rfl ?_
          refine sm_iconst (v := 2) C dX8_getsUp_30 (by decide) ?_
          refine sm_irem C dX8_getsUp_31 h (fun v2 h => ?_)
          refine sm_if_ne C 49 dX8_getsUp_32 (by decide) h (fun h => ?_) (fun h => ?_)
          · refine sm_iconst (v := 0) C dX8_getsUp_49 (by decide) ?_
            exact sm_zretK C rfl dX8_getsUp_50 h
          · refine sm_sub (lv' := [(0, .ref (sm_ad (sm_w X) 0)), (1, .int a1), (2, .int a2)]) [1, 2, 3] rfl ?_
            exact mk_X8_getsUp_p35 C hw s0 h
    · refine sm_iconst (v := 1) C dX8_getsUp_17 (by decide) ?_
      exact sm_zretK C rfl dX8_getsUp_18 h
noncomputable def mf_X8_told (a1 : Int32) (a2 : Int32) (s0 : sm_St) : Option (Int32 × sm_St) :=
  sm_c (mf_X8_isSitter a1 s0) fun v1 s2 =>
  if v1 = 0 then (
  some ((-2 : Int32), s2))
  else (
  sm_b (a2.toInt64) fun v3 =>
  sm_c (mf_X8_in v3 (0 : Int64) (9 : Int64) s2) fun v4 s5 =>
  if v4 = 0 then (
  some ((-2 : Int32), s5))
  else (
  if (3 : Int32) ≤ a2 then (
  if a2 = (3 : Int32) then (
  sm_g (sm_in a1 5) <| sm_b (s5.1 6 a1.toNatClampNeg) fun v9 =>
  sm_c (mf_X8_goesTo a1 v9 (0 : Int32) s5) fun v10 s11 =>
  some (v10, s11))
  else (
  sm_b (a2 - (3 : Int32)) fun v6 =>
  sm_c (mf_X8_getsUp a1 v6 s5) fun v7 s8 =>
  if v7 = 0 then (
  some ((0 : Int32), s8))
  else (
  some ((1 : Int32), s8))))
  else (
  if a2 = 0 then (
  sm_g (sm_in a1 5) <| sm_b (s5.1 4 a1.toNatClampNeg) fun v14 =>
  some (v14, s5))
  else (
  if a2 = (1 : Int32) then (
  sm_g (sm_in a1 5) <| sm_b (s5.1 5 a1.toNatClampNeg) fun v13 =>
  some (v13, s5))
  else (
  sm_g (sm_in a1 5) <| sm_b (s5.1 6 a1.toNatClampNeg) fun v12 =>
  some (v12, s5))))))
set_option maxRecDepth 4000 in
theorem mc_X8_told {w : sm_WD} {l : Launch} (hw : mo_is w) (a1 : Int32) (a2 : Int32) : sm_CI w l yX8_told prog_10_method_14_code 3 (some .int) 4 146 [.ref (sm_ad w 0), .int a1, .int a2] (fun s => mf_X8_told a1 a2 s) := by
  refine sm_CI.of (by decide +kernel) (Nat.le_of_ble_eq_true rfl) (fun X s0 R hXw hXl C h => ?_)
  subst hXw
  subst hXl
  have h : mf_X8_told a1 a2 s0 = some R := h
  show sm_V X (sm_QI X R) 3 s0 0 [(0, .ref (sm_ad (sm_w X) 0)), (1, .int a1), (2, .int a2)] []
  unfold mf_X8_told at h
  refine sm_aload_n C 0 dX8_told_0 rfl rfl ?_
  refine sm_iload_n C 1 dX8_told_1 rfl rfl ?_
  refine sm_callVI (k := 0) C [.int a1] (mc_X8_isSitter hw a1) gm_X8_isSitter gl_M_112 gi_X8_isSitter ge_X8_isSitter (mob_M hw rfl) rfl ⟨Nat.le_of_ble_eq_true rfl, Nat.le_of_ble_eq_true rfl⟩ rfl (Nat.le_of_ble_eq_true rfl) dX8_told_2 h (fun v1 s2 h => ?_)
  refine sm_if_eq C 20 dX8_told_5 (by decide) h (fun h => ?_) (fun h => ?_)
  · refine sm_bipush (v := (-2)) C dX8_told_20 (by decide) ?_
    exact sm_iret C dX8_told_22 h
  · refine sm_iload_n C 2 dX8_told_8 rfl rfl ?_
    refine sm_i2l C dX8_told_9 h (fun v3 h => ?_)
    refine sm_lconst (v := 0) C dX8_told_10 (by decide) ?_
    refine sm_ldc2 C gk_M_131 dX8_told_11 ?_
    refine sm_callSI C [.long v3, .long (0 : Int64), .long (9 : Int64)] (mc_X8_in hw v3 (0 : Int64) (9 : Int64)) gm_X8_in gl_M_104 gs_X8_in rfl ⟨Nat.le_of_ble_eq_true rfl, Nat.le_of_ble_eq_true rfl⟩ rfl (Nat.le_of_ble_eq_true rfl) dX8_told_14 h (fun v4 s5 h => ?_)
    refine sm_if_ne C 23 dX8_told_17 (by decide) h (fun h => ?_) (fun h => ?_)
    · refine sm_iload_n C 2 dX8_told_23 rfl rfl ?_
      refine sm_iconst (v := 3) C dX8_told_24 (by decide) ?_
      refine sm_icmp_ge C 62 dX8_told_25 (by decide) h (fun h => ?_) (fun h => ?_)
      · refine sm_iload_n C 2 dX8_told_62 rfl rfl ?_
        refine sm_iconst (v := 3) C dX8_told_63 (by decide) ?_
        refine sm_icmp_ne C 82 dX8_told_64 (by decide) h (fun h => ?_) (fun h => ?_)
        · refine sm_aload_n C 0 dX8_told_82 rfl rfl ?_
          refine sm_iload_n C 1 dX8_told_83 rfl rfl ?_
          refine sm_iload_n C 2 dX8_told_84 rfl rfl ?_
          refine sm_iconst (v := 3) C dX8_told_85 (by decide) ?_
          refine sm_isub C dX8_told_86 h (fun v6 h => ?_)
          refine sm_callVI (k := 0) C [.int a1, .int v6] (mc_X8_getsUp hw a1 v6) gm_X8_getsUp gl_M_144 gi_X8_getsUp ge_X8_getsUp (mob_M hw rfl) rfl ⟨Nat.le_of_ble_eq_true rfl, Nat.le_of_ble_eq_true rfl⟩ rfl (Nat.le_of_ble_eq_true rfl) dX8_told_87 h (fun v7 s8 h => ?_)
          refine sm_if_eq C 97 dX8_told_90 (by decide) h (fun h => ?_) (fun h => ?_)
          · refine sm_iconst (v := 0) C dX8_told_97 (by decide) ?_
            exact sm_iret C dX8_told_98 h
          · refine sm_iconst (v := 1) C dX8_told_93 (by decide) ?_
            refine sm_goto C 98 dX8_told_94 (by decide) ?_
            exact sm_iret C dX8_told_98 h
        · refine sm_aload_n C 0 dX8_told_67 rfl rfl ?_
          refine sm_iload_n C 1 dX8_told_68 rfl rfl ?_
          refine sm_aload_n C 0 dX8_told_69 rfl rfl ?_
          refine mr_M_places C hw (k := 0) rfl gf_M_35 dX8_told_70 ?_
          refine sm_iload_n C 1 dX8_told_73 rfl rfl ?_
          refine ma_iald C hw (k := 6) rfl rfl dX8_told_74 h (fun v9 h => ?_)
          refine sm_iconst (v := 0) C dX8_told_75 (by decide) ?_
          refine sm_callVI (k := 0) C [.int a1, .int v9, .int (0 : Int32)] (mc_X8_goesTo hw a1 v9 (0 : Int32)) gm_X8_goesTo gl_M_140 gi_X8_goesTo ge_X8_goesTo (mob_M hw rfl) rfl ⟨Nat.le_of_ble_eq_true rfl, Nat.le_of_ble_eq_true rfl⟩ rfl (Nat.le_of_ble_eq_true rfl) dX8_told_76 h (fun v10 s11 h => ?_)
          refine sm_goto C 98 dX8_told_79 (by decide) ?_
          exact sm_iret C dX8_told_98 h
      · refine sm_iload_n C 2 dX8_told_28 rfl rfl ?_
        refine sm_if_ne C 41 dX8_told_29 (by decide) h (fun h => ?_) (fun h => ?_)
        · refine sm_iload_n C 2 dX8_told_41 rfl rfl ?_
          refine sm_iconst (v := 1) C dX8_told_42 (by decide) ?_
          refine sm_icmp_ne C 55 dX8_told_43 (by decide) h (fun h => ?_) (fun h => ?_)
          · refine sm_aload_n C 0 dX8_told_55 rfl rfl ?_
            refine mr_M_places C hw (k := 0) rfl gf_M_35 dX8_told_56 ?_
            refine sm_iload_n C 1 dX8_told_59 rfl rfl ?_
            refine ma_iald C hw (k := 6) rfl rfl dX8_told_60 h (fun v12 h => ?_)
            exact sm_iret C dX8_told_61 h
          · refine sm_aload_n C 0 dX8_told_46 rfl rfl ?_
            refine mr_M_numbers C hw (k := 0) rfl gf_M_32 dX8_told_47 ?_
            refine sm_iload_n C 1 dX8_told_50 rfl rfl ?_
            refine ma_iald C hw (k := 5) rfl rfl dX8_told_51 h (fun v13 h => ?_)
            refine sm_goto C 61 dX8_told_52 (by decide) ?_
            exact sm_iret C dX8_told_61 h
        · refine sm_aload_n C 0 dX8_told_32 rfl rfl ?_
          refine mr_M_kinds C hw (k := 0) rfl gf_M_29 dX8_told_33 ?_
          refine sm_iload_n C 1 dX8_told_36 rfl rfl ?_
          refine ma_iald C hw (k := 4) rfl rfl dX8_told_37 h (fun v14 h => ?_)
          refine sm_goto C 61 dX8_told_38 (by decide) ?_
          exact sm_iret C dX8_told_61 h
    · refine sm_bipush (v := (-2)) C dX8_told_20 (by decide) ?_
      exact sm_iret C dX8_told_22 h
noncomputable def mf_X8_feed (a1 : Int32) (s0 : sm_St) : Option (Int32 × sm_St) :=
  sm_b (a1.toInt64) fun v1 =>
  sm_c (mf_X8_in v1 (0 : Int64) (255 : Int64) s0) fun v2 s3 =>
  if v2 = 0 then (
  some ((-2 : Int32), s3))
  else (
  sm_b (s3.1 0 6) fun v4 =>
  if v4 = (160 : Int32) then (
  some ((-4 : Int32), s3))
  else (
  sm_b (s3.1 0 6) fun v5 =>
  sm_g (sm_in v5 160) <| sm_b (sm_sI s3 3 v5.toNatClampNeg a1) fun s6 =>
  sm_b (s6.1 0 6) fun v7 =>
  sm_b (v7 + (1 : Int32)) fun v8 =>
  sm_b (sm_sI s6 0 6 v8) fun s9 =>
  sm_b (s9.1 0 6) fun v10 =>
  some (v10, s9)))
set_option maxRecDepth 4000 in
theorem mc_X8_feed {w : sm_WD} {l : Launch} (hw : mo_is w) (a1 : Int32) : sm_CI w l yX8_feed prog_10_method_15_code 2 (some .int) 3 125 [.ref (sm_ad w 0), .int a1] (fun s => mf_X8_feed a1 s) := by
  refine sm_CI.of (by decide +kernel) (Nat.le_of_ble_eq_true rfl) (fun X s0 R hXw hXl C h => ?_)
  subst hXw
  subst hXl
  have h : mf_X8_feed a1 s0 = some R := h
  show sm_V X (sm_QI X R) 2 s0 0 [(0, .ref (sm_ad (sm_w X) 0)), (1, .int a1)] []
  unfold mf_X8_feed at h
  refine sm_iload_n C 1 dX8_feed_0 rfl rfl ?_
  refine sm_i2l C dX8_feed_1 h (fun v1 h => ?_)
  refine sm_lconst (v := 0) C dX8_feed_2 (by decide) ?_
  refine sm_ldc2 C gk_M_148 dX8_feed_3 ?_
  refine sm_callSI C [.long v1, .long (0 : Int64), .long (255 : Int64)] (mc_X8_in hw v1 (0 : Int64) (255 : Int64)) gm_X8_in gl_M_104 gs_X8_in rfl ⟨Nat.le_of_ble_eq_true rfl, Nat.le_of_ble_eq_true rfl⟩ rfl (Nat.le_of_ble_eq_true rfl) dX8_feed_6 h (fun v2 s3 h => ?_)
  refine sm_if_ne C 15 dX8_feed_9 (by decide) h (fun h => ?_) (fun h => ?_)
  · refine sm_aload_n C 0 dX8_feed_15 rfl rfl ?_
    refine mr_M_taped C hw (k := 0) rfl gf_M_150 dX8_feed_16 h (fun v4 h => ?_)
    refine sm_sipush (v := 160) C dX8_feed_19 (by decide) ?_
    refine sm_icmp_ne C 28 dX8_feed_22 (by decide) h (fun h => ?_) (fun h => ?_)
    · refine sm_aload_n C 0 dX8_feed_28 rfl rfl ?_
      refine mr_M_tape C hw (k := 0) rfl gf_M_20 dX8_feed_29 ?_
      refine sm_aload_n C 0 dX8_feed_32 rfl rfl ?_
      refine mr_M_taped C hw (k := 0) rfl gf_M_150 dX8_feed_33 h (fun v5 h => ?_)
      refine sm_iload_n C 1 dX8_feed_36 rfl rfl ?_
      refine ma_iast C hw (k := 3) rfl rfl dX8_feed_37 h (fun s6 h => ?_)
      refine sm_aload_n C 0 dX8_feed_38 rfl rfl ?_
      refine sm_dup C dX8_feed_39 rfl ?_
      refine mr_M_taped C hw (k := 0) rfl gf_M_150 dX8_feed_40 h (fun v7 h => ?_)
      refine sm_iconst (v := 1) C dX8_feed_43 (by decide) ?_
      refine sm_iadd C dX8_feed_44 h (fun v8 h => ?_)
      refine mp_M_taped C hw (k := 0) rfl gf_M_150 dX8_feed_45 h (fun s9 h => ?_)
      refine sm_aload_n C 0 dX8_feed_48 rfl rfl ?_
      refine mr_M_taped C hw (k := 0) rfl gf_M_150 dX8_feed_49 h (fun v10 h => ?_)
      exact sm_iret C dX8_feed_52 h
    · refine sm_bipush (v := (-4)) C dX8_feed_25 (by decide) ?_
      exact sm_iret C dX8_feed_27 h
  · refine sm_bipush (v := (-2)) C dX8_feed_12 (by decide) ?_
    exact sm_iret C dX8_feed_14 h
noncomputable def mf_X8_byteAt (a1 : Int32) (s0 : sm_St) : Option (Int32 × sm_St) :=
  sm_b (s0.1 0 23) fun v1 =>
  if v1 ≤ a1 then (
  some ((-1 : Int32), s0))
  else (
  sm_b (s0.1 0 22) fun v2 =>
  sm_b (v2 + a1) fun v3 =>
  sm_g (sm_in v3 960) <| sm_b (s0.1 1 v3.toNatClampNeg) fun v4 =>
  some (v4, s0))
set_option maxRecDepth 4000 in
theorem mc_X8_byteAt {w : sm_WD} {l : Launch} (hw : mo_is w) (a1 : Int32) : sm_CI w l yX8_byteAt prog_10_method_16_code 2 (some .int) 2 100 [.ref (sm_ad w 0), .int a1] (fun s => mf_X8_byteAt a1 s) := by
  refine sm_CI.of (by decide +kernel) (Nat.le_of_ble_eq_true rfl) (fun X s0 R hXw hXl C h => ?_)
  subst hXw
  subst hXl
  have h : mf_X8_byteAt a1 s0 = some R := h
  show sm_V X (sm_QI X R) 2 s0 0 [(0, .ref (sm_ad (sm_w X) 0)), (1, .int a1)] []
  unfold mf_X8_byteAt at h
  refine sm_iload_n C 1 dX8_byteAt_0 rfl rfl ?_
  refine sm_aload_n C 0 dX8_byteAt_1 rfl rfl ?_
  refine mr_M_size C hw (k := 0) rfl gf_M_153 dX8_byteAt_2 h (fun v1 h => ?_)
  refine sm_icmp_ge C 22 dX8_byteAt_5 (by decide) h (fun h => ?_) (fun h => ?_)
  · refine sm_iconst (v := (-1)) C dX8_byteAt_22 (by decide) ?_
    exact sm_iret C dX8_byteAt_23 h
  · refine sm_aload_n C 0 dX8_byteAt_8 rfl rfl ?_
    refine mr_M_texts C hw (k := 0) rfl gf_M_13 dX8_byteAt_9 ?_
    refine sm_aload_n C 0 dX8_byteAt_12 rfl rfl ?_
    refine mr_M_from C hw (k := 0) rfl gf_M_156 dX8_byteAt_13 h (fun v2 h => ?_)
    refine sm_iload_n C 1 dX8_byteAt_16 rfl rfl ?_
    refine sm_iadd C dX8_byteAt_17 h (fun v3 h => ?_)
    refine ma_iald C hw (k := 1) rfl rfl dX8_byteAt_18 h (fun v4 h => ?_)
    refine sm_goto C 23 dX8_byteAt_19 (by decide) ?_
    exact sm_iret C dX8_byteAt_23 h
noncomputable def mf_X8_next_p26 (k0 : sm_St → Option (Unit × sm_St)) (s0 : sm_St) : Option (Unit × sm_St) :=
  sm_b (s0.1 0 24) fun v1 =>
  sm_b (v1 + (1 : Int32)) fun v2 =>
  sm_b (sm_sI s0 0 24 v2) fun s3 =>
  k0 s3
noncomputable def mf_X8_next_p100  : Nat → sm_St → Option (Unit × sm_St)
  | 0, _ => none
  | n + 1, s0 =>
  sm_b (s0.1 0 24) fun v1 =>
  sm_c (mf_X8_byteAt v1 s0) fun v2 s3 =>
  sm_b (v2.toInt64) fun v4 =>
  sm_c (mf_X8_in v4 (97 : Int64) (122 : Int64) s3) fun v5 s6 =>
  if v5 = 0 then (
  some ((), s6))
  else (
  sm_b (s6.1 0 24) fun v7 =>
  sm_b (v7 + (1 : Int32)) fun v8 =>
  sm_b (sm_sI s6 0 24 v8) fun s9 =>
  (mf_X8_next_p100 n) s9)
noncomputable def mf_X8_next_p216 (k160 : sm_St → Int32 → Option (Unit × sm_St)) (s0 : sm_St) (l2 : Int32) (t0 : Int64) : Option (Unit × sm_St) :=
  sm_b (sm_sL s0 0 27 t0) fun s1 =>
  sm_b (l2 + Int32.ofInt 1) fun v2 =>
  sm_b (s1.1 0 24) fun v3 =>
  sm_b (v3 + (1 : Int32)) fun v4 =>
  sm_b (sm_sI s1 0 24 v4) fun s5 =>
  k160 s5 v2
noncomputable def mf_X8_next_p246 (s0 : sm_St) (t0 : Int32) : Option (Unit × sm_St) :=
  sm_b (sm_sI s0 0 25 t0) fun s1 =>
  some ((), s1)
noncomputable def mf_X8_next_p160  : Nat → sm_St → Int32 → Option (Unit × sm_St)
  | 0, _, _ => none
  | n + 1, s0, l2 =>
  sm_b (s0.1 0 24) fun v1 =>
  sm_c (mf_X8_byteAt v1 s0) fun v2 s3 =>
  sm_b (v2.toInt64) fun v4 =>
  sm_c (mf_X8_in v4 (48 : Int64) (57 : Int64) s3) fun v5 s6 =>
  if v5 = 0 then (
  if l2 ≤ (4 : Int32) then (
  mf_X8_next_p246 s6 (2 : Int32))
  else (
  mf_X8_next_p246 s6 (4 : Int32)))
  else (
  if (4 : Int32) ≤ l2 then (
  sm_b (s6.2.1 0 27) fun v7 =>
  mf_X8_next_p216 (mf_X8_next_p160 n) s6 l2 v7)
  else (
  sm_b (s6.2.1 0 27) fun v8 =>
  sm_b ((10 : Int64) * v8) fun v9 =>
  sm_b (s6.1 0 24) fun v10 =>
  sm_c (mf_X8_byteAt v10 s6) fun v11 s12 =>
  sm_b (v11.toInt64) fun v13 =>
  sm_b (v9 + v13) fun v14 =>
  sm_b (v14 - (48 : Int64)) fun v15 =>
  mf_X8_next_p216 (mf_X8_next_p160 n) s12 l2 v15))
noncomputable def mf_X8_next_p300 (s0 : sm_St) (l1 : Int32) : Option (Unit × sm_St) :=
  sm_b (sm_sI s0 0 25 (3 : Int32)) fun s1 =>
  sm_b (l1.toInt64) fun v2 =>
  sm_b (sm_sL s1 0 27 v2) fun s3 =>
  sm_b (s3.1 0 24) fun v4 =>
  sm_b (v4 + (1 : Int32)) fun v5 =>
  sm_b (sm_sI s3 0 24 v5) fun s6 =>
  some ((), s6)
noncomputable def mf_X8_next_p0  : Nat → sm_St → Option (Unit × sm_St)
  | 0, _ => none
  | n + 1, s0 =>
  sm_b (s0.1 0 24) fun v1 =>
  sm_c (mf_X8_byteAt v1 s0) fun v2 s3 =>
  if v2 = (32 : Int32) then (
  mf_X8_next_p26 (mf_X8_next_p0 n) s3)
  else (
  sm_b (s3.1 0 24) fun v4 =>
  sm_c (mf_X8_byteAt v4 s3) fun v5 s6 =>
  if v5 = (10 : Int32) then (
  mf_X8_next_p26 (mf_X8_next_p0 n) s6)
  else (
  sm_b (s6.1 0 24) fun v7 =>
  sm_b (sm_sI s6 0 26 v7) fun s8 =>
  sm_b (s8.1 0 24) fun v9 =>
  sm_c (mf_X8_byteAt v9 s8) fun v10 s11 =>
  sm_b (sm_sI s11 0 25 (4 : Int32)) fun s12 =>
  if 0 ≤ v10 then (
  sm_b (v10.toInt64) fun v13 =>
  sm_c (mf_X8_in v13 (97 : Int64) (122 : Int64) s12) fun v14 s15 =>
  if v14 = 0 then (
  sm_b (v10.toInt64) fun v16 =>
  sm_c (mf_X8_in v16 (48 : Int64) (57 : Int64) s15) fun v17 s18 =>
  if v17 = 0 then (
  if v10 = (40 : Int32) then (
  mf_X8_next_p300 s18 v10)
  else (
  if v10 = (41 : Int32) then (
  mf_X8_next_p300 s18 v10)
  else (
  if v10 = (59 : Int32) then (
  mf_X8_next_p300 s18 v10)
  else (
  if v10 = (43 : Int32) then (
  mf_X8_next_p300 s18 v10)
  else (
  if v10 = (45 : Int32) then (
  mf_X8_next_p300 s18 v10)
  else (
  if v10 = (42 : Int32) then (
  mf_X8_next_p300 s18 v10)
  else (
  if v10 = (60 : Int32) then (
  mf_X8_next_p300 s18 v10)
  else (
  if v10 = (61 : Int32) then (
  mf_X8_next_p300 s18 v10)
  else (
  some ((), s18))))))))))
  else (
  sm_b (sm_sI s18 0 25 (2 : Int32)) fun s19 =>
  sm_b (sm_sL s19 0 27 (0 : Int64)) fun s20 =>
  mf_X8_next_p160 sm_F s20 (0 : Int32)))
  else (
  sm_b (sm_sI s15 0 25 (1 : Int32)) fun s21 =>
  mf_X8_next_p100 sm_F s21))
  else (
  sm_b (sm_sI s12 0 25 (0 : Int32)) fun s22 =>
  sm_b (s22.1 0 23) fun v23 =>
  sm_b (sm_sI s22 0 26 v23) fun s24 =>
  some ((), s24))))
noncomputable def mf_X8_next (s0 : sm_St) : Option (Unit × sm_St) :=
  mf_X8_next_p0 sm_F s0
set_option maxRecDepth 4000 in
theorem mk_X8_next_p26 {X : sm_VC} (C : sm_Cx X prog_10_method_17_code 3 "SmokeGoesToModel" 3 125 none) (hw : mo_is (sm_w X))   {R : Unit × sm_St} {k0 : sm_St → Option (Unit × sm_St)} (hk0 : ∀ (s : sm_St), k0 s = some R → sm_V X (sm_QV X R) 3 s 0 [(0, .ref (sm_ad (sm_w X) 0))] []) (s0 : sm_St)   (h : mf_X8_next_p26 k0 s0 = some R) : sm_V X (sm_QV X R) 3 s0 26 [(0, .ref (sm_ad (sm_w X) 0))] [] := by
  unfold mf_X8_next_p26 at h
  refine sm_aload_n C 0 dX8_next_26 rfl rfl ?_
  refine sm_dup C dX8_next_27 rfl ?_
  refine mr_M_here C hw (k := 0) rfl gf_M_159 dX8_next_28 h (fun v1 h => ?_)
  refine sm_iconst (v := 1) C dX8_next_31 (by decide) ?_
  refine sm_iadd C dX8_next_32 h (fun v2 h => ?_)
  refine mp_M_here C hw (k := 0) rfl gf_M_159 dX8_next_33 h (fun s3 h => ?_)
  refine sm_goto C 0 dX8_next_36 (by decide) ?_
  exact hk0 s3 h
set_option maxRecDepth 4000 in
theorem mk_X8_next_p100 {X : sm_VC} (C : sm_Cx X prog_10_method_17_code 3 "SmokeGoesToModel" 3 125 none) (hw : mo_is (sm_w X))   {R : Unit × sm_St}   : ∀ (n : Nat) (s0 : sm_St)  , mf_X8_next_p100 n s0 = some R → sm_V X (sm_QV X R) 3 s0 100 [(0, .ref (sm_ad (sm_w X) 0))] [] := by
  intro n
  induction n with
  | zero =>
    intro s0 h
    have h : (none : Option (Unit × sm_St)) = some R := h
    cases h
  | succ n ih =>
    intro s0 h
    unfold mf_X8_next_p100 at h
    refine sm_aload_n C 0 dX8_next_100 rfl rfl ?_
    refine sm_aload_n C 0 dX8_next_101 rfl rfl ?_
    refine mr_M_here C hw (k := 0) rfl gf_M_159 dX8_next_102 h (fun v1 h => ?_)
    refine sm_callVI (k := 0) C [.int v1] (mc_X8_byteAt hw v1) gm_X8_byteAt gl_M_162 gi_X8_byteAt ge_X8_byteAt (mob_M hw rfl) rfl ⟨Nat.le_of_ble_eq_true rfl, Nat.le_of_ble_eq_true rfl⟩ rfl (Nat.le_of_ble_eq_true rfl) dX8_next_105 h (fun v2 s3 h => ?_)
    refine sm_i2l C dX8_next_108 h (fun v4 h => ?_)
    refine sm_ldc2 C gk_M_171 dX8_next_109 ?_
    refine sm_ldc2 C gk_M_173 dX8_next_112 ?_
    refine sm_callSI C [.long v4, .long (97 : Int64), .long (122 : Int64)] (mc_X8_in hw v4 (97 : Int64) (122 : Int64)) gm_X8_in gl_M_104 gs_X8_in rfl ⟨Nat.le_of_ble_eq_true rfl, Nat.le_of_ble_eq_true rfl⟩ rfl (Nat.le_of_ble_eq_true rfl) dX8_next_115 h (fun v5 s6 h => ?_)
    refine sm_if_eq C 321 dX8_next_118 (by decide) h (fun h => ?_) (fun h => ?_)
    · exact sm_vret C dX8_next_321 h
    · refine sm_aload_n C 0 dX8_next_121 rfl rfl ?_
      refine sm_dup C dX8_next_122 rfl ?_
      refine mr_M_here C hw (k := 0) rfl gf_M_159 dX8_next_123 h (fun v7 h => ?_)
      refine sm_iconst (v := 1) C dX8_next_126 (by decide) ?_
      refine sm_iadd C dX8_next_127 h (fun v8 h => ?_)
      refine mp_M_here C hw (k := 0) rfl gf_M_159 dX8_next_128 h (fun s9 h => ?_)
      refine sm_goto C 100 dX8_next_131 (by decide) ?_
      exact ih s9 h
set_option maxRecDepth 4000 in
theorem mk_X8_next_p216 {X : sm_VC} (C : sm_Cx X prog_10_method_17_code 3 "SmokeGoesToModel" 3 125 none) (hw : mo_is (sm_w X))   {R : Unit × sm_St} {k160 : sm_St → Int32 → Option (Unit × sm_St)} (hk160 : ∀ (s : sm_St) (l2 : Int32), k160 s l2 = some R → sm_V X (sm_QV X R) 3 s 160 [(0, .ref (sm_ad (sm_w X) 0)), (2, .int l2)] []) (s0 : sm_St) (l2 : Int32) (t0 : Int64)  (h : mf_X8_next_p216 k160 s0 l2 t0 = some R) : sm_V X (sm_QV X R) 3 s0 216 [(0, .ref (sm_ad (sm_w X) 0)), (2, .int l2)] [.long t0, .ref (sm_ad (sm_w X) 0)] := by
  unfold mf_X8_next_p216 at h
  refine mp_M_tokenWorth C hw (k := 0) rfl gf_M_179 dX8_next_216 h (fun s1 h => ?_)
  refine sm_iinc (lv' := fun v2 => [(2, .int v2), (0, .ref (sm_ad (sm_w X) 0))]) C 1 dX8_next_219 rfl (by decide) (fun _ => rfl) h (fun v2 h => ?_)
  refine sm_aload_n C 1 dX8_next_222 rfl rfl ?_
  refine sm_dup C dX8_next_223 rfl ?_
  refine mr_M_here C hw (k := 0) rfl gf_M_159 dX8_next_224 h (fun v3 h => ?_)
  refine sm_iconst (v := 1) C dX8_next_227 (by decide) ?_
  refine sm_iadd C dX8_next_228 h (fun v4 h => ?_)
  refine mp_M_here C hw (k := 0) rfl gf_M_159 dX8_next_229 h (fun s5 h => ?_)
  refine sm_goto C 160 dX8_next_232 (by decide) ?_
  refine sm_sub (lv' := [(0, .ref (sm_ad (sm_w X) 0)), (2, .int v2)]) [1, 0] rfl ?_
  exact hk160 s5 v2 h
set_option maxRecDepth 4000 in
theorem mk_X8_next_p246 {X : sm_VC} (C : sm_Cx X prog_10_method_17_code 3 "SmokeGoesToModel" 3 125 none) (hw : mo_is (sm_w X))   {R : Unit × sm_St}   (s0 : sm_St) (t0 : Int32)  (h : mf_X8_next_p246 s0 t0 = some R) : sm_V X (sm_QV X R) 3 s0 246 [] [.int t0, .ref (sm_ad (sm_w X) 0)] := by
  unfold mf_X8_next_p246 at h
  refine mp_M_token C hw (k := 0) rfl gf_M_168 dX8_next_246 h (fun s1 h => ?_)
  refine sm_goto C 321 dX8_next_249 (by decide) ?_
  exact sm_vret C dX8_next_321 h
set_option maxRecDepth 4000 in
theorem mk_X8_next_p160 {X : sm_VC} (C : sm_Cx X prog_10_method_17_code 3 "SmokeGoesToModel" 3 125 none) (hw : mo_is (sm_w X))   {R : Unit × sm_St}   : ∀ (n : Nat) (s0 : sm_St) (l2 : Int32) , mf_X8_next_p160 n s0 l2 = some R → sm_V X (sm_QV X R) 3 s0 160 [(0, .ref (sm_ad (sm_w X) 0)), (2, .int l2)] [] := by
  intro n
  induction n with
  | zero =>
    intro s0 l2 h
    have h : (none : Option (Unit × sm_St)) = some R := h
    cases h
  | succ n ih =>
    intro s0 l2 h
    unfold mf_X8_next_p160 at h
    refine sm_aload_n C 0 dX8_next_160 rfl rfl ?_
    refine sm_aload_n C 0 dX8_next_161 rfl rfl ?_
    refine mr_M_here C hw (k := 0) rfl gf_M_159 dX8_next_162 h (fun v1 h => ?_)
    refine sm_callVI (k := 0) C [.int v1] (mc_X8_byteAt hw v1) gm_X8_byteAt gl_M_162 gi_X8_byteAt ge_X8_byteAt (mob_M hw rfl) rfl ⟨Nat.le_of_ble_eq_true rfl, Nat.le_of_ble_eq_true rfl⟩ rfl (Nat.le_of_ble_eq_true rfl) dX8_next_165 h (fun v2 s3 h => ?_)
    refine sm_i2l C dX8_next_168 h (fun v4 h => ?_)
    refine sm_ldc2 C gk_M_175 dX8_next_169 ?_
    refine sm_ldc2 C gk_M_177 dX8_next_172 ?_
    refine sm_callSI C [.long v4, .long (48 : Int64), .long (57 : Int64)] (mc_X8_in hw v4 (48 : Int64) (57 : Int64)) gm_X8_in gl_M_104 gs_X8_in rfl ⟨Nat.le_of_ble_eq_true rfl, Nat.le_of_ble_eq_true rfl⟩ rfl (Nat.le_of_ble_eq_true rfl) dX8_next_175 h (fun v5 s6 h => ?_)
    refine sm_if_eq C 235 dX8_next_178 (by decide) h (fun h => ?_) (fun h => ?_)
    · refine sm_aload_n C 0 dX8_next_235 rfl rfl ?_
      refine sm_iload_n C 1 dX8_next_236 rfl rfl ?_
      refine sm_iconst (v := 4) C dX8_next_237 (by decide) ?_
      refine sm_icmp_le C 245 dX8_next_238 (by decide) h (fun h => ?_) (fun h => ?_)
      · refine sm_iconst (v := 2) C dX8_next_245 (by decide) ?_
        refine sm_sub (lv' := []) [] rfl ?_
        exact mk_X8_next_p246 C hw s6 (2 : Int32) h
      · refine sm_iconst (v := 4) C dX8_next_241 (by decide) ?_
        refine sm_goto C 246 dX8_next_242 (by decide) ?_
        refine sm_sub (lv' := []) [] rfl ?_
        exact mk_X8_next_p246 C hw s6 (4 : Int32) h
    · refine sm_aload_n C 0 dX8_next_181 rfl rfl ?_
      refine sm_iload_n C 1 dX8_next_182 rfl rfl ?_
      refine sm_iconst (v := 4) C dX8_next_183 (by decide) ?_
      refine sm_icmp_ge C 212 dX8_next_184 (by decide) h (fun h => ?_) (fun h => ?_)
      · refine sm_aload_n C 0 dX8_next_212 rfl rfl ?_
        refine mr_M_tokenWorth C hw (k := 0) rfl gf_M_179 dX8_next_213 h (fun v7 h => ?_)
        exact mk_X8_next_p216 C hw ih s6 l2 v7 h
      · refine sm_ldc2 C gk_M_183 dX8_next_187 ?_
        refine sm_aload_n C 0 dX8_next_190 rfl rfl ?_
        refine mr_M_tokenWorth C hw (k := 0) rfl gf_M_179 dX8_next_191 h (fun v8 h => ?_)
        refine sm_lmul C dX8_next_194 h (fun v9 h => ?_)
        refine sm_aload_n C 0 dX8_next_195 rfl rfl ?_
        refine sm_aload_n C 0 dX8_next_196 rfl rfl ?_
        refine mr_M_here C hw (k := 0) rfl gf_M_159 dX8_next_197 h (fun v10 h => ?_)
        refine sm_callVI (k := 0) C [.int v10] (mc_X8_byteAt hw v10) gm_X8_byteAt gl_M_162 gi_X8_byteAt ge_X8_byteAt (mob_M hw rfl) rfl ⟨Nat.le_of_ble_eq_true rfl, Nat.le_of_ble_eq_true rfl⟩ rfl (Nat.le_of_ble_eq_true rfl) dX8_next_200 h (fun v11 s12 h => ?_)
        refine sm_i2l C dX8_next_203 h (fun v13 h => ?_)
        refine sm_ladd C dX8_next_204 h (fun v14 h => ?_)
        refine sm_ldc2 C gk_M_175 dX8_next_205 ?_
        refine sm_lsub C dX8_next_208 h (fun v15 h => ?_)
        refine sm_goto C 216 dX8_next_209 (by decide) ?_
        exact mk_X8_next_p216 C hw ih s12 l2 v15 h
set_option maxRecDepth 4000 in
theorem mk_X8_next_p300 {X : sm_VC} (C : sm_Cx X prog_10_method_17_code 3 "SmokeGoesToModel" 3 125 none) (hw : mo_is (sm_w X))   {R : Unit × sm_St}   (s0 : sm_St) (l1 : Int32)  (h : mf_X8_next_p300 s0 l1 = some R) : sm_V X (sm_QV X R) 3 s0 300 [(0, .ref (sm_ad (sm_w X) 0)), (1, .int l1)] [] := by
  unfold mf_X8_next_p300 at h
  refine sm_aload_n C 0 dX8_next_300 rfl rfl ?_
  refine sm_iconst (v := 3) C dX8_next_301 (by decide) ?_
  refine mp_M_token C hw (k := 0) rfl gf_M_168 dX8_next_302 h (fun s1 h => ?_)
  refine sm_aload_n C 0 dX8_next_305 rfl rfl ?_
  refine sm_iload_n C 1 dX8_next_306 rfl rfl ?_
  refine sm_i2l C dX8_next_307 h (fun v2 h => ?_)
  refine mp_M_tokenWorth C hw (k := 0) rfl gf_M_179 dX8_next_308 h (fun s3 h => ?_)
  refine sm_aload_n C 0 dX8_next_311 rfl rfl ?_
  refine sm_dup C dX8_next_312 rfl ?_
  refine mr_M_here C hw (k := 0) rfl gf_M_159 dX8_next_313 h (fun v4 h => ?_)
  refine sm_iconst (v := 1) C dX8_next_316 (by decide) ?_
  refine sm_iadd C dX8_next_317 h (fun v5 h => ?_)
  refine mp_M_here C hw (k := 0) rfl gf_M_159 dX8_next_318 h (fun s6 h => ?_)
  exact sm_vret C dX8_next_321 h
set_option maxRecDepth 4000 in
theorem mk_X8_next_p0 {X : sm_VC} (C : sm_Cx X prog_10_method_17_code 3 "SmokeGoesToModel" 3 125 none) (hw : mo_is (sm_w X))   {R : Unit × sm_St}   : ∀ (n : Nat) (s0 : sm_St)  , mf_X8_next_p0 n s0 = some R → sm_V X (sm_QV X R) 3 s0 0 [(0, .ref (sm_ad (sm_w X) 0))] [] := by
  intro n
  induction n with
  | zero =>
    intro s0 h
    have h : (none : Option (Unit × sm_St)) = some R := h
    cases h
  | succ n ih =>
    intro s0 h
    unfold mf_X8_next_p0 at h
    refine sm_aload_n C 0 dX8_next_0 rfl rfl ?_
    refine sm_aload_n C 0 dX8_next_1 rfl rfl ?_
    refine mr_M_here C hw (k := 0) rfl gf_M_159 dX8_next_2 h (fun v1 h => ?_)
    refine sm_callVI (k := 0) C [.int v1] (mc_X8_byteAt hw v1) gm_X8_byteAt gl_M_162 gi_X8_byteAt ge_X8_byteAt (mob_M hw rfl) rfl ⟨Nat.le_of_ble_eq_true rfl, Nat.le_of_ble_eq_true rfl⟩ rfl (Nat.le_of_ble_eq_true rfl) dX8_next_5 h (fun v2 s3 h => ?_)
    refine sm_bipush (v := 32) C dX8_next_8 (by decide) ?_
    refine sm_icmp_eq C 26 dX8_next_10 (by decide) h (fun h => ?_) (fun h => ?_)
    · exact mk_X8_next_p26 C hw ih s3 h
    · refine sm_aload_n C 0 dX8_next_13 rfl rfl ?_
      refine sm_aload_n C 0 dX8_next_14 rfl rfl ?_
      refine mr_M_here C hw (k := 0) rfl gf_M_159 dX8_next_15 h (fun v4 h => ?_)
      refine sm_callVI (k := 0) C [.int v4] (mc_X8_byteAt hw v4) gm_X8_byteAt gl_M_162 gi_X8_byteAt ge_X8_byteAt (mob_M hw rfl) rfl ⟨Nat.le_of_ble_eq_true rfl, Nat.le_of_ble_eq_true rfl⟩ rfl (Nat.le_of_ble_eq_true rfl) dX8_next_18 h (fun v5 s6 h => ?_)
      refine sm_bipush (v := 10) C dX8_next_21 (by decide) ?_
      refine sm_icmp_ne C 39 dX8_next_23 (by decide) h (fun h => ?_) (fun h => ?_)
      · refine sm_aload_n C 0 dX8_next_39 rfl rfl ?_
        refine sm_aload_n C 0 dX8_next_40 rfl rfl ?_
        refine mr_M_here C hw (k := 0) rfl gf_M_159 dX8_next_41 h (fun v7 h => ?_)
        refine mp_M_tokenAt C hw (k := 0) rfl gf_M_165 dX8_next_44 h (fun s8 h => ?_)
        refine sm_aload_n C 0 dX8_next_47 rfl rfl ?_
        refine sm_aload_n C 0 dX8_next_48 rfl rfl ?_
        refine mr_M_here C hw (k := 0) rfl gf_M_159 dX8_next_49 h (fun v9 h => ?_)
        refine sm_callVI (k := 0) C [.int v9] (mc_X8_byteAt hw v9) gm_X8_byteAt gl_M_162 gi_X8_byteAt ge_X8_byteAt (mob_M hw rfl) rfl ⟨Nat.le_of_ble_eq_true rfl, Nat.le_of_ble_eq_true rfl⟩ rfl (Nat.le_of_ble_eq_true rfl) dX8_next_52 h (fun v10 s11 h => ?_)
        refine sm_istore_n (lv' := [(1, .int v10), (0, .ref (sm_ad (sm_w X) 0))]) C dX8_next_55 rfl (by decide) rfl ?_
        refine sm_aload_n C 1 dX8_next_56 rfl rfl ?_
        refine sm_iconst (v := 4) C dX8_next_57 (by decide) ?_
        refine mp_M_token C hw (k := 0) rfl gf_M_168 dX8_next_58 h (fun s12 h => ?_)
        refine sm_iload_n C 0 dX8_next_61 rfl rfl ?_
        refine sm_if_ge C 81 dX8_next_62 (by decide) h (fun h => ?_) (fun h => ?_)
        · refine sm_iload_n C 0 dX8_next_81 rfl rfl ?_
          refine sm_i2l C dX8_next_82 h (fun v13 h => ?_)
          refine sm_ldc2 C gk_M_171 dX8_next_83 ?_
          refine sm_ldc2 C gk_M_173 dX8_next_86 ?_
          refine sm_callSI C [.long v13, .long (97 : Int64), .long (122 : Int64)] (mc_X8_in hw v13 (97 : Int64) (122 : Int64)) gm_X8_in gl_M_104 gs_X8_in rfl ⟨Nat.le_of_ble_eq_true rfl, Nat.le_of_ble_eq_true rfl⟩ rfl (Nat.le_of_ble_eq_true rfl) dX8_next_89 h (fun v14 s15 h => ?_)
          refine sm_if_eq C 134 dX8_next_92 (by decide) h (fun h => ?_) (fun h => ?_)
          · refine sm_iload_n C 0 dX8_next_134 rfl rfl ?_
            refine sm_i2l C dX8_next_135 h (fun v16 h => ?_)
            refine sm_ldc2 C gk_M_175 dX8_next_136 ?_
            refine sm_ldc2 C gk_M_177 dX8_next_139 ?_
            refine sm_callSI C [.long v16, .long (48 : Int64), .long (57 : Int64)] (mc_X8_in hw v16 (48 : Int64) (57 : Int64)) gm_X8_in gl_M_104 gs_X8_in rfl ⟨Nat.le_of_ble_eq_true rfl, Nat.le_of_ble_eq_true rfl⟩ rfl (Nat.le_of_ble_eq_true rfl) dX8_next_142 h (fun v17 s18 h => ?_)
            refine sm_if_eq C 252 dX8_next_145 (by decide) h (fun h => ?_) (fun h => ?_)
            · refine sm_iload_n C 0 dX8_next_252 rfl rfl ?_
              refine sm_bipush (v := 40) C dX8_next_253 (by decide) ?_
              refine sm_icmp_eq C 300 dX8_next_255 (by decide) h (fun h => ?_) (fun h => ?_)
              · refine sm_sub (lv' := [(0, .ref (sm_ad (sm_w X) 0)), (1, .int v10)]) [1, 0] rfl ?_
                exact mk_X8_next_p300 C hw s18 v10 h
              · refine sm_iload_n C 0 dX8_next_258 rfl rfl ?_
                refine sm_bipush (v := 41) C dX8_next_259 (by decide) ?_
                refine sm_icmp_eq C 300 dX8_next_261 (by decide) h (fun h => ?_) (fun h => ?_)
                · refine sm_sub (lv' := [(0, .ref (sm_ad (sm_w X) 0)), (1, .int v10)]) [1, 0] rfl ?_
                  exact mk_X8_next_p300 C hw s18 v10 h
                · refine sm_iload_n C 0 dX8_next_264 rfl rfl ?_
                  refine sm_bipush (v := 59) C dX8_next_265 (by decide) ?_
                  refine sm_icmp_eq C 300 dX8_next_267 (by decide) h (fun h => ?_) (fun h => ?_)
                  · refine sm_sub (lv' := [(0, .ref (sm_ad (sm_w X) 0)), (1, .int v10)]) [1, 0] rfl ?_
                    exact mk_X8_next_p300 C hw s18 v10 h
                  · refine sm_iload_n C 0 dX8_next_270 rfl rfl ?_
                    refine sm_bipush (v := 43) C dX8_next_271 (by decide) ?_
                    refine sm_icmp_eq C 300 dX8_next_273 (by decide) h (fun h => ?_) (fun h => ?_)
                    · refine sm_sub (lv' := [(0, .ref (sm_ad (sm_w X) 0)), (1, .int v10)]) [1, 0] rfl ?_
                      exact mk_X8_next_p300 C hw s18 v10 h
                    · refine sm_iload_n C 0 dX8_next_276 rfl rfl ?_
                      refine sm_bipush (v := 45) C dX8_next_277 (by decide) ?_
                      refine sm_icmp_eq C 300 dX8_next_279 (by decide) h (fun h => ?_) (fun h => ?_)
                      · refine sm_sub (lv' := [(0, .ref (sm_ad (sm_w X) 0)), (1, .int v10)]) [1, 0] rfl ?_
                        exact mk_X8_next_p300 C hw s18 v10 h
                      · refine sm_iload_n C 0 dX8_next_282 rfl rfl ?_
                        refine sm_bipush (v := 42) C dX8_next_283 (by decide) ?_
                        refine sm_icmp_eq C 300 dX8_next_285 (by decide) h (fun h => ?_) (fun h => ?_)
                        · refine sm_sub (lv' := [(0, .ref (sm_ad (sm_w X) 0)), (1, .int v10)]) [1, 0] rfl ?_
                          exact mk_X8_next_p300 C hw s18 v10 h
                        · refine sm_iload_n C 0 dX8_next_288 rfl rfl ?_
                          refine sm_bipush (v := 60) C dX8_next_289 (by decide) ?_
                          refine sm_icmp_eq C 300 dX8_next_291 (by decide) h (fun h => ?_) (fun h => ?_)
                          · refine sm_sub (lv' := [(0, .ref (sm_ad (sm_w X) 0)), (1, .int v10)]) [1, 0] rfl ?_
                            exact mk_X8_next_p300 C hw s18 v10 h
                          · refine sm_iload_n C 0 dX8_next_294 rfl rfl ?_
                            refine sm_bipush (v := 61) C dX8_next_295 (by decide) ?_
                            refine sm_icmp_ne C 321 dX8_next_297 (by decide) h (fun h => ?_) (fun h => ?_)
                            · exact sm_vret C dX8_next_321 h
                            · refine sm_sub (lv' := [(0, .ref (sm_ad (sm_w X) 0)), (1, .int v10)]) [1, 0] rfl ?_
                              exact mk_X8_next_p300 C hw s18 v10 h
            · refine sm_aload_n C 1 dX8_next_148 rfl rfl ?_
              refine sm_iconst (v := 2) C dX8_next_149 (by decide) ?_
              refine mp_M_token C hw (k := 0) rfl gf_M_168 dX8_next_150 h (fun s19 h => ?_)
              refine sm_aload_n C 1 dX8_next_153 rfl rfl ?_
              refine sm_lconst (v := 0) C dX8_next_154 (by decide) ?_
              refine mp_M_tokenWorth C hw (k := 0) rfl gf_M_179 dX8_next_155 h (fun s20 h => ?_)
              refine sm_iconst (v := 0) C dX8_next_158 (by decide) ?_
              refine sm_istore_n (lv' := [(2, .int (0 : Int32)), (1, .int v10), (0, .ref (sm_ad (sm_w X) 0))]) C dX8_next_159 rfl (by decide) rfl ?_
              refine sm_sub (lv' := [(0, .ref (sm_ad (sm_w X) 0)), (2, .int (0 : Int32))]) [2, 0] rfl ?_
              exact mk_X8_next_p160 C hw sm_F s20 (0 : Int32) h
          · refine sm_aload_n C 1 dX8_next_95 rfl rfl ?_
            refine sm_iconst (v := 1) C dX8_next_96 (by decide) ?_
            refine mp_M_token C hw (k := 0) rfl gf_M_168 dX8_next_97 h (fun s21 h => ?_)
            refine sm_sub (lv' := [(0, .ref (sm_ad (sm_w X) 0))]) [1] rfl ?_
            exact mk_X8_next_p100 C hw sm_F s21 h
        · refine sm_aload_n C 1 dX8_next_65 rfl rfl ?_
          refine sm_iconst (v := 0) C dX8_next_66 (by decide) ?_
          refine mp_M_token C hw (k := 0) rfl gf_M_168 dX8_next_67 h (fun s22 h => ?_)
          refine sm_aload_n C 1 dX8_next_70 rfl rfl ?_
          refine sm_aload_n C 1 dX8_next_71 rfl rfl ?_
          refine mr_M_size C hw (k := 0) rfl gf_M_153 dX8_next_72 h (fun v23 h => ?_)
          refine mp_M_tokenAt C hw (k := 0) rfl gf_M_165 dX8_next_75 h (fun s24 h => ?_)
          refine sm_goto C 321 dX8_next_78 (by decide) ?_
          exact sm_vret C dX8_next_321 h
      · exact mk_X8_next_p26 C hw ih s6 h
set_option maxRecDepth 4000 in
theorem mc_X8_next {w : sm_WD} {l : Launch} (hw : mo_is w)  : sm_CV w l yX8_next prog_10_method_17_code 3 none 3 125 [.ref (sm_ad w 0)] (fun s => mf_X8_next s) := by
  refine sm_CV.of (by decide +kernel) (Nat.le_of_ble_eq_true rfl) (fun X s0 R hXw hXl C h => ?_)
  subst hXw
  subst hXl
  have h : mf_X8_next s0 = some R := h
  show sm_V X (sm_QV X R) 3 s0 0 [(0, .ref (sm_ad (sm_w X) 0))] []
  unfold mf_X8_next at h
  exact mk_X8_next_p0 C hw sm_F s0 h
noncomputable def mf_X8_isLetter (a1 : Int32) (a2 : Int32) (s0 : sm_St) : Option (Int32 × sm_St) :=
  sm_b (s0.1 0 26) fun v1 =>
  sm_b (v1 + a1) fun v2 =>
  sm_b (s0.1 0 24) fun v3 =>
  if v3 ≤ v2 then (
  if a2 = 0 then (
  some ((1 : Int32), s0))
  else (
  some ((0 : Int32), s0)))
  else (
  sm_b (s0.1 0 26) fun v4 =>
  sm_b (v4 + a1) fun v5 =>
  sm_c (mf_X8_byteAt v5 s0) fun v6 s7 =>
  if v6 = a2 then (
  some ((1 : Int32), s7))
  else (
  some ((0 : Int32), s7)))
set_option maxRecDepth 4000 in
theorem mc_X8_isLetter {w : sm_WD} {l : Launch} (hw : mo_is w) (a1 : Int32) (a2 : Int32) : sm_CI w l yX8_isLetter prog_10_method_19_code 3 (some .boolean) 3 121 [.ref (sm_ad w 0), .int a1, .int a2] (fun s => mf_X8_isLetter a1 a2 s) := by
  refine sm_CI.of (by decide +kernel) (Nat.le_of_ble_eq_true rfl) (fun X s0 R hXw hXl C h => ?_)
  subst hXw
  subst hXl
  have h : mf_X8_isLetter a1 a2 s0 = some R := h
  show sm_V X (sm_QI X R) 3 s0 0 [(0, .ref (sm_ad (sm_w X) 0)), (1, .int a1), (2, .int a2)] []
  unfold mf_X8_isLetter at h
  refine sm_aload_n C 0 dX8_isLetter_0 rfl rfl ?_
  refine mr_M_tokenAt C hw (k := 0) rfl gf_M_165 dX8_isLetter_1 h (fun v1 h => ?_)
  refine sm_iload_n C 1 dX8_isLetter_4 rfl rfl ?_
  refine sm_iadd C dX8_isLetter_5 h (fun v2 h => ?_)
  refine sm_aload_n C 0 dX8_isLetter_6 rfl rfl ?_
  refine mr_M_here C hw (k := 0) rfl gf_M_159 dX8_isLetter_7 h (fun v3 h => ?_)
  refine sm_icmp_ge C 35 dX8_isLetter_10 (by decide) h (fun h => ?_) (fun h => ?_)
  · refine sm_iload_n C 2 dX8_isLetter_35 rfl rfl ?_
    refine sm_if_ne C 43 dX8_isLetter_36 (by decide) h (fun h => ?_) (fun h => ?_)
    · refine sm_iconst (v := 0) C dX8_isLetter_43 (by decide) ?_
      exact sm_zretK C rfl dX8_isLetter_44 h
    · refine sm_iconst (v := 1) C dX8_isLetter_39 (by decide) ?_
      refine sm_goto C 44 dX8_isLetter_40 (by decide) ?_
      exact sm_zretK C rfl dX8_isLetter_44 h
  · refine sm_aload_n C 0 dX8_isLetter_13 rfl rfl ?_
    refine sm_aload_n C 0 dX8_isLetter_14 rfl rfl ?_
    refine mr_M_tokenAt C hw (k := 0) rfl gf_M_165 dX8_isLetter_15 h (fun v4 h => ?_)
    refine sm_iload_n C 1 dX8_isLetter_18 rfl rfl ?_
    refine sm_iadd C dX8_isLetter_19 h (fun v5 h => ?_)
    refine sm_callVI (k := 0) C [.int v5] (mc_X8_byteAt hw v5) gm_X8_byteAt gl_M_162 gi_X8_byteAt ge_X8_byteAt (mob_M hw rfl) rfl ⟨Nat.le_of_ble_eq_true rfl, Nat.le_of_ble_eq_true rfl⟩ rfl (Nat.le_of_ble_eq_true rfl) dX8_isLetter_20 h (fun v6 s7 h => ?_)
    refine sm_iload_n C 2 dX8_isLetter_23 rfl rfl ?_
    refine sm_icmp_ne C 31 dX8_isLetter_24 (by decide) h (fun h => ?_) (fun h => ?_)
    · refine sm_iconst (v := 0) C dX8_isLetter_31 (by decide) ?_
      refine sm_goto C 44 dX8_isLetter_32 (by decide) ?_
      exact sm_zretK C rfl dX8_isLetter_44 h
    · refine sm_iconst (v := 1) C dX8_isLetter_27 (by decide) ?_
      refine sm_goto C 44 dX8_isLetter_28 (by decide) ?_
      exact sm_zretK C rfl dX8_isLetter_44 h
noncomputable def mf_X8_isWord (a1 : Int32) (a2 : Int32) (a3 : Int32) (a4 : Int32) (a5 : Int32) (a6 : Int32) (a7 : Int32) (a8 : Int32) (s0 : sm_St) : Option (Int32 × sm_St) :=
  sm_b (s0.1 0 29) fun v1 =>
  if v1 = 0 then (
  sm_b (s0.1 0 25) fun v2 =>
  if v2 = (1 : Int32) then (
  sm_b (s0.1 0 24) fun v3 =>
  sm_b (s0.1 0 26) fun v4 =>
  sm_b (v4 + (8 : Int32)) fun v5 =>
  if v5 < v3 then (
  some ((0 : Int32), s0))
  else (
  sm_c (mf_X8_isLetter (0 : Int32) a1 s0) fun v6 s7 =>
  if v6 = 0 then (
  some ((0 : Int32), s7))
  else (
  sm_c (mf_X8_isLetter (1 : Int32) a2 s7) fun v8 s9 =>
  if v8 = 0 then (
  some ((0 : Int32), s9))
  else (
  sm_c (mf_X8_isLetter (2 : Int32) a3 s9) fun v10 s11 =>
  if v10 = 0 then (
  some ((0 : Int32), s11))
  else (
  sm_c (mf_X8_isLetter (3 : Int32) a4 s11) fun v12 s13 =>
  if v12 = 0 then (
  some ((0 : Int32), s13))
  else (
  sm_c (mf_X8_isLetter (4 : Int32) a5 s13) fun v14 s15 =>
  if v14 = 0 then (
  some ((0 : Int32), s15))
  else (
  sm_c (mf_X8_isLetter (5 : Int32) a6 s15) fun v16 s17 =>
  if v16 = 0 then (
  some ((0 : Int32), s17))
  else (
  sm_c (mf_X8_isLetter (6 : Int32) a7 s17) fun v18 s19 =>
  if v18 = 0 then (
  some ((0 : Int32), s19))
  else (
  sm_c (mf_X8_isLetter (7 : Int32) a8 s19) fun v20 s21 =>
  if v20 = 0 then (
  some ((0 : Int32), s21))
  else (
  some ((1 : Int32), s21)))))))))))
  else (
  some ((0 : Int32), s0)))
  else (
  some ((0 : Int32), s0))
set_option maxRecDepth 4000 in
theorem mc_X8_isWord {w : sm_WD} {l : Launch} (hw : mo_is w) (a1 : Int32) (a2 : Int32) (a3 : Int32) (a4 : Int32) (a5 : Int32) (a6 : Int32) (a7 : Int32) (a8 : Int32) : sm_CI w l yX8_isWord prog_10_method_20_code 9 (some .boolean) 4 143 [.ref (sm_ad w 0), .int a1, .int a2, .int a3, .int a4, .int a5, .int a6, .int a7, .int a8] (fun s => mf_X8_isWord a1 a2 a3 a4 a5 a6 a7 a8 s) := by
  refine sm_CI.of (by decide +kernel) (Nat.le_of_ble_eq_true rfl) (fun X s0 R hXw hXl C h => ?_)
  subst hXw
  subst hXl
  have h : mf_X8_isWord a1 a2 a3 a4 a5 a6 a7 a8 s0 = some R := h
  show sm_V X (sm_QI X R) 9 s0 0 [(0, .ref (sm_ad (sm_w X) 0)), (1, .int a1), (2, .int a2), (3, .int a3), (4, .int a4), (5, .int a5), (6, .int a6), (7, .int a7), (8, .int a8)] []
  unfold mf_X8_isWord at h
  refine sm_aload_n C 0 dX8_isWord_0 rfl rfl ?_
  refine mr_M_bad C hw (k := 0) rfl gf_M_185 dX8_isWord_1 h (fun v1 h => ?_)
  refine sm_if_ne C 112 dX8_isWord_4 (by decide) h (fun h => ?_) (fun h => ?_)
  · refine sm_iconst (v := 0) C dX8_isWord_112 (by decide) ?_
    exact sm_zretK C rfl dX8_isWord_113 h
  · refine sm_aload_n C 0 dX8_isWord_7 rfl rfl ?_
    refine mr_M_token C hw (k := 0) rfl gf_M_168 dX8_isWord_8 h (fun v2 h => ?_)
    refine sm_iconst (v := 1) C dX8_isWord_11 (by decide) ?_
    refine sm_icmp_ne C 112 dX8_isWord_12 (by decide) h (fun h => ?_) (fun h => ?_)
    · refine sm_iconst (v := 0) C dX8_isWord_112 (by decide) ?_
      exact sm_zretK C rfl dX8_isWord_113 h
    · refine sm_aload_n C 0 dX8_isWord_15 rfl rfl ?_
      refine mr_M_here C hw (k := 0) rfl gf_M_159 dX8_isWord_16 h (fun v3 h => ?_)
      refine sm_aload_n C 0 dX8_isWord_19 rfl rfl ?_
      refine mr_M_tokenAt C hw (k := 0) rfl gf_M_165 dX8_isWord_20 h (fun v4 h => ?_)
      refine sm_bipush (v := 8) C dX8_isWord_23 (by decide) ?_
      refine sm_iadd C dX8_isWord_25 h (fun v5 h => ?_)
      refine sm_icmp_gt C 112 dX8_isWord_26 (by decide) h (fun h => ?_) (fun h => ?_)
      · refine sm_iconst (v := 0) C dX8_isWord_112 (by decide) ?_
        exact sm_zretK C rfl dX8_isWord_113 h
      · refine sm_aload_n C 0 dX8_isWord_29 rfl rfl ?_
        refine sm_iconst (v := 0) C dX8_isWord_30 (by decide) ?_
        refine sm_iload_n C 1 dX8_isWord_31 rfl rfl ?_
        refine sm_callVI (k := 0) C [.int (0 : Int32), .int a1] (mc_X8_isLetter hw (0 : Int32) a1) gm_X8_isLetter gl_M_192 gi_X8_isLetter ge_X8_isLetter (mob_M hw rfl) rfl ⟨Nat.le_of_ble_eq_true rfl, Nat.le_of_ble_eq_true rfl⟩ rfl (Nat.le_of_ble_eq_true rfl) dX8_isWord_32 h (fun v6 s7 h => ?_)
        refine sm_if_eq C 112 dX8_isWord_35 (by decide) h (fun h => ?_) (fun h => ?_)
        · refine sm_iconst (v := 0) C dX8_isWord_112 (by decide) ?_
          exact sm_zretK C rfl dX8_isWord_113 h
        · refine sm_aload_n C 0 dX8_isWord_38 rfl rfl ?_
          refine sm_iconst (v := 1) C dX8_isWord_39 (by decide) ?_
          refine sm_iload_n C 2 dX8_isWord_40 rfl rfl ?_
          refine sm_callVI (k := 0) C [.int (1 : Int32), .int a2] (mc_X8_isLetter hw (1 : Int32) a2) gm_X8_isLetter gl_M_192 gi_X8_isLetter ge_X8_isLetter (mob_M hw rfl) rfl ⟨Nat.le_of_ble_eq_true rfl, Nat.le_of_ble_eq_true rfl⟩ rfl (Nat.le_of_ble_eq_true rfl) dX8_isWord_41 h (fun v8 s9 h => ?_)
          refine sm_if_eq C 112 dX8_isWord_44 (by decide) h (fun h => ?_) (fun h => ?_)
          · refine sm_iconst (v := 0) C dX8_isWord_112 (by decide) ?_
            exact sm_zretK C rfl dX8_isWord_113 h
          · refine sm_aload_n C 0 dX8_isWord_47 rfl rfl ?_
            refine sm_iconst (v := 2) C dX8_isWord_48 (by decide) ?_
            refine sm_iload_n C 3 dX8_isWord_49 rfl rfl ?_
            refine sm_callVI (k := 0) C [.int (2 : Int32), .int a3] (mc_X8_isLetter hw (2 : Int32) a3) gm_X8_isLetter gl_M_192 gi_X8_isLetter ge_X8_isLetter (mob_M hw rfl) rfl ⟨Nat.le_of_ble_eq_true rfl, Nat.le_of_ble_eq_true rfl⟩ rfl (Nat.le_of_ble_eq_true rfl) dX8_isWord_50 h (fun v10 s11 h => ?_)
            refine sm_if_eq C 112 dX8_isWord_53 (by decide) h (fun h => ?_) (fun h => ?_)
            · refine sm_iconst (v := 0) C dX8_isWord_112 (by decide) ?_
              exact sm_zretK C rfl dX8_isWord_113 h
            · refine sm_aload_n C 0 dX8_isWord_56 rfl rfl ?_
              refine sm_iconst (v := 3) C dX8_isWord_57 (by decide) ?_
              refine sm_iload C 4 dX8_isWord_58 rfl ?_
              refine sm_callVI (k := 0) C [.int (3 : Int32), .int a4] (mc_X8_isLetter hw (3 : Int32) a4) gm_X8_isLetter gl_M_192 gi_X8_isLetter ge_X8_isLetter (mob_M hw rfl) rfl ⟨Nat.le_of_ble_eq_true rfl, Nat.le_of_ble_eq_true rfl⟩ rfl (Nat.le_of_ble_eq_true rfl) dX8_isWord_60 h (fun v12 s13 h => ?_)
              refine sm_if_eq C 112 dX8_isWord_63 (by decide) h (fun h => ?_) (fun h => ?_)
              · refine sm_iconst (v := 0) C dX8_isWord_112 (by decide) ?_
                exact sm_zretK C rfl dX8_isWord_113 h
              · refine sm_aload_n C 0 dX8_isWord_66 rfl rfl ?_
                refine sm_iconst (v := 4) C dX8_isWord_67 (by decide) ?_
                refine sm_iload C 5 dX8_isWord_68 rfl ?_
                refine sm_callVI (k := 0) C [.int (4 : Int32), .int a5] (mc_X8_isLetter hw (4 : Int32) a5) gm_X8_isLetter gl_M_192 gi_X8_isLetter ge_X8_isLetter (mob_M hw rfl) rfl ⟨Nat.le_of_ble_eq_true rfl, Nat.le_of_ble_eq_true rfl⟩ rfl (Nat.le_of_ble_eq_true rfl) dX8_isWord_70 h (fun v14 s15 h => ?_)
                refine sm_if_eq C 112 dX8_isWord_73 (by decide) h (fun h => ?_) (fun h => ?_)
                · refine sm_iconst (v := 0) C dX8_isWord_112 (by decide) ?_
                  exact sm_zretK C rfl dX8_isWord_113 h
                · refine sm_aload_n C 0 dX8_isWord_76 rfl rfl ?_
                  refine sm_iconst (v := 5) C dX8_isWord_77 (by decide) ?_
                  refine sm_iload C 6 dX8_isWord_78 rfl ?_
                  refine sm_callVI (k := 0) C [.int (5 : Int32), .int a6] (mc_X8_isLetter hw (5 : Int32) a6) gm_X8_isLetter gl_M_192 gi_X8_isLetter ge_X8_isLetter (mob_M hw rfl) rfl ⟨Nat.le_of_ble_eq_true rfl, Nat.le_of_ble_eq_true rfl⟩ rfl (Nat.le_of_ble_eq_true rfl) dX8_isWord_80 h (fun v16 s17 h => ?_)
                  refine sm_if_eq C 112 dX8_isWord_83 (by decide) h (fun h => ?_) (fun h => ?_)
                  · refine sm_iconst (v := 0) C dX8_isWord_112 (by decide) ?_
                    exact sm_zretK C rfl dX8_isWord_113 h
                  · refine sm_aload_n C 0 dX8_isWord_86 rfl rfl ?_
                    refine sm_bipush (v := 6) C dX8_isWord_87 (by decide) ?_
                    refine sm_iload C 7 dX8_isWord_89 rfl ?_
                    refine sm_callVI (k := 0) C [.int (6 : Int32), .int a7] (mc_X8_isLetter hw (6 : Int32) a7) gm_X8_isLetter gl_M_192 gi_X8_isLetter ge_X8_isLetter (mob_M hw rfl) rfl ⟨Nat.le_of_ble_eq_true rfl, Nat.le_of_ble_eq_true rfl⟩ rfl (Nat.le_of_ble_eq_true rfl) dX8_isWord_91 h (fun v18 s19 h => ?_)
                    refine sm_if_eq C 112 dX8_isWord_94 (by decide) h (fun h => ?_) (fun h => ?_)
                    · refine sm_iconst (v := 0) C dX8_isWord_112 (by decide) ?_
                      exact sm_zretK C rfl dX8_isWord_113 h
                    · refine sm_aload_n C 0 dX8_isWord_97 rfl rfl ?_
                      refine sm_bipush (v := 7) C dX8_isWord_98 (by decide) ?_
                      refine sm_iload C 8 dX8_isWord_100 rfl ?_
                      refine sm_callVI (k := 0) C [.int (7 : Int32), .int a8] (mc_X8_isLetter hw (7 : Int32) a8) gm_X8_isLetter gl_M_192 gi_X8_isLetter ge_X8_isLetter (mob_M hw rfl) rfl ⟨Nat.le_of_ble_eq_true rfl, Nat.le_of_ble_eq_true rfl⟩ rfl (Nat.le_of_ble_eq_true rfl) dX8_isWord_102 h (fun v20 s21 h => ?_)
                      refine sm_if_eq C 112 dX8_isWord_105 (by decide) h (fun h => ?_) (fun h => ?_)
                      · refine sm_iconst (v := 0) C dX8_isWord_112 (by decide) ?_
                        exact sm_zretK C rfl dX8_isWord_113 h
                      · refine sm_iconst (v := 1) C dX8_isWord_108 (by decide) ?_
                        refine sm_goto C 113 dX8_isWord_109 (by decide) ?_
                        exact sm_zretK C rfl dX8_isWord_113 h
noncomputable def mf_X8_fail (s0 : sm_St) : Option (Unit × sm_St) :=
  sm_b (s0.1 0 29) fun v1 =>
  if v1 = 0 then (
  sm_b (sm_sI s0 0 29 (1 : Int32)) fun s2 =>
  sm_b (s2.1 0 26) fun v3 =>
  sm_b (sm_sI s2 0 30 v3) fun s4 =>
  some ((), s4))
  else (
  some ((), s0))
set_option maxRecDepth 4000 in
theorem mc_X8_fail {w : sm_WD} {l : Launch} (hw : mo_is w)  : sm_CV w l yX8_fail prog_10_method_18_code 1 none 2 100 [.ref (sm_ad w 0)] (fun s => mf_X8_fail s) := by
  refine sm_CV.of (by decide +kernel) (Nat.le_of_ble_eq_true rfl) (fun X s0 R hXw hXl C h => ?_)
  subst hXw
  subst hXl
  have h : mf_X8_fail s0 = some R := h
  show sm_V X (sm_QV X R) 1 s0 0 [(0, .ref (sm_ad (sm_w X) 0))] []
  unfold mf_X8_fail at h
  refine sm_aload_n C 0 dX8_fail_0 rfl rfl ?_
  refine mr_M_bad C hw (k := 0) rfl gf_M_185 dX8_fail_1 h (fun v1 h => ?_)
  refine sm_if_ne C 20 dX8_fail_4 (by decide) h (fun h => ?_) (fun h => ?_)
  · exact sm_vret C dX8_fail_20 h
  · refine sm_aload_n C 0 dX8_fail_7 rfl rfl ?_
    refine sm_iconst (v := 1) C dX8_fail_8 (by decide) ?_
    refine mp_M_bad C hw (k := 0) rfl gf_M_185 dX8_fail_9 (Or.inr rfl) h (fun s2 h => ?_)
    refine sm_aload_n C 0 dX8_fail_12 rfl rfl ?_
    refine sm_aload_n C 0 dX8_fail_13 rfl rfl ?_
    refine mr_M_tokenAt C hw (k := 0) rfl gf_M_165 dX8_fail_14 h (fun v3 h => ?_)
    refine mp_M_fault C hw (k := 0) rfl gf_M_189 dX8_fail_17 h (fun s4 h => ?_)
    exact sm_vret C dX8_fail_20 h
noncomputable def mf_X8_opens (s0 : sm_St) : Option (Int32 × sm_St) :=
  sm_b (s0.1 0 28) fun v1 =>
  if v1 = (5 : Int32) then (
  sm_c (mf_X8_fail s0) fun _ s8 =>
  some ((0 : Int32), s8))
  else (
  sm_b (s0.1 0 28) fun v2 =>
  sm_b (v2 + (1 : Int32)) fun v3 =>
  sm_b (sm_sI s0 0 28 v3) fun s4 =>
  sm_c (mf_X8_next s4) fun _ s6 =>
  some ((1 : Int32), s6))
set_option maxRecDepth 4000 in
theorem mc_X8_opens {w : sm_WD} {l : Launch} (hw : mo_is w)  : sm_CI w l yX8_opens prog_10_method_22_code 1 (some .boolean) 4 147 [.ref (sm_ad w 0)] (fun s => mf_X8_opens s) := by
  refine sm_CI.of (by decide +kernel) (Nat.le_of_ble_eq_true rfl) (fun X s0 R hXw hXl C h => ?_)
  subst hXw
  subst hXl
  have h : mf_X8_opens s0 = some R := h
  show sm_V X (sm_QI X R) 1 s0 0 [(0, .ref (sm_ad (sm_w X) 0))] []
  unfold mf_X8_opens at h
  refine sm_aload_n C 0 dX8_opens_0 rfl rfl ?_
  refine mr_M_open C hw (k := 0) rfl gf_M_195 dX8_opens_1 h (fun v1 h => ?_)
  refine sm_iconst (v := 5) C dX8_opens_4 (by decide) ?_
  refine sm_icmp_ne C 14 dX8_opens_5 (by decide) h (fun h => ?_) (fun h => ?_)
  · refine sm_aload_n C 0 dX8_opens_14 rfl rfl ?_
    refine sm_dup C dX8_opens_15 rfl ?_
    refine mr_M_open C hw (k := 0) rfl gf_M_195 dX8_opens_16 h (fun v2 h => ?_)
    refine sm_iconst (v := 1) C dX8_opens_19 (by decide) ?_
    refine sm_iadd C dX8_opens_20 h (fun v3 h => ?_)
    refine mp_M_open C hw (k := 0) rfl gf_M_195 dX8_opens_21 h (fun s4 h => ?_)
    refine sm_aload_n C 0 dX8_opens_24 rfl rfl ?_
    refine sm_callVV (k := 0) C [] (mc_X8_next hw) gm_X8_next gl_M_201 gi_X8_next ge_X8_next (mob_M hw rfl) rfl ⟨Nat.le_of_ble_eq_true rfl, Nat.le_of_ble_eq_true rfl⟩ rfl (Nat.le_of_ble_eq_true rfl) dX8_opens_25 h (fun v5 s6 h => ?_)
    refine sm_iconst (v := 1) C dX8_opens_28 (by decide) ?_
    exact sm_zretK C rfl dX8_opens_29 h
  · refine sm_aload_n C 0 dX8_opens_8 rfl rfl ?_
    refine sm_callVV (k := 0) C [] (mc_X8_fail hw) gm_X8_fail gl_M_198 gi_X8_fail ge_X8_fail (mob_M hw rfl) rfl ⟨Nat.le_of_ble_eq_true rfl, Nat.le_of_ble_eq_true rfl⟩ rfl (Nat.le_of_ble_eq_true rfl) dX8_opens_9 h (fun v7 s8 h => ?_)
    refine sm_iconst (v := 0) C dX8_opens_12 (by decide) ?_
    exact sm_zretK C rfl dX8_opens_13 h
noncomputable def mf_X8_isSign (a1 : Int32) (s0 : sm_St) : Option (Int32 × sm_St) :=
  sm_b (s0.1 0 29) fun v1 =>
  if v1 = 0 then (
  sm_b (s0.1 0 25) fun v2 =>
  if v2 = (3 : Int32) then (
  sm_b (s0.2.1 0 27) fun v3 =>
  sm_b (a1.toInt64) fun v4 =>
  sm_b (lg_cmp v3 v4) fun v5 =>
  if v5 = 0 then (
  some ((1 : Int32), s0))
  else (
  some ((0 : Int32), s0)))
  else (
  some ((0 : Int32), s0)))
  else (
  some ((0 : Int32), s0))
set_option maxRecDepth 4000 in
theorem mc_X8_isSign {w : sm_WD} {l : Launch} (hw : mo_is w) (a1 : Int32) : sm_CI w l yX8_isSign prog_10_method_21_code 2 (some .boolean) 2 100 [.ref (sm_ad w 0), .int a1] (fun s => mf_X8_isSign a1 s) := by
  refine sm_CI.of (by decide +kernel) (Nat.le_of_ble_eq_true rfl) (fun X s0 R hXw hXl C h => ?_)
  subst hXw
  subst hXl
  have h : mf_X8_isSign a1 s0 = some R := h
  show sm_V X (sm_QI X R) 2 s0 0 [(0, .ref (sm_ad (sm_w X) 0)), (1, .int a1)] []
  unfold mf_X8_isSign at h
  refine sm_aload_n C 0 dX8_isSign_0 rfl rfl ?_
  refine mr_M_bad C hw (k := 0) rfl gf_M_185 dX8_isSign_1 h (fun v1 h => ?_)
  refine sm_if_ne C 29 dX8_isSign_4 (by decide) h (fun h => ?_) (fun h => ?_)
  · refine sm_iconst (v := 0) C dX8_isSign_29 (by decide) ?_
    exact sm_zretK C rfl dX8_isSign_30 h
  · refine sm_aload_n C 0 dX8_isSign_7 rfl rfl ?_
    refine mr_M_token C hw (k := 0) rfl gf_M_168 dX8_isSign_8 h (fun v2 h => ?_)
    refine sm_iconst (v := 3) C dX8_isSign_11 (by decide) ?_
    refine sm_icmp_ne C 29 dX8_isSign_12 (by decide) h (fun h => ?_) (fun h => ?_)
    · refine sm_iconst (v := 0) C dX8_isSign_29 (by decide) ?_
      exact sm_zretK C rfl dX8_isSign_30 h
    · refine sm_aload_n C 0 dX8_isSign_15 rfl rfl ?_
      refine mr_M_tokenWorth C hw (k := 0) rfl gf_M_179 dX8_isSign_16 h (fun v3 h => ?_)
      refine sm_iload_n C 1 dX8_isSign_19 rfl rfl ?_
      refine sm_i2l C dX8_isSign_20 h (fun v4 h => ?_)
      refine sm_lcmp C dX8_isSign_21 h (fun v5 h => ?_)
      refine sm_if_ne C 29 dX8_isSign_22 (by decide) h (fun h => ?_) (fun h => ?_)
      · refine sm_iconst (v := 0) C dX8_isSign_29 (by decide) ?_
        exact sm_zretK C rfl dX8_isSign_30 h
      · refine sm_iconst (v := 1) C dX8_isSign_25 (by decide) ?_
        refine sm_goto C 30 dX8_isSign_26 (by decide) ?_
        exact sm_zretK C rfl dX8_isSign_30 h
noncomputable def mf_X8_name (s0 : sm_St) : Option (Int32 × sm_St) :=
  sm_c (mf_X8_isWord (112 : Int32) (108 : Int32) (97 : Int32) (99 : Int32) (101 : Int32) (0 : Int32) (0 : Int32) (0 : Int32) s0) fun v1 s2 =>
  if v1 = 0 then (
  sm_c (mf_X8_isWord (115 : Int32) (109 : Int32) (111 : Int32) (107 : Int32) (101 : Int32) (0 : Int32) (0 : Int32) (0 : Int32) s2) fun v3 s4 =>
  if v3 = 0 then (
  sm_c (mf_X8_isWord (109 : Int32) (105 : Int32) (110 : Int32) (117 : Int32) (116 : Int32) (101 : Int32) (0 : Int32) (0 : Int32) s4) fun v5 s6 =>
  if v5 = 0 then (
  sm_c (mf_X8_isWord (108 : Int32) (111 : Int32) (110 : Int32) (103 : Int32) (0 : Int32) (0 : Int32) (0 : Int32) (0 : Int32) s6) fun v7 s8 =>
  if v7 = 0 then (
  sm_c (mf_X8_isWord (110 : Int32) (117 : Int32) (109 : Int32) (98 : Int32) (101 : Int32) (114 : Int32) (0 : Int32) (0 : Int32) s8) fun v9 s10 =>
  if v9 = 0 then (
  sm_c (mf_X8_isWord (115 : Int32) (105 : Int32) (116 : Int32) (116 : Int32) (101 : Int32) (114 : Int32) (0 : Int32) (0 : Int32) s10) fun v11 s12 =>
  if v11 = 0 then (
  sm_c (mf_X8_fail s12) fun _ s14 =>
  some ((0 : Int32), s14))
  else (
  sm_b (s12.1 0 21) fun v15 =>
  some (v15, s12)))
  else (
  sm_b (s10.1 0 20) fun v16 =>
  some (v16, s10)))
  else (
  sm_b (s8.1 0 19) fun v17 =>
  some (v17, s8)))
  else (
  sm_b (s6.1 0 18) fun v18 =>
  some (v18, s6)))
  else (
  sm_b (s4.1 0 17) fun v19 =>
  some (v19, s4)))
  else (
  sm_b (s2.1 0 16) fun v20 =>
  some (v20, s2))
set_option maxRecDepth 4000 in
theorem mc_X8_name {w : sm_WD} {l : Launch} (hw : mo_is w)  : sm_CI w l yX8_name prog_10_method_23_code 1 (some .int) 5 171 [.ref (sm_ad w 0)] (fun s => mf_X8_name s) := by
  refine sm_CI.of (by decide +kernel) (Nat.le_of_ble_eq_true rfl) (fun X s0 R hXw hXl C h => ?_)
  subst hXw
  subst hXl
  have h : mf_X8_name s0 = some R := h
  show sm_V X (sm_QI X R) 1 s0 0 [(0, .ref (sm_ad (sm_w X) 0))] []
  unfold mf_X8_name at h
  refine sm_aload_n C 0 dX8_name_0 rfl rfl ?_
  refine sm_bipush (v := 112) C dX8_name_1 (by decide) ?_
  refine sm_bipush (v := 108) C dX8_name_3 (by decide) ?_
  refine sm_bipush (v := 97) C dX8_name_5 (by decide) ?_
  refine sm_bipush (v := 99) C dX8_name_7 (by decide) ?_
  refine sm_bipush (v := 101) C dX8_name_9 (by decide) ?_
  refine sm_iconst (v := 0) C dX8_name_11 (by decide) ?_
  refine sm_iconst (v := 0) C dX8_name_12 (by decide) ?_
  refine sm_iconst (v := 0) C dX8_name_13 (by decide) ?_
  refine sm_callVI (k := 0) C [.int (112 : Int32), .int (108 : Int32), .int (97 : Int32), .int (99 : Int32), .int (101 : Int32), .int (0 : Int32), .int (0 : Int32), .int (0 : Int32)] (mc_X8_isWord hw (112 : Int32) (108 : Int32) (97 : Int32) (99 : Int32) (101 : Int32) (0 : Int32) (0 : Int32) (0 : Int32)) gm_X8_isWord gl_M_204 gi_X8_isWord ge_X8_isWord (mob_M hw rfl) rfl ⟨Nat.le_of_ble_eq_true rfl, Nat.le_of_ble_eq_true rfl⟩ rfl (Nat.le_of_ble_eq_true rfl) dX8_name_14 h (fun v1 s2 h => ?_)
  refine sm_if_eq C 25 dX8_name_17 (by decide) h (fun h => ?_) (fun h => ?_)
  · refine sm_aload_n C 0 dX8_name_25 rfl rfl ?_
    refine sm_bipush (v := 115) C dX8_name_26 (by decide) ?_
    refine sm_bipush (v := 109) C dX8_name_28 (by decide) ?_
    refine sm_bipush (v := 111) C dX8_name_30 (by decide) ?_
    refine sm_bipush (v := 107) C dX8_name_32 (by decide) ?_
    refine sm_bipush (v := 101) C dX8_name_34 (by decide) ?_
    refine sm_iconst (v := 0) C dX8_name_36 (by decide) ?_
    refine sm_iconst (v := 0) C dX8_name_37 (by decide) ?_
    refine sm_iconst (v := 0) C dX8_name_38 (by decide) ?_
    refine sm_callVI (k := 0) C [.int (115 : Int32), .int (109 : Int32), .int (111 : Int32), .int (107 : Int32), .int (101 : Int32), .int (0 : Int32), .int (0 : Int32), .int (0 : Int32)] (mc_X8_isWord hw (115 : Int32) (109 : Int32) (111 : Int32) (107 : Int32) (101 : Int32) (0 : Int32) (0 : Int32) (0 : Int32)) gm_X8_isWord gl_M_204 gi_X8_isWord ge_X8_isWord (mob_M hw rfl) rfl ⟨Nat.le_of_ble_eq_true rfl, Nat.le_of_ble_eq_true rfl⟩ rfl (Nat.le_of_ble_eq_true rfl) dX8_name_39 h (fun v3 s4 h => ?_)
    refine sm_if_eq C 50 dX8_name_42 (by decide) h (fun h => ?_) (fun h => ?_)
    · refine sm_aload_n C 0 dX8_name_50 rfl rfl ?_
      refine sm_bipush (v := 109) C dX8_name_51 (by decide) ?_
      refine sm_bipush (v := 105) C dX8_name_53 (by decide) ?_
      refine sm_bipush (v := 110) C dX8_name_55 (by decide) ?_
      refine sm_bipush (v := 117) C dX8_name_57 (by decide) ?_
      refine sm_bipush (v := 116) C dX8_name_59 (by decide) ?_
      refine sm_bipush (v := 101) C dX8_name_61 (by decide) ?_
      refine sm_iconst (v := 0) C dX8_name_63 (by decide) ?_
      refine sm_iconst (v := 0) C dX8_name_64 (by decide) ?_
      refine sm_callVI (k := 0) C [.int (109 : Int32), .int (105 : Int32), .int (110 : Int32), .int (117 : Int32), .int (116 : Int32), .int (101 : Int32), .int (0 : Int32), .int (0 : Int32)] (mc_X8_isWord hw (109 : Int32) (105 : Int32) (110 : Int32) (117 : Int32) (116 : Int32) (101 : Int32) (0 : Int32) (0 : Int32)) gm_X8_isWord gl_M_204 gi_X8_isWord ge_X8_isWord (mob_M hw rfl) rfl ⟨Nat.le_of_ble_eq_true rfl, Nat.le_of_ble_eq_true rfl⟩ rfl (Nat.le_of_ble_eq_true rfl) dX8_name_65 h (fun v5 s6 h => ?_)
      refine sm_if_eq C 76 dX8_name_68 (by decide) h (fun h => ?_) (fun h => ?_)
      · refine sm_aload_n C 0 dX8_name_76 rfl rfl ?_
        refine sm_bipush (v := 108) C dX8_name_77 (by decide) ?_
        refine sm_bipush (v := 111) C dX8_name_79 (by decide) ?_
        refine sm_bipush (v := 110) C dX8_name_81 (by decide) ?_
        refine sm_bipush (v := 103) C dX8_name_83 (by decide) ?_
        refine sm_iconst (v := 0) C dX8_name_85 (by decide) ?_
        refine sm_iconst (v := 0) C dX8_name_86 (by decide) ?_
        refine sm_iconst (v := 0) C dX8_name_87 (by decide) ?_
        refine sm_iconst (v := 0) C dX8_name_88 (by decide) ?_
        refine sm_callVI (k := 0) C [.int (108 : Int32), .int (111 : Int32), .int (110 : Int32), .int (103 : Int32), .int (0 : Int32), .int (0 : Int32), .int (0 : Int32), .int (0 : Int32)] (mc_X8_isWord hw (108 : Int32) (111 : Int32) (110 : Int32) (103 : Int32) (0 : Int32) (0 : Int32) (0 : Int32) (0 : Int32)) gm_X8_isWord gl_M_204 gi_X8_isWord ge_X8_isWord (mob_M hw rfl) rfl ⟨Nat.le_of_ble_eq_true rfl, Nat.le_of_ble_eq_true rfl⟩ rfl (Nat.le_of_ble_eq_true rfl) dX8_name_89 h (fun v7 s8 h => ?_)
        refine sm_if_eq C 100 dX8_name_92 (by decide) h (fun h => ?_) (fun h => ?_)
        · refine sm_aload_n C 0 dX8_name_100 rfl rfl ?_
          refine sm_bipush (v := 110) C dX8_name_101 (by decide) ?_
          refine sm_bipush (v := 117) C dX8_name_103 (by decide) ?_
          refine sm_bipush (v := 109) C dX8_name_105 (by decide) ?_
          refine sm_bipush (v := 98) C dX8_name_107 (by decide) ?_
          refine sm_bipush (v := 101) C dX8_name_109 (by decide) ?_
          refine sm_bipush (v := 114) C dX8_name_111 (by decide) ?_
          refine sm_iconst (v := 0) C dX8_name_113 (by decide) ?_
          refine sm_iconst (v := 0) C dX8_name_114 (by decide) ?_
          refine sm_callVI (k := 0) C [.int (110 : Int32), .int (117 : Int32), .int (109 : Int32), .int (98 : Int32), .int (101 : Int32), .int (114 : Int32), .int (0 : Int32), .int (0 : Int32)] (mc_X8_isWord hw (110 : Int32) (117 : Int32) (109 : Int32) (98 : Int32) (101 : Int32) (114 : Int32) (0 : Int32) (0 : Int32)) gm_X8_isWord gl_M_204 gi_X8_isWord ge_X8_isWord (mob_M hw rfl) rfl ⟨Nat.le_of_ble_eq_true rfl, Nat.le_of_ble_eq_true rfl⟩ rfl (Nat.le_of_ble_eq_true rfl) dX8_name_115 h (fun v9 s10 h => ?_)
          refine sm_if_eq C 126 dX8_name_118 (by decide) h (fun h => ?_) (fun h => ?_)
          · refine sm_aload_n C 0 dX8_name_126 rfl rfl ?_
            refine sm_bipush (v := 115) C dX8_name_127 (by decide) ?_
            refine sm_bipush (v := 105) C dX8_name_129 (by decide) ?_
            refine sm_bipush (v := 116) C dX8_name_131 (by decide) ?_
            refine sm_bipush (v := 116) C dX8_name_133 (by decide) ?_
            refine sm_bipush (v := 101) C dX8_name_135 (by decide) ?_
            refine sm_bipush (v := 114) C dX8_name_137 (by decide) ?_
            refine sm_iconst (v := 0) C dX8_name_139 (by decide) ?_
            refine sm_iconst (v := 0) C dX8_name_140 (by decide) ?_
            refine sm_callVI (k := 0) C [.int (115 : Int32), .int (105 : Int32), .int (116 : Int32), .int (116 : Int32), .int (101 : Int32), .int (114 : Int32), .int (0 : Int32), .int (0 : Int32)] (mc_X8_isWord hw (115 : Int32) (105 : Int32) (116 : Int32) (116 : Int32) (101 : Int32) (114 : Int32) (0 : Int32) (0 : Int32)) gm_X8_isWord gl_M_204 gi_X8_isWord ge_X8_isWord (mob_M hw rfl) rfl ⟨Nat.le_of_ble_eq_true rfl, Nat.le_of_ble_eq_true rfl⟩ rfl (Nat.le_of_ble_eq_true rfl) dX8_name_141 h (fun v11 s12 h => ?_)
            refine sm_if_eq C 152 dX8_name_144 (by decide) h (fun h => ?_) (fun h => ?_)
            · refine sm_aload_n C 0 dX8_name_152 rfl rfl ?_
              refine sm_callVV (k := 0) C [] (mc_X8_fail hw) gm_X8_fail gl_M_198 gi_X8_fail ge_X8_fail (mob_M hw rfl) rfl ⟨Nat.le_of_ble_eq_true rfl, Nat.le_of_ble_eq_true rfl⟩ rfl (Nat.le_of_ble_eq_true rfl) dX8_name_153 h (fun v13 s14 h => ?_)
              refine sm_iconst (v := 0) C dX8_name_156 (by decide) ?_
              exact sm_iret C dX8_name_157 h
            · refine sm_aload_n C 0 dX8_name_147 rfl rfl ?_
              refine mr_M_ofSitter C hw (k := 0) rfl gf_M_223 dX8_name_148 h (fun v15 h => ?_)
              exact sm_iret C dX8_name_151 h
          · refine sm_aload_n C 0 dX8_name_121 rfl rfl ?_
            refine mr_M_ofNumber C hw (k := 0) rfl gf_M_220 dX8_name_122 h (fun v16 h => ?_)
            exact sm_iret C dX8_name_125 h
        · refine sm_aload_n C 0 dX8_name_95 rfl rfl ?_
          refine mr_M_ofLong C hw (k := 0) rfl gf_M_217 dX8_name_96 h (fun v17 h => ?_)
          exact sm_iret C dX8_name_99 h
      · refine sm_aload_n C 0 dX8_name_71 rfl rfl ?_
        refine mr_M_ofMinute C hw (k := 0) rfl gf_M_214 dX8_name_72 h (fun v18 h => ?_)
        exact sm_iret C dX8_name_75 h
    · refine sm_aload_n C 0 dX8_name_45 rfl rfl ?_
      refine mr_M_ofSmoke C hw (k := 0) rfl gf_M_211 dX8_name_46 h (fun v19 h => ?_)
      exact sm_iret C dX8_name_49 h
  · refine sm_aload_n C 0 dX8_name_20 rfl rfl ?_
    refine mr_M_ofPlace C hw (k := 0) rfl gf_M_208 dX8_name_21 h (fun v20 h => ?_)
    exact sm_iret C dX8_name_24 h
noncomputable def mf_X8_atom_p71 (rec : Nat → sm_St → Option (Int32 × sm_St)) (s0 : sm_St) (l1 : Int32) : Option (Int32 × sm_St) :=
  sm_b (s0.1 0 28) fun v1 =>
  sm_b (v1 - (1 : Int32)) fun v2 =>
  sm_b (sm_sI s0 0 28 v2) fun s3 =>
  sm_b (s3.1 0 29) fun v4 =>
  if v4 = 0 then (
  sm_c (mf_X8_next s3) fun _ s6 =>
  some (l1, s6))
  else (
  some (l1, s3))
noncomputable def mf_X8_atom_p157 (rec : Nat → sm_St → Option (Int32 × sm_St)) (s0 : sm_St) (l1 : Int32) : Option (Int32 × sm_St) :=
  sm_c (mf_X8_fail s0) fun _ s2 =>
  some (l1, s2)
noncomputable def mf_X8_atom_p123 (rec : Nat → sm_St → Option (Int32 × sm_St)) (s0 : sm_St) (l1 : Int32) : Option (Int32 × sm_St) :=
  sm_b (s0.1 0 29) fun v1 =>
  if v1 = 0 then (
  sm_b (s0.1 0 25) fun v2 =>
  if v2 = (1 : Int32) then (
  sm_c (mf_X8_name s0) fun v3 s4 =>
  sm_b (s4.1 0 29) fun v5 =>
  if v5 = 0 then (
  sm_c (mf_X8_next s4) fun _ s7 =>
  some (v3, s7))
  else (
  some (v3, s4)))
  else (
  mf_X8_atom_p157 rec s0 l1))
  else (
  mf_X8_atom_p157 rec s0 l1)
noncomputable def mf_X8_atom (rec : Nat → sm_St → Option (Int32 × sm_St)) (s0 : sm_St) : Option (Int32 × sm_St) :=
  sm_c (mf_X8_isSign (45 : Int32) s0) fun v1 s2 =>
  if v1 = 0 then (
  sm_c (mf_X8_isSign (40 : Int32) s2) fun v3 s4 =>
  if v3 = 0 then (
  sm_b (s4.1 0 29) fun v5 =>
  if v5 = 0 then (
  sm_b (s4.1 0 25) fun v6 =>
  if v6 = (2 : Int32) then (
  sm_b (s4.2.1 0 27) fun v7 =>
  sm_b (v7.toInt32) fun v8 =>
  sm_c (mf_X8_next s4) fun _ s10 =>
  some (v8, s10))
  else (
  mf_X8_atom_p123 rec s4 (0 : Int32)))
  else (
  mf_X8_atom_p123 rec s4 (0 : Int32)))
  else (
  sm_c (mf_X8_opens s4) fun v11 s12 =>
  if v11 = 0 then (
  some ((0 : Int32), s12))
  else (
  sm_c (rec 5 s12) fun v13 s14 =>
  sm_c (mf_X8_isSign (41 : Int32) s14) fun v15 s16 =>
  if v15 = 0 then (
  sm_c (mf_X8_fail s16) fun _ s18 =>
  mf_X8_atom_p71 rec s18 v13)
  else (
  mf_X8_atom_p71 rec s16 v13))))
  else (
  sm_c (mf_X8_opens s2) fun v19 s20 =>
  if v19 = 0 then (
  some ((0 : Int32), s20))
  else (
  sm_c (rec 0 s20) fun v21 s22 =>
  sm_b (-v21) fun v23 =>
  sm_b (s22.1 0 28) fun v24 =>
  sm_b (v24 - (1 : Int32)) fun v25 =>
  sm_b (sm_sI s22 0 28 v25) fun s26 =>
  some (v23, s26)))
set_option maxRecDepth 4000 in
theorem mk_X8_atom_p71 {X : sm_VC} {nn : Nat} (C : sm_Cx X prog_10_method_24_code 2 "SmokeGoesToModel" (6 + (nn + 1)) (191 + (nn + 1) * 23) (some .int)) (hw : mo_is (sm_w X)) {rec : Nat → sm_St → Option (Int32 × sm_St)}  {R : Int32 × sm_St} (hrec : sm_CI (sm_w X) (sm_l X) yX8_atom prog_10_method_24_code 2 (some .int) (6 + nn) (191 + nn * 23) [.ref (sm_ad (sm_w X) 0)] (fun s => rec 0 s) ∧ sm_CI (sm_w X) (sm_l X) yX8_term prog_10_method_25_code 2 (some .int) (6 + nn) (191 + nn * 23) [.ref (sm_ad (sm_w X) 0)] (fun s => rec 1 s) ∧ sm_CI (sm_w X) (sm_l X) yX8_added prog_10_method_26_code 4 (some .int) (6 + nn) (191 + nn * 23) [.ref (sm_ad (sm_w X) 0)] (fun s => rec 2 s) ∧ sm_CI (sm_w X) (sm_l X) yX8_not prog_10_method_27_code 4 (some .int) (6 + nn) (191 + nn * 23) [.ref (sm_ad (sm_w X) 0)] (fun s => rec 3 s) ∧ sm_CI (sm_w X) (sm_l X) yX8_both prog_10_method_28_code 3 (some .int) (6 + nn) (191 + nn * 23) [.ref (sm_ad (sm_w X) 0)] (fun s => rec 4 s) ∧ sm_CI (sm_w X) (sm_l X) yX8_either prog_10_method_29_code 3 (some .int) (6 + nn) (191 + nn * 23) [.ref (sm_ad (sm_w X) 0)] (fun s => rec 5 s))   (s0 : sm_St) (l1 : Int32)  (h : mf_X8_atom_p71 rec s0 l1 = some R) : sm_V X (sm_QI X R) 2 s0 71 [(0, .ref (sm_ad (sm_w X) 0)), (1, .int l1)] [] := by
  unfold mf_X8_atom_p71 at h
  refine sm_aload_n C 0 dX8_atom_71 rfl rfl ?_
  refine sm_dup C dX8_atom_72 rfl ?_
  refine mr_M_open C hw (k := 0) rfl gf_M_195 dX8_atom_73 h (fun v1 h => ?_)
  refine sm_iconst (v := 1) C dX8_atom_76 (by decide) ?_
  refine sm_isub C dX8_atom_77 h (fun v2 h => ?_)
  refine mp_M_open C hw (k := 0) rfl gf_M_195 dX8_atom_78 h (fun s3 h => ?_)
  refine sm_aload_n C 0 dX8_atom_81 rfl rfl ?_
  refine mr_M_bad C hw (k := 0) rfl gf_M_185 dX8_atom_82 h (fun v4 h => ?_)
  refine sm_if_ne C 161 dX8_atom_85 (by decide) h (fun h => ?_) (fun h => ?_)
  · refine sm_iload_n C 1 dX8_atom_161 rfl rfl ?_
    exact sm_iret C dX8_atom_162 h
  · refine sm_aload_n C 0 dX8_atom_88 rfl rfl ?_
    refine sm_callVV (k := 0) C [] (mc_X8_next hw) gm_X8_next gl_M_201 gi_X8_next ge_X8_next (mob_M hw rfl) rfl ⟨by omega, by omega⟩ rfl (Nat.le_of_ble_eq_true rfl) dX8_atom_89 h (fun v5 s6 h => ?_)
    refine sm_goto C 161 dX8_atom_92 (by decide) ?_
    refine sm_iload_n C 1 dX8_atom_161 rfl rfl ?_
    exact sm_iret C dX8_atom_162 h
set_option maxRecDepth 4000 in
theorem mk_X8_atom_p157 {X : sm_VC} {nn : Nat} (C : sm_Cx X prog_10_method_24_code 2 "SmokeGoesToModel" (6 + (nn + 1)) (191 + (nn + 1) * 23) (some .int)) (hw : mo_is (sm_w X)) {rec : Nat → sm_St → Option (Int32 × sm_St)}  {R : Int32 × sm_St} (hrec : sm_CI (sm_w X) (sm_l X) yX8_atom prog_10_method_24_code 2 (some .int) (6 + nn) (191 + nn * 23) [.ref (sm_ad (sm_w X) 0)] (fun s => rec 0 s) ∧ sm_CI (sm_w X) (sm_l X) yX8_term prog_10_method_25_code 2 (some .int) (6 + nn) (191 + nn * 23) [.ref (sm_ad (sm_w X) 0)] (fun s => rec 1 s) ∧ sm_CI (sm_w X) (sm_l X) yX8_added prog_10_method_26_code 4 (some .int) (6 + nn) (191 + nn * 23) [.ref (sm_ad (sm_w X) 0)] (fun s => rec 2 s) ∧ sm_CI (sm_w X) (sm_l X) yX8_not prog_10_method_27_code 4 (some .int) (6 + nn) (191 + nn * 23) [.ref (sm_ad (sm_w X) 0)] (fun s => rec 3 s) ∧ sm_CI (sm_w X) (sm_l X) yX8_both prog_10_method_28_code 3 (some .int) (6 + nn) (191 + nn * 23) [.ref (sm_ad (sm_w X) 0)] (fun s => rec 4 s) ∧ sm_CI (sm_w X) (sm_l X) yX8_either prog_10_method_29_code 3 (some .int) (6 + nn) (191 + nn * 23) [.ref (sm_ad (sm_w X) 0)] (fun s => rec 5 s))   (s0 : sm_St) (l1 : Int32)  (h : mf_X8_atom_p157 rec s0 l1 = some R) : sm_V X (sm_QI X R) 2 s0 157 [(0, .ref (sm_ad (sm_w X) 0)), (1, .int l1)] [] := by
  unfold mf_X8_atom_p157 at h
  refine sm_aload_n C 0 dX8_atom_157 rfl rfl ?_
  refine sm_callVV (k := 0) C [] (mc_X8_fail hw) gm_X8_fail gl_M_198 gi_X8_fail ge_X8_fail (mob_M hw rfl) rfl ⟨by omega, by omega⟩ rfl (Nat.le_of_ble_eq_true rfl) dX8_atom_158 h (fun v1 s2 h => ?_)
  refine sm_iload_n C 1 dX8_atom_161 rfl rfl ?_
  exact sm_iret C dX8_atom_162 h
set_option maxRecDepth 4000 in
theorem mk_X8_atom_p123 {X : sm_VC} {nn : Nat} (C : sm_Cx X prog_10_method_24_code 2 "SmokeGoesToModel" (6 + (nn + 1)) (191 + (nn + 1) * 23) (some .int)) (hw : mo_is (sm_w X)) {rec : Nat → sm_St → Option (Int32 × sm_St)}  {R : Int32 × sm_St} (hrec : sm_CI (sm_w X) (sm_l X) yX8_atom prog_10_method_24_code 2 (some .int) (6 + nn) (191 + nn * 23) [.ref (sm_ad (sm_w X) 0)] (fun s => rec 0 s) ∧ sm_CI (sm_w X) (sm_l X) yX8_term prog_10_method_25_code 2 (some .int) (6 + nn) (191 + nn * 23) [.ref (sm_ad (sm_w X) 0)] (fun s => rec 1 s) ∧ sm_CI (sm_w X) (sm_l X) yX8_added prog_10_method_26_code 4 (some .int) (6 + nn) (191 + nn * 23) [.ref (sm_ad (sm_w X) 0)] (fun s => rec 2 s) ∧ sm_CI (sm_w X) (sm_l X) yX8_not prog_10_method_27_code 4 (some .int) (6 + nn) (191 + nn * 23) [.ref (sm_ad (sm_w X) 0)] (fun s => rec 3 s) ∧ sm_CI (sm_w X) (sm_l X) yX8_both prog_10_method_28_code 3 (some .int) (6 + nn) (191 + nn * 23) [.ref (sm_ad (sm_w X) 0)] (fun s => rec 4 s) ∧ sm_CI (sm_w X) (sm_l X) yX8_either prog_10_method_29_code 3 (some .int) (6 + nn) (191 + nn * 23) [.ref (sm_ad (sm_w X) 0)] (fun s => rec 5 s))   (s0 : sm_St) (l1 : Int32)  (h : mf_X8_atom_p123 rec s0 l1 = some R) : sm_V X (sm_QI X R) 2 s0 123 [(0, .ref (sm_ad (sm_w X) 0)), (1, .int l1)] [] := by
  unfold mf_X8_atom_p123 at h
  refine sm_aload_n C 0 dX8_atom_123 rfl rfl ?_
  refine mr_M_bad C hw (k := 0) rfl gf_M_185 dX8_atom_124 h (fun v1 h => ?_)
  refine sm_if_ne C 157 dX8_atom_127 (by decide) h (fun h => ?_) (fun h => ?_)
  · exact mk_X8_atom_p157 C hw hrec s0 l1 h
  · refine sm_aload_n C 0 dX8_atom_130 rfl rfl ?_
    refine mr_M_token C hw (k := 0) rfl gf_M_168 dX8_atom_131 h (fun v2 h => ?_)
    refine sm_iconst (v := 1) C dX8_atom_134 (by decide) ?_
    refine sm_icmp_ne C 157 dX8_atom_135 (by decide) h (fun h => ?_) (fun h => ?_)
    · exact mk_X8_atom_p157 C hw hrec s0 l1 h
    · refine sm_aload_n C 0 dX8_atom_138 rfl rfl ?_
      refine sm_callVI (k := 0) C [] (mc_X8_name hw) gm_X8_name gl_M_240 gi_X8_name ge_X8_name (mob_M hw rfl) rfl ⟨by omega, by omega⟩ rfl (Nat.le_of_ble_eq_true rfl) dX8_atom_139 h (fun v3 s4 h => ?_)
      refine sm_istore_n (lv' := [(1, .int v3), (0, .ref (sm_ad (sm_w X) 0))]) C dX8_atom_142 rfl (by decide) rfl ?_
      refine sm_aload_n C 1 dX8_atom_143 rfl rfl ?_
      refine mr_M_bad C hw (k := 0) rfl gf_M_185 dX8_atom_144 h (fun v5 h => ?_)
      refine sm_if_ne C 161 dX8_atom_147 (by decide) h (fun h => ?_) (fun h => ?_)
      · refine sm_iload_n C 0 dX8_atom_161 rfl rfl ?_
        exact sm_iret C dX8_atom_162 h
      · refine sm_aload_n C 1 dX8_atom_150 rfl rfl ?_
        refine sm_callVV (k := 0) C [] (mc_X8_next hw) gm_X8_next gl_M_201 gi_X8_next ge_X8_next (mob_M hw rfl) rfl ⟨by omega, by omega⟩ rfl (Nat.le_of_ble_eq_true rfl) dX8_atom_151 h (fun v6 s7 h => ?_)
        refine sm_goto C 161 dX8_atom_154 (by decide) ?_
        refine sm_iload_n C 0 dX8_atom_161 rfl rfl ?_
        exact sm_iret C dX8_atom_162 h
set_option maxRecDepth 4000 in
theorem mc_X8_atom_open {w : sm_WD} {l : Launch} (hw : mo_is w) {nn : Nat} (rec : Nat → sm_St → Option (Int32 × sm_St))  (hrec : sm_CI w l yX8_atom prog_10_method_24_code 2 (some .int) (6 + nn) (191 + nn * 23) [.ref (sm_ad w 0)] (fun s => rec 0 s) ∧ sm_CI w l yX8_term prog_10_method_25_code 2 (some .int) (6 + nn) (191 + nn * 23) [.ref (sm_ad w 0)] (fun s => rec 1 s) ∧ sm_CI w l yX8_added prog_10_method_26_code 4 (some .int) (6 + nn) (191 + nn * 23) [.ref (sm_ad w 0)] (fun s => rec 2 s) ∧ sm_CI w l yX8_not prog_10_method_27_code 4 (some .int) (6 + nn) (191 + nn * 23) [.ref (sm_ad w 0)] (fun s => rec 3 s) ∧ sm_CI w l yX8_both prog_10_method_28_code 3 (some .int) (6 + nn) (191 + nn * 23) [.ref (sm_ad w 0)] (fun s => rec 4 s) ∧ sm_CI w l yX8_either prog_10_method_29_code 3 (some .int) (6 + nn) (191 + nn * 23) [.ref (sm_ad w 0)] (fun s => rec 5 s)) : sm_CI w l yX8_atom prog_10_method_24_code 2 (some .int) (6 + (nn + 1)) (191 + (nn + 1) * 23) [.ref (sm_ad w 0)] (fun s => mf_X8_atom rec s) := by
  refine sm_CI.of (by decide +kernel) (Nat.le_of_ble_eq_true rfl) (fun X s0 R hXw hXl C h => ?_)
  subst hXw
  subst hXl
  have h : mf_X8_atom rec s0 = some R := h
  show sm_V X (sm_QI X R) 2 s0 0 [(0, .ref (sm_ad (sm_w X) 0))] []
  unfold mf_X8_atom at h
  refine sm_iconst (v := 0) C dX8_atom_0 (by decide) ?_
  refine sm_istore_n (lv' := [(1, .int (0 : Int32)), (0, .ref (sm_ad (sm_w X) 0))]) C dX8_atom_1 rfl (by decide) rfl ?_
  refine sm_aload_n C 1 dX8_atom_2 rfl rfl ?_
  refine sm_bipush (v := 45) C dX8_atom_3 (by decide) ?_
  refine sm_callVI (k := 0) C [.int (45 : Int32)] (mc_X8_isSign hw (45 : Int32)) gm_X8_isSign gl_M_226 gi_X8_isSign ge_X8_isSign (mob_M hw rfl) rfl ⟨by omega, by omega⟩ rfl (Nat.le_of_ble_eq_true rfl) dX8_atom_5 h (fun v1 s2 h => ?_)
  refine sm_if_eq C 37 dX8_atom_8 (by decide) h (fun h => ?_) (fun h => ?_)
  · refine sm_aload_n C 1 dX8_atom_37 rfl rfl ?_
    refine sm_bipush (v := 40) C dX8_atom_38 (by decide) ?_
    refine sm_callVI (k := 0) C [.int (40 : Int32)] (mc_X8_isSign hw (40 : Int32)) gm_X8_isSign gl_M_226 gi_X8_isSign ge_X8_isSign (mob_M hw rfl) rfl ⟨by omega, by omega⟩ rfl (Nat.le_of_ble_eq_true rfl) dX8_atom_40 h (fun v3 s4 h => ?_)
    refine sm_if_eq C 95 dX8_atom_43 (by decide) h (fun h => ?_) (fun h => ?_)
    · refine sm_aload_n C 1 dX8_atom_95 rfl rfl ?_
      refine mr_M_bad C hw (k := 0) rfl gf_M_185 dX8_atom_96 h (fun v5 h => ?_)
      refine sm_if_ne C 123 dX8_atom_99 (by decide) h (fun h => ?_) (fun h => ?_)
      · refine sm_sub (lv' := [(0, .ref (sm_ad (sm_w X) 0)), (1, .int (0 : Int32))]) [1, 0] rfl ?_
        exact mk_X8_atom_p123 C hw hrec s4 (0 : Int32) h
      · refine sm_aload_n C 1 dX8_atom_102 rfl rfl ?_
        refine mr_M_token C hw (k := 0) rfl gf_M_168 dX8_atom_103 h (fun v6 h => ?_)
        refine sm_iconst (v := 2) C dX8_atom_106 (by decide) ?_
        refine sm_icmp_ne C 123 dX8_atom_107 (by decide) h (fun h => ?_) (fun h => ?_)
        · refine sm_sub (lv' := [(0, .ref (sm_ad (sm_w X) 0)), (1, .int (0 : Int32))]) [1, 0] rfl ?_
          exact mk_X8_atom_p123 C hw hrec s4 (0 : Int32) h
        · refine sm_aload_n C 1 dX8_atom_110 rfl rfl ?_
          refine mr_M_tokenWorth C hw (k := 0) rfl gf_M_179 dX8_atom_111 h (fun v7 h => ?_)
          refine sm_l2i C dX8_atom_114 h (fun v8 h => ?_)
          refine sm_istore_n (lv' := [(1, .int v8), (0, .ref (sm_ad (sm_w X) 0))]) C dX8_atom_115 rfl (by decide) rfl ?_
          refine sm_aload_n C 1 dX8_atom_116 rfl rfl ?_
          refine sm_callVV (k := 0) C [] (mc_X8_next hw) gm_X8_next gl_M_201 gi_X8_next ge_X8_next (mob_M hw rfl) rfl ⟨by omega, by omega⟩ rfl (Nat.le_of_ble_eq_true rfl) dX8_atom_117 h (fun v9 s10 h => ?_)
          refine sm_goto C 161 dX8_atom_120 (by decide) ?_
          refine sm_iload_n C 0 dX8_atom_161 rfl rfl ?_
          exact sm_iret C dX8_atom_162 h
    · refine sm_aload_n C 1 dX8_atom_46 rfl rfl ?_
      refine sm_callVI (k := 0) C [] (mc_X8_opens hw) gm_X8_opens gl_M_229 gi_X8_opens ge_X8_opens (mob_M hw rfl) rfl ⟨by omega, by omega⟩ rfl (Nat.le_of_ble_eq_true rfl) dX8_atom_47 h (fun v11 s12 h => ?_)
      refine sm_if_eq C 161 dX8_atom_50 (by decide) h (fun h => ?_) (fun h => ?_)
      · refine sm_iload_n C 0 dX8_atom_161 rfl rfl ?_
        exact sm_iret C dX8_atom_162 h
      · refine sm_aload_n C 1 dX8_atom_53 rfl rfl ?_
        refine sm_callVI (k := 0) C [] (hrec.2.2.2.2.2) gm_X8_either gl_M_237 gi_X8_either ge_X8_either (mob_M hw rfl) rfl ⟨by omega, by omega⟩ rfl (Nat.le_of_ble_eq_true rfl) dX8_atom_54 h (fun v13 s14 h => ?_)
        refine sm_istore_n (lv' := [(1, .int v13), (0, .ref (sm_ad (sm_w X) 0))]) C dX8_atom_57 rfl (by decide) rfl ?_
        refine sm_aload_n C 1 dX8_atom_58 rfl rfl ?_
        refine sm_bipush (v := 41) C dX8_atom_59 (by decide) ?_
        refine sm_callVI (k := 0) C [.int (41 : Int32)] (mc_X8_isSign hw (41 : Int32)) gm_X8_isSign gl_M_226 gi_X8_isSign ge_X8_isSign (mob_M hw rfl) rfl ⟨by omega, by omega⟩ rfl (Nat.le_of_ble_eq_true rfl) dX8_atom_61 h (fun v15 s16 h => ?_)
        refine sm_if_ne C 71 dX8_atom_64 (by decide) h (fun h => ?_) (fun h => ?_)
        · refine sm_sub (lv' := [(0, .ref (sm_ad (sm_w X) 0)), (1, .int v13)]) [1, 0] rfl ?_
          exact mk_X8_atom_p71 C hw hrec s16 v13 h
        · refine sm_aload_n C 1 dX8_atom_67 rfl rfl ?_
          refine sm_callVV (k := 0) C [] (mc_X8_fail hw) gm_X8_fail gl_M_198 gi_X8_fail ge_X8_fail (mob_M hw rfl) rfl ⟨by omega, by omega⟩ rfl (Nat.le_of_ble_eq_true rfl) dX8_atom_68 h (fun v17 s18 h => ?_)
          refine sm_sub (lv' := [(0, .ref (sm_ad (sm_w X) 0)), (1, .int v13)]) [1, 0] rfl ?_
          exact mk_X8_atom_p71 C hw hrec s18 v13 h
  · refine sm_aload_n C 1 dX8_atom_11 rfl rfl ?_
    refine sm_callVI (k := 0) C [] (mc_X8_opens hw) gm_X8_opens gl_M_229 gi_X8_opens ge_X8_opens (mob_M hw rfl) rfl ⟨by omega, by omega⟩ rfl (Nat.le_of_ble_eq_true rfl) dX8_atom_12 h (fun v19 s20 h => ?_)
    refine sm_if_eq C 161 dX8_atom_15 (by decide) h (fun h => ?_) (fun h => ?_)
    · refine sm_iload_n C 0 dX8_atom_161 rfl rfl ?_
      exact sm_iret C dX8_atom_162 h
    · refine sm_aload_n C 1 dX8_atom_18 rfl rfl ?_
      refine sm_callVI (k := 0) C [] (hrec.1) gm_X8_atom gl_M_233 gi_X8_atom ge_X8_atom (mob_M hw rfl) rfl ⟨by omega, by omega⟩ rfl (Nat.le_of_ble_eq_true rfl) dX8_atom_19 h (fun v21 s22 h => ?_)
      refine sm_ineg C dX8_atom_22 h (fun v23 h => ?_)
      refine sm_istore_n (lv' := [(1, .int v23), (0, .ref (sm_ad (sm_w X) 0))]) C dX8_atom_23 rfl (by decide) rfl ?_
      refine sm_aload_n C 1 dX8_atom_24 rfl rfl ?_
      refine sm_dup C dX8_atom_25 rfl ?_
      refine mr_M_open C hw (k := 0) rfl gf_M_195 dX8_atom_26 h (fun v24 h => ?_)
      refine sm_iconst (v := 1) C dX8_atom_29 (by decide) ?_
      refine sm_isub C dX8_atom_30 h (fun v25 h => ?_)
      refine mp_M_open C hw (k := 0) rfl gf_M_195 dX8_atom_31 h (fun s26 h => ?_)
      refine sm_goto C 161 dX8_atom_34 (by decide) ?_
      refine sm_iload_n C 0 dX8_atom_161 rfl rfl ?_
      exact sm_iret C dX8_atom_162 h
noncomputable def mf_X8_term_p5 (rec : Nat → sm_St → Option (Int32 × sm_St)) : Nat → sm_St → Int32 → Option (Int32 × sm_St)
  | 0, _, _ => none
  | n + 1, s0, l1 =>
  sm_c (mf_X8_isSign (42 : Int32) s0) fun v1 s2 =>
  if v1 = 0 then (
  some (l1, s2))
  else (
  sm_c (mf_X8_next s2) fun _ s4 =>
  sm_c (rec 0 s4) fun v5 s6 =>
  sm_b (l1 * v5) fun v7 =>
  (mf_X8_term_p5 rec n) s6 v7)
noncomputable def mf_X8_term (rec : Nat → sm_St → Option (Int32 × sm_St)) (s0 : sm_St) : Option (Int32 × sm_St) :=
  sm_c (rec 0 s0) fun v1 s2 =>
  mf_X8_term_p5 rec sm_F s2 v1
set_option maxRecDepth 4000 in
theorem mk_X8_term_p5 {X : sm_VC} {nn : Nat} (C : sm_Cx X prog_10_method_25_code 2 "SmokeGoesToModel" (6 + (nn + 1)) (191 + (nn + 1) * 23) (some .int)) (hw : mo_is (sm_w X)) {rec : Nat → sm_St → Option (Int32 × sm_St)}  {R : Int32 × sm_St} (hrec : sm_CI (sm_w X) (sm_l X) yX8_atom prog_10_method_24_code 2 (some .int) (6 + nn) (191 + nn * 23) [.ref (sm_ad (sm_w X) 0)] (fun s => rec 0 s) ∧ sm_CI (sm_w X) (sm_l X) yX8_term prog_10_method_25_code 2 (some .int) (6 + nn) (191 + nn * 23) [.ref (sm_ad (sm_w X) 0)] (fun s => rec 1 s) ∧ sm_CI (sm_w X) (sm_l X) yX8_added prog_10_method_26_code 4 (some .int) (6 + nn) (191 + nn * 23) [.ref (sm_ad (sm_w X) 0)] (fun s => rec 2 s) ∧ sm_CI (sm_w X) (sm_l X) yX8_not prog_10_method_27_code 4 (some .int) (6 + nn) (191 + nn * 23) [.ref (sm_ad (sm_w X) 0)] (fun s => rec 3 s) ∧ sm_CI (sm_w X) (sm_l X) yX8_both prog_10_method_28_code 3 (some .int) (6 + nn) (191 + nn * 23) [.ref (sm_ad (sm_w X) 0)] (fun s => rec 4 s) ∧ sm_CI (sm_w X) (sm_l X) yX8_either prog_10_method_29_code 3 (some .int) (6 + nn) (191 + nn * 23) [.ref (sm_ad (sm_w X) 0)] (fun s => rec 5 s))   : ∀ (n : Nat) (s0 : sm_St) (l1 : Int32) , mf_X8_term_p5 rec n s0 l1 = some R → sm_V X (sm_QI X R) 2 s0 5 [(0, .ref (sm_ad (sm_w X) 0)), (1, .int l1)] [] := by
  intro n
  induction n with
  | zero =>
    intro s0 l1 h
    have h : (none : Option (Int32 × sm_St)) = some R := h
    cases h
  | succ n ih =>
    intro s0 l1 h
    unfold mf_X8_term_p5 at h
    refine sm_aload_n C 0 dX8_term_5 rfl rfl ?_
    refine sm_bipush (v := 42) C dX8_term_6 (by decide) ?_
    refine sm_callVI (k := 0) C [.int (42 : Int32)] (mc_X8_isSign hw (42 : Int32)) gm_X8_isSign gl_M_226 gi_X8_isSign ge_X8_isSign (mob_M hw rfl) rfl ⟨by omega, by omega⟩ rfl (Nat.le_of_ble_eq_true rfl) dX8_term_8 h (fun v1 s2 h => ?_)
    refine sm_if_eq C 28 dX8_term_11 (by decide) h (fun h => ?_) (fun h => ?_)
    · refine sm_iload_n C 1 dX8_term_28 rfl rfl ?_
      exact sm_iret C dX8_term_29 h
    · refine sm_aload_n C 0 dX8_term_14 rfl rfl ?_
      refine sm_callVV (k := 0) C [] (mc_X8_next hw) gm_X8_next gl_M_201 gi_X8_next ge_X8_next (mob_M hw rfl) rfl ⟨by omega, by omega⟩ rfl (Nat.le_of_ble_eq_true rfl) dX8_term_15 h (fun v3 s4 h => ?_)
      refine sm_iload_n C 1 dX8_term_18 rfl rfl ?_
      refine sm_aload_n C 0 dX8_term_19 rfl rfl ?_
      refine sm_callVI (k := 0) C [] (hrec.1) gm_X8_atom gl_M_233 gi_X8_atom ge_X8_atom (mob_M hw rfl) rfl ⟨by omega, by omega⟩ rfl (Nat.le_of_ble_eq_true rfl) dX8_term_20 h (fun v5 s6 h => ?_)
      refine sm_imul C dX8_term_23 h (fun v7 h => ?_)
      refine sm_istore_n (lv' := [(1, .int v7), (0, .ref (sm_ad (sm_w X) 0))]) C dX8_term_24 rfl (by decide) rfl ?_
      refine sm_goto C 5 dX8_term_25 (by decide) ?_
      refine sm_sub (lv' := [(0, .ref (sm_ad (sm_w X) 0)), (1, .int v7)]) [1, 0] rfl ?_
      exact ih s6 v7 h
set_option maxRecDepth 4000 in
theorem mc_X8_term_open {w : sm_WD} {l : Launch} (hw : mo_is w) {nn : Nat} (rec : Nat → sm_St → Option (Int32 × sm_St))  (hrec : sm_CI w l yX8_atom prog_10_method_24_code 2 (some .int) (6 + nn) (191 + nn * 23) [.ref (sm_ad w 0)] (fun s => rec 0 s) ∧ sm_CI w l yX8_term prog_10_method_25_code 2 (some .int) (6 + nn) (191 + nn * 23) [.ref (sm_ad w 0)] (fun s => rec 1 s) ∧ sm_CI w l yX8_added prog_10_method_26_code 4 (some .int) (6 + nn) (191 + nn * 23) [.ref (sm_ad w 0)] (fun s => rec 2 s) ∧ sm_CI w l yX8_not prog_10_method_27_code 4 (some .int) (6 + nn) (191 + nn * 23) [.ref (sm_ad w 0)] (fun s => rec 3 s) ∧ sm_CI w l yX8_both prog_10_method_28_code 3 (some .int) (6 + nn) (191 + nn * 23) [.ref (sm_ad w 0)] (fun s => rec 4 s) ∧ sm_CI w l yX8_either prog_10_method_29_code 3 (some .int) (6 + nn) (191 + nn * 23) [.ref (sm_ad w 0)] (fun s => rec 5 s)) : sm_CI w l yX8_term prog_10_method_25_code 2 (some .int) (6 + (nn + 1)) (191 + (nn + 1) * 23) [.ref (sm_ad w 0)] (fun s => mf_X8_term rec s) := by
  refine sm_CI.of (by decide +kernel) (Nat.le_of_ble_eq_true rfl) (fun X s0 R hXw hXl C h => ?_)
  subst hXw
  subst hXl
  have h : mf_X8_term rec s0 = some R := h
  show sm_V X (sm_QI X R) 2 s0 0 [(0, .ref (sm_ad (sm_w X) 0))] []
  unfold mf_X8_term at h
  refine sm_aload_n C 0 dX8_term_0 rfl rfl ?_
  refine sm_callVI (k := 0) C [] (hrec.1) gm_X8_atom gl_M_233 gi_X8_atom ge_X8_atom (mob_M hw rfl) rfl ⟨by omega, by omega⟩ rfl (Nat.le_of_ble_eq_true rfl) dX8_term_1 h (fun v1 s2 h => ?_)
  refine sm_istore_n (lv' := [(1, .int v1), (0, .ref (sm_ad (sm_w X) 0))]) C dX8_term_4 rfl (by decide) rfl ?_
  refine sm_sub (lv' := [(0, .ref (sm_ad (sm_w X) 0)), (1, .int v1)]) [1, 0] rfl ?_
  exact mk_X8_term_p5 C hw hrec sm_F s2 v1 h
noncomputable def mf_X8_added_p62 (rec : Nat → sm_St → Option (Int32 × sm_St)) (k5 : sm_St → Int32 → Option (Int32 × sm_St)) (s0 : sm_St) (t0 : Int32) : Option (Int32 × sm_St) :=
  k5 s0 t0
noncomputable def mf_X8_added_p39 (rec : Nat → sm_St → Option (Int32 × sm_St)) (k5 : sm_St → Int32 → Option (Int32 × sm_St)) (s0 : sm_St) (l1 : Int32) (t0 : Int32) : Option (Int32 × sm_St) :=
  sm_c (mf_X8_next s0) fun _ s2 =>
  sm_c (rec 1 s2) fun v3 s4 =>
  if t0 = 0 then (
  sm_b (l1 - v3) fun v5 =>
  mf_X8_added_p62 rec k5 s4 v5)
  else (
  sm_b (l1 + v3) fun v6 =>
  mf_X8_added_p62 rec k5 s4 v6)
noncomputable def mf_X8_added_p23 (rec : Nat → sm_St → Option (Int32 × sm_St)) (k5 : sm_St → Int32 → Option (Int32 × sm_St)) (s0 : sm_St) (l1 : Int32) : Option (Int32 × sm_St) :=
  sm_b (s0.2.1 0 27) fun v1 =>
  sm_b (lg_cmp v1 (43 : Int64)) fun v2 =>
  if v2 = 0 then (
  mf_X8_added_p39 rec k5 s0 l1 (1 : Int32))
  else (
  mf_X8_added_p39 rec k5 s0 l1 (0 : Int32))
noncomputable def mf_X8_added_p5 (rec : Nat → sm_St → Option (Int32 × sm_St)) : Nat → sm_St → Int32 → Option (Int32 × sm_St)
  | 0, _, _ => none
  | n + 1, s0, l1 =>
  sm_c (mf_X8_isSign (43 : Int32) s0) fun v1 s2 =>
  if v1 = 0 then (
  sm_c (mf_X8_isSign (45 : Int32) s2) fun v3 s4 =>
  if v3 = 0 then (
  some (l1, s4))
  else (
  mf_X8_added_p23 rec (mf_X8_added_p5 rec n) s4 l1))
  else (
  mf_X8_added_p23 rec (mf_X8_added_p5 rec n) s2 l1)
noncomputable def mf_X8_added (rec : Nat → sm_St → Option (Int32 × sm_St)) (s0 : sm_St) : Option (Int32 × sm_St) :=
  sm_c (rec 1 s0) fun v1 s2 =>
  mf_X8_added_p5 rec sm_F s2 v1
set_option maxRecDepth 4000 in
theorem mk_X8_added_p62 {X : sm_VC} {nn : Nat} (C : sm_Cx X prog_10_method_26_code 4 "SmokeGoesToModel" (6 + (nn + 1)) (191 + (nn + 1) * 23) (some .int)) (hw : mo_is (sm_w X)) {rec : Nat → sm_St → Option (Int32 × sm_St)}  {R : Int32 × sm_St} (hrec : sm_CI (sm_w X) (sm_l X) yX8_atom prog_10_method_24_code 2 (some .int) (6 + nn) (191 + nn * 23) [.ref (sm_ad (sm_w X) 0)] (fun s => rec 0 s) ∧ sm_CI (sm_w X) (sm_l X) yX8_term prog_10_method_25_code 2 (some .int) (6 + nn) (191 + nn * 23) [.ref (sm_ad (sm_w X) 0)] (fun s => rec 1 s) ∧ sm_CI (sm_w X) (sm_l X) yX8_added prog_10_method_26_code 4 (some .int) (6 + nn) (191 + nn * 23) [.ref (sm_ad (sm_w X) 0)] (fun s => rec 2 s) ∧ sm_CI (sm_w X) (sm_l X) yX8_not prog_10_method_27_code 4 (some .int) (6 + nn) (191 + nn * 23) [.ref (sm_ad (sm_w X) 0)] (fun s => rec 3 s) ∧ sm_CI (sm_w X) (sm_l X) yX8_both prog_10_method_28_code 3 (some .int) (6 + nn) (191 + nn * 23) [.ref (sm_ad (sm_w X) 0)] (fun s => rec 4 s) ∧ sm_CI (sm_w X) (sm_l X) yX8_either prog_10_method_29_code 3 (some .int) (6 + nn) (191 + nn * 23) [.ref (sm_ad (sm_w X) 0)] (fun s => rec 5 s)) {k5 : sm_St → Int32 → Option (Int32 × sm_St)} (hk5 : ∀ (s : sm_St) (l1 : Int32), k5 s l1 = some R → sm_V X (sm_QI X R) 4 s 5 [(0, .ref (sm_ad (sm_w X) 0)), (1, .int l1)] []) (s0 : sm_St) (t0 : Int32)  (h : mf_X8_added_p62 rec k5 s0 t0 = some R) : sm_V X (sm_QI X R) 4 s0 62 [(0, .ref (sm_ad (sm_w X) 0))] [.int t0] := by
  unfold mf_X8_added_p62 at h
  refine sm_istore_n (lv' := [(1, .int t0), (0, .ref (sm_ad (sm_w X) 0))]) C dX8_added_62 rfl (by decide) rfl ?_
  refine sm_goto C 5 dX8_added_63 (by decide) ?_
  refine sm_sub (lv' := [(0, .ref (sm_ad (sm_w X) 0)), (1, .int t0)]) [1, 0] rfl ?_
  exact hk5 s0 t0 h
set_option maxRecDepth 4000 in
theorem mk_X8_added_p39 {X : sm_VC} {nn : Nat} (C : sm_Cx X prog_10_method_26_code 4 "SmokeGoesToModel" (6 + (nn + 1)) (191 + (nn + 1) * 23) (some .int)) (hw : mo_is (sm_w X)) {rec : Nat → sm_St → Option (Int32 × sm_St)}  {R : Int32 × sm_St} (hrec : sm_CI (sm_w X) (sm_l X) yX8_atom prog_10_method_24_code 2 (some .int) (6 + nn) (191 + nn * 23) [.ref (sm_ad (sm_w X) 0)] (fun s => rec 0 s) ∧ sm_CI (sm_w X) (sm_l X) yX8_term prog_10_method_25_code 2 (some .int) (6 + nn) (191 + nn * 23) [.ref (sm_ad (sm_w X) 0)] (fun s => rec 1 s) ∧ sm_CI (sm_w X) (sm_l X) yX8_added prog_10_method_26_code 4 (some .int) (6 + nn) (191 + nn * 23) [.ref (sm_ad (sm_w X) 0)] (fun s => rec 2 s) ∧ sm_CI (sm_w X) (sm_l X) yX8_not prog_10_method_27_code 4 (some .int) (6 + nn) (191 + nn * 23) [.ref (sm_ad (sm_w X) 0)] (fun s => rec 3 s) ∧ sm_CI (sm_w X) (sm_l X) yX8_both prog_10_method_28_code 3 (some .int) (6 + nn) (191 + nn * 23) [.ref (sm_ad (sm_w X) 0)] (fun s => rec 4 s) ∧ sm_CI (sm_w X) (sm_l X) yX8_either prog_10_method_29_code 3 (some .int) (6 + nn) (191 + nn * 23) [.ref (sm_ad (sm_w X) 0)] (fun s => rec 5 s)) {k5 : sm_St → Int32 → Option (Int32 × sm_St)} (hk5 : ∀ (s : sm_St) (l1 : Int32), k5 s l1 = some R → sm_V X (sm_QI X R) 4 s 5 [(0, .ref (sm_ad (sm_w X) 0)), (1, .int l1)] []) (s0 : sm_St) (l1 : Int32) (t0 : Int32)  (h : mf_X8_added_p39 rec k5 s0 l1 t0 = some R) : sm_V X (sm_QI X R) 4 s0 39 [(0, .ref (sm_ad (sm_w X) 0)), (1, .int l1)] [.int t0] := by
  unfold mf_X8_added_p39 at h
  refine sm_istore_n (lv' := [(2, .int t0), (0, .ref (sm_ad (sm_w X) 0)), (1, .int l1)]) C dX8_added_39 rfl (by decide) rfl ?_
  refine sm_aload_n C 1 dX8_added_40 rfl rfl ?_
  refine sm_callVV (k := 0) C [] (mc_X8_next hw) gm_X8_next gl_M_201 gi_X8_next ge_X8_next (mob_M hw rfl) rfl ⟨by omega, by omega⟩ rfl (Nat.le_of_ble_eq_true rfl) dX8_added_41 h (fun v1 s2 h => ?_)
  refine sm_aload_n C 1 dX8_added_44 rfl rfl ?_
  refine sm_callVI (k := 0) C [] (hrec.2.1) gm_X8_term gl_M_243 gi_X8_term ge_X8_term (mob_M hw rfl) rfl ⟨by omega, by omega⟩ rfl (Nat.le_of_ble_eq_true rfl) dX8_added_45 h (fun v3 s4 h => ?_)
  refine sm_istore_n (lv' := [(3, .int v3), (2, .int t0), (0, .ref (sm_ad (sm_w X) 0)), (1, .int l1)]) C dX8_added_48 rfl (by decide) rfl ?_
  refine sm_iload_n C 1 dX8_added_49 rfl rfl ?_
  refine sm_if_eq C 59 dX8_added_50 (by decide) h (fun h => ?_) (fun h => ?_)
  · refine sm_iload_n C 3 dX8_added_59 rfl rfl ?_
    refine sm_iload_n C 0 dX8_added_60 rfl rfl ?_
    refine sm_isub C dX8_added_61 h (fun v5 h => ?_)
    refine sm_sub (lv' := [(0, .ref (sm_ad (sm_w X) 0))]) [2] rfl ?_
    exact mk_X8_added_p62 C hw hrec hk5 s4 v5 h
  · refine sm_iload_n C 3 dX8_added_53 rfl rfl ?_
    refine sm_iload_n C 0 dX8_added_54 rfl rfl ?_
    refine sm_iadd C dX8_added_55 h (fun v6 h => ?_)
    refine sm_goto C 62 dX8_added_56 (by decide) ?_
    refine sm_sub (lv' := [(0, .ref (sm_ad (sm_w X) 0))]) [2] rfl ?_
    exact mk_X8_added_p62 C hw hrec hk5 s4 v6 h
set_option maxRecDepth 4000 in
theorem mk_X8_added_p23 {X : sm_VC} {nn : Nat} (C : sm_Cx X prog_10_method_26_code 4 "SmokeGoesToModel" (6 + (nn + 1)) (191 + (nn + 1) * 23) (some .int)) (hw : mo_is (sm_w X)) {rec : Nat → sm_St → Option (Int32 × sm_St)}  {R : Int32 × sm_St} (hrec : sm_CI (sm_w X) (sm_l X) yX8_atom prog_10_method_24_code 2 (some .int) (6 + nn) (191 + nn * 23) [.ref (sm_ad (sm_w X) 0)] (fun s => rec 0 s) ∧ sm_CI (sm_w X) (sm_l X) yX8_term prog_10_method_25_code 2 (some .int) (6 + nn) (191 + nn * 23) [.ref (sm_ad (sm_w X) 0)] (fun s => rec 1 s) ∧ sm_CI (sm_w X) (sm_l X) yX8_added prog_10_method_26_code 4 (some .int) (6 + nn) (191 + nn * 23) [.ref (sm_ad (sm_w X) 0)] (fun s => rec 2 s) ∧ sm_CI (sm_w X) (sm_l X) yX8_not prog_10_method_27_code 4 (some .int) (6 + nn) (191 + nn * 23) [.ref (sm_ad (sm_w X) 0)] (fun s => rec 3 s) ∧ sm_CI (sm_w X) (sm_l X) yX8_both prog_10_method_28_code 3 (some .int) (6 + nn) (191 + nn * 23) [.ref (sm_ad (sm_w X) 0)] (fun s => rec 4 s) ∧ sm_CI (sm_w X) (sm_l X) yX8_either prog_10_method_29_code 3 (some .int) (6 + nn) (191 + nn * 23) [.ref (sm_ad (sm_w X) 0)] (fun s => rec 5 s)) {k5 : sm_St → Int32 → Option (Int32 × sm_St)} (hk5 : ∀ (s : sm_St) (l1 : Int32), k5 s l1 = some R → sm_V X (sm_QI X R) 4 s 5 [(0, .ref (sm_ad (sm_w X) 0)), (1, .int l1)] []) (s0 : sm_St) (l1 : Int32)  (h : mf_X8_added_p23 rec k5 s0 l1 = some R) : sm_V X (sm_QI X R) 4 s0 23 [(0, .ref (sm_ad (sm_w X) 0)), (1, .int l1)] [] := by
  unfold mf_X8_added_p23 at h
  refine sm_aload_n C 0 dX8_added_23 rfl rfl ?_
  refine mr_M_tokenWorth C hw (k := 0) rfl gf_M_179 dX8_added_24 h (fun v1 h => ?_)
  refine sm_ldc2 C gk_M_246 dX8_added_27 ?_
  refine sm_lcmp C dX8_added_30 h (fun v2 h => ?_)
  refine sm_if_ne C 38 dX8_added_31 (by decide) h (fun h => ?_) (fun h => ?_)
  · refine sm_iconst (v := 0) C dX8_added_38 (by decide) ?_
    exact mk_X8_added_p39 C hw hrec hk5 s0 l1 (0 : Int32) h
  · refine sm_iconst (v := 1) C dX8_added_34 (by decide) ?_
    refine sm_goto C 39 dX8_added_35 (by decide) ?_
    exact mk_X8_added_p39 C hw hrec hk5 s0 l1 (1 : Int32) h
set_option maxRecDepth 4000 in
theorem mk_X8_added_p5 {X : sm_VC} {nn : Nat} (C : sm_Cx X prog_10_method_26_code 4 "SmokeGoesToModel" (6 + (nn + 1)) (191 + (nn + 1) * 23) (some .int)) (hw : mo_is (sm_w X)) {rec : Nat → sm_St → Option (Int32 × sm_St)}  {R : Int32 × sm_St} (hrec : sm_CI (sm_w X) (sm_l X) yX8_atom prog_10_method_24_code 2 (some .int) (6 + nn) (191 + nn * 23) [.ref (sm_ad (sm_w X) 0)] (fun s => rec 0 s) ∧ sm_CI (sm_w X) (sm_l X) yX8_term prog_10_method_25_code 2 (some .int) (6 + nn) (191 + nn * 23) [.ref (sm_ad (sm_w X) 0)] (fun s => rec 1 s) ∧ sm_CI (sm_w X) (sm_l X) yX8_added prog_10_method_26_code 4 (some .int) (6 + nn) (191 + nn * 23) [.ref (sm_ad (sm_w X) 0)] (fun s => rec 2 s) ∧ sm_CI (sm_w X) (sm_l X) yX8_not prog_10_method_27_code 4 (some .int) (6 + nn) (191 + nn * 23) [.ref (sm_ad (sm_w X) 0)] (fun s => rec 3 s) ∧ sm_CI (sm_w X) (sm_l X) yX8_both prog_10_method_28_code 3 (some .int) (6 + nn) (191 + nn * 23) [.ref (sm_ad (sm_w X) 0)] (fun s => rec 4 s) ∧ sm_CI (sm_w X) (sm_l X) yX8_either prog_10_method_29_code 3 (some .int) (6 + nn) (191 + nn * 23) [.ref (sm_ad (sm_w X) 0)] (fun s => rec 5 s))   : ∀ (n : Nat) (s0 : sm_St) (l1 : Int32) , mf_X8_added_p5 rec n s0 l1 = some R → sm_V X (sm_QI X R) 4 s0 5 [(0, .ref (sm_ad (sm_w X) 0)), (1, .int l1)] [] := by
  intro n
  induction n with
  | zero =>
    intro s0 l1 h
    have h : (none : Option (Int32 × sm_St)) = some R := h
    cases h
  | succ n ih =>
    intro s0 l1 h
    unfold mf_X8_added_p5 at h
    refine sm_aload_n C 0 dX8_added_5 rfl rfl ?_
    refine sm_bipush (v := 43) C dX8_added_6 (by decide) ?_
    refine sm_callVI (k := 0) C [.int (43 : Int32)] (mc_X8_isSign hw (43 : Int32)) gm_X8_isSign gl_M_226 gi_X8_isSign ge_X8_isSign (mob_M hw rfl) rfl ⟨by omega, by omega⟩ rfl (Nat.le_of_ble_eq_true rfl) dX8_added_8 h (fun v1 s2 h => ?_)
    refine sm_if_ne C 23 dX8_added_11 (by decide) h (fun h => ?_) (fun h => ?_)
    · exact mk_X8_added_p23 C hw hrec ih s2 l1 h
    · refine sm_aload_n C 0 dX8_added_14 rfl rfl ?_
      refine sm_bipush (v := 45) C dX8_added_15 (by decide) ?_
      refine sm_callVI (k := 0) C [.int (45 : Int32)] (mc_X8_isSign hw (45 : Int32)) gm_X8_isSign gl_M_226 gi_X8_isSign ge_X8_isSign (mob_M hw rfl) rfl ⟨by omega, by omega⟩ rfl (Nat.le_of_ble_eq_true rfl) dX8_added_17 h (fun v3 s4 h => ?_)
      refine sm_if_eq C 66 dX8_added_20 (by decide) h (fun h => ?_) (fun h => ?_)
      · refine sm_iload_n C 1 dX8_added_66 rfl rfl ?_
        exact sm_iret C dX8_added_67 h
      · exact mk_X8_added_p23 C hw hrec ih s4 l1 h
set_option maxRecDepth 4000 in
theorem mc_X8_added_open {w : sm_WD} {l : Launch} (hw : mo_is w) {nn : Nat} (rec : Nat → sm_St → Option (Int32 × sm_St))  (hrec : sm_CI w l yX8_atom prog_10_method_24_code 2 (some .int) (6 + nn) (191 + nn * 23) [.ref (sm_ad w 0)] (fun s => rec 0 s) ∧ sm_CI w l yX8_term prog_10_method_25_code 2 (some .int) (6 + nn) (191 + nn * 23) [.ref (sm_ad w 0)] (fun s => rec 1 s) ∧ sm_CI w l yX8_added prog_10_method_26_code 4 (some .int) (6 + nn) (191 + nn * 23) [.ref (sm_ad w 0)] (fun s => rec 2 s) ∧ sm_CI w l yX8_not prog_10_method_27_code 4 (some .int) (6 + nn) (191 + nn * 23) [.ref (sm_ad w 0)] (fun s => rec 3 s) ∧ sm_CI w l yX8_both prog_10_method_28_code 3 (some .int) (6 + nn) (191 + nn * 23) [.ref (sm_ad w 0)] (fun s => rec 4 s) ∧ sm_CI w l yX8_either prog_10_method_29_code 3 (some .int) (6 + nn) (191 + nn * 23) [.ref (sm_ad w 0)] (fun s => rec 5 s)) : sm_CI w l yX8_added prog_10_method_26_code 4 (some .int) (6 + (nn + 1)) (191 + (nn + 1) * 23) [.ref (sm_ad w 0)] (fun s => mf_X8_added rec s) := by
  refine sm_CI.of (by decide +kernel) (Nat.le_of_ble_eq_true rfl) (fun X s0 R hXw hXl C h => ?_)
  subst hXw
  subst hXl
  have h : mf_X8_added rec s0 = some R := h
  show sm_V X (sm_QI X R) 4 s0 0 [(0, .ref (sm_ad (sm_w X) 0))] []
  unfold mf_X8_added at h
  refine sm_aload_n C 0 dX8_added_0 rfl rfl ?_
  refine sm_callVI (k := 0) C [] (hrec.2.1) gm_X8_term gl_M_243 gi_X8_term ge_X8_term (mob_M hw rfl) rfl ⟨by omega, by omega⟩ rfl (Nat.le_of_ble_eq_true rfl) dX8_added_1 h (fun v1 s2 h => ?_)
  refine sm_istore_n (lv' := [(1, .int v1), (0, .ref (sm_ad (sm_w X) 0))]) C dX8_added_4 rfl (by decide) rfl ?_
  refine sm_sub (lv' := [(0, .ref (sm_ad (sm_w X) 0)), (1, .int v1)]) [1, 0] rfl ?_
  exact mk_X8_added_p5 C hw hrec sm_F s2 v1 h
noncomputable def mf_X8_not_p120 (rec : Nat → sm_St → Option (Int32 × sm_St)) (s0 : sm_St) : Option (Int32 × sm_St) :=
  some ((1 : Int32), s0)
noncomputable def mf_X8_not_p93 (rec : Nat → sm_St → Option (Int32 × sm_St)) (s0 : sm_St) (l1 : Int32) (t0 : Int32) : Option (Int32 × sm_St) :=
  sm_c (mf_X8_next s0) fun _ s2 =>
  sm_c (rec 2 s2) fun v3 s4 =>
  if t0 = 0 then (
  if l1 = v3 then (
  mf_X8_not_p120 rec s4)
  else (
  some ((0 : Int32), s4)))
  else (
  if v3 ≤ l1 then (
  some ((0 : Int32), s4))
  else (
  mf_X8_not_p120 rec s4))
noncomputable def mf_X8_not_p77 (rec : Nat → sm_St → Option (Int32 × sm_St)) (s0 : sm_St) (l1 : Int32) : Option (Int32 × sm_St) :=
  sm_b (s0.2.1 0 27) fun v1 =>
  sm_b (lg_cmp v1 (60 : Int64)) fun v2 =>
  if v2 = 0 then (
  mf_X8_not_p93 rec s0 l1 (1 : Int32))
  else (
  mf_X8_not_p93 rec s0 l1 (0 : Int32))
noncomputable def mf_X8_not (rec : Nat → sm_St → Option (Int32 × sm_St)) (s0 : sm_St) : Option (Int32 × sm_St) :=
  sm_c (mf_X8_isWord (110 : Int32) (111 : Int32) (116 : Int32) (0 : Int32) (0 : Int32) (0 : Int32) (0 : Int32) (0 : Int32) s0) fun v1 s2 =>
  if v1 = 0 then (
  sm_c (rec 2 s2) fun v3 s4 =>
  sm_c (mf_X8_isSign (60 : Int32) s4) fun v5 s6 =>
  if v5 = 0 then (
  sm_c (mf_X8_isSign (61 : Int32) s6) fun v7 s8 =>
  if v7 = 0 then (
  some (v3, s8))
  else (
  mf_X8_not_p77 rec s8 v3))
  else (
  mf_X8_not_p77 rec s6 v3))
  else (
  sm_c (mf_X8_opens s2) fun v9 s10 =>
  if v9 = 0 then (
  some ((0 : Int32), s10))
  else (
  sm_c (rec 3 s10) fun v11 s12 =>
  sm_b (s12.1 0 28) fun v13 =>
  sm_b (v13 - (1 : Int32)) fun v14 =>
  sm_b (sm_sI s12 0 28 v14) fun s15 =>
  if v11 = 0 then (
  some ((1 : Int32), s15))
  else (
  some ((0 : Int32), s15))))
set_option maxRecDepth 4000 in
theorem mk_X8_not_p120 {X : sm_VC} {nn : Nat} (C : sm_Cx X prog_10_method_27_code 4 "SmokeGoesToModel" (6 + (nn + 1)) (191 + (nn + 1) * 23) (some .int)) (hw : mo_is (sm_w X)) {rec : Nat → sm_St → Option (Int32 × sm_St)}  {R : Int32 × sm_St} (hrec : sm_CI (sm_w X) (sm_l X) yX8_atom prog_10_method_24_code 2 (some .int) (6 + nn) (191 + nn * 23) [.ref (sm_ad (sm_w X) 0)] (fun s => rec 0 s) ∧ sm_CI (sm_w X) (sm_l X) yX8_term prog_10_method_25_code 2 (some .int) (6 + nn) (191 + nn * 23) [.ref (sm_ad (sm_w X) 0)] (fun s => rec 1 s) ∧ sm_CI (sm_w X) (sm_l X) yX8_added prog_10_method_26_code 4 (some .int) (6 + nn) (191 + nn * 23) [.ref (sm_ad (sm_w X) 0)] (fun s => rec 2 s) ∧ sm_CI (sm_w X) (sm_l X) yX8_not prog_10_method_27_code 4 (some .int) (6 + nn) (191 + nn * 23) [.ref (sm_ad (sm_w X) 0)] (fun s => rec 3 s) ∧ sm_CI (sm_w X) (sm_l X) yX8_both prog_10_method_28_code 3 (some .int) (6 + nn) (191 + nn * 23) [.ref (sm_ad (sm_w X) 0)] (fun s => rec 4 s) ∧ sm_CI (sm_w X) (sm_l X) yX8_either prog_10_method_29_code 3 (some .int) (6 + nn) (191 + nn * 23) [.ref (sm_ad (sm_w X) 0)] (fun s => rec 5 s))   (s0 : sm_St)   (h : mf_X8_not_p120 rec s0 = some R) : sm_V X (sm_QI X R) 4 s0 120 [] [] := by
  unfold mf_X8_not_p120 at h
  refine sm_iconst (v := 1) C dX8_not_120 (by decide) ?_
  refine sm_goto C 125 dX8_not_121 (by decide) ?_
  exact sm_iret C dX8_not_125 h
set_option maxRecDepth 4000 in
theorem mk_X8_not_p93 {X : sm_VC} {nn : Nat} (C : sm_Cx X prog_10_method_27_code 4 "SmokeGoesToModel" (6 + (nn + 1)) (191 + (nn + 1) * 23) (some .int)) (hw : mo_is (sm_w X)) {rec : Nat → sm_St → Option (Int32 × sm_St)}  {R : Int32 × sm_St} (hrec : sm_CI (sm_w X) (sm_l X) yX8_atom prog_10_method_24_code 2 (some .int) (6 + nn) (191 + nn * 23) [.ref (sm_ad (sm_w X) 0)] (fun s => rec 0 s) ∧ sm_CI (sm_w X) (sm_l X) yX8_term prog_10_method_25_code 2 (some .int) (6 + nn) (191 + nn * 23) [.ref (sm_ad (sm_w X) 0)] (fun s => rec 1 s) ∧ sm_CI (sm_w X) (sm_l X) yX8_added prog_10_method_26_code 4 (some .int) (6 + nn) (191 + nn * 23) [.ref (sm_ad (sm_w X) 0)] (fun s => rec 2 s) ∧ sm_CI (sm_w X) (sm_l X) yX8_not prog_10_method_27_code 4 (some .int) (6 + nn) (191 + nn * 23) [.ref (sm_ad (sm_w X) 0)] (fun s => rec 3 s) ∧ sm_CI (sm_w X) (sm_l X) yX8_both prog_10_method_28_code 3 (some .int) (6 + nn) (191 + nn * 23) [.ref (sm_ad (sm_w X) 0)] (fun s => rec 4 s) ∧ sm_CI (sm_w X) (sm_l X) yX8_either prog_10_method_29_code 3 (some .int) (6 + nn) (191 + nn * 23) [.ref (sm_ad (sm_w X) 0)] (fun s => rec 5 s))   (s0 : sm_St) (l1 : Int32) (t0 : Int32)  (h : mf_X8_not_p93 rec s0 l1 t0 = some R) : sm_V X (sm_QI X R) 4 s0 93 [(0, .ref (sm_ad (sm_w X) 0)), (1, .int l1)] [.int t0] := by
  unfold mf_X8_not_p93 at h
  refine sm_istore_n (lv' := [(2, .int t0), (0, .ref (sm_ad (sm_w X) 0)), (1, .int l1)]) C dX8_not_93 rfl (by decide) rfl ?_
  refine sm_aload_n C 1 dX8_not_94 rfl rfl ?_
  refine sm_callVV (k := 0) C [] (mc_X8_next hw) gm_X8_next gl_M_201 gi_X8_next ge_X8_next (mob_M hw rfl) rfl ⟨by omega, by omega⟩ rfl (Nat.le_of_ble_eq_true rfl) dX8_not_95 h (fun v1 s2 h => ?_)
  refine sm_aload_n C 1 dX8_not_98 rfl rfl ?_
  refine sm_callVI (k := 0) C [] (hrec.2.2.1) gm_X8_added gl_M_251 gi_X8_added ge_X8_added (mob_M hw rfl) rfl ⟨by omega, by omega⟩ rfl (Nat.le_of_ble_eq_true rfl) dX8_not_99 h (fun v3 s4 h => ?_)
  refine sm_istore_n (lv' := [(3, .int v3), (2, .int t0), (0, .ref (sm_ad (sm_w X) 0)), (1, .int l1)]) C dX8_not_102 rfl (by decide) rfl ?_
  refine sm_iload_n C 1 dX8_not_103 rfl rfl ?_
  refine sm_if_eq C 115 dX8_not_104 (by decide) h (fun h => ?_) (fun h => ?_)
  · refine sm_iload_n C 3 dX8_not_115 rfl rfl ?_
    refine sm_iload_n C 0 dX8_not_116 rfl rfl ?_
    refine sm_icmp_ne C 124 dX8_not_117 (by decide) h (fun h => ?_) (fun h => ?_)
    · refine sm_iconst (v := 0) C dX8_not_124 (by decide) ?_
      exact sm_iret C dX8_not_125 h
    · refine sm_sub (lv' := []) [] rfl ?_
      exact mk_X8_not_p120 C hw hrec s4 h
  · refine sm_iload_n C 3 dX8_not_107 rfl rfl ?_
    refine sm_iload_n C 0 dX8_not_108 rfl rfl ?_
    refine sm_icmp_ge C 124 dX8_not_109 (by decide) h (fun h => ?_) (fun h => ?_)
    · refine sm_iconst (v := 0) C dX8_not_124 (by decide) ?_
      exact sm_iret C dX8_not_125 h
    · refine sm_goto C 120 dX8_not_112 (by decide) ?_
      refine sm_sub (lv' := []) [] rfl ?_
      exact mk_X8_not_p120 C hw hrec s4 h
set_option maxRecDepth 4000 in
theorem mk_X8_not_p77 {X : sm_VC} {nn : Nat} (C : sm_Cx X prog_10_method_27_code 4 "SmokeGoesToModel" (6 + (nn + 1)) (191 + (nn + 1) * 23) (some .int)) (hw : mo_is (sm_w X)) {rec : Nat → sm_St → Option (Int32 × sm_St)}  {R : Int32 × sm_St} (hrec : sm_CI (sm_w X) (sm_l X) yX8_atom prog_10_method_24_code 2 (some .int) (6 + nn) (191 + nn * 23) [.ref (sm_ad (sm_w X) 0)] (fun s => rec 0 s) ∧ sm_CI (sm_w X) (sm_l X) yX8_term prog_10_method_25_code 2 (some .int) (6 + nn) (191 + nn * 23) [.ref (sm_ad (sm_w X) 0)] (fun s => rec 1 s) ∧ sm_CI (sm_w X) (sm_l X) yX8_added prog_10_method_26_code 4 (some .int) (6 + nn) (191 + nn * 23) [.ref (sm_ad (sm_w X) 0)] (fun s => rec 2 s) ∧ sm_CI (sm_w X) (sm_l X) yX8_not prog_10_method_27_code 4 (some .int) (6 + nn) (191 + nn * 23) [.ref (sm_ad (sm_w X) 0)] (fun s => rec 3 s) ∧ sm_CI (sm_w X) (sm_l X) yX8_both prog_10_method_28_code 3 (some .int) (6 + nn) (191 + nn * 23) [.ref (sm_ad (sm_w X) 0)] (fun s => rec 4 s) ∧ sm_CI (sm_w X) (sm_l X) yX8_either prog_10_method_29_code 3 (some .int) (6 + nn) (191 + nn * 23) [.ref (sm_ad (sm_w X) 0)] (fun s => rec 5 s))   (s0 : sm_St) (l1 : Int32)  (h : mf_X8_not_p77 rec s0 l1 = some R) : sm_V X (sm_QI X R) 4 s0 77 [(0, .ref (sm_ad (sm_w X) 0)), (1, .int l1)] [] := by
  unfold mf_X8_not_p77 at h
  refine sm_aload_n C 0 dX8_not_77 rfl rfl ?_
  refine mr_M_tokenWorth C hw (k := 0) rfl gf_M_179 dX8_not_78 h (fun v1 h => ?_)
  refine sm_ldc2 C gk_M_254 dX8_not_81 ?_
  refine sm_lcmp C dX8_not_84 h (fun v2 h => ?_)
  refine sm_if_ne C 92 dX8_not_85 (by decide) h (fun h => ?_) (fun h => ?_)
  · refine sm_iconst (v := 0) C dX8_not_92 (by decide) ?_
    exact mk_X8_not_p93 C hw hrec s0 l1 (0 : Int32) h
  · refine sm_iconst (v := 1) C dX8_not_88 (by decide) ?_
    refine sm_goto C 93 dX8_not_89 (by decide) ?_
    exact mk_X8_not_p93 C hw hrec s0 l1 (1 : Int32) h
set_option maxRecDepth 4000 in
theorem mc_X8_not_open {w : sm_WD} {l : Launch} (hw : mo_is w) {nn : Nat} (rec : Nat → sm_St → Option (Int32 × sm_St))  (hrec : sm_CI w l yX8_atom prog_10_method_24_code 2 (some .int) (6 + nn) (191 + nn * 23) [.ref (sm_ad w 0)] (fun s => rec 0 s) ∧ sm_CI w l yX8_term prog_10_method_25_code 2 (some .int) (6 + nn) (191 + nn * 23) [.ref (sm_ad w 0)] (fun s => rec 1 s) ∧ sm_CI w l yX8_added prog_10_method_26_code 4 (some .int) (6 + nn) (191 + nn * 23) [.ref (sm_ad w 0)] (fun s => rec 2 s) ∧ sm_CI w l yX8_not prog_10_method_27_code 4 (some .int) (6 + nn) (191 + nn * 23) [.ref (sm_ad w 0)] (fun s => rec 3 s) ∧ sm_CI w l yX8_both prog_10_method_28_code 3 (some .int) (6 + nn) (191 + nn * 23) [.ref (sm_ad w 0)] (fun s => rec 4 s) ∧ sm_CI w l yX8_either prog_10_method_29_code 3 (some .int) (6 + nn) (191 + nn * 23) [.ref (sm_ad w 0)] (fun s => rec 5 s)) : sm_CI w l yX8_not prog_10_method_27_code 4 (some .int) (6 + (nn + 1)) (191 + (nn + 1) * 23) [.ref (sm_ad w 0)] (fun s => mf_X8_not rec s) := by
  refine sm_CI.of (by decide +kernel) (Nat.le_of_ble_eq_true rfl) (fun X s0 R hXw hXl C h => ?_)
  subst hXw
  subst hXl
  have h : mf_X8_not rec s0 = some R := h
  show sm_V X (sm_QI X R) 4 s0 0 [(0, .ref (sm_ad (sm_w X) 0))] []
  unfold mf_X8_not at h
  refine sm_aload_n C 0 dX8_not_0 rfl rfl ?_
  refine sm_bipush (v := 110) C dX8_not_1 (by decide) ?_
  refine sm_bipush (v := 111) C dX8_not_3 (by decide) ?_
  refine sm_bipush (v := 116) C dX8_not_5 (by decide) ?_
  refine sm_iconst (v := 0) C dX8_not_7 (by decide) ?_
  refine sm_iconst (v := 0) C dX8_not_8 (by decide) ?_
  refine sm_iconst (v := 0) C dX8_not_9 (by decide) ?_
  refine sm_iconst (v := 0) C dX8_not_10 (by decide) ?_
  refine sm_iconst (v := 0) C dX8_not_11 (by decide) ?_
  refine sm_callVI (k := 0) C [.int (110 : Int32), .int (111 : Int32), .int (116 : Int32), .int (0 : Int32), .int (0 : Int32), .int (0 : Int32), .int (0 : Int32), .int (0 : Int32)] (mc_X8_isWord hw (110 : Int32) (111 : Int32) (116 : Int32) (0 : Int32) (0 : Int32) (0 : Int32) (0 : Int32) (0 : Int32)) gm_X8_isWord gl_M_204 gi_X8_isWord ge_X8_isWord (mob_M hw rfl) rfl ⟨by omega, by omega⟩ rfl (Nat.le_of_ble_eq_true rfl) dX8_not_12 h (fun v1 s2 h => ?_)
  refine sm_if_eq C 52 dX8_not_15 (by decide) h (fun h => ?_) (fun h => ?_)
  · refine sm_aload_n C 0 dX8_not_52 rfl rfl ?_
    refine sm_callVI (k := 0) C [] (hrec.2.2.1) gm_X8_added gl_M_251 gi_X8_added ge_X8_added (mob_M hw rfl) rfl ⟨by omega, by omega⟩ rfl (Nat.le_of_ble_eq_true rfl) dX8_not_53 h (fun v3 s4 h => ?_)
    refine sm_istore_n (lv' := [(1, .int v3), (0, .ref (sm_ad (sm_w X) 0))]) C dX8_not_56 rfl (by decide) rfl ?_
    refine sm_aload_n C 1 dX8_not_57 rfl rfl ?_
    refine sm_bipush (v := 60) C dX8_not_58 (by decide) ?_
    refine sm_callVI (k := 0) C [.int (60 : Int32)] (mc_X8_isSign hw (60 : Int32)) gm_X8_isSign gl_M_226 gi_X8_isSign ge_X8_isSign (mob_M hw rfl) rfl ⟨by omega, by omega⟩ rfl (Nat.le_of_ble_eq_true rfl) dX8_not_60 h (fun v5 s6 h => ?_)
    refine sm_if_ne C 77 dX8_not_63 (by decide) h (fun h => ?_) (fun h => ?_)
    · refine sm_sub (lv' := [(0, .ref (sm_ad (sm_w X) 0)), (1, .int v3)]) [1, 0] rfl ?_
      exact mk_X8_not_p77 C hw hrec s6 v3 h
    · refine sm_aload_n C 1 dX8_not_66 rfl rfl ?_
      refine sm_bipush (v := 61) C dX8_not_67 (by decide) ?_
      refine sm_callVI (k := 0) C [.int (61 : Int32)] (mc_X8_isSign hw (61 : Int32)) gm_X8_isSign gl_M_226 gi_X8_isSign ge_X8_isSign (mob_M hw rfl) rfl ⟨by omega, by omega⟩ rfl (Nat.le_of_ble_eq_true rfl) dX8_not_69 h (fun v7 s8 h => ?_)
      refine sm_if_ne C 77 dX8_not_72 (by decide) h (fun h => ?_) (fun h => ?_)
      · refine sm_sub (lv' := [(0, .ref (sm_ad (sm_w X) 0)), (1, .int v3)]) [1, 0] rfl ?_
        exact mk_X8_not_p77 C hw hrec s8 v3 h
      · refine sm_iload_n C 0 dX8_not_75 rfl rfl ?_
        exact sm_iret C dX8_not_76 h
  · refine sm_aload_n C 0 dX8_not_18 rfl rfl ?_
    refine sm_callVI (k := 0) C [] (mc_X8_opens hw) gm_X8_opens gl_M_229 gi_X8_opens ge_X8_opens (mob_M hw rfl) rfl ⟨by omega, by omega⟩ rfl (Nat.le_of_ble_eq_true rfl) dX8_not_19 h (fun v9 s10 h => ?_)
    refine sm_if_ne C 27 dX8_not_22 (by decide) h (fun h => ?_) (fun h => ?_)
    · refine sm_aload_n C 0 dX8_not_27 rfl rfl ?_
      refine sm_callVI (k := 0) C [] (hrec.2.2.2.1) gm_X8_not gl_M_248 gi_X8_not ge_X8_not (mob_M hw rfl) rfl ⟨by omega, by omega⟩ rfl (Nat.le_of_ble_eq_true rfl) dX8_not_28 h (fun v11 s12 h => ?_)
      refine sm_istore_n (lv' := [(1, .int v11), (0, .ref (sm_ad (sm_w X) 0))]) C dX8_not_31 rfl (by decide) rfl ?_
      refine sm_aload_n C 1 dX8_not_32 rfl rfl ?_
      refine sm_dup C dX8_not_33 rfl ?_
      refine mr_M_open C hw (k := 0) rfl gf_M_195 dX8_not_34 h (fun v13 h => ?_)
      refine sm_iconst (v := 1) C dX8_not_37 (by decide) ?_
      refine sm_isub C dX8_not_38 h (fun v14 h => ?_)
      refine mp_M_open C hw (k := 0) rfl gf_M_195 dX8_not_39 h (fun s15 h => ?_)
      refine sm_iload_n C 0 dX8_not_42 rfl rfl ?_
      refine sm_if_ne C 50 dX8_not_43 (by decide) h (fun h => ?_) (fun h => ?_)
      · refine sm_iconst (v := 0) C dX8_not_50 (by decide) ?_
        exact sm_iret C dX8_not_51 h
      · refine sm_iconst (v := 1) C dX8_not_46 (by decide) ?_
        refine sm_goto C 51 dX8_not_47 (by decide) ?_
        exact sm_iret C dX8_not_51 h
    · refine sm_iconst (v := 0) C dX8_not_25 (by decide) ?_
      exact sm_iret C dX8_not_26 h
noncomputable def mf_X8_both_p45 (rec : Nat → sm_St → Option (Int32 × sm_St)) (k5 : sm_St → Int32 → Option (Int32 × sm_St)) (s0 : sm_St) (t0 : Int32) : Option (Int32 × sm_St) :=
  k5 s0 t0
noncomputable def mf_X8_both_p44 (rec : Nat → sm_St → Option (Int32 × sm_St)) (k5 : sm_St → Int32 → Option (Int32 × sm_St)) (s0 : sm_St) : Option (Int32 × sm_St) :=
  mf_X8_both_p45 rec k5 s0 (0 : Int32)
noncomputable def mf_X8_both_p5 (rec : Nat → sm_St → Option (Int32 × sm_St)) : Nat → sm_St → Int32 → Option (Int32 × sm_St)
  | 0, _, _ => none
  | n + 1, s0, l1 =>
  sm_c (mf_X8_isWord (97 : Int32) (110 : Int32) (100 : Int32) (0 : Int32) (0 : Int32) (0 : Int32) (0 : Int32) (0 : Int32) s0) fun v1 s2 =>
  if v1 = 0 then (
  some (l1, s2))
  else (
  sm_c (mf_X8_next s2) fun _ s4 =>
  sm_c (rec 3 s4) fun v5 s6 =>
  if l1 = 0 then (
  mf_X8_both_p44 rec (mf_X8_both_p5 rec n) s6)
  else (
  if v5 = 0 then (
  mf_X8_both_p44 rec (mf_X8_both_p5 rec n) s6)
  else (
  mf_X8_both_p45 rec (mf_X8_both_p5 rec n) s6 (1 : Int32))))
noncomputable def mf_X8_both (rec : Nat → sm_St → Option (Int32 × sm_St)) (s0 : sm_St) : Option (Int32 × sm_St) :=
  sm_c (rec 3 s0) fun v1 s2 =>
  mf_X8_both_p5 rec sm_F s2 v1
set_option maxRecDepth 4000 in
theorem mk_X8_both_p45 {X : sm_VC} {nn : Nat} (C : sm_Cx X prog_10_method_28_code 3 "SmokeGoesToModel" (6 + (nn + 1)) (191 + (nn + 1) * 23) (some .int)) (hw : mo_is (sm_w X)) {rec : Nat → sm_St → Option (Int32 × sm_St)}  {R : Int32 × sm_St} (hrec : sm_CI (sm_w X) (sm_l X) yX8_atom prog_10_method_24_code 2 (some .int) (6 + nn) (191 + nn * 23) [.ref (sm_ad (sm_w X) 0)] (fun s => rec 0 s) ∧ sm_CI (sm_w X) (sm_l X) yX8_term prog_10_method_25_code 2 (some .int) (6 + nn) (191 + nn * 23) [.ref (sm_ad (sm_w X) 0)] (fun s => rec 1 s) ∧ sm_CI (sm_w X) (sm_l X) yX8_added prog_10_method_26_code 4 (some .int) (6 + nn) (191 + nn * 23) [.ref (sm_ad (sm_w X) 0)] (fun s => rec 2 s) ∧ sm_CI (sm_w X) (sm_l X) yX8_not prog_10_method_27_code 4 (some .int) (6 + nn) (191 + nn * 23) [.ref (sm_ad (sm_w X) 0)] (fun s => rec 3 s) ∧ sm_CI (sm_w X) (sm_l X) yX8_both prog_10_method_28_code 3 (some .int) (6 + nn) (191 + nn * 23) [.ref (sm_ad (sm_w X) 0)] (fun s => rec 4 s) ∧ sm_CI (sm_w X) (sm_l X) yX8_either prog_10_method_29_code 3 (some .int) (6 + nn) (191 + nn * 23) [.ref (sm_ad (sm_w X) 0)] (fun s => rec 5 s)) {k5 : sm_St → Int32 → Option (Int32 × sm_St)} (hk5 : ∀ (s : sm_St) (l1 : Int32), k5 s l1 = some R → sm_V X (sm_QI X R) 3 s 5 [(0, .ref (sm_ad (sm_w X) 0)), (1, .int l1)] []) (s0 : sm_St) (t0 : Int32)  (h : mf_X8_both_p45 rec k5 s0 t0 = some R) : sm_V X (sm_QI X R) 3 s0 45 [(0, .ref (sm_ad (sm_w X) 0))] [.int t0] := by
  unfold mf_X8_both_p45 at h
  refine sm_istore_n (lv' := [(1, .int t0), (0, .ref (sm_ad (sm_w X) 0))]) C dX8_both_45 rfl (by decide) rfl ?_
  refine sm_goto C 5 dX8_both_46 (by decide) ?_
  refine sm_sub (lv' := [(0, .ref (sm_ad (sm_w X) 0)), (1, .int t0)]) [1, 0] rfl ?_
  exact hk5 s0 t0 h
set_option maxRecDepth 4000 in
theorem mk_X8_both_p44 {X : sm_VC} {nn : Nat} (C : sm_Cx X prog_10_method_28_code 3 "SmokeGoesToModel" (6 + (nn + 1)) (191 + (nn + 1) * 23) (some .int)) (hw : mo_is (sm_w X)) {rec : Nat → sm_St → Option (Int32 × sm_St)}  {R : Int32 × sm_St} (hrec : sm_CI (sm_w X) (sm_l X) yX8_atom prog_10_method_24_code 2 (some .int) (6 + nn) (191 + nn * 23) [.ref (sm_ad (sm_w X) 0)] (fun s => rec 0 s) ∧ sm_CI (sm_w X) (sm_l X) yX8_term prog_10_method_25_code 2 (some .int) (6 + nn) (191 + nn * 23) [.ref (sm_ad (sm_w X) 0)] (fun s => rec 1 s) ∧ sm_CI (sm_w X) (sm_l X) yX8_added prog_10_method_26_code 4 (some .int) (6 + nn) (191 + nn * 23) [.ref (sm_ad (sm_w X) 0)] (fun s => rec 2 s) ∧ sm_CI (sm_w X) (sm_l X) yX8_not prog_10_method_27_code 4 (some .int) (6 + nn) (191 + nn * 23) [.ref (sm_ad (sm_w X) 0)] (fun s => rec 3 s) ∧ sm_CI (sm_w X) (sm_l X) yX8_both prog_10_method_28_code 3 (some .int) (6 + nn) (191 + nn * 23) [.ref (sm_ad (sm_w X) 0)] (fun s => rec 4 s) ∧ sm_CI (sm_w X) (sm_l X) yX8_either prog_10_method_29_code 3 (some .int) (6 + nn) (191 + nn * 23) [.ref (sm_ad (sm_w X) 0)] (fun s => rec 5 s)) {k5 : sm_St → Int32 → Option (Int32 × sm_St)} (hk5 : ∀ (s : sm_St) (l1 : Int32), k5 s l1 = some R → sm_V X (sm_QI X R) 3 s 5 [(0, .ref (sm_ad (sm_w X) 0)), (1, .int l1)] []) (s0 : sm_St)   (h : mf_X8_both_p44 rec k5 s0 = some R) : sm_V X (sm_QI X R) 3 s0 44 [(0, .ref (sm_ad (sm_w X) 0))] [] := by
  unfold mf_X8_both_p44 at h
  refine sm_iconst (v := 0) C dX8_both_44 (by decide) ?_
  exact mk_X8_both_p45 C hw hrec hk5 s0 (0 : Int32) h
set_option maxRecDepth 4000 in
theorem mk_X8_both_p5 {X : sm_VC} {nn : Nat} (C : sm_Cx X prog_10_method_28_code 3 "SmokeGoesToModel" (6 + (nn + 1)) (191 + (nn + 1) * 23) (some .int)) (hw : mo_is (sm_w X)) {rec : Nat → sm_St → Option (Int32 × sm_St)}  {R : Int32 × sm_St} (hrec : sm_CI (sm_w X) (sm_l X) yX8_atom prog_10_method_24_code 2 (some .int) (6 + nn) (191 + nn * 23) [.ref (sm_ad (sm_w X) 0)] (fun s => rec 0 s) ∧ sm_CI (sm_w X) (sm_l X) yX8_term prog_10_method_25_code 2 (some .int) (6 + nn) (191 + nn * 23) [.ref (sm_ad (sm_w X) 0)] (fun s => rec 1 s) ∧ sm_CI (sm_w X) (sm_l X) yX8_added prog_10_method_26_code 4 (some .int) (6 + nn) (191 + nn * 23) [.ref (sm_ad (sm_w X) 0)] (fun s => rec 2 s) ∧ sm_CI (sm_w X) (sm_l X) yX8_not prog_10_method_27_code 4 (some .int) (6 + nn) (191 + nn * 23) [.ref (sm_ad (sm_w X) 0)] (fun s => rec 3 s) ∧ sm_CI (sm_w X) (sm_l X) yX8_both prog_10_method_28_code 3 (some .int) (6 + nn) (191 + nn * 23) [.ref (sm_ad (sm_w X) 0)] (fun s => rec 4 s) ∧ sm_CI (sm_w X) (sm_l X) yX8_either prog_10_method_29_code 3 (some .int) (6 + nn) (191 + nn * 23) [.ref (sm_ad (sm_w X) 0)] (fun s => rec 5 s))   : ∀ (n : Nat) (s0 : sm_St) (l1 : Int32) , mf_X8_both_p5 rec n s0 l1 = some R → sm_V X (sm_QI X R) 3 s0 5 [(0, .ref (sm_ad (sm_w X) 0)), (1, .int l1)] [] := by
  intro n
  induction n with
  | zero =>
    intro s0 l1 h
    have h : (none : Option (Int32 × sm_St)) = some R := h
    cases h
  | succ n ih =>
    intro s0 l1 h
    unfold mf_X8_both_p5 at h
    refine sm_aload_n C 0 dX8_both_5 rfl rfl ?_
    refine sm_bipush (v := 97) C dX8_both_6 (by decide) ?_
    refine sm_bipush (v := 110) C dX8_both_8 (by decide) ?_
    refine sm_bipush (v := 100) C dX8_both_10 (by decide) ?_
    refine sm_iconst (v := 0) C dX8_both_12 (by decide) ?_
    refine sm_iconst (v := 0) C dX8_both_13 (by decide) ?_
    refine sm_iconst (v := 0) C dX8_both_14 (by decide) ?_
    refine sm_iconst (v := 0) C dX8_both_15 (by decide) ?_
    refine sm_iconst (v := 0) C dX8_both_16 (by decide) ?_
    refine sm_callVI (k := 0) C [.int (97 : Int32), .int (110 : Int32), .int (100 : Int32), .int (0 : Int32), .int (0 : Int32), .int (0 : Int32), .int (0 : Int32), .int (0 : Int32)] (mc_X8_isWord hw (97 : Int32) (110 : Int32) (100 : Int32) (0 : Int32) (0 : Int32) (0 : Int32) (0 : Int32) (0 : Int32)) gm_X8_isWord gl_M_204 gi_X8_isWord ge_X8_isWord (mob_M hw rfl) rfl ⟨by omega, by omega⟩ rfl (Nat.le_of_ble_eq_true rfl) dX8_both_17 h (fun v1 s2 h => ?_)
    refine sm_if_eq C 49 dX8_both_20 (by decide) h (fun h => ?_) (fun h => ?_)
    · refine sm_iload_n C 1 dX8_both_49 rfl rfl ?_
      exact sm_iret C dX8_both_50 h
    · refine sm_aload_n C 0 dX8_both_23 rfl rfl ?_
      refine sm_callVV (k := 0) C [] (mc_X8_next hw) gm_X8_next gl_M_201 gi_X8_next ge_X8_next (mob_M hw rfl) rfl ⟨by omega, by omega⟩ rfl (Nat.le_of_ble_eq_true rfl) dX8_both_24 h (fun v3 s4 h => ?_)
      refine sm_aload_n C 0 dX8_both_27 rfl rfl ?_
      refine sm_callVI (k := 0) C [] (hrec.2.2.2.1) gm_X8_not gl_M_248 gi_X8_not ge_X8_not (mob_M hw rfl) rfl ⟨by omega, by omega⟩ rfl (Nat.le_of_ble_eq_true rfl) dX8_both_28 h (fun v5 s6 h => ?_)
      refine sm_istore_n (lv' := [(2, .int v5), (0, .ref (sm_ad (sm_w X) 0)), (1, .int l1)]) C dX8_both_31 rfl (by decide) rfl ?_
      refine sm_iload_n C 2 dX8_both_32 rfl rfl ?_
      refine sm_if_eq C 44 dX8_both_33 (by decide) h (fun h => ?_) (fun h => ?_)
      · refine sm_sub (lv' := [(0, .ref (sm_ad (sm_w X) 0))]) [1] rfl ?_
        exact mk_X8_both_p44 C hw hrec ih s6 h
      · refine sm_iload_n C 0 dX8_both_36 rfl rfl ?_
        refine sm_if_eq C 44 dX8_both_37 (by decide) h (fun h => ?_) (fun h => ?_)
        · refine sm_sub (lv' := [(0, .ref (sm_ad (sm_w X) 0))]) [1] rfl ?_
          exact mk_X8_both_p44 C hw hrec ih s6 h
        · refine sm_iconst (v := 1) C dX8_both_40 (by decide) ?_
          refine sm_goto C 45 dX8_both_41 (by decide) ?_
          refine sm_sub (lv' := [(0, .ref (sm_ad (sm_w X) 0))]) [1] rfl ?_
          exact mk_X8_both_p45 C hw hrec ih s6 (1 : Int32) h
set_option maxRecDepth 4000 in
theorem mc_X8_both_open {w : sm_WD} {l : Launch} (hw : mo_is w) {nn : Nat} (rec : Nat → sm_St → Option (Int32 × sm_St))  (hrec : sm_CI w l yX8_atom prog_10_method_24_code 2 (some .int) (6 + nn) (191 + nn * 23) [.ref (sm_ad w 0)] (fun s => rec 0 s) ∧ sm_CI w l yX8_term prog_10_method_25_code 2 (some .int) (6 + nn) (191 + nn * 23) [.ref (sm_ad w 0)] (fun s => rec 1 s) ∧ sm_CI w l yX8_added prog_10_method_26_code 4 (some .int) (6 + nn) (191 + nn * 23) [.ref (sm_ad w 0)] (fun s => rec 2 s) ∧ sm_CI w l yX8_not prog_10_method_27_code 4 (some .int) (6 + nn) (191 + nn * 23) [.ref (sm_ad w 0)] (fun s => rec 3 s) ∧ sm_CI w l yX8_both prog_10_method_28_code 3 (some .int) (6 + nn) (191 + nn * 23) [.ref (sm_ad w 0)] (fun s => rec 4 s) ∧ sm_CI w l yX8_either prog_10_method_29_code 3 (some .int) (6 + nn) (191 + nn * 23) [.ref (sm_ad w 0)] (fun s => rec 5 s)) : sm_CI w l yX8_both prog_10_method_28_code 3 (some .int) (6 + (nn + 1)) (191 + (nn + 1) * 23) [.ref (sm_ad w 0)] (fun s => mf_X8_both rec s) := by
  refine sm_CI.of (by decide +kernel) (Nat.le_of_ble_eq_true rfl) (fun X s0 R hXw hXl C h => ?_)
  subst hXw
  subst hXl
  have h : mf_X8_both rec s0 = some R := h
  show sm_V X (sm_QI X R) 3 s0 0 [(0, .ref (sm_ad (sm_w X) 0))] []
  unfold mf_X8_both at h
  refine sm_aload_n C 0 dX8_both_0 rfl rfl ?_
  refine sm_callVI (k := 0) C [] (hrec.2.2.2.1) gm_X8_not gl_M_248 gi_X8_not ge_X8_not (mob_M hw rfl) rfl ⟨by omega, by omega⟩ rfl (Nat.le_of_ble_eq_true rfl) dX8_both_1 h (fun v1 s2 h => ?_)
  refine sm_istore_n (lv' := [(1, .int v1), (0, .ref (sm_ad (sm_w X) 0))]) C dX8_both_4 rfl (by decide) rfl ?_
  refine sm_sub (lv' := [(0, .ref (sm_ad (sm_w X) 0)), (1, .int v1)]) [1, 0] rfl ?_
  exact mk_X8_both_p5 C hw hrec sm_F s2 v1 h
noncomputable def mf_X8_either_p44 (rec : Nat → sm_St → Option (Int32 × sm_St)) (k5 : sm_St → Int32 → Option (Int32 × sm_St)) (s0 : sm_St) (t0 : Int32) : Option (Int32 × sm_St) :=
  k5 s0 t0
noncomputable def mf_X8_either_p39 (rec : Nat → sm_St → Option (Int32 × sm_St)) (k5 : sm_St → Int32 → Option (Int32 × sm_St)) (s0 : sm_St) : Option (Int32 × sm_St) :=
  mf_X8_either_p44 rec k5 s0 (1 : Int32)
noncomputable def mf_X8_either_p5 (rec : Nat → sm_St → Option (Int32 × sm_St)) : Nat → sm_St → Int32 → Option (Int32 × sm_St)
  | 0, _, _ => none
  | n + 1, s0, l1 =>
  sm_c (mf_X8_isWord (111 : Int32) (114 : Int32) (0 : Int32) (0 : Int32) (0 : Int32) (0 : Int32) (0 : Int32) (0 : Int32) s0) fun v1 s2 =>
  if v1 = 0 then (
  some (l1, s2))
  else (
  sm_c (mf_X8_next s2) fun _ s4 =>
  sm_c (rec 4 s4) fun v5 s6 =>
  if l1 = 0 then (
  if v5 = 0 then (
  mf_X8_either_p44 rec (mf_X8_either_p5 rec n) s6 (0 : Int32))
  else (
  mf_X8_either_p39 rec (mf_X8_either_p5 rec n) s6))
  else (
  mf_X8_either_p39 rec (mf_X8_either_p5 rec n) s6))
noncomputable def mf_X8_either (rec : Nat → sm_St → Option (Int32 × sm_St)) (s0 : sm_St) : Option (Int32 × sm_St) :=
  sm_c (rec 4 s0) fun v1 s2 =>
  mf_X8_either_p5 rec sm_F s2 v1
set_option maxRecDepth 4000 in
theorem mk_X8_either_p44 {X : sm_VC} {nn : Nat} (C : sm_Cx X prog_10_method_29_code 3 "SmokeGoesToModel" (6 + (nn + 1)) (191 + (nn + 1) * 23) (some .int)) (hw : mo_is (sm_w X)) {rec : Nat → sm_St → Option (Int32 × sm_St)}  {R : Int32 × sm_St} (hrec : sm_CI (sm_w X) (sm_l X) yX8_atom prog_10_method_24_code 2 (some .int) (6 + nn) (191 + nn * 23) [.ref (sm_ad (sm_w X) 0)] (fun s => rec 0 s) ∧ sm_CI (sm_w X) (sm_l X) yX8_term prog_10_method_25_code 2 (some .int) (6 + nn) (191 + nn * 23) [.ref (sm_ad (sm_w X) 0)] (fun s => rec 1 s) ∧ sm_CI (sm_w X) (sm_l X) yX8_added prog_10_method_26_code 4 (some .int) (6 + nn) (191 + nn * 23) [.ref (sm_ad (sm_w X) 0)] (fun s => rec 2 s) ∧ sm_CI (sm_w X) (sm_l X) yX8_not prog_10_method_27_code 4 (some .int) (6 + nn) (191 + nn * 23) [.ref (sm_ad (sm_w X) 0)] (fun s => rec 3 s) ∧ sm_CI (sm_w X) (sm_l X) yX8_both prog_10_method_28_code 3 (some .int) (6 + nn) (191 + nn * 23) [.ref (sm_ad (sm_w X) 0)] (fun s => rec 4 s) ∧ sm_CI (sm_w X) (sm_l X) yX8_either prog_10_method_29_code 3 (some .int) (6 + nn) (191 + nn * 23) [.ref (sm_ad (sm_w X) 0)] (fun s => rec 5 s)) {k5 : sm_St → Int32 → Option (Int32 × sm_St)} (hk5 : ∀ (s : sm_St) (l1 : Int32), k5 s l1 = some R → sm_V X (sm_QI X R) 3 s 5 [(0, .ref (sm_ad (sm_w X) 0)), (1, .int l1)] []) (s0 : sm_St) (t0 : Int32)  (h : mf_X8_either_p44 rec k5 s0 t0 = some R) : sm_V X (sm_QI X R) 3 s0 44 [(0, .ref (sm_ad (sm_w X) 0))] [.int t0] := by
  unfold mf_X8_either_p44 at h
  refine sm_istore_n (lv' := [(1, .int t0), (0, .ref (sm_ad (sm_w X) 0))]) C dX8_either_44 rfl (by decide) rfl ?_
  refine sm_goto C 5 dX8_either_45 (by decide) ?_
  refine sm_sub (lv' := [(0, .ref (sm_ad (sm_w X) 0)), (1, .int t0)]) [1, 0] rfl ?_
  exact hk5 s0 t0 h
set_option maxRecDepth 4000 in
theorem mk_X8_either_p39 {X : sm_VC} {nn : Nat} (C : sm_Cx X prog_10_method_29_code 3 "SmokeGoesToModel" (6 + (nn + 1)) (191 + (nn + 1) * 23) (some .int)) (hw : mo_is (sm_w X)) {rec : Nat → sm_St → Option (Int32 × sm_St)}  {R : Int32 × sm_St} (hrec : sm_CI (sm_w X) (sm_l X) yX8_atom prog_10_method_24_code 2 (some .int) (6 + nn) (191 + nn * 23) [.ref (sm_ad (sm_w X) 0)] (fun s => rec 0 s) ∧ sm_CI (sm_w X) (sm_l X) yX8_term prog_10_method_25_code 2 (some .int) (6 + nn) (191 + nn * 23) [.ref (sm_ad (sm_w X) 0)] (fun s => rec 1 s) ∧ sm_CI (sm_w X) (sm_l X) yX8_added prog_10_method_26_code 4 (some .int) (6 + nn) (191 + nn * 23) [.ref (sm_ad (sm_w X) 0)] (fun s => rec 2 s) ∧ sm_CI (sm_w X) (sm_l X) yX8_not prog_10_method_27_code 4 (some .int) (6 + nn) (191 + nn * 23) [.ref (sm_ad (sm_w X) 0)] (fun s => rec 3 s) ∧ sm_CI (sm_w X) (sm_l X) yX8_both prog_10_method_28_code 3 (some .int) (6 + nn) (191 + nn * 23) [.ref (sm_ad (sm_w X) 0)] (fun s => rec 4 s) ∧ sm_CI (sm_w X) (sm_l X) yX8_either prog_10_method_29_code 3 (some .int) (6 + nn) (191 + nn * 23) [.ref (sm_ad (sm_w X) 0)] (fun s => rec 5 s)) {k5 : sm_St → Int32 → Option (Int32 × sm_St)} (hk5 : ∀ (s : sm_St) (l1 : Int32), k5 s l1 = some R → sm_V X (sm_QI X R) 3 s 5 [(0, .ref (sm_ad (sm_w X) 0)), (1, .int l1)] []) (s0 : sm_St)   (h : mf_X8_either_p39 rec k5 s0 = some R) : sm_V X (sm_QI X R) 3 s0 39 [(0, .ref (sm_ad (sm_w X) 0))] [] := by
  unfold mf_X8_either_p39 at h
  refine sm_iconst (v := 1) C dX8_either_39 (by decide) ?_
  refine sm_goto C 44 dX8_either_40 (by decide) ?_
  exact mk_X8_either_p44 C hw hrec hk5 s0 (1 : Int32) h
set_option maxRecDepth 4000 in
theorem mk_X8_either_p5 {X : sm_VC} {nn : Nat} (C : sm_Cx X prog_10_method_29_code 3 "SmokeGoesToModel" (6 + (nn + 1)) (191 + (nn + 1) * 23) (some .int)) (hw : mo_is (sm_w X)) {rec : Nat → sm_St → Option (Int32 × sm_St)}  {R : Int32 × sm_St} (hrec : sm_CI (sm_w X) (sm_l X) yX8_atom prog_10_method_24_code 2 (some .int) (6 + nn) (191 + nn * 23) [.ref (sm_ad (sm_w X) 0)] (fun s => rec 0 s) ∧ sm_CI (sm_w X) (sm_l X) yX8_term prog_10_method_25_code 2 (some .int) (6 + nn) (191 + nn * 23) [.ref (sm_ad (sm_w X) 0)] (fun s => rec 1 s) ∧ sm_CI (sm_w X) (sm_l X) yX8_added prog_10_method_26_code 4 (some .int) (6 + nn) (191 + nn * 23) [.ref (sm_ad (sm_w X) 0)] (fun s => rec 2 s) ∧ sm_CI (sm_w X) (sm_l X) yX8_not prog_10_method_27_code 4 (some .int) (6 + nn) (191 + nn * 23) [.ref (sm_ad (sm_w X) 0)] (fun s => rec 3 s) ∧ sm_CI (sm_w X) (sm_l X) yX8_both prog_10_method_28_code 3 (some .int) (6 + nn) (191 + nn * 23) [.ref (sm_ad (sm_w X) 0)] (fun s => rec 4 s) ∧ sm_CI (sm_w X) (sm_l X) yX8_either prog_10_method_29_code 3 (some .int) (6 + nn) (191 + nn * 23) [.ref (sm_ad (sm_w X) 0)] (fun s => rec 5 s))   : ∀ (n : Nat) (s0 : sm_St) (l1 : Int32) , mf_X8_either_p5 rec n s0 l1 = some R → sm_V X (sm_QI X R) 3 s0 5 [(0, .ref (sm_ad (sm_w X) 0)), (1, .int l1)] [] := by
  intro n
  induction n with
  | zero =>
    intro s0 l1 h
    have h : (none : Option (Int32 × sm_St)) = some R := h
    cases h
  | succ n ih =>
    intro s0 l1 h
    unfold mf_X8_either_p5 at h
    refine sm_aload_n C 0 dX8_either_5 rfl rfl ?_
    refine sm_bipush (v := 111) C dX8_either_6 (by decide) ?_
    refine sm_bipush (v := 114) C dX8_either_8 (by decide) ?_
    refine sm_iconst (v := 0) C dX8_either_10 (by decide) ?_
    refine sm_iconst (v := 0) C dX8_either_11 (by decide) ?_
    refine sm_iconst (v := 0) C dX8_either_12 (by decide) ?_
    refine sm_iconst (v := 0) C dX8_either_13 (by decide) ?_
    refine sm_iconst (v := 0) C dX8_either_14 (by decide) ?_
    refine sm_iconst (v := 0) C dX8_either_15 (by decide) ?_
    refine sm_callVI (k := 0) C [.int (111 : Int32), .int (114 : Int32), .int (0 : Int32), .int (0 : Int32), .int (0 : Int32), .int (0 : Int32), .int (0 : Int32), .int (0 : Int32)] (mc_X8_isWord hw (111 : Int32) (114 : Int32) (0 : Int32) (0 : Int32) (0 : Int32) (0 : Int32) (0 : Int32) (0 : Int32)) gm_X8_isWord gl_M_204 gi_X8_isWord ge_X8_isWord (mob_M hw rfl) rfl ⟨by omega, by omega⟩ rfl (Nat.le_of_ble_eq_true rfl) dX8_either_16 h (fun v1 s2 h => ?_)
    refine sm_if_eq C 48 dX8_either_19 (by decide) h (fun h => ?_) (fun h => ?_)
    · refine sm_iload_n C 1 dX8_either_48 rfl rfl ?_
      exact sm_iret C dX8_either_49 h
    · refine sm_aload_n C 0 dX8_either_22 rfl rfl ?_
      refine sm_callVV (k := 0) C [] (mc_X8_next hw) gm_X8_next gl_M_201 gi_X8_next ge_X8_next (mob_M hw rfl) rfl ⟨by omega, by omega⟩ rfl (Nat.le_of_ble_eq_true rfl) dX8_either_23 h (fun v3 s4 h => ?_)
      refine sm_aload_n C 0 dX8_either_26 rfl rfl ?_
      refine sm_callVI (k := 0) C [] (hrec.2.2.2.2.1) gm_X8_both gl_M_256 gi_X8_both ge_X8_both (mob_M hw rfl) rfl ⟨by omega, by omega⟩ rfl (Nat.le_of_ble_eq_true rfl) dX8_either_27 h (fun v5 s6 h => ?_)
      refine sm_istore_n (lv' := [(2, .int v5), (0, .ref (sm_ad (sm_w X) 0)), (1, .int l1)]) C dX8_either_30 rfl (by decide) rfl ?_
      refine sm_iload_n C 2 dX8_either_31 rfl rfl ?_
      refine sm_if_ne C 39 dX8_either_32 (by decide) h (fun h => ?_) (fun h => ?_)
      · refine sm_sub (lv' := [(0, .ref (sm_ad (sm_w X) 0))]) [1] rfl ?_
        exact mk_X8_either_p39 C hw hrec ih s6 h
      · refine sm_iload_n C 0 dX8_either_35 rfl rfl ?_
        refine sm_if_eq C 43 dX8_either_36 (by decide) h (fun h => ?_) (fun h => ?_)
        · refine sm_iconst (v := 0) C dX8_either_43 (by decide) ?_
          refine sm_sub (lv' := [(0, .ref (sm_ad (sm_w X) 0))]) [1] rfl ?_
          exact mk_X8_either_p44 C hw hrec ih s6 (0 : Int32) h
        · refine sm_sub (lv' := [(0, .ref (sm_ad (sm_w X) 0))]) [1] rfl ?_
          exact mk_X8_either_p39 C hw hrec ih s6 h
set_option maxRecDepth 4000 in
theorem mc_X8_either_open {w : sm_WD} {l : Launch} (hw : mo_is w) {nn : Nat} (rec : Nat → sm_St → Option (Int32 × sm_St))  (hrec : sm_CI w l yX8_atom prog_10_method_24_code 2 (some .int) (6 + nn) (191 + nn * 23) [.ref (sm_ad w 0)] (fun s => rec 0 s) ∧ sm_CI w l yX8_term prog_10_method_25_code 2 (some .int) (6 + nn) (191 + nn * 23) [.ref (sm_ad w 0)] (fun s => rec 1 s) ∧ sm_CI w l yX8_added prog_10_method_26_code 4 (some .int) (6 + nn) (191 + nn * 23) [.ref (sm_ad w 0)] (fun s => rec 2 s) ∧ sm_CI w l yX8_not prog_10_method_27_code 4 (some .int) (6 + nn) (191 + nn * 23) [.ref (sm_ad w 0)] (fun s => rec 3 s) ∧ sm_CI w l yX8_both prog_10_method_28_code 3 (some .int) (6 + nn) (191 + nn * 23) [.ref (sm_ad w 0)] (fun s => rec 4 s) ∧ sm_CI w l yX8_either prog_10_method_29_code 3 (some .int) (6 + nn) (191 + nn * 23) [.ref (sm_ad w 0)] (fun s => rec 5 s)) : sm_CI w l yX8_either prog_10_method_29_code 3 (some .int) (6 + (nn + 1)) (191 + (nn + 1) * 23) [.ref (sm_ad w 0)] (fun s => mf_X8_either rec s) := by
  refine sm_CI.of (by decide +kernel) (Nat.le_of_ble_eq_true rfl) (fun X s0 R hXw hXl C h => ?_)
  subst hXw
  subst hXl
  have h : mf_X8_either rec s0 = some R := h
  show sm_V X (sm_QI X R) 3 s0 0 [(0, .ref (sm_ad (sm_w X) 0))] []
  unfold mf_X8_either at h
  refine sm_aload_n C 0 dX8_either_0 rfl rfl ?_
  refine sm_callVI (k := 0) C [] (hrec.2.2.2.2.1) gm_X8_both gl_M_256 gi_X8_both ge_X8_both (mob_M hw rfl) rfl ⟨by omega, by omega⟩ rfl (Nat.le_of_ble_eq_true rfl) dX8_either_1 h (fun v1 s2 h => ?_)
  refine sm_istore_n (lv' := [(1, .int v1), (0, .ref (sm_ad (sm_w X) 0))]) C dX8_either_4 rfl (by decide) rfl ?_
  refine sm_sub (lv' := [(0, .ref (sm_ad (sm_w X) 0)), (1, .int v1)]) [1, 0] rfl ?_
  exact mk_X8_either_p5 C hw hrec sm_F s2 v1 h
noncomputable def mg_parse : Nat → Nat → sm_St → Option (Int32 × sm_St)
  | 0, _, _ => none
  | n + 1, 0, s => mf_X8_atom (mg_parse n) s
  | n + 1, 1, s => mf_X8_term (mg_parse n) s
  | n + 1, 2, s => mf_X8_added (mg_parse n) s
  | n + 1, 3, s => mf_X8_not (mg_parse n) s
  | n + 1, 4, s => mf_X8_both (mg_parse n) s
  | n + 1, 5, s => mf_X8_either (mg_parse n) s
  | _ + 1, _, _ => none
set_option maxRecDepth 4000 in
theorem mc_parse {w : sm_WD} {l : Launch} (hw : mo_is w) : ∀ n : Nat, sm_CI w l yX8_atom prog_10_method_24_code 2 (some .int) (6 + n) (191 + n * 23) [.ref (sm_ad w 0)] (fun s => mg_parse n 0 s) ∧ sm_CI w l yX8_term prog_10_method_25_code 2 (some .int) (6 + n) (191 + n * 23) [.ref (sm_ad w 0)] (fun s => mg_parse n 1 s) ∧ sm_CI w l yX8_added prog_10_method_26_code 4 (some .int) (6 + n) (191 + n * 23) [.ref (sm_ad w 0)] (fun s => mg_parse n 2 s) ∧ sm_CI w l yX8_not prog_10_method_27_code 4 (some .int) (6 + n) (191 + n * 23) [.ref (sm_ad w 0)] (fun s => mg_parse n 3 s) ∧ sm_CI w l yX8_both prog_10_method_28_code 3 (some .int) (6 + n) (191 + n * 23) [.ref (sm_ad w 0)] (fun s => mg_parse n 4 s) ∧ sm_CI w l yX8_either prog_10_method_29_code 3 (some .int) (6 + n) (191 + n * 23) [.ref (sm_ad w 0)] (fun s => mg_parse n 5 s) := by
  intro n
  induction n with
  | zero =>
    refine ⟨?_, ?_, ?_, ?_, ?_, ?_⟩ <;> (intro σ R h; cases h)
  | succ n ih =>
    exact ⟨mc_X8_atom_open hw (mg_parse n) ih, mc_X8_term_open hw (mg_parse n) ih, mc_X8_added_open hw (mg_parse n) ih, mc_X8_not_open hw (mg_parse n) ih, mc_X8_both_open hw (mg_parse n) ih, mc_X8_either_open hw (mg_parse n) ih⟩
noncomputable def mf_X8_atom_r (s : sm_St) : Option (Int32 × sm_St) := mg_parse 64 0 s
set_option maxRecDepth 4000 in
theorem mc_X8_atom {w : sm_WD} {l : Launch} (hw : mo_is w) : sm_CI w l yX8_atom prog_10_method_24_code 2 (some .int) (6 + 64) (191 + 64 * 23) [.ref (sm_ad w 0)] (fun s => mf_X8_atom_r s) := (mc_parse hw 64).1
noncomputable def mf_X8_term_r (s : sm_St) : Option (Int32 × sm_St) := mg_parse 64 1 s
set_option maxRecDepth 4000 in
theorem mc_X8_term {w : sm_WD} {l : Launch} (hw : mo_is w) : sm_CI w l yX8_term prog_10_method_25_code 2 (some .int) (6 + 64) (191 + 64 * 23) [.ref (sm_ad w 0)] (fun s => mf_X8_term_r s) := (mc_parse hw 64).2.1
noncomputable def mf_X8_added_r (s : sm_St) : Option (Int32 × sm_St) := mg_parse 64 2 s
set_option maxRecDepth 4000 in
theorem mc_X8_added {w : sm_WD} {l : Launch} (hw : mo_is w) : sm_CI w l yX8_added prog_10_method_26_code 4 (some .int) (6 + 64) (191 + 64 * 23) [.ref (sm_ad w 0)] (fun s => mf_X8_added_r s) := (mc_parse hw 64).2.2.1
noncomputable def mf_X8_not_r (s : sm_St) : Option (Int32 × sm_St) := mg_parse 64 3 s
set_option maxRecDepth 4000 in
theorem mc_X8_not {w : sm_WD} {l : Launch} (hw : mo_is w) : sm_CI w l yX8_not prog_10_method_27_code 4 (some .int) (6 + 64) (191 + 64 * 23) [.ref (sm_ad w 0)] (fun s => mf_X8_not_r s) := (mc_parse hw 64).2.2.2.1
noncomputable def mf_X8_both_r (s : sm_St) : Option (Int32 × sm_St) := mg_parse 64 4 s
set_option maxRecDepth 4000 in
theorem mc_X8_both {w : sm_WD} {l : Launch} (hw : mo_is w) : sm_CI w l yX8_both prog_10_method_28_code 3 (some .int) (6 + 64) (191 + 64 * 23) [.ref (sm_ad w 0)] (fun s => mf_X8_both_r s) := (mc_parse hw 64).2.2.2.2.1
noncomputable def mf_X8_either_r (s : sm_St) : Option (Int32 × sm_St) := mg_parse 64 5 s
set_option maxRecDepth 4000 in
theorem mc_X8_either {w : sm_WD} {l : Launch} (hw : mo_is w) : sm_CI w l yX8_either prog_10_method_29_code 3 (some .int) (6 + 64) (191 + 64 * 23) [.ref (sm_ad w 0)] (fun s => mf_X8_either_r s) := (mc_parse hw 64).2.2.2.2.2
noncomputable def mf_X8_part_p48 (a1 : Int32) (s0 : sm_St) (l2 : Int32) : Option (Int32 × sm_St) :=
  sm_b (s0.1 0 29) fun v1 =>
  if v1 = 0 then (
  sm_c (mf_X8_next s0) fun _ s3 =>
  some (l2, s3))
  else (
  some (l2, s0))
noncomputable def mf_X8_part_p34 (a1 : Int32) (s0 : sm_St) (t0 : Int32) : Option (Int32 × sm_St) :=
  sm_c (mf_X8_isSign (59 : Int32) s0) fun v1 s2 =>
  if v1 = 0 then (
  sm_c (mf_X8_fail s2) fun _ s4 =>
  mf_X8_part_p48 a1 s4 t0)
  else (
  mf_X8_part_p48 a1 s2 t0)
noncomputable def mf_X8_part_p19 (a1 : Int32) (s0 : sm_St) : Option (Int32 × sm_St) :=
  sm_b (s0.1 0 29) fun v1 =>
  if v1 = 0 then (
  sm_c (mf_X8_either_r s0) fun v2 s3 =>
  mf_X8_part_p34 a1 s3 v2)
  else (
  mf_X8_part_p34 a1 s0 (0 : Int32))
noncomputable def mf_X8_part_p8 (a1 : Int32) (s0 : sm_St) : Option (Int32 × sm_St) :=
  sm_b (s0.1 0 29) fun v1 =>
  if v1 = 0 then (
  sm_c (mf_X8_next s0) fun _ s3 =>
  mf_X8_part_p19 a1 s3)
  else (
  mf_X8_part_p19 a1 s0)
noncomputable def mf_X8_part (a1 : Int32) (s0 : sm_St) : Option (Int32 × sm_St) :=
  if a1 = 0 then (
  sm_c (mf_X8_fail s0) fun _ s2 =>
  mf_X8_part_p8 a1 s2)
  else (
  mf_X8_part_p8 a1 s0)
set_option maxRecDepth 4000 in
theorem mk_X8_part_p48 {X : sm_VC} (C : sm_Cx X prog_10_method_30_code 3 "SmokeGoesToModel" 71 1685 (some .int)) (hw : mo_is (sm_w X)) {a1 : Int32}  {R : Int32 × sm_St}   (s0 : sm_St) (l2 : Int32)  (h : mf_X8_part_p48 a1 s0 l2 = some R) : sm_V X (sm_QI X R) 3 s0 48 [(0, .ref (sm_ad (sm_w X) 0)), (2, .int l2)] [] := by
  unfold mf_X8_part_p48 at h
  refine sm_aload_n C 0 dX8_part_48 rfl rfl ?_
  refine mr_M_bad C hw (k := 0) rfl gf_M_185 dX8_part_49 h (fun v1 h => ?_)
  refine sm_if_ne C 59 dX8_part_52 (by decide) h (fun h => ?_) (fun h => ?_)
  · refine sm_iload_n C 1 dX8_part_59 rfl rfl ?_
    exact sm_iret C dX8_part_60 h
  · refine sm_aload_n C 0 dX8_part_55 rfl rfl ?_
    refine sm_callVV (k := 0) C [] (mc_X8_next hw) gm_X8_next gl_M_201 gi_X8_next ge_X8_next (mob_M hw rfl) rfl ⟨Nat.le_of_ble_eq_true rfl, Nat.le_of_ble_eq_true rfl⟩ rfl (Nat.le_of_ble_eq_true rfl) dX8_part_56 h (fun v2 s3 h => ?_)
    refine sm_iload_n C 1 dX8_part_59 rfl rfl ?_
    exact sm_iret C dX8_part_60 h
set_option maxRecDepth 4000 in
theorem mk_X8_part_p34 {X : sm_VC} (C : sm_Cx X prog_10_method_30_code 3 "SmokeGoesToModel" 71 1685 (some .int)) (hw : mo_is (sm_w X)) {a1 : Int32}  {R : Int32 × sm_St}   (s0 : sm_St) (t0 : Int32)  (h : mf_X8_part_p34 a1 s0 t0 = some R) : sm_V X (sm_QI X R) 3 s0 34 [(0, .ref (sm_ad (sm_w X) 0))] [.int t0] := by
  unfold mf_X8_part_p34 at h
  refine sm_istore_n (lv' := [(2, .int t0), (0, .ref (sm_ad (sm_w X) 0))]) C dX8_part_34 rfl (by decide) rfl ?_
  refine sm_aload_n C 1 dX8_part_35 rfl rfl ?_
  refine sm_bipush (v := 59) C dX8_part_36 (by decide) ?_
  refine sm_callVI (k := 0) C [.int (59 : Int32)] (mc_X8_isSign hw (59 : Int32)) gm_X8_isSign gl_M_226 gi_X8_isSign ge_X8_isSign (mob_M hw rfl) rfl ⟨Nat.le_of_ble_eq_true rfl, Nat.le_of_ble_eq_true rfl⟩ rfl (Nat.le_of_ble_eq_true rfl) dX8_part_38 h (fun v1 s2 h => ?_)
  refine sm_if_ne C 48 dX8_part_41 (by decide) h (fun h => ?_) (fun h => ?_)
  · refine sm_sub (lv' := [(0, .ref (sm_ad (sm_w X) 0)), (2, .int t0)]) [1, 0] rfl ?_
    exact mk_X8_part_p48 C hw s2 t0 h
  · refine sm_aload_n C 1 dX8_part_44 rfl rfl ?_
    refine sm_callVV (k := 0) C [] (mc_X8_fail hw) gm_X8_fail gl_M_198 gi_X8_fail ge_X8_fail (mob_M hw rfl) rfl ⟨Nat.le_of_ble_eq_true rfl, Nat.le_of_ble_eq_true rfl⟩ rfl (Nat.le_of_ble_eq_true rfl) dX8_part_45 h (fun v3 s4 h => ?_)
    refine sm_sub (lv' := [(0, .ref (sm_ad (sm_w X) 0)), (2, .int t0)]) [1, 0] rfl ?_
    exact mk_X8_part_p48 C hw s4 t0 h
set_option maxRecDepth 4000 in
theorem mk_X8_part_p19 {X : sm_VC} (C : sm_Cx X prog_10_method_30_code 3 "SmokeGoesToModel" 71 1685 (some .int)) (hw : mo_is (sm_w X)) {a1 : Int32}  {R : Int32 × sm_St}   (s0 : sm_St)   (h : mf_X8_part_p19 a1 s0 = some R) : sm_V X (sm_QI X R) 3 s0 19 [(0, .ref (sm_ad (sm_w X) 0))] [] := by
  unfold mf_X8_part_p19 at h
  refine sm_aload_n C 0 dX8_part_19 rfl rfl ?_
  refine mr_M_bad C hw (k := 0) rfl gf_M_185 dX8_part_20 h (fun v1 h => ?_)
  refine sm_if_eq C 30 dX8_part_23 (by decide) h (fun h => ?_) (fun h => ?_)
  · refine sm_aload_n C 0 dX8_part_30 rfl rfl ?_
    refine sm_callVI (k := 0) C [] (mc_X8_either hw) gm_X8_either gl_M_237 gi_X8_either ge_X8_either (mob_M hw rfl) rfl ⟨Nat.le_of_ble_eq_true rfl, Nat.le_of_ble_eq_true rfl⟩ rfl (Nat.le_of_ble_eq_true rfl) dX8_part_31 h (fun v2 s3 h => ?_)
    exact mk_X8_part_p34 C hw s3 v2 h
  · refine sm_iconst (v := 0) C dX8_part_26 (by decide) ?_
    refine sm_goto C 34 dX8_part_27 (by decide) ?_
    exact mk_X8_part_p34 C hw s0 (0 : Int32) h
set_option maxRecDepth 4000 in
theorem mk_X8_part_p8 {X : sm_VC} (C : sm_Cx X prog_10_method_30_code 3 "SmokeGoesToModel" 71 1685 (some .int)) (hw : mo_is (sm_w X)) {a1 : Int32}  {R : Int32 × sm_St}   (s0 : sm_St)   (h : mf_X8_part_p8 a1 s0 = some R) : sm_V X (sm_QI X R) 3 s0 8 [(0, .ref (sm_ad (sm_w X) 0))] [] := by
  unfold mf_X8_part_p8 at h
  refine sm_aload_n C 0 dX8_part_8 rfl rfl ?_
  refine mr_M_bad C hw (k := 0) rfl gf_M_185 dX8_part_9 h (fun v1 h => ?_)
  refine sm_if_ne C 19 dX8_part_12 (by decide) h (fun h => ?_) (fun h => ?_)
  · exact mk_X8_part_p19 C hw s0 h
  · refine sm_aload_n C 0 dX8_part_15 rfl rfl ?_
    refine sm_callVV (k := 0) C [] (mc_X8_next hw) gm_X8_next gl_M_201 gi_X8_next ge_X8_next (mob_M hw rfl) rfl ⟨Nat.le_of_ble_eq_true rfl, Nat.le_of_ble_eq_true rfl⟩ rfl (Nat.le_of_ble_eq_true rfl) dX8_part_16 h (fun v2 s3 h => ?_)
    exact mk_X8_part_p19 C hw s3 h
set_option maxRecDepth 4000 in
theorem mc_X8_part {w : sm_WD} {l : Launch} (hw : mo_is w) (a1 : Int32) : sm_CI w l yX8_part prog_10_method_30_code 3 (some .int) 71 1685 [.ref (sm_ad w 0), .int a1] (fun s => mf_X8_part a1 s) := by
  refine sm_CI.of (by decide +kernel) (Nat.le_of_ble_eq_true rfl) (fun X s0 R hXw hXl C h => ?_)
  subst hXw
  subst hXl
  have h : mf_X8_part a1 s0 = some R := h
  show sm_V X (sm_QI X R) 3 s0 0 [(0, .ref (sm_ad (sm_w X) 0)), (1, .int a1)] []
  unfold mf_X8_part at h
  refine sm_iload_n C 1 dX8_part_0 rfl rfl ?_
  refine sm_if_ne C 8 dX8_part_1 (by decide) h (fun h => ?_) (fun h => ?_)
  · refine sm_sub (lv' := [(0, .ref (sm_ad (sm_w X) 0))]) [0] rfl ?_
    exact mk_X8_part_p8 C hw s0 h
  · refine sm_aload_n C 0 dX8_part_4 rfl rfl ?_
    refine sm_callVV (k := 0) C [] (mc_X8_fail hw) gm_X8_fail gl_M_198 gi_X8_fail ge_X8_fail (mob_M hw rfl) rfl ⟨Nat.le_of_ble_eq_true rfl, Nat.le_of_ble_eq_true rfl⟩ rfl (Nat.le_of_ble_eq_true rfl) dX8_part_5 h (fun v1 s2 h => ?_)
    refine sm_sub (lv' := [(0, .ref (sm_ad (sm_w X) 0))]) [0] rfl ?_
    exact mk_X8_part_p8 C hw s2 h
noncomputable def mf_X8_read_p145 (a1 : Int32) (a2 : Int32) (s0 : sm_St) (l3 : Int32) (l4 : Int32) (l5 : Int32) : Option (Int32 × sm_St) :=
  if a2 = 0 then (
  some (l3, s0))
  else (
  if a2 = (1 : Int32) then (
  some (l4, s0))
  else (
  some (l5, s0)))
noncomputable def mf_X8_read_p125 (a1 : Int32) (a2 : Int32) (s0 : sm_St) (l3 : Int32) (l4 : Int32) (t0 : Int32) : Option (Int32 × sm_St) :=
  sm_b (s0.1 0 29) fun v1 =>
  if v1 = 0 then (
  sm_b (s0.1 0 25) fun v2 =>
  if v2 = 0 then (
  mf_X8_read_p145 a1 a2 s0 l3 l4 t0)
  else (
  sm_c (mf_X8_fail s0) fun _ s4 =>
  mf_X8_read_p145 a1 a2 s4 l3 l4 t0))
  else (
  mf_X8_read_p145 a1 a2 s0 l3 l4 t0)
noncomputable def mf_X8_read_p92 (a1 : Int32) (a2 : Int32) (s0 : sm_St) (l3 : Int32) (t0 : Int32) : Option (Int32 × sm_St) :=
  sm_b (s0.1 0 29) fun v1 =>
  if v1 = 0 then (
  sm_c (mf_X8_isWord (104 : Int32) (101 : Int32) (97 : Int32) (116 : Int32) (0 : Int32) (0 : Int32) (0 : Int32) (0 : Int32) s0) fun v2 s3 =>
  sm_c (mf_X8_part v2 s3) fun v4 s5 =>
  mf_X8_read_p125 a1 a2 s5 l3 t0 v4)
  else (
  mf_X8_read_p125 a1 a2 s0 l3 t0 (0 : Int32))
noncomputable def mf_X8_read (a1 : Int32) (a2 : Int32) (s0 : sm_St) : Option (Int32 × sm_St) :=
  sm_b ((160 : Int32) * a1) fun v1 =>
  sm_b (sm_sI s0 0 22 v1) fun s2 =>
  sm_g (sm_in a1 6) <| sm_b (s2.1 2 a1.toNatClampNeg) fun v3 =>
  sm_b (sm_sI s2 0 23 v3) fun s4 =>
  sm_b (sm_sI s4 0 24 (0 : Int32)) fun s5 =>
  sm_b (sm_sI s5 0 28 (0 : Int32)) fun s6 =>
  sm_b (sm_sI s6 0 29 (0 : Int32)) fun s7 =>
  sm_c (mf_X8_next s7) fun _ s9 =>
  sm_c (mf_X8_isWord (98 : Int32) (101 : Int32) (97 : Int32) (114 : Int32) (115 : Int32) (0 : Int32) (0 : Int32) (0 : Int32) s9) fun v10 s11 =>
  sm_c (mf_X8_part v10 s11) fun v12 s13 =>
  sm_b (s13.1 0 29) fun v14 =>
  if v14 = 0 then (
  sm_c (mf_X8_isWord (109 : Int32) (111 : Int32) (118 : Int32) (101 : Int32) (115 : Int32) (0 : Int32) (0 : Int32) (0 : Int32) s13) fun v15 s16 =>
  sm_c (mf_X8_part v15 s16) fun v17 s18 =>
  mf_X8_read_p92 a1 a2 s18 v12 v17)
  else (
  mf_X8_read_p92 a1 a2 s13 v12 (0 : Int32))
set_option maxRecDepth 4000 in
theorem mk_X8_read_p145 {X : sm_VC} (C : sm_Cx X prog_10_method_31_code 6 "SmokeGoesToModel" 72 1707 (some .int)) (hw : mo_is (sm_w X)) {a1 : Int32} {a2 : Int32}  {R : Int32 × sm_St}   (s0 : sm_St) (l3 : Int32) (l4 : Int32) (l5 : Int32)  (h : mf_X8_read_p145 a1 a2 s0 l3 l4 l5 = some R) : sm_V X (sm_QI X R) 6 s0 145 [(2, .int a2), (3, .int l3), (4, .int l4), (5, .int l5)] [] := by
  unfold mf_X8_read_p145 at h
  refine sm_iload_n C 0 dX8_read_145 rfl rfl ?_
  refine sm_if_ne C 153 dX8_read_146 (by decide) h (fun h => ?_) (fun h => ?_)
  · refine sm_iload_n C 0 dX8_read_153 rfl rfl ?_
    refine sm_iconst (v := 1) C dX8_read_154 (by decide) ?_
    refine sm_icmp_ne C 163 dX8_read_155 (by decide) h (fun h => ?_) (fun h => ?_)
    · refine sm_iload C 3 dX8_read_163 rfl ?_
      exact sm_iret C dX8_read_165 h
    · refine sm_iload C 2 dX8_read_158 rfl ?_
      refine sm_goto C 165 dX8_read_160 (by decide) ?_
      exact sm_iret C dX8_read_165 h
  · refine sm_iload_n C 1 dX8_read_149 rfl rfl ?_
    refine sm_goto C 165 dX8_read_150 (by decide) ?_
    exact sm_iret C dX8_read_165 h
set_option maxRecDepth 4000 in
theorem mk_X8_read_p125 {X : sm_VC} (C : sm_Cx X prog_10_method_31_code 6 "SmokeGoesToModel" 72 1707 (some .int)) (hw : mo_is (sm_w X)) {a1 : Int32} {a2 : Int32}  {R : Int32 × sm_St}   (s0 : sm_St) (l3 : Int32) (l4 : Int32) (t0 : Int32)  (h : mf_X8_read_p125 a1 a2 s0 l3 l4 t0 = some R) : sm_V X (sm_QI X R) 6 s0 125 [(0, .ref (sm_ad (sm_w X) 0)), (2, .int a2), (3, .int l3), (4, .int l4)] [.int t0] := by
  unfold mf_X8_read_p125 at h
  refine sm_istore (lv' := [(5, .int t0), (0, .ref (sm_ad (sm_w X) 0)), (2, .int a2), (3, .int l3), (4, .int l4)]) C dX8_read_125 (by decide) rfl ?_
  refine sm_aload_n C 1 dX8_read_127 rfl rfl ?_
  refine mr_M_bad C hw (k := 0) rfl gf_M_185 dX8_read_128 h (fun v1 h => ?_)
  refine sm_if_ne C 145 dX8_read_131 (by decide) h (fun h => ?_) (fun h => ?_)
  · refine sm_sub (lv' := [(2, .int a2), (3, .int l3), (4, .int l4), (5, .int t0)]) [2, 3, 4, 0] rfl ?_
    exact mk_X8_read_p145 C hw s0 l3 l4 t0 h
  · refine sm_aload_n C 1 dX8_read_134 rfl rfl ?_
    refine mr_M_token C hw (k := 0) rfl gf_M_168 dX8_read_135 h (fun v2 h => ?_)
    refine sm_if_eq C 145 dX8_read_138 (by decide) h (fun h => ?_) (fun h => ?_)
    · refine sm_sub (lv' := [(2, .int a2), (3, .int l3), (4, .int l4), (5, .int t0)]) [2, 3, 4, 0] rfl ?_
      exact mk_X8_read_p145 C hw s0 l3 l4 t0 h
    · refine sm_aload_n C 1 dX8_read_141 rfl rfl ?_
      refine sm_callVV (k := 0) C [] (mc_X8_fail hw) gm_X8_fail gl_M_198 gi_X8_fail ge_X8_fail (mob_M hw rfl) rfl ⟨Nat.le_of_ble_eq_true rfl, Nat.le_of_ble_eq_true rfl⟩ rfl (Nat.le_of_ble_eq_true rfl) dX8_read_142 h (fun v3 s4 h => ?_)
      refine sm_sub (lv' := [(2, .int a2), (3, .int l3), (4, .int l4), (5, .int t0)]) [2, 3, 4, 0] rfl ?_
      exact mk_X8_read_p145 C hw s4 l3 l4 t0 h
set_option maxRecDepth 4000 in
theorem mk_X8_read_p92 {X : sm_VC} (C : sm_Cx X prog_10_method_31_code 6 "SmokeGoesToModel" 72 1707 (some .int)) (hw : mo_is (sm_w X)) {a1 : Int32} {a2 : Int32}  {R : Int32 × sm_St}   (s0 : sm_St) (l3 : Int32) (t0 : Int32)  (h : mf_X8_read_p92 a1 a2 s0 l3 t0 = some R) : sm_V X (sm_QI X R) 6 s0 92 [(0, .ref (sm_ad (sm_w X) 0)), (2, .int a2), (3, .int l3)] [.int t0] := by
  unfold mf_X8_read_p92 at h
  refine sm_istore (lv' := [(4, .int t0), (0, .ref (sm_ad (sm_w X) 0)), (2, .int a2), (3, .int l3)]) C dX8_read_92 (by decide) rfl ?_
  refine sm_aload_n C 1 dX8_read_94 rfl rfl ?_
  refine mr_M_bad C hw (k := 0) rfl gf_M_185 dX8_read_95 h (fun v1 h => ?_)
  refine sm_if_eq C 105 dX8_read_98 (by decide) h (fun h => ?_) (fun h => ?_)
  · refine sm_aload_n C 1 dX8_read_105 rfl rfl ?_
    refine sm_aload_n C 1 dX8_read_106 rfl rfl ?_
    refine sm_bipush (v := 104) C dX8_read_107 (by decide) ?_
    refine sm_bipush (v := 101) C dX8_read_109 (by decide) ?_
    refine sm_bipush (v := 97) C dX8_read_111 (by decide) ?_
    refine sm_bipush (v := 116) C dX8_read_113 (by decide) ?_
    refine sm_iconst (v := 0) C dX8_read_115 (by decide) ?_
    refine sm_iconst (v := 0) C dX8_read_116 (by decide) ?_
    refine sm_iconst (v := 0) C dX8_read_117 (by decide) ?_
    refine sm_iconst (v := 0) C dX8_read_118 (by decide) ?_
    refine sm_callVI (k := 0) C [.int (104 : Int32), .int (101 : Int32), .int (97 : Int32), .int (116 : Int32), .int (0 : Int32), .int (0 : Int32), .int (0 : Int32), .int (0 : Int32)] (mc_X8_isWord hw (104 : Int32) (101 : Int32) (97 : Int32) (116 : Int32) (0 : Int32) (0 : Int32) (0 : Int32) (0 : Int32)) gm_X8_isWord gl_M_204 gi_X8_isWord ge_X8_isWord (mob_M hw rfl) rfl ⟨Nat.le_of_ble_eq_true rfl, Nat.le_of_ble_eq_true rfl⟩ rfl (Nat.le_of_ble_eq_true rfl) dX8_read_119 h (fun v2 s3 h => ?_)
    refine sm_callVI (k := 0) C [.int v2] (mc_X8_part hw v2) gm_X8_part gl_M_259 gi_X8_part ge_X8_part (mob_M hw rfl) rfl ⟨Nat.le_of_ble_eq_true rfl, Nat.le_of_ble_eq_true rfl⟩ rfl (Nat.le_of_ble_eq_true rfl) dX8_read_122 h (fun v4 s5 h => ?_)
    refine sm_sub (lv' := [(0, .ref (sm_ad (sm_w X) 0)), (2, .int a2), (3, .int l3), (4, .int t0)]) [1, 2, 3, 0] rfl ?_
    exact mk_X8_read_p125 C hw s5 l3 t0 v4 h
  · refine sm_iconst (v := 0) C dX8_read_101 (by decide) ?_
    refine sm_goto C 125 dX8_read_102 (by decide) ?_
    refine sm_sub (lv' := [(0, .ref (sm_ad (sm_w X) 0)), (2, .int a2), (3, .int l3), (4, .int t0)]) [1, 2, 3, 0] rfl ?_
    exact mk_X8_read_p125 C hw s0 l3 t0 (0 : Int32) h
set_option maxRecDepth 4000 in
theorem mc_X8_read {w : sm_WD} {l : Launch} (hw : mo_is w) (a1 : Int32) (a2 : Int32) : sm_CI w l yX8_read prog_10_method_31_code 6 (some .int) 72 1707 [.ref (sm_ad w 0), .int a1, .int a2] (fun s => mf_X8_read a1 a2 s) := by
  refine sm_CI.of (by decide +kernel) (Nat.le_of_ble_eq_true rfl) (fun X s0 R hXw hXl C h => ?_)
  subst hXw
  subst hXl
  have h : mf_X8_read a1 a2 s0 = some R := h
  show sm_V X (sm_QI X R) 6 s0 0 [(0, .ref (sm_ad (sm_w X) 0)), (1, .int a1), (2, .int a2)] []
  unfold mf_X8_read at h
  refine sm_aload_n C 0 dX8_read_0 rfl rfl ?_
  refine sm_sipush (v := 160) C dX8_read_1 (by decide) ?_
  refine sm_iload_n C 1 dX8_read_4 rfl rfl ?_
  refine sm_imul C dX8_read_5 h (fun v1 h => ?_)
  refine mp_M_from C hw (k := 0) rfl gf_M_156 dX8_read_6 h (fun s2 h => ?_)
  refine sm_aload_n C 0 dX8_read_9 rfl rfl ?_
  refine sm_aload_n C 0 dX8_read_10 rfl rfl ?_
  refine mr_M_textSize C hw (k := 0) rfl gf_M_17 dX8_read_11 ?_
  refine sm_iload_n C 1 dX8_read_14 rfl rfl ?_
  refine ma_iald C hw (k := 2) rfl rfl dX8_read_15 h (fun v3 h => ?_)
  refine mp_M_size C hw (k := 0) rfl gf_M_153 dX8_read_16 h (fun s4 h => ?_)
  refine sm_aload_n C 0 dX8_read_19 rfl rfl ?_
  refine sm_iconst (v := 0) C dX8_read_20 (by decide) ?_
  refine mp_M_here C hw (k := 0) rfl gf_M_159 dX8_read_21 h (fun s5 h => ?_)
  refine sm_aload_n C 0 dX8_read_24 rfl rfl ?_
  refine sm_iconst (v := 0) C dX8_read_25 (by decide) ?_
  refine mp_M_open C hw (k := 0) rfl gf_M_195 dX8_read_26 h (fun s6 h => ?_)
  refine sm_aload_n C 0 dX8_read_29 rfl rfl ?_
  refine sm_iconst (v := 0) C dX8_read_30 (by decide) ?_
  refine mp_M_bad C hw (k := 0) rfl gf_M_185 dX8_read_31 (Or.inl rfl) h (fun s7 h => ?_)
  refine sm_aload_n C 0 dX8_read_34 rfl rfl ?_
  refine sm_callVV (k := 0) C [] (mc_X8_next hw) gm_X8_next gl_M_201 gi_X8_next ge_X8_next (mob_M hw rfl) rfl ⟨Nat.le_of_ble_eq_true rfl, Nat.le_of_ble_eq_true rfl⟩ rfl (Nat.le_of_ble_eq_true rfl) dX8_read_35 h (fun v8 s9 h => ?_)
  refine sm_aload_n C 0 dX8_read_38 rfl rfl ?_
  refine sm_aload_n C 0 dX8_read_39 rfl rfl ?_
  refine sm_bipush (v := 98) C dX8_read_40 (by decide) ?_
  refine sm_bipush (v := 101) C dX8_read_42 (by decide) ?_
  refine sm_bipush (v := 97) C dX8_read_44 (by decide) ?_
  refine sm_bipush (v := 114) C dX8_read_46 (by decide) ?_
  refine sm_bipush (v := 115) C dX8_read_48 (by decide) ?_
  refine sm_iconst (v := 0) C dX8_read_50 (by decide) ?_
  refine sm_iconst (v := 0) C dX8_read_51 (by decide) ?_
  refine sm_iconst (v := 0) C dX8_read_52 (by decide) ?_
  refine sm_callVI (k := 0) C [.int (98 : Int32), .int (101 : Int32), .int (97 : Int32), .int (114 : Int32), .int (115 : Int32), .int (0 : Int32), .int (0 : Int32), .int (0 : Int32)] (mc_X8_isWord hw (98 : Int32) (101 : Int32) (97 : Int32) (114 : Int32) (115 : Int32) (0 : Int32) (0 : Int32) (0 : Int32)) gm_X8_isWord gl_M_204 gi_X8_isWord ge_X8_isWord (mob_M hw rfl) rfl ⟨Nat.le_of_ble_eq_true rfl, Nat.le_of_ble_eq_true rfl⟩ rfl (Nat.le_of_ble_eq_true rfl) dX8_read_53 h (fun v10 s11 h => ?_)
  refine sm_callVI (k := 0) C [.int v10] (mc_X8_part hw v10) gm_X8_part gl_M_259 gi_X8_part ge_X8_part (mob_M hw rfl) rfl ⟨Nat.le_of_ble_eq_true rfl, Nat.le_of_ble_eq_true rfl⟩ rfl (Nat.le_of_ble_eq_true rfl) dX8_read_56 h (fun v12 s13 h => ?_)
  refine sm_istore_n (lv' := [(3, .int v12), (0, .ref (sm_ad (sm_w X) 0)), (1, .int a1), (2, .int a2)]) C dX8_read_59 rfl (by decide) rfl ?_
  refine sm_aload_n C 1 dX8_read_60 rfl rfl ?_
  refine mr_M_bad C hw (k := 0) rfl gf_M_185 dX8_read_61 h (fun v14 h => ?_)
  refine sm_if_eq C 71 dX8_read_64 (by decide) h (fun h => ?_) (fun h => ?_)
  · refine sm_aload_n C 1 dX8_read_71 rfl rfl ?_
    refine sm_aload_n C 1 dX8_read_72 rfl rfl ?_
    refine sm_bipush (v := 109) C dX8_read_73 (by decide) ?_
    refine sm_bipush (v := 111) C dX8_read_75 (by decide) ?_
    refine sm_bipush (v := 118) C dX8_read_77 (by decide) ?_
    refine sm_bipush (v := 101) C dX8_read_79 (by decide) ?_
    refine sm_bipush (v := 115) C dX8_read_81 (by decide) ?_
    refine sm_iconst (v := 0) C dX8_read_83 (by decide) ?_
    refine sm_iconst (v := 0) C dX8_read_84 (by decide) ?_
    refine sm_iconst (v := 0) C dX8_read_85 (by decide) ?_
    refine sm_callVI (k := 0) C [.int (109 : Int32), .int (111 : Int32), .int (118 : Int32), .int (101 : Int32), .int (115 : Int32), .int (0 : Int32), .int (0 : Int32), .int (0 : Int32)] (mc_X8_isWord hw (109 : Int32) (111 : Int32) (118 : Int32) (101 : Int32) (115 : Int32) (0 : Int32) (0 : Int32) (0 : Int32)) gm_X8_isWord gl_M_204 gi_X8_isWord ge_X8_isWord (mob_M hw rfl) rfl ⟨Nat.le_of_ble_eq_true rfl, Nat.le_of_ble_eq_true rfl⟩ rfl (Nat.le_of_ble_eq_true rfl) dX8_read_86 h (fun v15 s16 h => ?_)
    refine sm_callVI (k := 0) C [.int v15] (mc_X8_part hw v15) gm_X8_part gl_M_259 gi_X8_part ge_X8_part (mob_M hw rfl) rfl ⟨Nat.le_of_ble_eq_true rfl, Nat.le_of_ble_eq_true rfl⟩ rfl (Nat.le_of_ble_eq_true rfl) dX8_read_89 h (fun v17 s18 h => ?_)
    refine sm_sub (lv' := [(0, .ref (sm_ad (sm_w X) 0)), (2, .int a2), (3, .int v12)]) [1, 3, 0] rfl ?_
    exact mk_X8_read_p92 C hw s18 v12 v17 h
  · refine sm_iconst (v := 0) C dX8_read_67 (by decide) ?_
    refine sm_goto C 92 dX8_read_68 (by decide) ?_
    refine sm_sub (lv' := [(0, .ref (sm_ad (sm_w X) 0)), (2, .int a2), (3, .int v12)]) [1, 3, 0] rfl ?_
    exact mk_X8_read_p92 C hw s13 v12 (0 : Int32) h
