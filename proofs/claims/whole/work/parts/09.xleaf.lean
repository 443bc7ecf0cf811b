/-! 09.xleaf: pure words by program, and their contracts -/
noncomputable def xf_X7_isPlace (a1 : Int32) (s0 : sm_St) : Option (Int32 × sm_St) :=
  if a1 < 0 then (
  some ((0 : Int32), s0))
  else (
  if (8 : Int32) ≤ a1 then (
  some ((0 : Int32), s0))
  else (
  some ((1 : Int32), s0)))
set_option maxRecDepth 4000 in
theorem xc_X7_isPlace {w : sm_WD} {l : Launch} (hw : xo_is w) (a1 : Int32) : sm_CI w l yX7_isPlace prog_1_method_47_code 1 (some .boolean) 2 100 [.int a1] (fun s => xf_X7_isPlace a1 s) := by
  refine sm_CI.of (by decide +kernel) (Nat.le_of_ble_eq_true rfl) (fun X s0 R hXw hXl C h => ?_)
  subst hXw
  subst hXl
  have h : xf_X7_isPlace a1 s0 = some R := h
  show sm_V X (sm_QI X R) 1 s0 0 [(0, .int a1)] []
  unfold xf_X7_isPlace at h
  refine sm_iload_n C 0 dX7_isPlace_0 rfl rfl ?_
  refine sm_if_lt C 14 dX7_isPlace_1 (by decide) h (fun h => ?_) (fun h => ?_)
  · refine sm_iconst (v := 0) C dX7_isPlace_14 (by decide) ?_
    exact sm_zretK C rfl dX7_isPlace_15 h
  · refine sm_iload_n C 0 dX7_isPlace_4 rfl rfl ?_
    refine sm_bipush (v := 8) C dX7_isPlace_5 (by decide) ?_
    refine sm_icmp_ge C 14 dX7_isPlace_7 (by decide) h (fun h => ?_) (fun h => ?_)
    · refine sm_iconst (v := 0) C dX7_isPlace_14 (by decide) ?_
      exact sm_zretK C rfl dX7_isPlace_15 h
    · refine sm_iconst (v := 1) C dX7_isPlace_10 (by decide) ?_
      refine sm_goto C 15 dX7_isPlace_11 (by decide) ?_
      exact sm_zretK C rfl dX7_isPlace_15 h
noncomputable def xf_X0_has (k : Nat) (a1 : Int32) (s0 : sm_St) : Option (Int32 × sm_St) :=
  if a1 < 0 then (
  some ((0 : Int32), s0))
  else (
  sm_b (s0.1 k 6) fun v1 =>
  if v1 ≤ a1 then (
  some ((0 : Int32), s0))
  else (
  some ((1 : Int32), s0)))
set_option maxRecDepth 4000 in
theorem xc_X0_has {w : sm_WD} {l : Launch} (hw : xo_is w) (k : Nat) (a1 : Int32) (hk : xo_tag k = 1) : sm_CI w l yX0_has prog_2_method_3_code 2 (some .boolean) 2 100 [.ref (sm_ad w k), .int a1] (fun s => xf_X0_has k a1 s) := by
  refine sm_CI.of (by decide +kernel) (Nat.le_of_ble_eq_true rfl) (fun X s0 R hXw hXl C h => ?_)
  subst hXw
  subst hXl
  have h : xf_X0_has k a1 s0 = some R := h
  show sm_V X (sm_QI X R) 2 s0 0 [(0, .ref (sm_ad (sm_w X) k)), (1, .int a1)] []
  unfold xf_X0_has at h
  refine sm_iload_n C 1 dX0_has_0 rfl rfl ?_
  refine sm_if_lt C 16 dX0_has_1 (by decide) h (fun h => ?_) (fun h => ?_)
  · refine sm_iconst (v := 0) C dX0_has_16 (by decide) ?_
    exact sm_zretK C rfl dX0_has_17 h
  · refine sm_iload_n C 1 dX0_has_4 rfl rfl ?_
    refine sm_aload_n C 0 dX0_has_5 rfl rfl ?_
    refine xr_Fire_size C hw (k := k) hk gf_Fire_30 dX0_has_6 h (fun v1 h => ?_)
    refine sm_icmp_ge C 16 dX0_has_9 (by decide) h (fun h => ?_) (fun h => ?_)
    · refine sm_iconst (v := 0) C dX0_has_16 (by decide) ?_
      exact sm_zretK C rfl dX0_has_17 h
    · refine sm_iconst (v := 1) C dX0_has_12 (by decide) ?_
      refine sm_goto C 17 dX0_has_13 (by decide) ?_
      exact sm_zretK C rfl dX0_has_17 h
noncomputable def xf_X0_whoIsOn_p2 (k : Nat) (a1 : Int32) : Nat → sm_St → Int32 → Option (Int32 × sm_St)
  | 0, _, _ => none
  | n + 1, s0, l2 =>
  sm_b (s0.1 k 6) fun v1 =>
  if v1 ≤ l2 then (
  some ((-1 : Int32), s0))
  else (
  sm_g (sm_in l2 5) <| sm_b (s0.1 (k + 9) l2.toNatClampNeg) fun v2 =>
  if v2 = a1 then (
  some (l2, s0))
  else (
  sm_b (l2 + Int32.ofInt 1) fun v3 =>
  (xf_X0_whoIsOn_p2 k a1 n) s0 v3))
noncomputable def xf_X0_whoIsOn (k : Nat) (a1 : Int32) (s0 : sm_St) : Option (Int32 × sm_St) :=
  xf_X0_whoIsOn_p2 k a1 sm_F s0 (0 : Int32)
set_option maxRecDepth 4000 in
theorem xk_X0_whoIsOn_p2 {X : sm_VC} (C : sm_Cx X prog_2_method_5_code 3 "SmokeGoesTo$Fire" 2 100 (some .int)) (hw : xo_is (sm_w X)) {k : Nat} {a1 : Int32} (hk : xo_tag k = 1) {R : Int32 × sm_St}   : ∀ (n : Nat) (s0 : sm_St) (l2 : Int32) , xf_X0_whoIsOn_p2 k a1 n s0 l2 = some R → sm_V X (sm_QI X R) 3 s0 2 [(0, .ref (sm_ad (sm_w X) k)), (1, .int a1), (2, .int l2)] [] := by
  intro n
  induction n with
  | zero =>
    intro s0 l2 h
    have h : (none : Option (Int32 × sm_St)) = some R := h
    cases h
  | succ n ih =>
    intro s0 l2 h
    unfold xf_X0_whoIsOn_p2 at h
    refine sm_iload_n C 2 dX0_whoIsOn_2 rfl rfl ?_
    refine sm_aload_n C 0 dX0_whoIsOn_3 rfl rfl ?_
    refine xr_Fire_size C hw (k := k) hk gf_Fire_30 dX0_whoIsOn_4 h (fun v1 h => ?_)
    refine sm_icmp_ge C 28 dX0_whoIsOn_7 (by decide) h (fun h => ?_) (fun h => ?_)
    · refine sm_iconst (v := (-1)) C dX0_whoIsOn_28 (by decide) ?_
      exact sm_iret C dX0_whoIsOn_29 h
    · refine sm_aload_n C 0 dX0_whoIsOn_10 rfl rfl ?_
      refine xr_Fire_places C hw (k := k) hk gf_Fire_40 dX0_whoIsOn_11 ?_
      refine sm_iload_n C 2 dX0_whoIsOn_14 rfl rfl ?_
      refine xa_iald C hw (k := (k + 9)) (xt_Fire_places hk).1 (xt_Fire_places hk).2 dX0_whoIsOn_15 h (fun v2 h => ?_)
      refine sm_iload_n C 1 dX0_whoIsOn_16 rfl rfl ?_
      refine sm_icmp_ne C 22 dX0_whoIsOn_17 (by decide) h (fun h => ?_) (fun h => ?_)
      · refine sm_iinc (lv' := fun v3 => [(2, .int v3), (0, .ref (sm_ad (sm_w X) k)), (1, .int a1)]) C 2 dX0_whoIsOn_22 rfl (by decide) (fun _ => rfl) h (fun v3 h => ?_)
        refine sm_goto C 2 dX0_whoIsOn_25 (by decide) ?_
        refine sm_sub (lv' := [(0, .ref (sm_ad (sm_w X) k)), (1, .int a1), (2, .int v3)]) [1, 2, 0] rfl ?_
        exact ih s0 v3 h
      · refine sm_iload_n C 2 dX0_whoIsOn_20 rfl rfl ?_
        exact sm_iret C dX0_whoIsOn_21 h
set_option maxRecDepth 4000 in
theorem xc_X0_whoIsOn {w : sm_WD} {l : Launch} (hw : xo_is w) (k : Nat) (a1 : Int32) (hk : xo_tag k = 1) : sm_CI w l yX0_whoIsOn prog_2_method_5_code 3 (some .int) 2 100 [.ref (sm_ad w k), .int a1] (fun s => xf_X0_whoIsOn k a1 s) := by
  refine sm_CI.of (by decide +kernel) (Nat.le_of_ble_eq_true rfl) (fun X s0 R hXw hXl C h => ?_)
  subst hXw
  subst hXl
  have h : xf_X0_whoIsOn k a1 s0 = some R := h
  show sm_V X (sm_QI X R) 3 s0 0 [(0, .ref (sm_ad (sm_w X) k)), (1, .int a1)] []
  unfold xf_X0_whoIsOn at h
  refine sm_iconst (v := 0) C dX0_whoIsOn_0 (by decide) ?_
  refine sm_istore_n (lv' := [(2, .int (0 : Int32)), (0, .ref (sm_ad (sm_w X) k)), (1, .int a1)]) C dX0_whoIsOn_1 rfl (by decide) rfl ?_
  refine sm_sub (lv' := [(0, .ref (sm_ad (sm_w X) k)), (1, .int a1), (2, .int (0 : Int32))]) [1, 2, 0] rfl ?_
  exact xk_X0_whoIsOn_p2 C hw hk sm_F s0 (0 : Int32) h
noncomputable def xf_X0_isFreeFor_p16 (k : Nat) (a1 : Int32) (a2 : Int32) (s0 : sm_St) : Option (Int32 × sm_St) :=
  some ((1 : Int32), s0)
noncomputable def xf_X0_isFreeFor (k : Nat) (a1 : Int32) (a2 : Int32) (s0 : sm_St) : Option (Int32 × sm_St) :=
  sm_c (xf_X0_whoIsOn k a2 s0) fun v1 s2 =>
  if v1 = (-1 : Int32) then (
  xf_X0_isFreeFor_p16 k a1 a2 s2)
  else (
  if v1 = a1 then (
  xf_X0_isFreeFor_p16 k a1 a2 s2)
  else (
  some ((0 : Int32), s2)))
set_option maxRecDepth 4000 in
theorem xk_X0_isFreeFor_p16 {X : sm_VC} (C : sm_Cx X prog_2_method_6_code 4 "SmokeGoesTo$Fire" 3 122 (some .boolean)) (hw : xo_is (sm_w X)) {k : Nat} {a1 : Int32} {a2 : Int32} (hk : xo_tag k = 1) {R : Int32 × sm_St}   (s0 : sm_St)   (h : xf_X0_isFreeFor_p16 k a1 a2 s0 = some R) : sm_V X (sm_QI X R) 4 s0 16 [] [] := by
  unfold xf_X0_isFreeFor_p16 at h
  refine sm_iconst (v := 1) C dX0_isFreeFor_16 (by decide) ?_
  refine sm_goto C 21 dX0_isFreeFor_17 (by decide) ?_
  exact sm_zretK C rfl dX0_isFreeFor_21 h
set_option maxRecDepth 4000 in
theorem xc_X0_isFreeFor {w : sm_WD} {l : Launch} (hw : xo_is w) (k : Nat) (a1 : Int32) (a2 : Int32) (hk : xo_tag k = 1) : sm_CI w l yX0_isFreeFor prog_2_method_6_code 4 (some .boolean) 3 122 [.ref (sm_ad w k), .int a1, .int a2] (fun s => xf_X0_isFreeFor k a1 a2 s) := by
  refine sm_CI.of (by decide +kernel) (Nat.le_of_ble_eq_true rfl) (fun X s0 R hXw hXl C h => ?_)
  subst hXw
  subst hXl
  have h : xf_X0_isFreeFor k a1 a2 s0 = some R := h
  show sm_V X (sm_QI X R) 4 s0 0 [(0, .ref (sm_ad (sm_w X) k)), (1, .int a1), (2, .int a2)] []
  unfold xf_X0_isFreeFor at h
  refine sm_aload_n C 0 dX0_isFreeFor_0 rfl rfl ?_
  refine sm_iload_n C 2 dX0_isFreeFor_1 rfl rfl ?_
  refine sm_callVI (k := k) C [.int a2] (xc_X0_whoIsOn hw k a2 hk) gm_X0_whoIsOn gl_Fire_49 gi_X0_whoIsOn ge_X0_whoIsOn (xob_Fire hw hk) rfl ⟨Nat.le_of_ble_eq_true rfl, Nat.le_of_ble_eq_true rfl⟩ rfl (Nat.le_of_ble_eq_true rfl) dX0_isFreeFor_2 h (fun v1 s2 h => ?_)
  refine sm_istore_n (lv' := [(3, .int v1), (0, .ref (sm_ad (sm_w X) k)), (1, .int a1), (2, .int a2)]) C dX0_isFreeFor_5 rfl (by decide) rfl ?_
  refine sm_iload_n C 0 dX0_isFreeFor_6 rfl rfl ?_
  refine sm_iconst (v := (-1)) C dX0_isFreeFor_7 (by decide) ?_
  refine sm_icmp_eq C 16 dX0_isFreeFor_8 (by decide) h (fun h => ?_) (fun h => ?_)
  · refine sm_sub (lv' := []) [] rfl ?_
    exact xk_X0_isFreeFor_p16 C hw hk s2 h
  · refine sm_iload_n C 0 dX0_isFreeFor_11 rfl rfl ?_
    refine sm_iload_n C 2 dX0_isFreeFor_12 rfl rfl ?_
    refine sm_icmp_ne C 20 dX0_isFreeFor_13 (by decide) h (fun h => ?_) (fun h => ?_)
    · refine sm_iconst (v := 0) C dX0_isFreeFor_20 (by decide) ?_
      exact sm_zretK C rfl dX0_isFreeFor_21 h
    · refine sm_sub (lv' := []) [] rfl ?_
      exact xk_X0_isFreeFor_p16 C hw hk s2 h
noncomputable def xf_X1_exists (a1 : Int32) (s0 : sm_St) : Option (Int32 × sm_St) :=
  if a1 < 0 then (
  some ((0 : Int32), s0))
  else (
  if (6 : Int32) ≤ a1 then (
  some ((0 : Int32), s0))
  else (
  some ((1 : Int32), s0)))
set_option maxRecDepth 4000 in
theorem xc_X1_exists {w : sm_WD} {l : Launch} (hw : xo_is w) (a1 : Int32) : sm_CI w l yX1_exists prog_3_method_2_code 1 (some .boolean) 2 100 [.int a1] (fun s => xf_X1_exists a1 s) := by
  refine sm_CI.of (by decide +kernel) (Nat.le_of_ble_eq_true rfl) (fun X s0 R hXw hXl C h => ?_)
  subst hXw
  subst hXl
  have h : xf_X1_exists a1 s0 = some R := h
  show sm_V X (sm_QI X R) 1 s0 0 [(0, .int a1)] []
  unfold xf_X1_exists at h
  refine sm_iload_n C 0 dX1_exists_0 rfl rfl ?_
  refine sm_if_lt C 14 dX1_exists_1 (by decide) h (fun h => ?_) (fun h => ?_)
  · refine sm_iconst (v := 0) C dX1_exists_14 (by decide) ?_
    exact sm_zretK C rfl dX1_exists_15 h
  · refine sm_iload_n C 0 dX1_exists_4 rfl rfl ?_
    refine sm_bipush (v := 6) C dX1_exists_5 (by decide) ?_
    refine sm_icmp_ge C 14 dX1_exists_7 (by decide) h (fun h => ?_) (fun h => ?_)
    · refine sm_iconst (v := 0) C dX1_exists_14 (by decide) ?_
      exact sm_zretK C rfl dX1_exists_15 h
    · refine sm_iconst (v := 1) C dX1_exists_10 (by decide) ?_
      refine sm_goto C 15 dX1_exists_11 (by decide) ?_
      exact sm_zretK C rfl dX1_exists_15 h
noncomputable def xf_X0_come (k : Nat) (a1 : Int32) (a2 : Int32) (a3 : Int32) (s0 : sm_St) : Option (Int32 × sm_St) :=
  sm_c (xf_X1_exists a1 s0) fun v1 s2 =>
  if v1 = 0 then (
  some ((-2 : Int32), s2))
  else (
  if a2 < 0 then (
  some ((-2 : Int32), s2))
  else (
  if (9 : Int32) < a2 then (
  some ((-2 : Int32), s2))
  else (
  sm_c (xf_X7_isPlace a3 s2) fun v3 s4 =>
  if v3 = 0 then (
  some ((-2 : Int32), s4))
  else (
  sm_c (xf_X0_whoIsOn k a3 s4) fun v5 s6 =>
  if v5 = (-1 : Int32) then (
  sm_b (s6.1 k 6) fun v7 =>
  if v7 < (5 : Int32) then (
  sm_b (s6.1 k 6) fun v8 =>
  sm_g (sm_in v8 5) <| sm_b (sm_sI s6 (k + 3) v8.toNatClampNeg a1) fun s9 =>
  sm_b (s9.1 k 6) fun v10 =>
  sm_g (sm_in v10 5) <| sm_b (sm_sI s9 (k + 6) v10.toNatClampNeg a2) fun s11 =>
  sm_b (s11.1 k 6) fun v12 =>
  sm_g (sm_in v12 5) <| sm_b (sm_sI s11 (k + 9) v12.toNatClampNeg a3) fun s13 =>
  sm_b (s13.1 k 6) fun v14 =>
  sm_b (v14 + (1 : Int32)) fun v15 =>
  sm_b (sm_sI s13 k 6 v15) fun s16 =>
  sm_b (s16.1 k 6) fun v17 =>
  sm_b (v17 - (1 : Int32)) fun v18 =>
  some (v18, s16))
  else (
  some ((-4 : Int32), s6)))
  else (
  some ((-3 : Int32), s6))))))
set_option maxRecDepth 4000 in
theorem xc_X0_come {w : sm_WD} {l : Launch} (hw : xo_is w) (k : Nat) (a1 : Int32) (a2 : Int32) (a3 : Int32) (hk : xo_tag k = 1) : sm_CI w l yX0_come prog_2_method_7_code 4 (some .int) 3 122 [.ref (sm_ad w k), .int a1, .int a2, .int a3] (fun s => xf_X0_come k a1 a2 a3 s) := by
  refine sm_CI.of (by decide +kernel) (Nat.le_of_ble_eq_true rfl) (fun X s0 R hXw hXl C h => ?_)
  subst hXw
  subst hXl
  have h : xf_X0_come k a1 a2 a3 s0 = some R := h
  show sm_V X (sm_QI X R) 4 s0 0 [(0, .ref (sm_ad (sm_w X) k)), (1, .int a1), (2, .int a2), (3, .int a3)] []
  unfold xf_X0_come at h
  refine sm_iload_n C 1 dX0_come_0 rfl rfl ?_
  refine sm_callSI C [.int a1] (xc_X1_exists hw a1) gm_X1_exists gl_Fire_53 gs_X1_exists rfl ⟨Nat.le_of_ble_eq_true rfl, Nat.le_of_ble_eq_true rfl⟩ rfl (Nat.le_of_ble_eq_true rfl) dX0_come_1 h (fun v1 s2 h => ?_)
  refine sm_if_eq C 24 dX0_come_4 (by decide) h (fun h => ?_) (fun h => ?_)
  · refine sm_bipush (v := (-2)) C dX0_come_24 (by decide) ?_
    exact sm_iret C dX0_come_26 h
  · refine sm_iload_n C 2 dX0_come_7 rfl rfl ?_
    refine sm_if_lt C 24 dX0_come_8 (by decide) h (fun h => ?_) (fun h => ?_)
    · refine sm_bipush (v := (-2)) C dX0_come_24 (by decide) ?_
      exact sm_iret C dX0_come_26 h
    · refine sm_iload_n C 2 dX0_come_11 rfl rfl ?_
      refine sm_bipush (v := 9) C dX0_come_12 (by decide) ?_
      refine sm_icmp_gt C 24 dX0_come_14 (by decide) h (fun h => ?_) (fun h => ?_)
      · refine sm_bipush (v := (-2)) C dX0_come_24 (by decide) ?_
        exact sm_iret C dX0_come_26 h
      · refine sm_iload_n C 3 dX0_come_17 rfl rfl ?_
        refine sm_callNI C [.int a3] (xc_X7_isPlace hw a3) gm_X7_isPlace gl_Fire_59 gs_X7_isPlace rfl ⟨Nat.le_of_ble_eq_true rfl, Nat.le_of_ble_eq_true rfl⟩ rfl (Nat.le_of_ble_eq_true rfl) dX0_come_18 h (fun v3 s4 h => ?_)
        refine sm_if_ne C 27 dX0_come_21 (by decide) h (fun h => ?_) (fun h => ?_)
        · refine sm_aload_n C 0 dX0_come_27 rfl rfl ?_
          refine sm_iload_n C 3 dX0_come_28 rfl rfl ?_
          refine sm_callVI (k := k) C [.int a3] (xc_X0_whoIsOn hw k a3 hk) gm_X0_whoIsOn gl_Fire_49 gi_X0_whoIsOn ge_X0_whoIsOn (xob_Fire hw hk) rfl ⟨Nat.le_of_ble_eq_true rfl, Nat.le_of_ble_eq_true rfl⟩ rfl (Nat.le_of_ble_eq_true rfl) dX0_come_29 h (fun v5 s6 h => ?_)
          refine sm_iconst (v := (-1)) C dX0_come_32 (by decide) ?_
          refine sm_icmp_eq C 39 dX0_come_33 (by decide) h (fun h => ?_) (fun h => ?_)
          · refine sm_aload_n C 0 dX0_come_39 rfl rfl ?_
            refine xr_Fire_size C hw (k := k) hk gf_Fire_30 dX0_come_40 h (fun v7 h => ?_)
            refine sm_iconst (v := 5) C dX0_come_43 (by decide) ?_
            refine sm_icmp_lt C 50 dX0_come_44 (by decide) h (fun h => ?_) (fun h => ?_)
            · refine sm_aload_n C 0 dX0_come_50 rfl rfl ?_
              refine xr_Fire_kinds C hw (k := k) hk gf_Fire_33 dX0_come_51 ?_
              refine sm_aload_n C 0 dX0_come_54 rfl rfl ?_
              refine xr_Fire_size C hw (k := k) hk gf_Fire_30 dX0_come_55 h (fun v8 h => ?_)
              refine sm_iload_n C 1 dX0_come_58 rfl rfl ?_
              refine xa_iast C hw (k := (k + 3)) (xt_Fire_kinds hk).1 (xt_Fire_kinds hk).2 dX0_come_59 h (fun s9 h => ?_)
              refine sm_aload_n C 0 dX0_come_60 rfl rfl ?_
              refine xr_Fire_numbers C hw (k := k) hk gf_Fire_37 dX0_come_61 ?_
              refine sm_aload_n C 0 dX0_come_64 rfl rfl ?_
              refine xr_Fire_size C hw (k := k) hk gf_Fire_30 dX0_come_65 h (fun v10 h => ?_)
              refine sm_iload_n C 2 dX0_come_68 rfl rfl ?_
              refine xa_iast C hw (k := (k + 6)) (xt_Fire_numbers hk).1 (xt_Fire_numbers hk).2 dX0_come_69 h (fun s11 h => ?_)
              refine sm_aload_n C 0 dX0_come_70 rfl rfl ?_
              refine xr_Fire_places C hw (k := k) hk gf_Fire_40 dX0_come_71 ?_
              refine sm_aload_n C 0 dX0_come_74 rfl rfl ?_
              refine xr_Fire_size C hw (k := k) hk gf_Fire_30 dX0_come_75 h (fun v12 h => ?_)
              refine sm_iload_n C 3 dX0_come_78 rfl rfl ?_
              refine xa_iast C hw (k := (k + 9)) (xt_Fire_places hk).1 (xt_Fire_places hk).2 dX0_come_79 h (fun s13 h => ?_)
              refine sm_aload_n C 0 dX0_come_80 rfl rfl ?_
              refine sm_dup C dX0_come_81 rfl ?_
              refine xr_Fire_size C hw (k := k) hk gf_Fire_30 dX0_come_82 h (fun v14 h => ?_)
              refine sm_iconst (v := 1) C dX0_come_85 (by decide) ?_
              refine sm_iadd C dX0_come_86 h (fun v15 h => ?_)
              refine xp_Fire_size C hw (k := k) hk gf_Fire_30 dX0_come_87 h (fun s16 h => ?_)
              refine sm_aload_n C 0 dX0_come_90 rfl rfl ?_
              refine xr_Fire_size C hw (k := k) hk gf_Fire_30 dX0_come_91 h (fun v17 h => ?_)
              refine sm_iconst (v := 1) C dX0_come_94 (by decide) ?_
              refine sm_isub C dX0_come_95 h (fun v18 h => ?_)
              exact sm_iret C dX0_come_96 h
            · refine sm_bipush (v := (-4)) C dX0_come_47 (by decide) ?_
              exact sm_iret C dX0_come_49 h
          · refine sm_bipush (v := (-3)) C dX0_come_36 (by decide) ?_
            exact sm_iret C dX0_come_38 h
        · refine sm_bipush (v := (-2)) C dX0_come_24 (by decide) ?_
          exact sm_iret C dX0_come_26 h
noncomputable def xf_X7_round (a1 : Int32) (s0 : sm_St) : Option (Int32 × sm_St) :=
  sm_b (a1 &&& (7 : Int32)) fun v1 =>
  some (v1, s0)
set_option maxRecDepth 4000 in
theorem xc_X7_round {w : sm_WD} {l : Launch} (hw : xo_is w) (a1 : Int32) : sm_CI w l yX7_round prog_1_method_52_code 1 (some .int) 2 100 [.int a1] (fun s => xf_X7_round a1 s) := by
  refine sm_CI.of (by decide +kernel) (Nat.le_of_ble_eq_true rfl) (fun X s0 R hXw hXl C h => ?_)
  subst hXw
  subst hXl
  have h : xf_X7_round a1 s0 = some R := h
  show sm_V X (sm_QI X R) 1 s0 0 [(0, .int a1)] []
  unfold xf_X7_round at h
  refine sm_iload_n C 0 dX7_round_0 rfl rfl ?_
  refine sm_bipush (v := 7) C dX7_round_1 (by decide) ?_
  refine sm_iand C dX7_round_3 h (fun v1 h => ?_)
  exact sm_iret C dX7_round_4 h
noncomputable def xf_X1_goes_p38 (a1 : Int32) (a2 : Int32) (a3 : Int32) (s0 : sm_St) (t0 : Int32) (t1 : Int32) : Option (Int32 × sm_St) :=
  sm_b (t1 + t0) fun v1 =>
  sm_c (xf_X7_round v1 s0) fun v2 s3 =>
  some (v2, s3)
noncomputable def xf_X1_goes (a1 : Int32) (a2 : Int32) (a3 : Int32) (s0 : sm_St) : Option (Int32 × sm_St) :=
  if a1 = (3 : Int32) then (
  if a3 = 0 then (
  xf_X1_goes_p38 a1 a2 a3 s0 (1 : Int32) a2)
  else (
  xf_X1_goes_p38 a1 a2 a3 s0 a3 a2))
  else if a1 = (4 : Int32) then (
  sm_b (a2 + (2 : Int32)) fun v1 =>
  sm_c (xf_X7_round v1 s0) fun v2 s3 =>
  some (v2, s3))
  else (
  sm_b (a2 + (4 : Int32)) fun v4 =>
  sm_c (xf_X7_round v4 s0) fun v5 s6 =>
  some (v5, s6))
set_option maxRecDepth 4000 in
theorem xk_X1_goes_p38 {X : sm_VC} (C : sm_Cx X prog_3_method_6_code 3 "SmokeGoesTo$Kind" 3 120 (some .int)) (hw : xo_is (sm_w X)) {a1 : Int32} {a2 : Int32} {a3 : Int32}  {R : Int32 × sm_St}   (s0 : sm_St) (t0 : Int32) (t1 : Int32)  (h : xf_X1_goes_p38 a1 a2 a3 s0 t0 t1 = some R) : sm_V X (sm_QI X R) 3 s0 38 [] [.int t0, .int t1] := by
  unfold xf_X1_goes_p38 at h
  refine sm_iadd C dX1_goes_38 h (fun v1 h => ?_)
  refine sm_callNI C [.int v1] (xc_X7_round hw v1) gm_X7_round gl_Kind_15 gs_X7_round rfl ⟨Nat.le_of_ble_eq_true rfl, Nat.le_of_ble_eq_true rfl⟩ rfl (Nat.le_of_ble_eq_true rfl) dX1_goes_39 h (fun v2 s3 h => ?_)
  exact sm_iret C dX1_goes_42 h
set_option maxRecDepth 4000 in
theorem xc_X1_goes {w : sm_WD} {l : Launch} (hw : xo_is w) (a1 : Int32) (a2 : Int32) (a3 : Int32) : sm_CI w l yX1_goes prog_3_method_6_code 3 (some .int) 3 120 [.int a1, .int a2, .int a3] (fun s => xf_X1_goes a1 a2 a3 s) := by
  refine sm_CI.of (by decide +kernel) (Nat.le_of_ble_eq_true rfl) (fun X s0 R hXw hXl C h => ?_)
  subst hXw
  subst hXl
  have h : xf_X1_goes a1 a2 a3 s0 = some R := h
  show sm_V X (sm_QI X R) 3 s0 0 [(0, .int a1), (1, .int a2), (2, .int a3)] []
  unfold xf_X1_goes at h
  refine sm_iload_n C 0 dX1_goes_0 rfl rfl ?_
  by_cases q1_0 : a1 = (3 : Int32)
  · rw [if_pos q1_0] at h
    refine sm_lsw C 27 28 dX1_goes_1 (by decide) (by rw [q1_0]; decide) (by decide) ?_
    refine sm_iload_n C 1 dX1_goes_28 rfl rfl ?_
    refine sm_iload_n C 2 dX1_goes_29 rfl rfl ?_
    refine sm_if_ne C 37 dX1_goes_30 (by decide) h (fun h => ?_) (fun h => ?_)
    · refine sm_iload_n C 2 dX1_goes_37 rfl rfl ?_
      refine sm_sub (lv' := []) [] rfl ?_
      exact xk_X1_goes_p38 C hw s0 a3 a2 h
    · refine sm_iconst (v := 1) C dX1_goes_33 (by decide) ?_
      refine sm_goto C 38 dX1_goes_34 (by decide) ?_
      refine sm_sub (lv' := []) [] rfl ?_
      exact xk_X1_goes_p38 C hw s0 (1 : Int32) a2 h
  · rw [if_neg q1_0] at h
    by_cases q1_1 : a1 = (4 : Int32)
    · rw [if_pos q1_1] at h
      refine sm_lsw C 42 43 dX1_goes_1 (by decide) (by rw [q1_1]; decide) (by decide) ?_
      refine sm_iload_n C 1 dX1_goes_43 rfl rfl ?_
      refine sm_iconst (v := 2) C dX1_goes_44 (by decide) ?_
      refine sm_iadd C dX1_goes_45 h (fun v1 h => ?_)
      refine sm_callNI C [.int v1] (xc_X7_round hw v1) gm_X7_round gl_Kind_15 gs_X7_round rfl ⟨Nat.le_of_ble_eq_true rfl, Nat.le_of_ble_eq_true rfl⟩ rfl (Nat.le_of_ble_eq_true rfl) dX1_goes_46 h (fun v2 s3 h => ?_)
      exact sm_iret C dX1_goes_49 h
    · rw [if_neg q1_1] at h
      refine sm_lsw C 49 50 dX1_goes_1 (by decide) ((lv_osw q1_0 (a := 3) rfl).trans ((lv_osw q1_1 (a := 4) rfl).trans rfl)) (by decide) ?_
      refine sm_iload_n C 1 dX1_goes_50 rfl rfl ?_
      refine sm_iconst (v := 4) C dX1_goes_51 (by decide) ?_
      refine sm_iadd C dX1_goes_52 h (fun v4 h => ?_)
      refine sm_callNI C [.int v4] (xc_X7_round hw v4) gm_X7_round gl_Kind_15 gs_X7_round rfl ⟨Nat.le_of_ble_eq_true rfl, Nat.le_of_ble_eq_true rfl⟩ rfl (Nat.le_of_ble_eq_true rfl) dX1_goes_53 h (fun v5 s6 h => ?_)
      exact sm_iret C dX1_goes_56 h
noncomputable def xf_X1_getsUp (a1 : Int32) (a2 : Int32) (a3 : Int32) (s0 : sm_St) : Option (Int32 × sm_St) :=
  if a1 = (1 : Int32) then (
  some ((1 : Int32), s0))
  else if a1 = (2 : Int32) then (
  if a3 ≤ a2 then (
  some ((0 : Int32), s0))
  else (
  some ((1 : Int32), s0)))
  else if a1 = (3 : Int32) then (
  some ((1 : Int32), s0))
  else if a1 = (4 : Int32) then (
  sm_g (!decide ((2 : Int32) = 0)) <| sm_b (a3 - a3 / (2 : Int32) * (2 : Int32)) fun v1 =>
  if v1 = 0 then (
  if a3 ≤ a2 then (
  some ((0 : Int32), s0))
  else (
  some ((1 : Int32), s0)))
  else (
  some ((0 : Int32), s0)))
  else (
  some ((0 : Int32), s0))
set_option maxRecDepth 4000 in
theorem xc_X1_getsUp {w : sm_WD} {l : Launch} (hw : xo_is w) (a1 : Int32) (a2 : Int32) (a3 : Int32) : sm_CI w l yX1_getsUp prog_3_method_5_code 3 (some .boolean) 2 100 [.int a1, .int a2, .int a3] (fun s => xf_X1_getsUp a1 a2 a3 s) := by
  refine sm_CI.of (by decide +kernel) (Nat.le_of_ble_eq_true rfl) (fun X s0 R hXw hXl C h => ?_)
  subst hXw
  subst hXl
  have h : xf_X1_getsUp a1 a2 a3 s0 = some R := h
  show sm_V X (sm_QI X R) 3 s0 0 [(0, .int a1), (1, .int a2), (2, .int a3)] []
  unfold xf_X1_getsUp at h
  refine sm_iload_n C 0 dX1_getsUp_0 rfl rfl ?_
  by_cases q1_0 : a1 = (1 : Int32)
  · rw [if_pos q1_0] at h
    refine sm_tswIn C 31 32 dX1_getsUp_1 (by rw [q1_0]; decide) (by decide) ?_
    refine sm_iconst (v := 1) C dX1_getsUp_32 (by decide) ?_
    exact sm_zretK C rfl dX1_getsUp_33 h
  · rw [if_neg q1_0] at h
    by_cases q1_1 : a1 = (2 : Int32)
    · rw [if_pos q1_1] at h
      refine sm_tswIn C 33 34 dX1_getsUp_1 (by rw [q1_1]; decide) (by decide) ?_
      refine sm_iload_n C 2 dX1_getsUp_34 rfl rfl ?_
      refine sm_iload_n C 1 dX1_getsUp_35 rfl rfl ?_
      refine sm_icmp_le C 43 dX1_getsUp_36 (by decide) h (fun h => ?_) (fun h => ?_)
      · refine sm_iconst (v := 0) C dX1_getsUp_43 (by decide) ?_
        exact sm_zretK C rfl dX1_getsUp_44 h
      · refine sm_iconst (v := 1) C dX1_getsUp_39 (by decide) ?_
        refine sm_goto C 44 dX1_getsUp_40 (by decide) ?_
        exact sm_zretK C rfl dX1_getsUp_44 h
    · rw [if_neg q1_1] at h
      by_cases q1_2 : a1 = (3 : Int32)
      · rw [if_pos q1_2] at h
        refine sm_tswIn C 44 45 dX1_getsUp_1 (by rw [q1_2]; decide) (by decide) ?_
        refine sm_iconst (v := 1) C dX1_getsUp_45 (by decide) ?_
        exact sm_zretK C rfl dX1_getsUp_46 h
      · rw [if_neg q1_2] at h
        by_cases q1_3 : a1 = (4 : Int32)
        · rw [if_pos q1_3] at h
          refine sm_tswIn C 46 47 dX1_getsUp_1 (by rw [q1_3]; decide) (by decide) ?_
          refine sm_iload_n C 2 dX1_getsUp_47 rfl rfl ?_
          refine sm_iconst (v := 2) C dX1_getsUp_48 (by decide) ?_
          refine sm_irem C dX1_getsUp_49 h (fun v1 h => ?_)
          refine sm_if_ne C 62 dX1_getsUp_50 (by decide) h (fun h => ?_) (fun h => ?_)
          · refine sm_iconst (v := 0) C dX1_getsUp_62 (by decide) ?_
            exact sm_zretK C rfl dX1_getsUp_63 h
          · refine sm_iload_n C 2 dX1_getsUp_53 rfl rfl ?_
            refine sm_iload_n C 1 dX1_getsUp_54 rfl rfl ?_
            refine sm_icmp_le C 62 dX1_getsUp_55 (by decide) h (fun h => ?_) (fun h => ?_)
            · refine sm_iconst (v := 0) C dX1_getsUp_62 (by decide) ?_
              exact sm_zretK C rfl dX1_getsUp_63 h
            · refine sm_iconst (v := 1) C dX1_getsUp_58 (by decide) ?_
              refine sm_goto C 63 dX1_getsUp_59 (by decide) ?_
              exact sm_zretK C rfl dX1_getsUp_63 h
        · rw [if_neg q1_3] at h
          refine sm_tswOut C 64 dX1_getsUp_1 (by have w0 := lv_neT q1_0 (a := 1) rfl; have w1 := lv_neT q1_1 (a := 2) rfl; have w2 := lv_neT q1_2 (a := 3) rfl; have w3 := lv_neT q1_3 (a := 4) rfl; omega) (by decide) ?_
          refine sm_iconst (v := 0) C dX1_getsUp_64 (by decide) ?_
          exact sm_zretK C rfl dX1_getsUp_65 h
noncomputable def xf_X6_clear (k : Nat) (s0 : sm_St) : Option (Unit × sm_St) :=
  sm_b (sm_sI s0 k 2 (0 : Int32)) fun s1 =>
  sm_c (xf_J7_fill_53178 (k + 12) (0 : Int32) s1) fun _ s3 =>
  some ((), s3)
set_option maxRecDepth 4000 in
theorem xc_X6_clear {w : sm_WD} {l : Launch} (hw : xo_is w) (k : Nat) (hk : xo_tag k = 3) : sm_CV w l yX6_clear prog_8_method_2_code 1 none 3 123 [.ref (sm_ad w k)] (fun s => xf_X6_clear k s) := by
  refine sm_CV.of (by decide +kernel) (Nat.le_of_ble_eq_true rfl) (fun X s0 R hXw hXl C h => ?_)
  subst hXw
  subst hXl
  have h : xf_X6_clear k s0 = some R := h
  show sm_V X (sm_QV X R) 1 s0 0 [(0, .ref (sm_ad (sm_w X) k))] []
  unfold xf_X6_clear at h
  refine sm_aload_n C 0 dX6_clear_0 rfl rfl ?_
  refine sm_iconst (v := 0) C dX6_clear_1 (by decide) ?_
  refine xp_Text_size C hw (k := k) hk gf_Text_18 dX6_clear_2 h (fun s1 h => ?_)
  refine sm_aload_n C 0 dX6_clear_5 rfl rfl ?_
  refine xr_Text_ends C hw (k := k) hk gf_Text_15 dX6_clear_6 ?_
  refine sm_iconst (v := 0) C dX6_clear_9 (by decide) ?_
  refine sm_callSV C [.ref (sm_ad (sm_w X) (k + 12)), .int (0 : Int32)] (xc_J7_fill_53178 hw (k + 12) (0 : Int32) (xt_Text_ends hk).1) gm_J7_fill_53178 gl_Text_22 gs_J7_fill_53178 rfl ⟨Nat.le_of_ble_eq_true rfl, Nat.le_of_ble_eq_true rfl⟩ rfl (Nat.le_of_ble_eq_true rfl) dX6_clear_10 h (fun v2 s3 h => ?_)
  exact sm_vret C dX6_clear_13 h
noncomputable def xf_X6_addNumber (k : Nat) (a1 : Int32) (s0 : sm_St) : Option (Unit × sm_St) :=
  sm_b (s0.1 k 2) fun v1 =>
  if v1 < (160 : Int32) then (
  sm_b (s0.1 k 2) fun v2 =>
  sm_g (sm_in v2 160) <| sm_b (sm_sI s0 (k + 6) v2.toNatClampNeg a1) fun s3 =>
  sm_b (s3.1 k 2) fun v4 =>
  sm_b (v4 + (1 : Int32)) fun v5 =>
  sm_b (sm_sI s3 k 2 v5) fun s6 =>
  some ((), s6))
  else (
  some ((), s0))
set_option maxRecDepth 4000 in
theorem xc_X6_addNumber {w : sm_WD} {l : Launch} (hw : xo_is w) (k : Nat) (a1 : Int32) (hk : xo_tag k = 3) : sm_CV w l yX6_addNumber prog_8_method_3_code 2 none 2 100 [.ref (sm_ad w k), .int a1] (fun s => xf_X6_addNumber k a1 s) := by
  refine sm_CV.of (by decide +kernel) (Nat.le_of_ble_eq_true rfl) (fun X s0 R hXw hXl C h => ?_)
  subst hXw
  subst hXl
  have h : xf_X6_addNumber k a1 s0 = some R := h
  show sm_V X (sm_QV X R) 2 s0 0 [(0, .ref (sm_ad (sm_w X) k)), (1, .int a1)] []
  unfold xf_X6_addNumber at h
  refine sm_aload_n C 0 dX6_addNumber_0 rfl rfl ?_
  refine xr_Text_size C hw (k := k) hk gf_Text_18 dX6_addNumber_1 h (fun v1 h => ?_)
  refine sm_sipush (v := 160) C dX6_addNumber_4 (by decide) ?_
  refine sm_icmp_lt C 11 dX6_addNumber_7 (by decide) h (fun h => ?_) (fun h => ?_)
  · refine sm_aload_n C 0 dX6_addNumber_11 rfl rfl ?_
    refine xr_Text_code C hw (k := k) hk gf_Text_9 dX6_addNumber_12 ?_
    refine sm_aload_n C 0 dX6_addNumber_15 rfl rfl ?_
    refine xr_Text_size C hw (k := k) hk gf_Text_18 dX6_addNumber_16 h (fun v2 h => ?_)
    refine sm_iload_n C 1 dX6_addNumber_19 rfl rfl ?_
    refine xa_iast C hw (k := (k + 6)) (xt_Text_code hk).1 (xt_Text_code hk).2 dX6_addNumber_20 h (fun s3 h => ?_)
    refine sm_aload_n C 0 dX6_addNumber_21 rfl rfl ?_
    refine sm_dup C dX6_addNumber_22 rfl ?_
    refine xr_Text_size C hw (k := k) hk gf_Text_18 dX6_addNumber_23 h (fun v4 h => ?_)
    refine sm_iconst (v := 1) C dX6_addNumber_26 (by decide) ?_
    refine sm_iadd C dX6_addNumber_27 h (fun v5 h => ?_)
    refine xp_Text_size C hw (k := k) hk gf_Text_18 dX6_addNumber_28 h (fun s6 h => ?_)
    exact sm_vret C dX6_addNumber_31 h
  · exact sm_vret C dX6_addNumber_10 h
noncomputable def xf_X6_addOperator (k : Nat) (a1 : Int32) (s0 : sm_St) : Option (Unit × sm_St) :=
  sm_b (-a1) fun v1 =>
  sm_c (xf_X6_addNumber k v1 s0) fun _ s3 =>
  some ((), s3)
set_option maxRecDepth 4000 in
theorem xc_X6_addOperator {w : sm_WD} {l : Launch} (hw : xo_is w) (k : Nat) (a1 : Int32) (hk : xo_tag k = 3) : sm_CV w l yX6_addOperator prog_8_method_5_code 2 none 3 121 [.ref (sm_ad w k), .int a1] (fun s => xf_X6_addOperator k a1 s) := by
  refine sm_CV.of (by decide +kernel) (Nat.le_of_ble_eq_true rfl) (fun X s0 R hXw hXl C h => ?_)
  subst hXw
  subst hXl
  have h : xf_X6_addOperator k a1 s0 = some R := h
  show sm_V X (sm_QV X R) 2 s0 0 [(0, .ref (sm_ad (sm_w X) k)), (1, .int a1)] []
  unfold xf_X6_addOperator at h
  refine sm_aload_n C 0 dX6_addOperator_0 rfl rfl ?_
  refine sm_iload_n C 1 dX6_addOperator_1 rfl rfl ?_
  refine sm_ineg C dX6_addOperator_2 h (fun v1 h => ?_)
  refine sm_callVV (k := k) C [.int v1] (xc_X6_addNumber hw k v1 hk) gm_X6_addNumber gl_Text_28 gi_X6_addNumber ge_X6_addNumber (xob_Text hw hk) rfl ⟨Nat.le_of_ble_eq_true rfl, Nat.le_of_ble_eq_true rfl⟩ rfl (Nat.le_of_ble_eq_true rfl) dX6_addOperator_3 h (fun v2 s3 h => ?_)
  exact sm_vret C dX6_addOperator_6 h
noncomputable def xf_X6_addName (k : Nat) (a1 : Int32) (s0 : sm_St) : Option (Unit × sm_St) :=
  sm_b ((-1 : Int32) - a1) fun v1 =>
  sm_c (xf_X6_addNumber k v1 s0) fun _ s3 =>
  some ((), s3)
set_option maxRecDepth 4000 in
theorem xc_X6_addName {w : sm_WD} {l : Launch} (hw : xo_is w) (k : Nat) (a1 : Int32) (hk : xo_tag k = 3) : sm_CV w l yX6_addName prog_8_method_4_code 2 none 3 121 [.ref (sm_ad w k), .int a1] (fun s => xf_X6_addName k a1 s) := by
  refine sm_CV.of (by decide +kernel) (Nat.le_of_ble_eq_true rfl) (fun X s0 R hXw hXl C h => ?_)
  subst hXw
  subst hXl
  have h : xf_X6_addName k a1 s0 = some R := h
  show sm_V X (sm_QV X R) 2 s0 0 [(0, .ref (sm_ad (sm_w X) k)), (1, .int a1)] []
  unfold xf_X6_addName at h
  refine sm_aload_n C 0 dX6_addName_0 rfl rfl ?_
  refine sm_iconst (v := (-1)) C dX6_addName_1 (by decide) ?_
  refine sm_iload_n C 1 dX6_addName_2 rfl rfl ?_
  refine sm_isub C dX6_addName_3 h (fun v1 h => ?_)
  refine sm_callVV (k := k) C [.int v1] (xc_X6_addNumber hw k v1 hk) gm_X6_addNumber gl_Text_28 gi_X6_addNumber ge_X6_addNumber (xob_Text hw hk) rfl ⟨Nat.le_of_ble_eq_true rfl, Nat.le_of_ble_eq_true rfl⟩ rfl (Nat.le_of_ble_eq_true rfl) dX6_addName_4 h (fun v2 s3 h => ?_)
  exact sm_vret C dX6_addName_7 h
noncomputable def xf_X6_endPart (k : Nat) (a1 : Int32) (s0 : sm_St) : Option (Unit × sm_St) :=
  sm_b (s0.1 k 2) fun v1 =>
  sm_g (sm_in a1 3) <| sm_b (sm_sI s0 (k + 12) a1.toNatClampNeg v1) fun s2 =>
  some ((), s2)
set_option maxRecDepth 4000 in
theorem xc_X6_endPart {w : sm_WD} {l : Launch} (hw : xo_is w) (k : Nat) (a1 : Int32) (hk : xo_tag k = 3) : sm_CV w l yX6_endPart prog_8_method_6_code 2 none 2 100 [.ref (sm_ad w k), .int a1] (fun s => xf_X6_endPart k a1 s) := by
  refine sm_CV.of (by decide +kernel) (Nat.le_of_ble_eq_true rfl) (fun X s0 R hXw hXl C h => ?_)
  subst hXw
  subst hXl
  have h : xf_X6_endPart k a1 s0 = some R := h
  show sm_V X (sm_QV X R) 2 s0 0 [(0, .ref (sm_ad (sm_w X) k)), (1, .int a1)] []
  unfold xf_X6_endPart at h
  refine sm_aload_n C 0 dX6_endPart_0 rfl rfl ?_
  refine xr_Text_ends C hw (k := k) hk gf_Text_15 dX6_endPart_1 ?_
  refine sm_iload_n C 1 dX6_endPart_4 rfl rfl ?_
  refine sm_aload_n C 0 dX6_endPart_5 rfl rfl ?_
  refine xr_Text_size C hw (k := k) hk gf_Text_18 dX6_endPart_6 h (fun v1 h => ?_)
  refine xa_iast C hw (k := (k + 12)) (xt_Text_ends hk).1 (xt_Text_ends hk).2 dX6_endPart_9 h (fun s2 h => ?_)
  exact sm_vret C dX6_endPart_10 h
noncomputable def xf_X5_isMissing (k : Nat) (s0 : sm_St) : Option (Int32 × sm_St) :=
  sm_b (s0.1 k 0) fun v1 =>
  if v1 = (-1 : Int32) then (
  some ((1 : Int32), s0))
  else (
  some ((0 : Int32), s0))
set_option maxRecDepth 4000 in
theorem xc_X5_isMissing {w : sm_WD} {l : Launch} (hw : xo_is w) (k : Nat) (hk : xo_tag k = 4) : sm_CI w l yX5_isMissing prog_7_method_3_code 1 (some .boolean) 2 100 [.ref (sm_ad w k)] (fun s => xf_X5_isMissing k s) := by
  refine sm_CI.of (by decide +kernel) (Nat.le_of_ble_eq_true rfl) (fun X s0 R hXw hXl C h => ?_)
  subst hXw
  subst hXl
  have h : xf_X5_isMissing k s0 = some R := h
  show sm_V X (sm_QI X R) 1 s0 0 [(0, .ref (sm_ad (sm_w X) k))] []
  unfold xf_X5_isMissing at h
  refine sm_aload_n C 0 dX5_isMissing_0 rfl rfl ?_
  refine xr_Sheet_sort C hw (k := k) hk gf_Sheet_9 dX5_isMissing_1 h (fun v1 h => ?_)
  refine sm_iconst (v := (-1)) C dX5_isMissing_4 (by decide) ?_
  refine sm_icmp_ne C 12 dX5_isMissing_5 (by decide) h (fun h => ?_) (fun h => ?_)
  · refine sm_iconst (v := 0) C dX5_isMissing_12 (by decide) ?_
    exact sm_zretK C rfl dX5_isMissing_13 h
  · refine sm_iconst (v := 1) C dX5_isMissing_8 (by decide) ?_
    refine sm_goto C 13 dX5_isMissing_9 (by decide) ?_
    exact sm_zretK C rfl dX5_isMissing_13 h
noncomputable def xf_X5_item (k : Nat) (a1 : Int32) (s0 : sm_St) : Option (Int32 × sm_St) :=
  if a1 < 0 then (
  some ((0 : Int32), s0))
  else (
  sm_b (s0.1 k 1) fun v1 =>
  if v1 ≤ a1 then (
  some ((0 : Int32), s0))
  else (
  sm_g (sm_in a1 40) <| sm_b (s0.1 (k + 4) a1.toNatClampNeg) fun v2 =>
  some (v2, s0)))
set_option maxRecDepth 4000 in
theorem xc_X5_item {w : sm_WD} {l : Launch} (hw : xo_is w) (k : Nat) (a1 : Int32) (hk : xo_tag k = 4) : sm_CI w l yX5_item prog_7_method_5_code 2 (some .int) 2 100 [.ref (sm_ad w k), .int a1] (fun s => xf_X5_item k a1 s) := by
  refine sm_CI.of (by decide +kernel) (Nat.le_of_ble_eq_true rfl) (fun X s0 R hXw hXl C h => ?_)
  subst hXw
  subst hXl
  have h : xf_X5_item k a1 s0 = some R := h
  show sm_V X (sm_QI X R) 2 s0 0 [(0, .ref (sm_ad (sm_w X) k)), (1, .int a1)] []
  unfold xf_X5_item at h
  refine sm_iload_n C 1 dX5_item_0 rfl rfl ?_
  refine sm_if_lt C 21 dX5_item_1 (by decide) h (fun h => ?_) (fun h => ?_)
  · refine sm_iconst (v := 0) C dX5_item_21 (by decide) ?_
    exact sm_iret C dX5_item_22 h
  · refine sm_iload_n C 1 dX5_item_4 rfl rfl ?_
    refine sm_aload_n C 0 dX5_item_5 rfl rfl ?_
    refine xr_Sheet_size C hw (k := k) hk gf_Sheet_15 dX5_item_6 h (fun v1 h => ?_)
    refine sm_icmp_ge C 21 dX5_item_9 (by decide) h (fun h => ?_) (fun h => ?_)
    · refine sm_iconst (v := 0) C dX5_item_21 (by decide) ?_
      exact sm_iret C dX5_item_22 h
    · refine sm_aload_n C 0 dX5_item_12 rfl rfl ?_
      refine xr_Sheet_items C hw (k := k) hk gf_Sheet_18 dX5_item_13 ?_
      refine sm_iload_n C 1 dX5_item_16 rfl rfl ?_
      refine xa_iald C hw (k := (k + 4)) (xt_Sheet_items hk).1 (xt_Sheet_items hk).2 dX5_item_17 h (fun v2 h => ?_)
      refine sm_goto C 22 dX5_item_18 (by decide) ?_
      exact sm_iret C dX5_item_22 h
noncomputable def xf_X0_become (k : Nat) (a1 : Nat) (s0 : sm_St) : Option (Unit × sm_St) :=
  sm_b (s0.1 a1 0) fun v1 =>
  sm_b (sm_sI s0 k 0 v1) fun s2 =>
  sm_b (s2.1 a1 1) fun v3 =>
  sm_b (sm_sI s2 k 1 v3) fun s4 =>
  sm_b (s4.1 a1 2) fun v5 =>
  sm_b (sm_sI s4 k 2 v5) fun s6 =>
  sm_b (s6.1 a1 3) fun v7 =>
  sm_b (sm_sI s6 k 3 v7) fun s8 =>
  sm_b (s8.1 a1 4) fun v9 =>
  sm_b (sm_sI s8 k 4 v9) fun s10 =>
  sm_b (s10.1 a1 5) fun v11 =>
  sm_b (sm_sI s10 k 5 v11) fun s12 =>
  sm_b (s12.1 a1 6) fun v13 =>
  sm_b (sm_sI s12 k 6 v13) fun s14 =>
  sm_g (sm_cpyok (0 : Int32) (0 : Int32) (5 : Int32) 5 5) <| sm_b (sm_cI s14 (a1 + 3) (k + 3) (0 : Int32).toNatClampNeg (0 : Int32).toNatClampNeg (5 : Int32).toNatClampNeg) fun s15 =>
  sm_g (sm_cpyok (0 : Int32) (0 : Int32) (5 : Int32) 5 5) <| sm_b (sm_cI s15 (a1 + 6) (k + 6) (0 : Int32).toNatClampNeg (0 : Int32).toNatClampNeg (5 : Int32).toNatClampNeg) fun s16 =>
  sm_g (sm_cpyok (0 : Int32) (0 : Int32) (5 : Int32) 5 5) <| sm_b (sm_cI s16 (a1 + 9) (k + 9) (0 : Int32).toNatClampNeg (0 : Int32).toNatClampNeg (5 : Int32).toNatClampNeg) fun s17 =>
  some ((), s17)
set_option maxRecDepth 4000 in
theorem xc_X0_become {w : sm_WD} {l : Launch} (hw : xo_is w) (k : Nat) (a1 : Nat) (hk : xo_tag k = 1) (ha1 : xo_tag a1 = 1) : sm_CV w l yX0_become prog_2_method_2_code 2 none 2 100 [.ref (sm_ad w k), .ref (sm_ad w a1)] (fun s => xf_X0_become k a1 s) := by
  refine sm_CV.of (by decide +kernel) (Nat.le_of_ble_eq_true rfl) (fun X s0 R hXw hXl C h => ?_)
  subst hXw
  subst hXl
  have h : xf_X0_become k a1 s0 = some R := h
  show sm_V X (sm_QV X R) 2 s0 0 [(0, .ref (sm_ad (sm_w X) k)), (1, .ref (sm_ad (sm_w X) a1))] []
  unfold xf_X0_become at h
  refine sm_aload_n C 0 dX0_become_0 rfl rfl ?_
  refine sm_aload_n C 1 dX0_become_1 rfl rfl ?_
  refine xr_Fire_smoke C hw (k := a1) ha1 gf_Fire_9 dX0_become_2 h (fun v1 h => ?_)
  refine xp_Fire_smoke C hw (k := k) hk gf_Fire_9 dX0_become_5 h (fun s2 h => ?_)
  refine sm_aload_n C 0 dX0_become_8 rfl rfl ?_
  refine sm_aload_n C 1 dX0_become_9 rfl rfl ?_
  refine xr_Fire_left C hw (k := a1) ha1 gf_Fire_15 dX0_become_10 h (fun v3 h => ?_)
  refine xp_Fire_left C hw (k := k) hk gf_Fire_15 dX0_become_13 h (fun s4 h => ?_)
  refine sm_aload_n C 0 dX0_become_16 rfl rfl ?_
  refine sm_aload_n C 1 dX0_become_17 rfl rfl ?_
  refine xr_Fire_right C hw (k := a1) ha1 gf_Fire_18 dX0_become_18 h (fun v5 h => ?_)
  refine xp_Fire_right C hw (k := k) hk gf_Fire_18 dX0_become_21 h (fun s6 h => ?_)
  refine sm_aload_n C 0 dX0_become_24 rfl rfl ?_
  refine sm_aload_n C 1 dX0_become_25 rfl rfl ?_
  refine xr_Fire_tents C hw (k := a1) ha1 gf_Fire_21 dX0_become_26 h (fun v7 h => ?_)
  refine xp_Fire_tents C hw (k := k) hk gf_Fire_21 dX0_become_29 h (fun s8 h => ?_)
  refine sm_aload_n C 0 dX0_become_32 rfl rfl ?_
  refine sm_aload_n C 1 dX0_become_33 rfl rfl ?_
  refine xr_Fire_eddy C hw (k := a1) ha1 gf_Fire_24 dX0_become_34 h (fun v9 h => ?_)
  refine xp_Fire_eddy C hw (k := k) hk gf_Fire_24 dX0_become_37 h (fun s10 h => ?_)
  refine sm_aload_n C 0 dX0_become_40 rfl rfl ?_
  refine sm_aload_n C 1 dX0_become_41 rfl rfl ?_
  refine xr_Fire_rule C hw (k := a1) ha1 gf_Fire_27 dX0_become_42 h (fun v11 h => ?_)
  refine xp_Fire_rule C hw (k := k) hk gf_Fire_27 dX0_become_45 h (fun s12 h => ?_)
  refine sm_aload_n C 0 dX0_become_48 rfl rfl ?_
  refine sm_aload_n C 1 dX0_become_49 rfl rfl ?_
  refine xr_Fire_size C hw (k := a1) ha1 gf_Fire_30 dX0_become_50 h (fun v13 h => ?_)
  refine xp_Fire_size C hw (k := k) hk gf_Fire_30 dX0_become_53 h (fun s14 h => ?_)
  refine sm_aload_n C 1 dX0_become_56 rfl rfl ?_
  refine xr_Fire_kinds C hw (k := a1) ha1 gf_Fire_33 dX0_become_57 ?_
  refine sm_iconst (v := 0) C dX0_become_60 (by decide) ?_
  refine sm_aload_n C 0 dX0_become_61 rfl rfl ?_
  refine xr_Fire_kinds C hw (k := k) hk gf_Fire_33 dX0_become_62 ?_
  refine sm_iconst (v := 0) C dX0_become_65 (by decide) ?_
  refine sm_iconst (v := 5) C dX0_become_66 (by decide) ?_
  refine xa_copyi C hw (k := (a1 + 3)) (k1 := (k + 3)) (xt_Fire_kinds ha1).1 (xt_Fire_kinds ha1).2 (xt_Fire_kinds hk).1 (xt_Fire_kinds hk).2 gl_Fire_43 (Nat.le_of_ble_eq_true rfl) (Nat.le_of_ble_eq_true rfl) dX0_become_67 h (fun s15 h => ?_)
  refine sm_aload_n C 1 dX0_become_70 rfl rfl ?_
  refine xr_Fire_numbers C hw (k := a1) ha1 gf_Fire_37 dX0_become_71 ?_
  refine sm_iconst (v := 0) C dX0_become_74 (by decide) ?_
  refine sm_aload_n C 0 dX0_become_75 rfl rfl ?_
  refine xr_Fire_numbers C hw (k := k) hk gf_Fire_37 dX0_become_76 ?_
  refine sm_iconst (v := 0) C dX0_become_79 (by decide) ?_
  refine sm_iconst (v := 5) C dX0_become_80 (by decide) ?_
  refine xa_copyi C hw (k := (a1 + 6)) (k1 := (k + 6)) (xt_Fire_numbers ha1).1 (xt_Fire_numbers ha1).2 (xt_Fire_numbers hk).1 (xt_Fire_numbers hk).2 gl_Fire_43 (Nat.le_of_ble_eq_true rfl) (Nat.le_of_ble_eq_true rfl) dX0_become_81 h (fun s16 h => ?_)
  refine sm_aload_n C 1 dX0_become_84 rfl rfl ?_
  refine xr_Fire_places C hw (k := a1) ha1 gf_Fire_40 dX0_become_85 ?_
  refine sm_iconst (v := 0) C dX0_become_88 (by decide) ?_
  refine sm_aload_n C 0 dX0_become_89 rfl rfl ?_
  refine xr_Fire_places C hw (k := k) hk gf_Fire_40 dX0_become_90 ?_
  refine sm_iconst (v := 0) C dX0_become_93 (by decide) ?_
  refine sm_iconst (v := 5) C dX0_become_94 (by decide) ?_
  refine xa_copyi C hw (k := (a1 + 9)) (k1 := (k + 9)) (xt_Fire_places ha1).1 (xt_Fire_places ha1).2 (xt_Fire_places hk).1 (xt_Fire_places hk).2 gl_Fire_43 (Nat.le_of_ble_eq_true rfl) (Nat.le_of_ble_eq_true rfl) dX0_become_95 h (fun s17 h => ?_)
  exact sm_vret C dX0_become_98 h
noncomputable def xf_X0_hasTent (k : Nat) (a1 : Int32) (s0 : sm_St) : Option (Int32 × sm_St) :=
  sm_b (s0.1 k 3) fun v1 =>
  sm_b (v1 >>> (a1 &&& 31)) fun v2 =>
  sm_b (v2 &&& (1 : Int32)) fun v3 =>
  if v3 = (1 : Int32) then (
  some ((1 : Int32), s0))
  else (
  some ((0 : Int32), s0))
set_option maxRecDepth 4000 in
theorem xc_X0_hasTent {w : sm_WD} {l : Launch} (hw : xo_is w) (k : Nat) (a1 : Int32) (hk : xo_tag k = 1) : sm_CI w l yX0_hasTent prog_2_method_4_code 2 (some .boolean) 2 100 [.ref (sm_ad w k), .int a1] (fun s => xf_X0_hasTent k a1 s) := by
  refine sm_CI.of (by decide +kernel) (Nat.le_of_ble_eq_true rfl) (fun X s0 R hXw hXl C h => ?_)
  subst hXw
  subst hXl
  have h : xf_X0_hasTent k a1 s0 = some R := h
  show sm_V X (sm_QI X R) 2 s0 0 [(0, .ref (sm_ad (sm_w X) k)), (1, .int a1)] []
  unfold xf_X0_hasTent at h
  refine sm_aload_n C 0 dX0_hasTent_0 rfl rfl ?_
  refine xr_Fire_tents C hw (k := k) hk gf_Fire_21 dX0_hasTent_1 h (fun v1 h => ?_)
  refine sm_iload_n C 1 dX0_hasTent_4 rfl rfl ?_
  refine sm_ishr C dX0_hasTent_5 h (fun v2 h => ?_)
  refine sm_iconst (v := 1) C dX0_hasTent_6 (by decide) ?_
  refine sm_iand C dX0_hasTent_7 h (fun v3 h => ?_)
  refine sm_iconst (v := 1) C dX0_hasTent_8 (by decide) ?_
  refine sm_icmp_ne C 16 dX0_hasTent_9 (by decide) h (fun h => ?_) (fun h => ?_)
  · refine sm_iconst (v := 0) C dX0_hasTent_16 (by decide) ?_
    exact sm_zretK C rfl dX0_hasTent_17 h
  · refine sm_iconst (v := 1) C dX0_hasTent_12 (by decide) ?_
    refine sm_goto C 17 dX0_hasTent_13 (by decide) ?_
    exact sm_zretK C rfl dX0_hasTent_17 h
noncomputable def xf_X6_joined_p102 (a1 : Int32) (a2 : Int32) (a3 : Int32) (s0 : sm_St) : Option (Int32 × sm_St) :=
  some ((1 : Int32), s0)
noncomputable def xf_X6_joined (a1 : Int32) (a2 : Int32) (a3 : Int32) (s0 : sm_St) : Option (Int32 × sm_St) :=
  if a1 = (42 : Int32) then (
  sm_b (a2 * a3) fun v1 =>
  some (v1, s0))
  else if a1 = (43 : Int32) then (
  sm_b (a2 + a3) fun v2 =>
  some (v2, s0))
  else if a1 = (45 : Int32) then (
  sm_b (a2 - a3) fun v3 =>
  some (v3, s0))
  else if a1 = (60 : Int32) then (
  if a3 ≤ a2 then (
  some ((0 : Int32), s0))
  else (
  some ((1 : Int32), s0)))
  else if a1 = (61 : Int32) then (
  if a2 = a3 then (
  some ((1 : Int32), s0))
  else (
  some ((0 : Int32), s0)))
  else if a1 = (265 : Int32) then (
  if a2 = 0 then (
  if a3 = 0 then (
  some ((0 : Int32), s0))
  else (
  xf_X6_joined_p102 a1 a2 a3 s0))
  else (
  xf_X6_joined_p102 a1 a2 a3 s0))
  else (
  if a2 = 0 then (
  some ((0 : Int32), s0))
  else (
  if a3 = 0 then (
  some ((0 : Int32), s0))
  else (
  some ((1 : Int32), s0))))
set_option maxRecDepth 4000 in
theorem xk_X6_joined_p102 {X : sm_VC} (C : sm_Cx X prog_8_method_8_code 3 "SmokeGoesTo$Text" 2 100 (some .int)) (hw : xo_is (sm_w X)) {a1 : Int32} {a2 : Int32} {a3 : Int32}  {R : Int32 × sm_St}   (s0 : sm_St)   (h : xf_X6_joined_p102 a1 a2 a3 s0 = some R) : sm_V X (sm_QI X R) 3 s0 102 [] [] := by
  unfold xf_X6_joined_p102 at h
  refine sm_iconst (v := 1) C dX6_joined_102 (by decide) ?_
  refine sm_goto C 107 dX6_joined_103 (by decide) ?_
  exact sm_iret C dX6_joined_107 h
set_option maxRecDepth 4000 in
theorem xc_X6_joined {w : sm_WD} {l : Launch} (hw : xo_is w) (a1 : Int32) (a2 : Int32) (a3 : Int32) : sm_CI w l yX6_joined prog_8_method_8_code 3 (some .int) 2 100 [.int a1, .int a2, .int a3] (fun s => xf_X6_joined a1 a2 a3 s) := by
  refine sm_CI.of (by decide +kernel) (Nat.le_of_ble_eq_true rfl) (fun X s0 R hXw hXl C h => ?_)
  subst hXw
  subst hXl
  have h : xf_X6_joined a1 a2 a3 s0 = some R := h
  show sm_V X (sm_QI X R) 3 s0 0 [(0, .int a1), (1, .int a2), (2, .int a3)] []
  unfold xf_X6_joined at h
  refine sm_iload_n C 0 dX6_joined_0 rfl rfl ?_
  by_cases q1_0 : a1 = (42 : Int32)
  · rw [if_pos q1_0] at h
    refine sm_lsw C 67 68 dX6_joined_1 (by decide) (by rw [q1_0]; decide) (by decide) ?_
    refine sm_iload_n C 1 dX6_joined_68 rfl rfl ?_
    refine sm_iload_n C 2 dX6_joined_69 rfl rfl ?_
    refine sm_imul C dX6_joined_70 h (fun v1 h => ?_)
    exact sm_iret C dX6_joined_71 h
  · rw [if_neg q1_0] at h
    by_cases q1_1 : a1 = (43 : Int32)
    · rw [if_pos q1_1] at h
      refine sm_lsw C 59 60 dX6_joined_1 (by decide) (by rw [q1_1]; decide) (by decide) ?_
      refine sm_iload_n C 1 dX6_joined_60 rfl rfl ?_
      refine sm_iload_n C 2 dX6_joined_61 rfl rfl ?_
      refine sm_iadd C dX6_joined_62 h (fun v2 h => ?_)
      exact sm_iret C dX6_joined_63 h
    · rw [if_neg q1_1] at h
      by_cases q1_2 : a1 = (45 : Int32)
      · rw [if_pos q1_2] at h
        refine sm_lsw C 63 64 dX6_joined_1 (by decide) (by rw [q1_2]; decide) (by decide) ?_
        refine sm_iload_n C 1 dX6_joined_64 rfl rfl ?_
        refine sm_iload_n C 2 dX6_joined_65 rfl rfl ?_
        refine sm_isub C dX6_joined_66 h (fun v3 h => ?_)
        exact sm_iret C dX6_joined_67 h
      · rw [if_neg q1_2] at h
        by_cases q1_3 : a1 = (60 : Int32)
        · rw [if_pos q1_3] at h
          refine sm_lsw C 71 72 dX6_joined_1 (by decide) (by rw [q1_3]; decide) (by decide) ?_
          refine sm_iload_n C 1 dX6_joined_72 rfl rfl ?_
          refine sm_iload_n C 2 dX6_joined_73 rfl rfl ?_
          refine sm_icmp_ge C 81 dX6_joined_74 (by decide) h (fun h => ?_) (fun h => ?_)
          · refine sm_iconst (v := 0) C dX6_joined_81 (by decide) ?_
            exact sm_iret C dX6_joined_82 h
          · refine sm_iconst (v := 1) C dX6_joined_77 (by decide) ?_
            refine sm_goto C 82 dX6_joined_78 (by decide) ?_
            exact sm_iret C dX6_joined_82 h
        · rw [if_neg q1_3] at h
          by_cases q1_4 : a1 = (61 : Int32)
          · rw [if_pos q1_4] at h
            refine sm_lsw C 82 83 dX6_joined_1 (by decide) (by rw [q1_4]; decide) (by decide) ?_
            refine sm_iload_n C 1 dX6_joined_83 rfl rfl ?_
            refine sm_iload_n C 2 dX6_joined_84 rfl rfl ?_
            refine sm_icmp_ne C 92 dX6_joined_85 (by decide) h (fun h => ?_) (fun h => ?_)
            · refine sm_iconst (v := 0) C dX6_joined_92 (by decide) ?_
              exact sm_iret C dX6_joined_93 h
            · refine sm_iconst (v := 1) C dX6_joined_88 (by decide) ?_
              refine sm_goto C 93 dX6_joined_89 (by decide) ?_
              exact sm_iret C dX6_joined_93 h
          · rw [if_neg q1_4] at h
            by_cases q1_5 : a1 = (265 : Int32)
            · rw [if_pos q1_5] at h
              refine sm_lsw C 93 94 dX6_joined_1 (by decide) (by rw [q1_5]; decide) (by decide) ?_
              refine sm_iload_n C 1 dX6_joined_94 rfl rfl ?_
              refine sm_if_ne C 102 dX6_joined_95 (by decide) h (fun h => ?_) (fun h => ?_)
              · refine sm_sub (lv' := []) [] rfl ?_
                exact xk_X6_joined_p102 C hw s0 h
              · refine sm_iload_n C 2 dX6_joined_98 rfl rfl ?_
                refine sm_if_eq C 106 dX6_joined_99 (by decide) h (fun h => ?_) (fun h => ?_)
                · refine sm_iconst (v := 0) C dX6_joined_106 (by decide) ?_
                  exact sm_iret C dX6_joined_107 h
                · refine sm_sub (lv' := []) [] rfl ?_
                  exact xk_X6_joined_p102 C hw s0 h
            · rw [if_neg q1_5] at h
              refine sm_lsw C 107 108 dX6_joined_1 (by decide) ((lv_osw q1_0 (a := 42) rfl).trans ((lv_osw q1_1 (a := 43) rfl).trans ((lv_osw q1_2 (a := 45) rfl).trans ((lv_osw q1_3 (a := 60) rfl).trans ((lv_osw q1_4 (a := 61) rfl).trans ((lv_osw q1_5 (a := 265) rfl).trans rfl)))))) (by decide) ?_
              refine sm_iload_n C 1 dX6_joined_108 rfl rfl ?_
              refine sm_if_eq C 120 dX6_joined_109 (by decide) h (fun h => ?_) (fun h => ?_)
              · refine sm_iconst (v := 0) C dX6_joined_120 (by decide) ?_
                exact sm_iret C dX6_joined_121 h
              · refine sm_iload_n C 2 dX6_joined_112 rfl rfl ?_
                refine sm_if_eq C 120 dX6_joined_113 (by decide) h (fun h => ?_) (fun h => ?_)
                · refine sm_iconst (v := 0) C dX6_joined_120 (by decide) ?_
                  exact sm_iret C dX6_joined_121 h
                · refine sm_iconst (v := 1) C dX6_joined_116 (by decide) ?_
                  refine sm_goto C 121 dX6_joined_117 (by decide) ?_
                  exact sm_iret C dX6_joined_121 h
noncomputable def xf_X6_value_p179 (k : Nat) (a1 : Int32) (a2 : Nat) (a3 : Nat) (k21 : sm_St → Int32 → Int32 → Option (Int32 × sm_St)) (s0 : sm_St) (l4 : Int32) (l5 : Int32) : Option (Int32 × sm_St) :=
  sm_b (l5 + Int32.ofInt 1) fun v1 =>
  k21 s0 l4 v1
noncomputable def xf_X6_value_p76 (k : Nat) (a1 : Int32) (a2 : Nat) (a3 : Nat) (k21 : sm_St → Int32 → Int32 → Option (Int32 × sm_St)) (s0 : sm_St) (l4 : Int32) (l5 : Int32) (t0 : Int32) (t1 : Int32) : Option (Int32 × sm_St) :=
  sm_g (sm_in t1 (xo_len a3)) <| sm_b (sm_sI s0 a3 t1.toNatClampNeg t0) fun s1 =>
  sm_b (l4 + Int32.ofInt 1) fun v2 =>
  xf_X6_value_p179 k a1 a2 a3 k21 s1 v2 l5
noncomputable def xf_X6_value_p142 (k : Nat) (a1 : Int32) (a2 : Nat) (a3 : Nat) (k21 : sm_St → Int32 → Int32 → Option (Int32 × sm_St)) (s0 : sm_St) (l4 : Int32) (l5 : Int32) (t0 : Int32) (t1 : Int32) : Option (Int32 × sm_St) :=
  sm_g (sm_in t1 (xo_len a3)) <| sm_b (sm_sI s0 a3 t1.toNatClampNeg t0) fun s1 =>
  xf_X6_value_p179 k a1 a2 a3 k21 s1 l4 l5
noncomputable def xf_X6_value_p98 (k : Nat) (a1 : Int32) (a2 : Nat) (a3 : Nat) (k21 : sm_St → Int32 → Int32 → Option (Int32 × sm_St)) (s0 : sm_St) (l4 : Int32) (l5 : Int32) (l6 : Int32) : Option (Int32 × sm_St) :=
  if (1 : Int32) ≤ l4 then (
  sm_b (l4 - (1 : Int32)) fun v1 =>
  sm_g (sm_in v1 (xo_len a3)) <| sm_b (s0.1 a3 v1.toNatClampNeg) fun v2 =>
  sm_b (l4 - (1 : Int32)) fun v3 =>
  if l6 = (-128 : Int32) then (
  sm_b (-v2) fun v4 =>
  xf_X6_value_p142 k a1 a2 a3 k21 s0 l4 l5 v4 v3)
  else (
  if v2 = 0 then (
  xf_X6_value_p142 k a1 a2 a3 k21 s0 l4 l5 (1 : Int32) v3)
  else (
  xf_X6_value_p142 k a1 a2 a3 k21 s0 l4 l5 (0 : Int32) v3)))
  else (
  some ((0 : Int32), s0))
noncomputable def xf_X6_value_p21 (k : Nat) (a1 : Int32) (a2 : Nat) (a3 : Nat) : Nat → sm_St → Int32 → Int32 → Option (Int32 × sm_St)
  | 0, _, _, _ => none
  | n + 1, s0, l4, l5 =>
  sm_g (sm_in a1 3) <| sm_b (s0.1 (k + 12) a1.toNatClampNeg) fun v1 =>
  if v1 ≤ l5 then (
  if (1 : Int32) ≤ l4 then (
  sm_g (sm_in (0 : Int32) (xo_len a3)) <| sm_b (s0.1 a3 (0 : Int32).toNatClampNeg) fun v2 =>
  some (v2, s0))
  else (
  some ((0 : Int32), s0)))
  else (
  sm_g (sm_in l5 160) <| sm_b (s0.1 (k + 6) l5.toNatClampNeg) fun v3 =>
  if v3 < (-6 : Int32) then (
  if v3 = (-128 : Int32) then (
  xf_X6_value_p98 k a1 a2 a3 (xf_X6_value_p21 k a1 a2 a3 n) s0 l4 l5 v3)
  else (
  if v3 = (-267 : Int32) then (
  xf_X6_value_p98 k a1 a2 a3 (xf_X6_value_p21 k a1 a2 a3 n) s0 l4 l5 v3)
  else (
  if (2 : Int32) ≤ l4 then (
  sm_b (l4 + Int32.ofInt (-1)) fun v4 =>
  sm_b (v4 - (1 : Int32)) fun v5 =>
  sm_b (-v3) fun v6 =>
  sm_b (v4 - (1 : Int32)) fun v7 =>
  sm_g (sm_in v7 (xo_len a3)) <| sm_b (s0.1 a3 v7.toNatClampNeg) fun v8 =>
  sm_g (sm_in v4 (xo_len a3)) <| sm_b (s0.1 a3 v4.toNatClampNeg) fun v9 =>
  sm_c (xf_X6_joined v6 v8 v9 s0) fun v10 s11 =>
  sm_g (sm_in v5 (xo_len a3)) <| sm_b (sm_sI s11 a3 v5.toNatClampNeg v10) fun s12 =>
  xf_X6_value_p179 k a1 a2 a3 (xf_X6_value_p21 k a1 a2 a3 n) s12 v4 l5)
  else (
  some ((0 : Int32), s0)))))
  else (
  sm_b (Int32.ofNat (xo_len a3)) fun v13 =>
  if l4 < v13 then (
  if v3 < 0 then (
  sm_b ((-1 : Int32) - v3) fun v14 =>
  sm_g (sm_in v14 (xo_len a2)) <| sm_b (s0.1 a2 v14.toNatClampNeg) fun v15 =>
  xf_X6_value_p76 k a1 a2 a3 (xf_X6_value_p21 k a1 a2 a3 n) s0 l4 l5 v15 l4)
  else (
  xf_X6_value_p76 k a1 a2 a3 (xf_X6_value_p21 k a1 a2 a3 n) s0 l4 l5 v3 l4))
  else (
  some ((0 : Int32), s0))))
noncomputable def xf_X6_value_p19 (k : Nat) (a1 : Int32) (a2 : Nat) (a3 : Nat) (s0 : sm_St) (l4 : Int32) (t0 : Int32) : Option (Int32 × sm_St) :=
  xf_X6_value_p21 k a1 a2 a3 sm_F s0 l4 t0
noncomputable def xf_X6_value (k : Nat) (a1 : Int32) (a2 : Nat) (a3 : Nat) (s0 : sm_St) : Option (Int32 × sm_St) :=
  if a1 = 0 then (
  xf_X6_value_p19 k a1 a2 a3 s0 (0 : Int32) (0 : Int32))
  else (
  sm_b (a1 - (1 : Int32)) fun v1 =>
  sm_g (sm_in v1 3) <| sm_b (s0.1 (k + 12) v1.toNatClampNeg) fun v2 =>
  xf_X6_value_p19 k a1 a2 a3 s0 (0 : Int32) v2)
set_option maxRecDepth 4000 in
theorem xk_X6_value_p179 {X : sm_VC} (C : sm_Cx X prog_8_method_7_code 8 "SmokeGoesTo$Text" 3 122 (some .int)) (hw : xo_is (sm_w X)) {k : Nat} {a1 : Int32} {a2 : Nat} {a3 : Nat} (hk : xo_tag k = 3) (ha2 : xo_tag a2 = 10) (ha3 : xo_tag a3 = 10) {R : Int32 × sm_St} {k21 : sm_St → Int32 → Int32 → Option (Int32 × sm_St)} (hk21 : ∀ (s : sm_St) (l4 : Int32) (l5 : Int32), k21 s l4 l5 = some R → sm_V X (sm_QI X R) 8 s 21 [(0, .ref (sm_ad (sm_w X) k)), (1, .int a1), (2, .ref (sm_ad (sm_w X) a2)), (3, .ref (sm_ad (sm_w X) a3)), (4, .int l4), (5, .int l5)] []) (s0 : sm_St) (l4 : Int32) (l5 : Int32)  (h : xf_X6_value_p179 k a1 a2 a3 k21 s0 l4 l5 = some R) : sm_V X (sm_QI X R) 8 s0 179 [(0, .ref (sm_ad (sm_w X) k)), (1, .int a1), (2, .ref (sm_ad (sm_w X) a2)), (3, .ref (sm_ad (sm_w X) a3)), (4, .int l4), (5, .int l5)] [] := by
  unfold xf_X6_value_p179 at h
  refine sm_iinc (lv' := fun v1 => [(5, .int v1), (0, .ref (sm_ad (sm_w X) k)), (1, .int a1), (2, .ref (sm_ad (sm_w X) a2)), (3, .ref (sm_ad (sm_w X) a3)), (4, .int l4)]) C 5 dX6_value_179 rfl (by decide) (fun _ => rfl) h (fun v1 h => ?_)
  refine sm_goto C 21 dX6_value_182 (by decide) ?_
  refine sm_sub (lv' := [(0, .ref (sm_ad (sm_w X) k)), (1, .int a1), (2, .ref (sm_ad (sm_w X) a2)), (3, .ref (sm_ad (sm_w X) a3)), (4, .int l4), (5, .int v1)]) [1, 2, 3, 4, 5, 0] rfl ?_
  exact hk21 s0 l4 v1 h
set_option maxRecDepth 4000 in
theorem xk_X6_value_p76 {X : sm_VC} (C : sm_Cx X prog_8_method_7_code 8 "SmokeGoesTo$Text" 3 122 (some .int)) (hw : xo_is (sm_w X)) {k : Nat} {a1 : Int32} {a2 : Nat} {a3 : Nat} (hk : xo_tag k = 3) (ha2 : xo_tag a2 = 10) (ha3 : xo_tag a3 = 10) {R : Int32 × sm_St} {k21 : sm_St → Int32 → Int32 → Option (Int32 × sm_St)} (hk21 : ∀ (s : sm_St) (l4 : Int32) (l5 : Int32), k21 s l4 l5 = some R → sm_V X (sm_QI X R) 8 s 21 [(0, .ref (sm_ad (sm_w X) k)), (1, .int a1), (2, .ref (sm_ad (sm_w X) a2)), (3, .ref (sm_ad (sm_w X) a3)), (4, .int l4), (5, .int l5)] []) (s0 : sm_St) (l4 : Int32) (l5 : Int32) (t0 : Int32) (t1 : Int32)  (h : xf_X6_value_p76 k a1 a2 a3 k21 s0 l4 l5 t0 t1 = some R) : sm_V X (sm_QI X R) 8 s0 76 [(0, .ref (sm_ad (sm_w X) k)), (1, .int a1), (2, .ref (sm_ad (sm_w X) a2)), (3, .ref (sm_ad (sm_w X) a3)), (4, .int l4), (5, .int l5)] [.int t0, .int t1, .ref (sm_ad (sm_w X) a3)] := by
  unfold xf_X6_value_p76 at h
  refine xa_iast C hw (k := a3) ha3 rfl dX6_value_76 h (fun s1 h => ?_)
  refine sm_iinc (lv' := fun v2 => [(4, .int v2), (0, .ref (sm_ad (sm_w X) k)), (1, .int a1), (2, .ref (sm_ad (sm_w X) a2)), (3, .ref (sm_ad (sm_w X) a3)), (5, .int l5)]) C 4 dX6_value_77 rfl (by decide) (fun _ => rfl) h (fun v2 h => ?_)
  refine sm_goto C 179 dX6_value_80 (by decide) ?_
  refine sm_sub (lv' := [(0, .ref (sm_ad (sm_w X) k)), (1, .int a1), (2, .ref (sm_ad (sm_w X) a2)), (3, .ref (sm_ad (sm_w X) a3)), (4, .int v2), (5, .int l5)]) [1, 2, 3, 4, 0, 5] rfl ?_
  exact xk_X6_value_p179 C hw hk ha2 ha3 hk21 s1 v2 l5 h
set_option maxRecDepth 4000 in
theorem xk_X6_value_p142 {X : sm_VC} (C : sm_Cx X prog_8_method_7_code 8 "SmokeGoesTo$Text" 3 122 (some .int)) (hw : xo_is (sm_w X)) {k : Nat} {a1 : Int32} {a2 : Nat} {a3 : Nat} (hk : xo_tag k = 3) (ha2 : xo_tag a2 = 10) (ha3 : xo_tag a3 = 10) {R : Int32 × sm_St} {k21 : sm_St → Int32 → Int32 → Option (Int32 × sm_St)} (hk21 : ∀ (s : sm_St) (l4 : Int32) (l5 : Int32), k21 s l4 l5 = some R → sm_V X (sm_QI X R) 8 s 21 [(0, .ref (sm_ad (sm_w X) k)), (1, .int a1), (2, .ref (sm_ad (sm_w X) a2)), (3, .ref (sm_ad (sm_w X) a3)), (4, .int l4), (5, .int l5)] []) (s0 : sm_St) (l4 : Int32) (l5 : Int32) (t0 : Int32) (t1 : Int32)  (h : xf_X6_value_p142 k a1 a2 a3 k21 s0 l4 l5 t0 t1 = some R) : sm_V X (sm_QI X R) 8 s0 142 [(0, .ref (sm_ad (sm_w X) k)), (1, .int a1), (2, .ref (sm_ad (sm_w X) a2)), (3, .ref (sm_ad (sm_w X) a3)), (4, .int l4), (5, .int l5)] [.int t0, .int t1, .ref (sm_ad (sm_w X) a3)] := by
  unfold xf_X6_value_p142 at h
  refine xa_iast C hw (k := a3) ha3 rfl dX6_value_142 h (fun s1 h => ?_)
  refine sm_goto C 179 dX6_value_143 (by decide) ?_
  exact xk_X6_value_p179 C hw hk ha2 ha3 hk21 s1 l4 l5 h
set_option maxRecDepth 4000 in
theorem xk_X6_value_p98 {X : sm_VC} (C : sm_Cx X prog_8_method_7_code 8 "SmokeGoesTo$Text" 3 122 (some .int)) (hw : xo_is (sm_w X)) {k : Nat} {a1 : Int32} {a2 : Nat} {a3 : Nat} (hk : xo_tag k = 3) (ha2 : xo_tag a2 = 10) (ha3 : xo_tag a3 = 10) {R : Int32 × sm_St} {k21 : sm_St → Int32 → Int32 → Option (Int32 × sm_St)} (hk21 : ∀ (s : sm_St) (l4 : Int32) (l5 : Int32), k21 s l4 l5 = some R → sm_V X (sm_QI X R) 8 s 21 [(0, .ref (sm_ad (sm_w X) k)), (1, .int a1), (2, .ref (sm_ad (sm_w X) a2)), (3, .ref (sm_ad (sm_w X) a3)), (4, .int l4), (5, .int l5)] []) (s0 : sm_St) (l4 : Int32) (l5 : Int32) (l6 : Int32)  (h : xf_X6_value_p98 k a1 a2 a3 k21 s0 l4 l5 l6 = some R) : sm_V X (sm_QI X R) 8 s0 98 [(0, .ref (sm_ad (sm_w X) k)), (1, .int a1), (2, .ref (sm_ad (sm_w X) a2)), (3, .ref (sm_ad (sm_w X) a3)), (4, .int l4), (5, .int l5), (6, .int l6)] [] := by
  unfold xf_X6_value_p98 at h
  refine sm_iload C 4 dX6_value_98 rfl ?_
  refine sm_iconst (v := 1) C dX6_value_100 (by decide) ?_
  refine sm_icmp_ge C 106 dX6_value_101 (by decide) h (fun h => ?_) (fun h => ?_)
  · refine sm_aload_n C 3 dX6_value_106 rfl rfl ?_
    refine sm_iload C 4 dX6_value_107 rfl ?_
    refine sm_iconst (v := 1) C dX6_value_109 (by decide) ?_
    refine sm_isub C dX6_value_110 h (fun v1 h => ?_)
    refine xa_iald C hw (k := a3) ha3 rfl dX6_value_111 h (fun v2 h => ?_)
    refine sm_istore (lv' := [(7, .int v2), (0, .ref (sm_ad (sm_w X) k)), (1, .int a1), (2, .ref (sm_ad (sm_w X) a2)), (3, .ref (sm_ad (sm_w X) a3)), (4, .int l4), (5, .int l5), (6, .int l6)]) C dX6_value_112 (by decide) rfl ?_
    refine sm_aload_n C 4 dX6_value_114 rfl rfl ?_
    refine sm_iload C 5 dX6_value_115 rfl ?_
    refine sm_iconst (v := 1) C dX6_value_117 (by decide) ?_
    refine sm_isub C dX6_value_118 h (fun v3 h => ?_)
    refine sm_iload C 7 dX6_value_119 rfl ?_
    refine sm_bipush (v := (-128)) C dX6_value_121 (by decide) ?_
    refine sm_icmp_ne C 132 dX6_value_123 (by decide) h (fun h => ?_) (fun h => ?_)
    · refine sm_iload C 0 dX6_value_132 rfl ?_
      refine sm_if_ne C 141 dX6_value_134 (by decide) h (fun h => ?_) (fun h => ?_)
      · refine sm_iconst (v := 0) C dX6_value_141 (by decide) ?_
        refine sm_sub (lv' := [(0, .ref (sm_ad (sm_w X) k)), (1, .int a1), (2, .ref (sm_ad (sm_w X) a2)), (3, .ref (sm_ad (sm_w X) a3)), (4, .int l4), (5, .int l5)]) [1, 2, 3, 4, 5, 6] rfl ?_
        exact xk_X6_value_p142 C hw hk ha2 ha3 hk21 s0 l4 l5 (0 : Int32) v3 h
      · refine sm_iconst (v := 1) C dX6_value_137 (by decide) ?_
        refine sm_goto C 142 dX6_value_138 (by decide) ?_
        refine sm_sub (lv' := [(0, .ref (sm_ad (sm_w X) k)), (1, .int a1), (2, .ref (sm_ad (sm_w X) a2)), (3, .ref (sm_ad (sm_w X) a3)), (4, .int l4), (5, .int l5)]) [1, 2, 3, 4, 5, 6] rfl ?_
        exact xk_X6_value_p142 C hw hk ha2 ha3 hk21 s0 l4 l5 (1 : Int32) v3 h
    · refine sm_iload C 0 dX6_value_126 rfl ?_
      refine sm_ineg C dX6_value_128 h (fun v4 h => ?_)
      refine sm_goto C 142 dX6_value_129 (by decide) ?_
      refine sm_sub (lv' := [(0, .ref (sm_ad (sm_w X) k)), (1, .int a1), (2, .ref (sm_ad (sm_w X) a2)), (3, .ref (sm_ad (sm_w X) a3)), (4, .int l4), (5, .int l5)]) [1, 2, 3, 4, 5, 6] rfl ?_
      exact xk_X6_value_p142 C hw hk ha2 ha3 hk21 s0 l4 l5 v4 v3 h
  · refine sm_iconst (v := 0) C dX6_value_104 (by decide) ?_
    exact sm_iret C dX6_value_105 h
set_option maxRecDepth 4000 in
theorem xk_X6_value_p21 {X : sm_VC} (C : sm_Cx X prog_8_method_7_code 8 "SmokeGoesTo$Text" 3 122 (some .int)) (hw : xo_is (sm_w X)) {k : Nat} {a1 : Int32} {a2 : Nat} {a3 : Nat} (hk : xo_tag k = 3) (ha2 : xo_tag a2 = 10) (ha3 : xo_tag a3 = 10) {R : Int32 × sm_St}   : ∀ (n : Nat) (s0 : sm_St) (l4 : Int32) (l5 : Int32) , xf_X6_value_p21 k a1 a2 a3 n s0 l4 l5 = some R → sm_V X (sm_QI X R) 8 s0 21 [(0, .ref (sm_ad (sm_w X) k)), (1, .int a1), (2, .ref (sm_ad (sm_w X) a2)), (3, .ref (sm_ad (sm_w X) a3)), (4, .int l4), (5, .int l5)] [] := by
  intro n
  induction n with
  | zero =>
    intro s0 l4 l5 h
    have h : (none : Option (Int32 × sm_St)) = some R := h
    cases h
  | succ n ih =>
    intro s0 l4 l5 h
    unfold xf_X6_value_p21 at h
    refine sm_iload C 5 dX6_value_21 rfl ?_
    refine sm_aload_n C 0 dX6_value_23 rfl rfl ?_
    refine xr_Text_ends C hw (k := k) hk gf_Text_15 dX6_value_24 ?_
    refine sm_iload_n C 1 dX6_value_27 rfl rfl ?_
    refine xa_iald C hw (k := (k + 12)) (xt_Text_ends hk).1 (xt_Text_ends hk).2 dX6_value_28 h (fun v1 h => ?_)
    refine sm_icmp_ge C 185 dX6_value_29 (by decide) h (fun h => ?_) (fun h => ?_)
    · refine sm_iload C 4 dX6_value_185 rfl ?_
      refine sm_iconst (v := 1) C dX6_value_187 (by decide) ?_
      refine sm_icmp_ge C 195 dX6_value_188 (by decide) h (fun h => ?_) (fun h => ?_)
      · refine sm_aload_n C 3 dX6_value_195 rfl rfl ?_
        refine sm_iconst (v := 0) C dX6_value_196 (by decide) ?_
        refine xa_iald C hw (k := a3) ha3 rfl dX6_value_197 h (fun v2 h => ?_)
        exact sm_iret C dX6_value_198 h
      · refine sm_iconst (v := 0) C dX6_value_191 (by decide) ?_
        refine sm_goto C 198 dX6_value_192 (by decide) ?_
        exact sm_iret C dX6_value_198 h
    · refine sm_aload_n C 0 dX6_value_32 rfl rfl ?_
      refine xr_Text_code C hw (k := k) hk gf_Text_9 dX6_value_33 ?_
      refine sm_iload C 5 dX6_value_36 rfl ?_
      refine xa_iald C hw (k := (k + 6)) (xt_Text_code hk).1 (xt_Text_code hk).2 dX6_value_38 h (fun v3 h => ?_)
      refine sm_istore (lv' := [(6, .int v3), (0, .ref (sm_ad (sm_w X) k)), (1, .int a1), (2, .ref (sm_ad (sm_w X) a2)), (3, .ref (sm_ad (sm_w X) a3)), (4, .int l4), (5, .int l5)]) C dX6_value_39 (by decide) rfl ?_
      refine sm_iload C 0 dX6_value_41 rfl ?_
      refine sm_bipush (v := (-6)) C dX6_value_43 (by decide) ?_
      refine sm_icmp_lt C 83 dX6_value_45 (by decide) h (fun h => ?_) (fun h => ?_)
      · refine sm_iload C 0 dX6_value_83 rfl ?_
        refine sm_bipush (v := (-128)) C dX6_value_85 (by decide) ?_
        refine sm_icmp_eq C 98 dX6_value_87 (by decide) h (fun h => ?_) (fun h => ?_)
        · refine sm_sub (lv' := [(0, .ref (sm_ad (sm_w X) k)), (1, .int a1), (2, .ref (sm_ad (sm_w X) a2)), (3, .ref (sm_ad (sm_w X) a3)), (4, .int l4), (5, .int l5), (6, .int v3)]) [1, 2, 3, 4, 5, 6, 0] rfl ?_
          exact xk_X6_value_p98 C hw hk ha2 ha3 ih s0 l4 l5 v3 h
        · refine sm_iload C 0 dX6_value_90 rfl ?_
          refine sm_sipush (v := (-267)) C dX6_value_92 (by decide) ?_
          refine sm_icmp_ne C 146 dX6_value_95 (by decide) h (fun h => ?_) (fun h => ?_)
          · refine sm_iload C 5 dX6_value_146 rfl ?_
            refine sm_iconst (v := 2) C dX6_value_148 (by decide) ?_
            refine sm_icmp_ge C 154 dX6_value_149 (by decide) h (fun h => ?_) (fun h => ?_)
            · refine sm_iinc (lv' := fun v4 => [(4, .int v4), (6, .int v3), (0, .ref (sm_ad (sm_w X) k)), (1, .int a1), (2, .ref (sm_ad (sm_w X) a2)), (3, .ref (sm_ad (sm_w X) a3)), (5, .int l5)]) C 5 dX6_value_154 rfl (by decide) (fun _ => rfl) h (fun v4 h => ?_)
              refine sm_aload_n C 5 dX6_value_157 rfl rfl ?_
              refine sm_iload C 0 dX6_value_158 rfl ?_
              refine sm_iconst (v := 1) C dX6_value_160 (by decide) ?_
              refine sm_isub C dX6_value_161 h (fun v5 h => ?_)
              refine sm_iload C 1 dX6_value_162 rfl ?_
              refine sm_ineg C dX6_value_164 h (fun v6 h => ?_)
              refine sm_aload_n C 5 dX6_value_165 rfl rfl ?_
              refine sm_iload C 0 dX6_value_166 rfl ?_
              refine sm_iconst (v := 1) C dX6_value_168 (by decide) ?_
              refine sm_isub C dX6_value_169 h (fun v7 h => ?_)
              refine xa_iald C hw (k := a3) ha3 rfl dX6_value_170 h (fun v8 h => ?_)
              refine sm_aload_n C 5 dX6_value_171 rfl rfl ?_
              refine sm_iload C 0 dX6_value_172 rfl ?_
              refine xa_iald C hw (k := a3) ha3 rfl dX6_value_174 h (fun v9 h => ?_)
              refine sm_callSI C [.int v6, .int v8, .int v9] (xc_X6_joined hw v6 v8 v9) gm_X6_joined gl_Text_34 gs_X6_joined rfl ⟨Nat.le_of_ble_eq_true rfl, Nat.le_of_ble_eq_true rfl⟩ rfl (Nat.le_of_ble_eq_true rfl) dX6_value_175 h (fun v10 s11 h => ?_)
              refine xa_iast C hw (k := a3) ha3 rfl dX6_value_178 h (fun s12 h => ?_)
              refine sm_sub (lv' := [(0, .ref (sm_ad (sm_w X) k)), (1, .int a1), (2, .ref (sm_ad (sm_w X) a2)), (3, .ref (sm_ad (sm_w X) a3)), (4, .int v4), (5, .int l5)]) [2, 3, 4, 5, 0, 6] rfl ?_
              exact xk_X6_value_p179 C hw hk ha2 ha3 ih s12 v4 l5 h
            · refine sm_iconst (v := 0) C dX6_value_152 (by decide) ?_
              exact sm_iret C dX6_value_153 h
          · refine sm_sub (lv' := [(0, .ref (sm_ad (sm_w X) k)), (1, .int a1), (2, .ref (sm_ad (sm_w X) a2)), (3, .ref (sm_ad (sm_w X) a3)), (4, .int l4), (5, .int l5), (6, .int v3)]) [1, 2, 3, 4, 5, 6, 0] rfl ?_
            exact xk_X6_value_p98 C hw hk ha2 ha3 ih s0 l4 l5 v3 h
      · refine sm_iload C 5 dX6_value_48 rfl ?_
        refine sm_aload_n C 4 dX6_value_50 rfl rfl ?_
        refine xa_alenI C hw (k := a3) ha3 rfl dX6_value_51 h (fun v13 h => ?_)
        refine sm_icmp_lt C 57 dX6_value_52 (by decide) h (fun h => ?_) (fun h => ?_)
        · refine sm_aload_n C 4 dX6_value_57 rfl rfl ?_
          refine sm_iload C 5 dX6_value_58 rfl ?_
          refine sm_iload C 0 dX6_value_60 rfl ?_
          refine sm_if_lt C 70 dX6_value_62 (by decide) h (fun h => ?_) (fun h => ?_)
          · refine sm_aload_n C 3 dX6_value_70 rfl rfl ?_
            refine sm_iconst (v := (-1)) C dX6_value_71 (by decide) ?_
            refine sm_iload C 0 dX6_value_72 rfl ?_
            refine sm_isub C dX6_value_74 h (fun v14 h => ?_)
            refine xa_iald C hw (k := a2) ha2 rfl dX6_value_75 h (fun v15 h => ?_)
            refine sm_sub (lv' := [(0, .ref (sm_ad (sm_w X) k)), (1, .int a1), (2, .ref (sm_ad (sm_w X) a2)), (3, .ref (sm_ad (sm_w X) a3)), (4, .int l4), (5, .int l5)]) [1, 2, 3, 4, 5, 6] rfl ?_
            exact xk_X6_value_p76 C hw hk ha2 ha3 ih s0 l4 l5 v15 l4 h
          · refine sm_iload C 0 dX6_value_65 rfl ?_
            refine sm_goto C 76 dX6_value_67 (by decide) ?_
            refine sm_sub (lv' := [(0, .ref (sm_ad (sm_w X) k)), (1, .int a1), (2, .ref (sm_ad (sm_w X) a2)), (3, .ref (sm_ad (sm_w X) a3)), (4, .int l4), (5, .int l5)]) [1, 2, 3, 4, 5, 6] rfl ?_
            exact xk_X6_value_p76 C hw hk ha2 ha3 ih s0 l4 l5 v3 l4 h
        · refine sm_iconst (v := 0) C dX6_value_55 (by decide) ?_
          exact sm_iret C dX6_value_56 h
set_option maxRecDepth 4000 in
theorem xk_X6_value_p19 {X : sm_VC} (C : sm_Cx X prog_8_method_7_code 8 "SmokeGoesTo$Text" 3 122 (some .int)) (hw : xo_is (sm_w X)) {k : Nat} {a1 : Int32} {a2 : Nat} {a3 : Nat} (hk : xo_tag k = 3) (ha2 : xo_tag a2 = 10) (ha3 : xo_tag a3 = 10) {R : Int32 × sm_St}   (s0 : sm_St) (l4 : Int32) (t0 : Int32)  (h : xf_X6_value_p19 k a1 a2 a3 s0 l4 t0 = some R) : sm_V X (sm_QI X R) 8 s0 19 [(0, .ref (sm_ad (sm_w X) k)), (1, .int a1), (2, .ref (sm_ad (sm_w X) a2)), (3, .ref (sm_ad (sm_w X) a3)), (4, .int l4)] [.int t0] := by
  unfold xf_X6_value_p19 at h
  refine sm_istore (lv' := [(5, .int t0), (0, .ref (sm_ad (sm_w X) k)), (1, .int a1), (2, .ref (sm_ad (sm_w X) a2)), (3, .ref (sm_ad (sm_w X) a3)), (4, .int l4)]) C dX6_value_19 (by decide) rfl ?_
  refine sm_sub (lv' := [(0, .ref (sm_ad (sm_w X) k)), (1, .int a1), (2, .ref (sm_ad (sm_w X) a2)), (3, .ref (sm_ad (sm_w X) a3)), (4, .int l4), (5, .int t0)]) [1, 2, 3, 4, 5, 0] rfl ?_
  exact xk_X6_value_p21 C hw hk ha2 ha3 sm_F s0 l4 t0 h
set_option maxRecDepth 4000 in
theorem xc_X6_value {w : sm_WD} {l : Launch} (hw : xo_is w) (k : Nat) (a1 : Int32) (a2 : Nat) (a3 : Nat) (hk : xo_tag k = 3) (ha2 : xo_tag a2 = 10) (ha3 : xo_tag a3 = 10) : sm_CI w l yX6_value prog_8_method_7_code 8 (some .int) 3 122 [.ref (sm_ad w k), .int a1, .ref (sm_ad w a2), .ref (sm_ad w a3)] (fun s => xf_X6_value k a1 a2 a3 s) := by
  refine sm_CI.of (by decide +kernel) (Nat.le_of_ble_eq_true rfl) (fun X s0 R hXw hXl C h => ?_)
  subst hXw
  subst hXl
  have h : xf_X6_value k a1 a2 a3 s0 = some R := h
  show sm_V X (sm_QI X R) 8 s0 0 [(0, .ref (sm_ad (sm_w X) k)), (1, .int a1), (2, .ref (sm_ad (sm_w X) a2)), (3, .ref (sm_ad (sm_w X) a3))] []
  unfold xf_X6_value at h
  refine sm_iconst (v := 0) C dX6_value_0 (by decide) ?_
  refine sm_istore (lv' := [(4, .int (0 : Int32)), (0, .ref (sm_ad (sm_w X) k)), (1, .int a1), (2, .ref (sm_ad (sm_w X) a2)), (3, .ref (sm_ad (sm_w X) a3))]) C dX6_value_1 (by decide) rfl ?_
  refine sm_iload_n C 2 dX6_value_3 rfl rfl ?_
  refine sm_if_ne C 11 dX6_value_4 (by decide) h (fun h => ?_) (fun h => ?_)
  · refine sm_aload_n C 1 dX6_value_11 rfl rfl ?_
    refine xr_Text_ends C hw (k := k) hk gf_Text_15 dX6_value_12 ?_
    refine sm_iload_n C 2 dX6_value_15 rfl rfl ?_
    refine sm_iconst (v := 1) C dX6_value_16 (by decide) ?_
    refine sm_isub C dX6_value_17 h (fun v1 h => ?_)
    refine xa_iald C hw (k := (k + 12)) (xt_Text_ends hk).1 (xt_Text_ends hk).2 dX6_value_18 h (fun v2 h => ?_)
    refine sm_sub (lv' := [(0, .ref (sm_ad (sm_w X) k)), (1, .int a1), (2, .ref (sm_ad (sm_w X) a2)), (3, .ref (sm_ad (sm_w X) a3)), (4, .int (0 : Int32))]) [1, 2, 3, 4, 0] rfl ?_
    exact xk_X6_value_p19 C hw hk ha2 ha3 s0 (0 : Int32) v2 h
  · refine sm_iconst (v := 0) C dX6_value_7 (by decide) ?_
    refine sm_goto C 19 dX6_value_8 (by decide) ?_
    refine sm_sub (lv' := [(0, .ref (sm_ad (sm_w X) k)), (1, .int a1), (2, .ref (sm_ad (sm_w X) a2)), (3, .ref (sm_ad (sm_w X) a3)), (4, .int (0 : Int32))]) [1, 2, 3, 4, 0] rfl ?_
    exact xk_X6_value_p19 C hw hk ha2 ha3 s0 (0 : Int32) (0 : Int32) h
noncomputable def xf_X1_bears (a1 : Int32) (a2 : Int32) (a3 : Int32) (s0 : sm_St) : Option (Int32 × sm_St) :=
  if a1 = (1 : Int32) then (
  sm_b ((2 : Int32) * a2) fun v1 =>
  some (v1, s0))
  else if a1 = (2 : Int32) then (
  sm_b (a2 + a3) fun v2 =>
  some (v2, s0))
  else if a1 = (3 : Int32) then (
  sm_b ((2 : Int32) * a2) fun v3 =>
  sm_b (v3 - (1 : Int32)) fun v4 =>
  sm_b (if (0 : Int32) < v4 then v4 else (0 : Int32)) fun v5 =>
  some (v5, s0))
  else if a1 = (4 : Int32) then (
  sm_b (a2 + a3) fun v6 =>
  sm_g (!decide ((2 : Int32) = 0)) <| sm_b (v6 / (2 : Int32)) fun v7 =>
  some (v7, s0))
  else if a1 = (5 : Int32) then (
  some ((0 : Int32), s0))
  else (
  some (a2, s0))
set_option maxRecDepth 4000 in
theorem xc_X1_bears {w : sm_WD} {l : Launch} (hw : xo_is w) (a1 : Int32) (a2 : Int32) (a3 : Int32) : sm_CI w l yX1_bears prog_3_method_7_code 3 (some .int) 2 100 [.int a1, .int a2, .int a3] (fun s => xf_X1_bears a1 a2 a3 s) := by
  refine sm_CI.of (by decide +kernel) (Nat.le_of_ble_eq_true rfl) (fun X s0 R hXw hXl C h => ?_)
  subst hXw
  subst hXl
  have h : xf_X1_bears a1 a2 a3 s0 = some R := h
  show sm_V X (sm_QI X R) 3 s0 0 [(0, .int a1), (1, .int a2), (2, .int a3)] []
  unfold xf_X1_bears at h
  refine sm_iload_n C 0 dX1_bears_0 rfl rfl ?_
  by_cases q1_0 : a1 = (1 : Int32)
  · rw [if_pos q1_0] at h
    refine sm_tswIn C 35 36 dX1_bears_1 (by rw [q1_0]; decide) (by decide) ?_
    refine sm_iconst (v := 2) C dX1_bears_36 (by decide) ?_
    refine sm_iload_n C 1 dX1_bears_37 rfl rfl ?_
    refine sm_imul C dX1_bears_38 h (fun v1 h => ?_)
    exact sm_iret C dX1_bears_39 h
  · rw [if_neg q1_0] at h
    by_cases q1_1 : a1 = (2 : Int32)
    · rw [if_pos q1_1] at h
      refine sm_tswIn C 39 40 dX1_bears_1 (by rw [q1_1]; decide) (by decide) ?_
      refine sm_iload_n C 1 dX1_bears_40 rfl rfl ?_
      refine sm_iload_n C 2 dX1_bears_41 rfl rfl ?_
      refine sm_iadd C dX1_bears_42 h (fun v2 h => ?_)
      exact sm_iret C dX1_bears_43 h
    · rw [if_neg q1_1] at h
      by_cases q1_2 : a1 = (3 : Int32)
      · rw [if_pos q1_2] at h
        refine sm_tswIn C 43 44 dX1_bears_1 (by rw [q1_2]; decide) (by decide) ?_
        refine sm_iconst (v := 0) C dX1_bears_44 (by decide) ?_
        refine sm_iconst (v := 2) C dX1_bears_45 (by decide) ?_
        refine sm_iload_n C 1 dX1_bears_46 rfl rfl ?_
        refine sm_imul C dX1_bears_47 h (fun v3 h => ?_)
        refine sm_iconst (v := 1) C dX1_bears_48 (by decide) ?_
        refine sm_isub C dX1_bears_49 h (fun v4 h => ?_)
        refine sm_mmax C gl_Kind_18 gs_max gn_Math gc_max (Nat.le_of_ble_eq_true rfl) (Nat.le_of_ble_eq_true rfl) dX1_bears_50 h (fun v5 h => ?_)
        exact sm_iret C dX1_bears_53 h
      · rw [if_neg q1_2] at h
        by_cases q1_3 : a1 = (4 : Int32)
        · rw [if_pos q1_3] at h
          refine sm_tswIn C 53 54 dX1_bears_1 (by rw [q1_3]; decide) (by decide) ?_
          refine sm_iload_n C 1 dX1_bears_54 rfl rfl ?_
          refine sm_iload_n C 2 dX1_bears_55 rfl rfl ?_
          refine sm_iadd C dX1_bears_56 h (fun v6 h => ?_)
          refine sm_iconst (v := 2) C dX1_bears_57 (by decide) ?_
          refine sm_idiv C dX1_bears_58 h (fun v7 h => ?_)
          exact sm_iret C dX1_bears_59 h
        · rw [if_neg q1_3] at h
          by_cases q1_4 : a1 = (5 : Int32)
          · rw [if_pos q1_4] at h
            refine sm_tswIn C 59 60 dX1_bears_1 (by rw [q1_4]; decide) (by decide) ?_
            refine sm_iconst (v := 0) C dX1_bears_60 (by decide) ?_
            exact sm_iret C dX1_bears_61 h
          · rw [if_neg q1_4] at h
            refine sm_tswOut C 62 dX1_bears_1 (by have w0 := lv_neT q1_0 (a := 1) rfl; have w1 := lv_neT q1_1 (a := 2) rfl; have w2 := lv_neT q1_2 (a := 3) rfl; have w3 := lv_neT q1_3 (a := 4) rfl; have w4 := lv_neT q1_4 (a := 5) rfl; omega) (by decide) ?_
            refine sm_iload_n C 1 dX1_bears_62 rfl rfl ?_
            exact sm_iret C dX1_bears_63 h
noncomputable def xf_X3_pass_p17 (a1 : Int32) (a2 : Int32) : Nat → sm_St → Int32 → Option (Unit × sm_St)
  | 0, _, _ => none
  | n + 1, s0, l3 =>
  if (8 : Int32) ≤ l3 then (
  some ((), s0))
  else (
  sm_g (sm_in l3 8) <| sm_b (s0.2.1 55 l3.toNatClampNeg) fun v1 =>
  sm_b ((100 : Int32) - a1) fun v2 =>
  sm_b (v2 - a2) fun v3 =>
  sm_b (v3.toInt64) fun v4 =>
  sm_b (v1 * v4) fun v5 =>
  sm_b (l3 + (1 : Int32)) fun v6 =>
  sm_c (xf_X7_round v6 s0) fun v7 s8 =>
  sm_g (sm_in v7 8) <| sm_b (s8.2.1 55 v7.toNatClampNeg) fun v9 =>
  sm_b (a1.toInt64) fun v10 =>
  sm_b (v9 * v10) fun v11 =>
  sm_b (v5 + v11) fun v12 =>
  sm_b (l3 - (1 : Int32)) fun v13 =>
  sm_c (xf_X7_round v13 s8) fun v14 s15 =>
  sm_g (sm_in v14 8) <| sm_b (s15.2.1 55 v14.toNatClampNeg) fun v16 =>
  sm_b (a2.toInt64) fun v17 =>
  sm_b (v16 * v17) fun v18 =>
  sm_b (v12 + v18) fun v19 =>
  sm_g (sm_in l3 8) <| sm_b (sm_sL s15 53 l3.toNatClampNeg v19) fun s20 =>
  sm_g (sm_in l3 8) <| sm_b (s20.2.1 54 l3.toNatClampNeg) fun v21 =>
  sm_b (v21 * (100 : Int64)) fun v22 =>
  sm_g (sm_in l3 8) <| sm_b (s20.2.1 53 l3.toNatClampNeg) fun v23 =>
  sm_b (v22 + v23) fun v24 =>
  sm_g (sm_in l3 8) <| sm_b (sm_sL s20 54 l3.toNatClampNeg v24) fun s25 =>
  sm_b (l3 + Int32.ofInt 1) fun v26 =>
  (xf_X3_pass_p17 a1 a2 n) s25 v26)
noncomputable def xf_X3_pass (a1 : Int32) (a2 : Int32) (s0 : sm_St) : Option (Unit × sm_St) :=
  sm_g (sm_cpyok (0 : Int32) (0 : Int32) (8 : Int32) 8 8) <| sm_b (sm_cL s0 53 55 (0 : Int32).toNatClampNeg (0 : Int32).toNatClampNeg (8 : Int32).toNatClampNeg) fun s1 =>
  xf_X3_pass_p17 a1 a2 sm_F s1 (0 : Int32)
set_option maxRecDepth 4000 in
theorem xk_X3_pass_p17 {X : sm_VC} (C : sm_Cx X prog_5_method_3_code 4 "SmokeGoesTo$Odds" 3 120 none) (hw : xo_is (sm_w X)) {a1 : Int32} {a2 : Int32}  {R : Unit × sm_St}   : ∀ (n : Nat) (s0 : sm_St) (l3 : Int32) , xf_X3_pass_p17 a1 a2 n s0 l3 = some R → sm_V X (sm_QV X R) 4 s0 17 [(0, .ref (sm_ad (sm_w X) 52)), (1, .int a1), (2, .int a2), (3, .int l3)] [] := by
  intro n
  induction n with
  | zero =>
    intro s0 l3 h
    have h : (none : Option (Unit × sm_St)) = some R := h
    cases h
  | succ n ih =>
    intro s0 l3 h
    unfold xf_X3_pass_p17 at h
    refine sm_iload_n C 3 dX3_pass_17 rfl rfl ?_
    refine sm_bipush (v := 8) C dX3_pass_18 (by decide) ?_
    refine sm_icmp_ge C 102 dX3_pass_20 (by decide) h (fun h => ?_) (fun h => ?_)
    · exact sm_vret C dX3_pass_102 h
    · refine sm_aload_n C 0 dX3_pass_23 rfl rfl ?_
      refine xr_Odds_at C hw (k := 52) rfl gf_Odds_9 dX3_pass_24 ?_
      refine sm_iload_n C 3 dX3_pass_27 rfl rfl ?_
      refine sm_aload_n C 0 dX3_pass_28 rfl rfl ?_
      refine xr_Odds_ahead C hw (k := 52) rfl gf_Odds_22 dX3_pass_29 ?_
      refine sm_iload_n C 3 dX3_pass_32 rfl rfl ?_
      refine xa_lald C hw (k := 55) rfl rfl dX3_pass_33 h (fun v1 h => ?_)
      refine sm_bipush (v := 100) C dX3_pass_34 (by decide) ?_
      refine sm_iload_n C 1 dX3_pass_36 rfl rfl ?_
      refine sm_isub C dX3_pass_37 h (fun v2 h => ?_)
      refine sm_iload_n C 2 dX3_pass_38 rfl rfl ?_
      refine sm_isub C dX3_pass_39 h (fun v3 h => ?_)
      refine sm_i2l C dX3_pass_40 h (fun v4 h => ?_)
      refine sm_lmul C dX3_pass_41 h (fun v5 h => ?_)
      refine sm_aload_n C 0 dX3_pass_42 rfl rfl ?_
      refine xr_Odds_ahead C hw (k := 52) rfl gf_Odds_22 dX3_pass_43 ?_
      refine sm_iload_n C 3 dX3_pass_46 rfl rfl ?_
      refine sm_iconst (v := 1) C dX3_pass_47 (by decide) ?_
      refine sm_iadd C dX3_pass_48 h (fun v6 h => ?_)
      refine sm_callNI C [.int v6] (xc_X7_round hw v6) gm_X7_round gl_Odds_37 gs_X7_round rfl ⟨Nat.le_of_ble_eq_true rfl, Nat.le_of_ble_eq_true rfl⟩ rfl (Nat.le_of_ble_eq_true rfl) dX3_pass_49 h (fun v7 s8 h => ?_)
      refine xa_lald C hw (k := 55) rfl rfl dX3_pass_52 h (fun v9 h => ?_)
      refine sm_iload_n C 1 dX3_pass_53 rfl rfl ?_
      refine sm_i2l C dX3_pass_54 h (fun v10 h => ?_)
      refine sm_lmul C dX3_pass_55 h (fun v11 h => ?_)
      refine sm_ladd C dX3_pass_56 h (fun v12 h => ?_)
      refine sm_aload_n C 0 dX3_pass_57 rfl rfl ?_
      refine xr_Odds_ahead C hw (k := 52) rfl gf_Odds_22 dX3_pass_58 ?_
      refine sm_iload_n C 3 dX3_pass_61 rfl rfl ?_
      refine sm_iconst (v := 1) C dX3_pass_62 (by decide) ?_
      refine sm_isub C dX3_pass_63 h (fun v13 h => ?_)
      refine sm_callNI C [.int v13] (xc_X7_round hw v13) gm_X7_round gl_Odds_37 gs_X7_round rfl ⟨Nat.le_of_ble_eq_true rfl, Nat.le_of_ble_eq_true rfl⟩ rfl (Nat.le_of_ble_eq_true rfl) dX3_pass_64 h (fun v14 s15 h => ?_)
      refine xa_lald C hw (k := 55) rfl rfl dX3_pass_67 h (fun v16 h => ?_)
      refine sm_iload_n C 2 dX3_pass_68 rfl rfl ?_
      refine sm_i2l C dX3_pass_69 h (fun v17 h => ?_)
      refine sm_lmul C dX3_pass_70 h (fun v18 h => ?_)
      refine sm_ladd C dX3_pass_71 h (fun v19 h => ?_)
      refine xa_last C hw (k := 53) rfl rfl dX3_pass_72 h (fun s20 h => ?_)
      refine sm_aload_n C 0 dX3_pass_73 rfl rfl ?_
      refine xr_Odds_together C hw (k := 52) rfl gf_Odds_15 dX3_pass_74 ?_
      refine sm_iload_n C 3 dX3_pass_77 rfl rfl ?_
      refine sm_aload_n C 0 dX3_pass_78 rfl rfl ?_
      refine xr_Odds_together C hw (k := 52) rfl gf_Odds_15 dX3_pass_79 ?_
      refine sm_iload_n C 3 dX3_pass_82 rfl rfl ?_
      refine xa_lald C hw (k := 54) rfl rfl dX3_pass_83 h (fun v21 h => ?_)
      refine sm_ldc2 C gk_Odds_51 dX3_pass_84 ?_
      refine sm_lmul C dX3_pass_87 h (fun v22 h => ?_)
      refine sm_aload_n C 0 dX3_pass_88 rfl rfl ?_
      refine xr_Odds_at C hw (k := 52) rfl gf_Odds_9 dX3_pass_89 ?_
      refine sm_iload_n C 3 dX3_pass_92 rfl rfl ?_
      refine xa_lald C hw (k := 53) rfl rfl dX3_pass_93 h (fun v23 h => ?_)
      refine sm_ladd C dX3_pass_94 h (fun v24 h => ?_)
      refine xa_last C hw (k := 54) rfl rfl dX3_pass_95 h (fun s25 h => ?_)
      refine sm_iinc (lv' := fun v26 => [(3, .int v26), (0, .ref (sm_ad (sm_w X) 52)), (1, .int a1), (2, .int a2)]) C 3 dX3_pass_96 rfl (by decide) (fun _ => rfl) h (fun v26 h => ?_)
      refine sm_goto C 17 dX3_pass_99 (by decide) ?_
      refine sm_sub (lv' := [(0, .ref (sm_ad (sm_w X) 52)), (1, .int a1), (2, .int a2), (3, .int v26)]) [1, 2, 3, 0] rfl ?_
      exact ih s25 v26 h
set_option maxRecDepth 4000 in
theorem xc_X3_pass {w : sm_WD} {l : Launch} (hw : xo_is w) (a1 : Int32) (a2 : Int32) : sm_CV w l yX3_pass prog_5_method_3_code 4 none 3 120 [.ref (sm_ad w 52), .int a1, .int a2] (fun s => xf_X3_pass a1 a2 s) := by
  refine sm_CV.of (by decide +kernel) (Nat.le_of_ble_eq_true rfl) (fun X s0 R hXw hXl C h => ?_)
  subst hXw
  subst hXl
  have h : xf_X3_pass a1 a2 s0 = some R := h
  show sm_V X (sm_QV X R) 4 s0 0 [(0, .ref (sm_ad (sm_w X) 52)), (1, .int a1), (2, .int a2)] []
  unfold xf_X3_pass at h
  refine sm_aload_n C 0 dX3_pass_0 rfl rfl ?_
  refine xr_Odds_at C hw (k := 52) rfl gf_Odds_9 dX3_pass_1 ?_
  refine sm_iconst (v := 0) C dX3_pass_4 (by decide) ?_
  refine sm_aload_n C 0 dX3_pass_5 rfl rfl ?_
  refine xr_Odds_ahead C hw (k := 52) rfl gf_Odds_22 dX3_pass_6 ?_
  refine sm_iconst (v := 0) C dX3_pass_9 (by decide) ?_
  refine sm_bipush (v := 8) C dX3_pass_10 (by decide) ?_
  refine xa_copyl C hw (k := 53) (k1 := 55) rfl rfl rfl rfl gl_Odds_53 (Nat.le_of_ble_eq_true rfl) (Nat.le_of_ble_eq_true rfl) dX3_pass_12 h (fun s1 h => ?_)
  refine sm_iconst (v := 0) C dX3_pass_15 (by decide) ?_
  refine sm_istore_n (lv' := [(3, .int (0 : Int32)), (0, .ref (sm_ad (sm_w X) 52)), (1, .int a1), (2, .int a2)]) C dX3_pass_16 rfl (by decide) rfl ?_
  refine sm_sub (lv' := [(0, .ref (sm_ad (sm_w X) 52)), (1, .int a1), (2, .int a2), (3, .int (0 : Int32))]) [1, 2, 3, 0] rfl ?_
  exact xk_X3_pass_p17 C hw sm_F s1 (0 : Int32) h
noncomputable def xf_X3_spread_p36 (a1 : Nat) (a2 : Int32) : Nat → sm_St → Int32 → Option (Unit × sm_St)
  | 0, _, _ => none
  | n + 1, s0, l3 =>
  if a2 ≤ l3 then (
  some ((), s0))
  else (
  sm_b (s0.1 a1 1) fun v1 =>
  sm_b (s0.1 a1 2) fun v2 =>
  sm_c (xf_X3_pass v1 v2 s0) fun _ s4 =>
  sm_b (s4.2.1 52 2) fun v5 =>
  sm_b (v5 * (100 : Int64)) fun v6 =>
  sm_b (sm_sL s4 52 2 v6) fun s7 =>
  sm_b (l3 + Int32.ofInt 1) fun v8 =>
  (xf_X3_spread_p36 a1 a2 n) s7 v8)
noncomputable def xf_X3_spread (a1 : Nat) (a2 : Int32) (s0 : sm_St) : Option (Unit × sm_St) :=
  sm_c (xf_J7_fill_d0a16 53 (0 : Int64) s0) fun _ s2 =>
  sm_c (xf_J7_fill_d0a16 54 (0 : Int64) s2) fun _ s4 =>
  sm_b (s4.1 a1 0) fun v5 =>
  sm_c (xf_X7_round v5 s4) fun v6 s7 =>
  sm_g (sm_in v6 8) <| sm_b (sm_sL s7 53 v6.toNatClampNeg (1 : Int64)) fun s8 =>
  sm_b (sm_sL s8 52 2 (1 : Int64)) fun s9 =>
  xf_X3_spread_p36 a1 a2 sm_F s9 (0 : Int32)
set_option maxRecDepth 4000 in
theorem xk_X3_spread_p36 {X : sm_VC} (C : sm_Cx X prog_5_method_2_code 4 "SmokeGoesTo$Odds" 4 143 none) (hw : xo_is (sm_w X)) {a1 : Nat} {a2 : Int32} (ha1 : xo_tag a1 = 1) {R : Unit × sm_St}   : ∀ (n : Nat) (s0 : sm_St) (l3 : Int32) , xf_X3_spread_p36 a1 a2 n s0 l3 = some R → sm_V X (sm_QV X R) 4 s0 36 [(0, .ref (sm_ad (sm_w X) 52)), (1, .ref (sm_ad (sm_w X) a1)), (2, .int a2), (3, .int l3)] [] := by
  intro n
  induction n with
  | zero =>
    intro s0 l3 h
    have h : (none : Option (Unit × sm_St)) = some R := h
    cases h
  | succ n ih =>
    intro s0 l3 h
    unfold xf_X3_spread_p36 at h
    refine sm_iload_n C 3 dX3_spread_36 rfl rfl ?_
    refine sm_iload_n C 2 dX3_spread_37 rfl rfl ?_
    refine sm_icmp_ge C 71 dX3_spread_38 (by decide) h (fun h => ?_) (fun h => ?_)
    · exact sm_vret C dX3_spread_71 h
    · refine sm_aload_n C 0 dX3_spread_41 rfl rfl ?_
      refine sm_aload_n C 1 dX3_spread_42 rfl rfl ?_
      refine xr_Fire_left C hw (k := a1) ha1 gf_Odds_41 dX3_spread_43 h (fun v1 h => ?_)
      refine sm_aload_n C 1 dX3_spread_46 rfl rfl ?_
      refine xr_Fire_right C hw (k := a1) ha1 gf_Odds_44 dX3_spread_47 h (fun v2 h => ?_)
      refine sm_callVV (k := 52) C [.int v1, .int v2] (xc_X3_pass hw v1 v2) gm_X3_pass gl_Odds_47 gi_X3_pass ge_X3_pass (xob_Odds hw rfl) rfl ⟨Nat.le_of_ble_eq_true rfl, Nat.le_of_ble_eq_true rfl⟩ rfl (Nat.le_of_ble_eq_true rfl) dX3_spread_50 h (fun v3 s4 h => ?_)
      refine sm_aload_n C 0 dX3_spread_53 rfl rfl ?_
      refine sm_dup C dX3_spread_54 rfl ?_
      refine xr_Odds_below C hw (k := 52) rfl gf_Odds_18 dX3_spread_55 h (fun v5 h => ?_)
      refine sm_ldc2 C gk_Odds_51 dX3_spread_58 ?_
      refine sm_lmul C dX3_spread_61 h (fun v6 h => ?_)
      refine xp_Odds_below C hw (k := 52) rfl gf_Odds_18 dX3_spread_62 h (fun s7 h => ?_)
      refine sm_iinc (lv' := fun v8 => [(3, .int v8), (0, .ref (sm_ad (sm_w X) 52)), (1, .ref (sm_ad (sm_w X) a1)), (2, .int a2)]) C 3 dX3_spread_65 rfl (by decide) (fun _ => rfl) h (fun v8 h => ?_)
      refine sm_goto C 36 dX3_spread_68 (by decide) ?_
      refine sm_sub (lv' := [(0, .ref (sm_ad (sm_w X) 52)), (1, .ref (sm_ad (sm_w X) a1)), (2, .int a2), (3, .int v8)]) [1, 2, 3, 0] rfl ?_
      exact ih s7 v8 h
set_option maxRecDepth 4000 in
theorem xc_X3_spread {w : sm_WD} {l : Launch} (hw : xo_is w) (a1 : Nat) (a2 : Int32) (ha1 : xo_tag a1 = 1) : sm_CV w l yX3_spread prog_5_method_2_code 4 none 4 143 [.ref (sm_ad w 52), .ref (sm_ad w a1), .int a2] (fun s => xf_X3_spread a1 a2 s) := by
  refine sm_CV.of (by decide +kernel) (Nat.le_of_ble_eq_true rfl) (fun X s0 R hXw hXl C h => ?_)
  subst hXw
  subst hXl
  have h : xf_X3_spread a1 a2 s0 = some R := h
  show sm_V X (sm_QV X R) 4 s0 0 [(0, .ref (sm_ad (sm_w X) 52)), (1, .ref (sm_ad (sm_w X) a1)), (2, .int a2)] []
  unfold xf_X3_spread at h
  refine sm_aload_n C 0 dX3_spread_0 rfl rfl ?_
  refine xr_Odds_at C hw (k := 52) rfl gf_Odds_9 dX3_spread_1 ?_
  refine sm_lconst (v := 0) C dX3_spread_4 (by decide) ?_
  refine sm_callSV C [.ref (sm_ad (sm_w X) 53), .long (0 : Int64)] (xc_J7_fill_d0a16 hw 53 (0 : Int64) rfl) gm_J7_fill_d0a16 gl_Odds_25 gs_J7_fill_d0a16 rfl ⟨Nat.le_of_ble_eq_true rfl, Nat.le_of_ble_eq_true rfl⟩ rfl (Nat.le_of_ble_eq_true rfl) dX3_spread_5 h (fun v1 s2 h => ?_)
  refine sm_aload_n C 0 dX3_spread_8 rfl rfl ?_
  refine xr_Odds_together C hw (k := 52) rfl gf_Odds_15 dX3_spread_9 ?_
  refine sm_lconst (v := 0) C dX3_spread_12 (by decide) ?_
  refine sm_callSV C [.ref (sm_ad (sm_w X) 54), .long (0 : Int64)] (xc_J7_fill_d0a16 hw 54 (0 : Int64) rfl) gm_J7_fill_d0a16 gl_Odds_25 gs_J7_fill_d0a16 rfl ⟨Nat.le_of_ble_eq_true rfl, Nat.le_of_ble_eq_true rfl⟩ rfl (Nat.le_of_ble_eq_true rfl) dX3_spread_13 h (fun v3 s4 h => ?_)
  refine sm_aload_n C 0 dX3_spread_16 rfl rfl ?_
  refine xr_Odds_at C hw (k := 52) rfl gf_Odds_9 dX3_spread_17 ?_
  refine sm_aload_n C 1 dX3_spread_20 rfl rfl ?_
  refine xr_Fire_smoke C hw (k := a1) ha1 gf_Odds_31 dX3_spread_21 h (fun v5 h => ?_)
  refine sm_callNI C [.int v5] (xc_X7_round hw v5) gm_X7_round gl_Odds_37 gs_X7_round rfl ⟨Nat.le_of_ble_eq_true rfl, Nat.le_of_ble_eq_true rfl⟩ rfl (Nat.le_of_ble_eq_true rfl) dX3_spread_24 h (fun v6 s7 h => ?_)
  refine sm_lconst (v := 1) C dX3_spread_27 (by decide) ?_
  refine xa_last C hw (k := 53) rfl rfl dX3_spread_28 h (fun s8 h => ?_)
  refine sm_aload_n C 0 dX3_spread_29 rfl rfl ?_
  refine sm_lconst (v := 1) C dX3_spread_30 (by decide) ?_
  refine xp_Odds_below C hw (k := 52) rfl gf_Odds_18 dX3_spread_31 h (fun s9 h => ?_)
  refine sm_iconst (v := 0) C dX3_spread_34 (by decide) ?_
  refine sm_istore_n (lv' := [(3, .int (0 : Int32)), (0, .ref (sm_ad (sm_w X) 52)), (1, .ref (sm_ad (sm_w X) a1)), (2, .int a2)]) C dX3_spread_35 rfl (by decide) rfl ?_
  refine sm_sub (lv' := [(0, .ref (sm_ad (sm_w X) 52)), (1, .ref (sm_ad (sm_w X) a1)), (2, .int a2), (3, .int (0 : Int32))]) [1, 2, 3, 0] rfl ?_
  exact xk_X3_spread_p36 C hw ha1 sm_F s9 (0 : Int32) h
noncomputable def xf_X5_become (k : Nat) (a1 : Int32) (a2 : Int32) (s0 : sm_St) : Option (Unit × sm_St) :=
  sm_b (sm_sI s0 k 0 a1) fun s1 =>
  sm_b (sm_sI s1 k 1 a2) fun s2 =>
  sm_c (xf_J7_fill_53178 (k + 4) (0 : Int32) s2) fun _ s4 =>
  some ((), s4)
set_option maxRecDepth 4000 in
theorem xc_X5_become {w : sm_WD} {l : Launch} (hw : xo_is w) (k : Nat) (a1 : Int32) (a2 : Int32) (hk : xo_tag k = 4) : sm_CV w l yX5_become prog_7_method_2_code 3 none 3 123 [.ref (sm_ad w k), .int a1, .int a2] (fun s => xf_X5_become k a1 a2 s) := by
  refine sm_CV.of (by decide +kernel) (Nat.le_of_ble_eq_true rfl) (fun X s0 R hXw hXl C h => ?_)
  subst hXw
  subst hXl
  have h : xf_X5_become k a1 a2 s0 = some R := h
  show sm_V X (sm_QV X R) 3 s0 0 [(0, .ref (sm_ad (sm_w X) k)), (1, .int a1), (2, .int a2)] []
  unfold xf_X5_become at h
  refine sm_aload_n C 0 dX5_become_0 rfl rfl ?_
  refine sm_iload_n C 1 dX5_become_1 rfl rfl ?_
  refine xp_Sheet_sort C hw (k := k) hk gf_Sheet_9 dX5_become_2 h (fun s1 h => ?_)
  refine sm_aload_n C 0 dX5_become_5 rfl rfl ?_
  refine sm_iload_n C 2 dX5_become_6 rfl rfl ?_
  refine xp_Sheet_size C hw (k := k) hk gf_Sheet_15 dX5_become_7 h (fun s2 h => ?_)
  refine sm_aload_n C 0 dX5_become_10 rfl rfl ?_
  refine xr_Sheet_items C hw (k := k) hk gf_Sheet_18 dX5_become_11 ?_
  refine sm_iconst (v := 0) C dX5_become_14 (by decide) ?_
  refine sm_callSV C [.ref (sm_ad (sm_w X) (k + 4)), .int (0 : Int32)] (xc_J7_fill_53178 hw (k + 4) (0 : Int32) (xt_Sheet_items hk).1) gm_J7_fill_53178 gl_Sheet_22 gs_J7_fill_53178 rfl ⟨Nat.le_of_ble_eq_true rfl, Nat.le_of_ble_eq_true rfl⟩ rfl (Nat.le_of_ble_eq_true rfl) dX5_become_15 h (fun v3 s4 h => ?_)
  exact sm_vret C dX5_become_18 h
noncomputable def xf_X5_put (k : Nat) (a1 : Int32) (a2 : Int32) (s0 : sm_St) : Option (Unit × sm_St) :=
  if a1 < 0 then (
  some ((), s0))
  else (
  sm_b (s0.1 k 1) fun v1 =>
  if a1 < v1 then (
  sm_b (s0.1 k 0) fun v2 =>
  if v2 = 0 then (
  sm_b (a2.toInt8.toInt32) fun v7 =>
  sm_g (sm_in a1 40) <| sm_b (sm_sI s0 (k + 4) a1.toNatClampNeg v7) fun s8 =>
  some ((), s8))
  else (
  sm_b (s0.1 k 0) fun v3 =>
  if v3 = (1 : Int32) then (
  sm_b (a2.toInt16.toInt32) fun v5 =>
  sm_g (sm_in a1 40) <| sm_b (sm_sI s0 (k + 4) a1.toNatClampNeg v5) fun s6 =>
  some ((), s6))
  else (
  sm_g (sm_in a1 40) <| sm_b (sm_sI s0 (k + 4) a1.toNatClampNeg a2) fun s4 =>
  some ((), s4))))
  else (
  some ((), s0)))
set_option maxRecDepth 4000 in
theorem xc_X5_put {w : sm_WD} {l : Launch} (hw : xo_is w) (k : Nat) (a1 : Int32) (a2 : Int32) (hk : xo_tag k = 4) : sm_CV w l yX5_put prog_7_method_6_code 3 none 2 100 [.ref (sm_ad w k), .int a1, .int a2] (fun s => xf_X5_put k a1 a2 s) := by
  refine sm_CV.of (by decide +kernel) (Nat.le_of_ble_eq_true rfl) (fun X s0 R hXw hXl C h => ?_)
  subst hXw
  subst hXl
  have h : xf_X5_put k a1 a2 s0 = some R := h
  show sm_V X (sm_QV X R) 3 s0 0 [(0, .ref (sm_ad (sm_w X) k)), (1, .int a1), (2, .int a2)] []
  unfold xf_X5_put at h
  refine sm_iload_n C 1 dX5_put_0 rfl rfl ?_
  refine sm_if_lt C 12 dX5_put_1 (by decide) h (fun h => ?_) (fun h => ?_)
  · exact sm_vret C dX5_put_12 h
  · refine sm_iload_n C 1 dX5_put_4 rfl rfl ?_
    refine sm_aload_n C 0 dX5_put_5 rfl rfl ?_
    refine xr_Sheet_size C hw (k := k) hk gf_Sheet_15 dX5_put_6 h (fun v1 h => ?_)
    refine sm_icmp_lt C 13 dX5_put_9 (by decide) h (fun h => ?_) (fun h => ?_)
    · refine sm_aload_n C 0 dX5_put_13 rfl rfl ?_
      refine xr_Sheet_items C hw (k := k) hk gf_Sheet_18 dX5_put_14 ?_
      refine sm_iload_n C 1 dX5_put_17 rfl rfl ?_
      refine sm_aload_n C 0 dX5_put_18 rfl rfl ?_
      refine xr_Sheet_sort C hw (k := k) hk gf_Sheet_9 dX5_put_19 h (fun v2 h => ?_)
      refine sm_if_ne C 30 dX5_put_22 (by decide) h (fun h => ?_) (fun h => ?_)
      · refine sm_aload_n C 0 dX5_put_30 rfl rfl ?_
        refine xr_Sheet_sort C hw (k := k) hk gf_Sheet_9 dX5_put_31 h (fun v3 h => ?_)
        refine sm_iconst (v := 1) C dX5_put_34 (by decide) ?_
        refine sm_icmp_ne C 43 dX5_put_35 (by decide) h (fun h => ?_) (fun h => ?_)
        · refine sm_iload_n C 2 dX5_put_43 rfl rfl ?_
          refine xa_iast C hw (k := (k + 4)) (xt_Sheet_items hk).1 (xt_Sheet_items hk).2 dX5_put_44 h (fun s4 h => ?_)
          exact sm_vret C dX5_put_45 h
        · refine sm_iload_n C 2 dX5_put_38 rfl rfl ?_
          refine sm_i2s C dX5_put_39 h (fun v5 h => ?_)
          refine sm_goto C 44 dX5_put_40 (by decide) ?_
          refine xa_iast C hw (k := (k + 4)) (xt_Sheet_items hk).1 (xt_Sheet_items hk).2 dX5_put_44 h (fun s6 h => ?_)
          exact sm_vret C dX5_put_45 h
      · refine sm_iload_n C 2 dX5_put_25 rfl rfl ?_
        refine sm_i2b C dX5_put_26 h (fun v7 h => ?_)
        refine sm_goto C 44 dX5_put_27 (by decide) ?_
        refine xa_iast C hw (k := (k + 4)) (xt_Sheet_items hk).1 (xt_Sheet_items hk).2 dX5_put_44 h (fun s8 h => ?_)
        exact sm_vret C dX5_put_45 h
    · exact sm_vret C dX5_put_12 h
noncomputable def xf_X5_holds (k : Nat) (a1 : Int32) (a2 : Int32) (s0 : sm_St) : Option (Int32 × sm_St) :=
  if a1 < 0 then (
  some ((0 : Int32), s0))
  else (
  if a2 < 0 then (
  some ((0 : Int32), s0))
  else (
  sm_b (s0.1 k 1) fun v1 =>
  if v1 < a2 then (
  some ((0 : Int32), s0))
  else (
  sm_b (s0.1 k 1) fun v2 =>
  sm_b (v2 - a2) fun v3 =>
  if v3 < a1 then (
  some ((0 : Int32), s0))
  else (
  some ((1 : Int32), s0)))))
set_option maxRecDepth 4000 in
theorem xc_X5_holds {w : sm_WD} {l : Launch} (hw : xo_is w) (k : Nat) (a1 : Int32) (a2 : Int32) (hk : xo_tag k = 4) : sm_CI w l yX5_holds prog_7_method_4_code 3 (some .boolean) 2 100 [.ref (sm_ad w k), .int a1, .int a2] (fun s => xf_X5_holds k a1 a2 s) := by
  refine sm_CI.of (by decide +kernel) (Nat.le_of_ble_eq_true rfl) (fun X s0 R hXw hXl C h => ?_)
  subst hXw
  subst hXl
  have h : xf_X5_holds k a1 a2 s0 = some R := h
  show sm_V X (sm_QI X R) 3 s0 0 [(0, .ref (sm_ad (sm_w X) k)), (1, .int a1), (2, .int a2)] []
  unfold xf_X5_holds at h
  refine sm_iload_n C 1 dX5_holds_0 rfl rfl ?_
  refine sm_if_lt C 30 dX5_holds_1 (by decide) h (fun h => ?_) (fun h => ?_)
  · refine sm_iconst (v := 0) C dX5_holds_30 (by decide) ?_
    exact sm_zretK C rfl dX5_holds_31 h
  · refine sm_iload_n C 2 dX5_holds_4 rfl rfl ?_
    refine sm_if_lt C 30 dX5_holds_5 (by decide) h (fun h => ?_) (fun h => ?_)
    · refine sm_iconst (v := 0) C dX5_holds_30 (by decide) ?_
      exact sm_zretK C rfl dX5_holds_31 h
    · refine sm_iload_n C 2 dX5_holds_8 rfl rfl ?_
      refine sm_aload_n C 0 dX5_holds_9 rfl rfl ?_
      refine xr_Sheet_size C hw (k := k) hk gf_Sheet_15 dX5_holds_10 h (fun v1 h => ?_)
      refine sm_icmp_gt C 30 dX5_holds_13 (by decide) h (fun h => ?_) (fun h => ?_)
      · refine sm_iconst (v := 0) C dX5_holds_30 (by decide) ?_
        exact sm_zretK C rfl dX5_holds_31 h
      · refine sm_iload_n C 1 dX5_holds_16 rfl rfl ?_
        refine sm_aload_n C 0 dX5_holds_17 rfl rfl ?_
        refine xr_Sheet_size C hw (k := k) hk gf_Sheet_15 dX5_holds_18 h (fun v2 h => ?_)
        refine sm_iload_n C 2 dX5_holds_21 rfl rfl ?_
        refine sm_isub C dX5_holds_22 h (fun v3 h => ?_)
        refine sm_icmp_gt C 30 dX5_holds_23 (by decide) h (fun h => ?_) (fun h => ?_)
        · refine sm_iconst (v := 0) C dX5_holds_30 (by decide) ?_
          exact sm_zretK C rfl dX5_holds_31 h
        · refine sm_iconst (v := 1) C dX5_holds_26 (by decide) ?_
          refine sm_goto C 31 dX5_holds_27 (by decide) ?_
          exact sm_zretK C rfl dX5_holds_31 h
noncomputable def xf_X1_above (a1 : Int32) (s0 : sm_St) : Option (Int32 × sm_St) :=
  if a1 = (1 : Int32) then (
  some ((0 : Int32), s0))
  else if a1 = (2 : Int32) then (
  some ((0 : Int32), s0))
  else if a1 = (3 : Int32) then (
  some ((1 : Int32), s0))
  else if a1 = (4 : Int32) then (
  some ((2 : Int32), s0))
  else if a1 = (5 : Int32) then (
  some ((0 : Int32), s0))
  else (
  some ((-1 : Int32), s0))
set_option maxRecDepth 4000 in
theorem xc_X1_above {w : sm_WD} {l : Launch} (hw : xo_is w) (a1 : Int32) : sm_CI w l yX1_above prog_3_method_4_code 1 (some .int) 2 100 [.int a1] (fun s => xf_X1_above a1 s) := by
  refine sm_CI.of (by decide +kernel) (Nat.le_of_ble_eq_true rfl) (fun X s0 R hXw hXl C h => ?_)
  subst hXw
  subst hXl
  have h : xf_X1_above a1 s0 = some R := h
  show sm_V X (sm_QI X R) 1 s0 0 [(0, .int a1)] []
  unfold xf_X1_above at h
  refine sm_iload_n C 0 dX1_above_0 rfl rfl ?_
  by_cases q1_0 : a1 = (1 : Int32)
  · rw [if_pos q1_0] at h
    refine sm_tswIn C 35 36 dX1_above_1 (by rw [q1_0]; decide) (by decide) ?_
    refine sm_iconst (v := 0) C dX1_above_36 (by decide) ?_
    exact sm_iret C dX1_above_37 h
  · rw [if_neg q1_0] at h
    by_cases q1_1 : a1 = (2 : Int32)
    · rw [if_pos q1_1] at h
      refine sm_tswIn C 37 38 dX1_above_1 (by rw [q1_1]; decide) (by decide) ?_
      refine sm_iconst (v := 0) C dX1_above_38 (by decide) ?_
      exact sm_iret C dX1_above_39 h
    · rw [if_neg q1_1] at h
      by_cases q1_2 : a1 = (3 : Int32)
      · rw [if_pos q1_2] at h
        refine sm_tswIn C 39 40 dX1_above_1 (by rw [q1_2]; decide) (by decide) ?_
        refine sm_iconst (v := 1) C dX1_above_40 (by decide) ?_
        exact sm_iret C dX1_above_41 h
      · rw [if_neg q1_2] at h
        by_cases q1_3 : a1 = (4 : Int32)
        · rw [if_pos q1_3] at h
          refine sm_tswIn C 41 42 dX1_above_1 (by rw [q1_3]; decide) (by decide) ?_
          refine sm_iconst (v := 2) C dX1_above_42 (by decide) ?_
          exact sm_iret C dX1_above_43 h
        · rw [if_neg q1_3] at h
          by_cases q1_4 : a1 = (5 : Int32)
          · rw [if_pos q1_4] at h
            refine sm_tswIn C 43 44 dX1_above_1 (by rw [q1_4]; decide) (by decide) ?_
            refine sm_iconst (v := 0) C dX1_above_44 (by decide) ?_
            exact sm_iret C dX1_above_45 h
          · rw [if_neg q1_4] at h
            refine sm_tswOut C 46 dX1_above_1 (by have w0 := lv_neT q1_0 (a := 1) rfl; have w1 := lv_neT q1_1 (a := 2) rfl; have w2 := lv_neT q1_2 (a := 3) rfl; have w3 := lv_neT q1_3 (a := 4) rfl; have w4 := lv_neT q1_4 (a := 5) rfl; omega) (by decide) ?_
            refine sm_iconst (v := (-1)) C dX1_above_46 (by decide) ?_
            exact sm_iret C dX1_above_47 h
noncomputable def xf_X1_isUnder_p4 (a1 : Int32) (a2 : Int32) : Nat → sm_St → Int32 → Int32 → Option (Int32 × sm_St)
  | 0, _, _, _ => none
  | n + 1, s0, l2, l3 =>
  if (6 : Int32) ≤ l3 then (
  some ((0 : Int32), s0))
  else (
  if l2 = (-1 : Int32) then (
  some ((0 : Int32), s0))
  else (
  if l2 = a2 then (
  some ((1 : Int32), s0))
  else (
  sm_c (xf_X1_above l2 s0) fun v1 s2 =>
  sm_b (l3 + Int32.ofInt 1) fun v3 =>
  (xf_X1_isUnder_p4 a1 a2 n) s2 v1 v3)))
noncomputable def xf_X1_isUnder (a1 : Int32) (a2 : Int32) (s0 : sm_St) : Option (Int32 × sm_St) :=
  xf_X1_isUnder_p4 a1 a2 sm_F s0 a1 (0 : Int32)
set_option maxRecDepth 4000 in
theorem xk_X1_isUnder_p4 {X : sm_VC} (C : sm_Cx X prog_3_method_3_code 4 "SmokeGoesTo$Kind" 3 120 (some .boolean)) (hw : xo_is (sm_w X)) {a1 : Int32} {a2 : Int32}  {R : Int32 × sm_St}   : ∀ (n : Nat) (s0 : sm_St) (l2 : Int32) (l3 : Int32) , xf_X1_isUnder_p4 a1 a2 n s0 l2 l3 = some R → sm_V X (sm_QI X R) 4 s0 4 [(1, .int a2), (2, .int l2), (3, .int l3)] [] := by
  intro n
  induction n with
  | zero =>
    intro s0 l2 l3 h
    have h : (none : Option (Int32 × sm_St)) = some R := h
    cases h
  | succ n ih =>
    intro s0 l2 l3 h
    unfold xf_X1_isUnder_p4 at h
    refine sm_iload_n C 2 dX1_isUnder_4 rfl rfl ?_
    refine sm_bipush (v := 6) C dX1_isUnder_5 (by decide) ?_
    refine sm_icmp_ge C 33 dX1_isUnder_7 (by decide) h (fun h => ?_) (fun h => ?_)
    · refine sm_iconst (v := 0) C dX1_isUnder_33 (by decide) ?_
      exact sm_zretK C rfl dX1_isUnder_34 h
    · refine sm_iload_n C 1 dX1_isUnder_10 rfl rfl ?_
      refine sm_iconst (v := (-1)) C dX1_isUnder_11 (by decide) ?_
      refine sm_icmp_eq C 33 dX1_isUnder_12 (by decide) h (fun h => ?_) (fun h => ?_)
      · refine sm_iconst (v := 0) C dX1_isUnder_33 (by decide) ?_
        exact sm_zretK C rfl dX1_isUnder_34 h
      · refine sm_iload_n C 1 dX1_isUnder_15 rfl rfl ?_
        refine sm_iload_n C 0 dX1_isUnder_16 rfl rfl ?_
        refine sm_icmp_ne C 22 dX1_isUnder_17 (by decide) h (fun h => ?_) (fun h => ?_)
        · refine sm_iload_n C 1 dX1_isUnder_22 rfl rfl ?_
          refine sm_callSI C [.int l2] (xc_X1_above hw l2) gm_X1_above gl_Kind_9 gs_X1_above rfl ⟨Nat.le_of_ble_eq_true rfl, Nat.le_of_ble_eq_true rfl⟩ rfl (Nat.le_of_ble_eq_true rfl) dX1_isUnder_23 h (fun v1 s2 h => ?_)
          refine sm_istore_n (lv' := [(2, .int v1), (1, .int a2), (3, .int l3)]) C dX1_isUnder_26 rfl (by decide) rfl ?_
          refine sm_iinc (lv' := fun v3 => [(3, .int v3), (2, .int v1), (1, .int a2)]) C 2 dX1_isUnder_27 rfl (by decide) (fun _ => rfl) h (fun v3 h => ?_)
          refine sm_goto C 4 dX1_isUnder_30 (by decide) ?_
          refine sm_sub (lv' := [(1, .int a2), (2, .int v1), (3, .int v3)]) [2, 1, 0] rfl ?_
          exact ih s2 v1 v3 h
        · refine sm_iconst (v := 1) C dX1_isUnder_20 (by decide) ?_
          exact sm_zretK C rfl dX1_isUnder_21 h
set_option maxRecDepth 4000 in
theorem xc_X1_isUnder {w : sm_WD} {l : Launch} (hw : xo_is w) (a1 : Int32) (a2 : Int32) : sm_CI w l yX1_isUnder prog_3_method_3_code 4 (some .boolean) 3 120 [.int a1, .int a2] (fun s => xf_X1_isUnder a1 a2 s) := by
  refine sm_CI.of (by decide +kernel) (Nat.le_of_ble_eq_true rfl) (fun X s0 R hXw hXl C h => ?_)
  subst hXw
  subst hXl
  have h : xf_X1_isUnder a1 a2 s0 = some R := h
  show sm_V X (sm_QI X R) 4 s0 0 [(0, .int a1), (1, .int a2)] []
  unfold xf_X1_isUnder at h
  refine sm_iload_n C 0 dX1_isUnder_0 rfl rfl ?_
  refine sm_istore_n (lv' := [(2, .int a1), (0, .int a1), (1, .int a2)]) C dX1_isUnder_1 rfl (by decide) rfl ?_
  refine sm_iconst (v := 0) C dX1_isUnder_2 (by decide) ?_
  refine sm_istore_n (lv' := [(3, .int (0 : Int32)), (2, .int a1), (0, .int a1), (1, .int a2)]) C dX1_isUnder_3 rfl (by decide) rfl ?_
  refine sm_sub (lv' := [(1, .int a2), (2, .int a1), (3, .int (0 : Int32))]) [3, 1, 0] rfl ?_
  exact xk_X1_isUnder_p4 C hw sm_F s0 a1 (0 : Int32) h
