/-! the class: the first text is fed and read (printed) -/
noncomputable def xf_X7_init_p141  : Nat → sm_St → Int32 → Option (Unit × sm_St)
  | 0, _, _ => none
  | n + 1, s0, l1 =>
  sm_c (xf_J0_length_8abf5 0 s0) fun v1 s2 =>
  if v1 ≤ l1 then (
  sm_g (sm_in (0 : Int32) 6) <|
  sm_c (xf_X4_read (16 + (0 : Int32).toNatClampNeg) s2) fun v4 s5 =>
  sm_c (xf_X4_empty s5) fun _ s7 =>
  sm_b (sm_sI s7 0 5 (1 : Int32)) fun s8 =>
  some ((), s8))
  else (
  sm_c (xf_J0_charAt_5068e 0 l1 s2) fun v9 s10 =>
  sm_c (xf_X4_add v9 s10) fun v11 s12 =>
  sm_b (l1 + Int32.ofInt 1) fun v13 =>
  (xf_X7_init_p141 n) s12 v13)
noncomputable def xf_X7_init (s0 : sm_St) : Option (Unit × sm_St) :=
  xf_X7_init_p141 sm_F s0 (0 : Int32)
set_option maxRecDepth 4000 in
theorem xk_X7_init_p141 {X : sm_VC} (C : sm_Cx X prog_1_method_1_code 2 "SmokeGoesTo" 76 1786 none) (hw : xo_is (sm_w X))   {R : Unit × sm_St}   : ∀ (n : Nat) (s0 : sm_St) (l1 : Int32) , xf_X7_init_p141 n s0 l1 = some R → sm_V X (sm_QV X R) 2 s0 141 [(0, .ref (sm_ad (sm_w X) 0)), (1, .int l1)] [] := by
  intro n
  induction n with
  | zero =>
    intro s0 l1 h
    have h : (none : Option (Unit × sm_St)) = some R := h
    cases h
  | succ n ih =>
    intro s0 l1 h
    unfold xf_X7_init_p141 at h
    refine sm_iload_n C 1 dX7_init_141 rfl rfl ?_
    refine sm_ldcS (i := 0) C (by decide) rfl rfl dX7_init_142 ?_
    refine sm_callTI (i := 0) C [] (by decide) (xc_J0_length_8abf5 hw 0 (by decide)) gm_J0_length_8abf5 gl_S_64 gi_J0_length_8abf5 ge_J0_length_8abf5 rfl rfl ⟨Nat.le_of_ble_eq_true rfl, Nat.le_of_ble_eq_true rfl⟩ rfl (Nat.le_of_ble_eq_true rfl) dX7_init_144 h (fun v1 s2 h => ?_)
    refine sm_icmp_ge C 170 dX7_init_147 (by decide) h (fun h => ?_) (fun h => ?_)
    · refine sm_aload_n C 0 dX7_init_170 rfl rfl ?_
      refine xr_S_reader C hw (k := 0) rfl gf_S_26 dX7_init_171 ?_
      refine sm_aload_n C 0 dX7_init_174 rfl rfl ?_
      refine xr_S_texts C hw (k := 0) rfl gf_S_32 dX7_init_175 ?_
      refine sm_iconst (v := 0) C dX7_init_178 (by decide) ?_
      refine xa_aaldText C hw (k := 15) rfl dX7_init_179 h (fun hb2 h => ?_)
      refine sm_callVI (k := 13) C [.ref (sm_ad (sm_w X) (16 + (0 : Int32).toNatClampNeg))] (xc_X4_read hw (16 + (0 : Int32).toNatClampNeg) (xt_texts hb2)) gm_X4_read gl_S_78 gi_X4_read ge_X4_read (xob_Reader hw rfl) rfl ⟨Nat.le_of_ble_eq_true rfl, Nat.le_of_ble_eq_true rfl⟩ rfl (Nat.le_of_ble_eq_true rfl) dX7_init_180 h (fun v4 s5 h => ?_)
      refine sm_pop C dX7_init_183 rfl ?_
      refine sm_aload_n C 0 dX7_init_184 rfl rfl ?_
      refine xr_S_reader C hw (k := 0) rfl gf_S_26 dX7_init_185 ?_
      refine sm_callVV (k := 13) C [] (xc_X4_empty hw) gm_X4_empty gl_S_82 gi_X4_empty ge_X4_empty (xob_Reader hw rfl) rfl ⟨Nat.le_of_ble_eq_true rfl, Nat.le_of_ble_eq_true rfl⟩ rfl (Nat.le_of_ble_eq_true rfl) dX7_init_188 h (fun v6 s7 h => ?_)
      refine sm_aload_n C 0 dX7_init_191 rfl rfl ?_
      refine sm_iconst (v := 1) C dX7_init_192 (by decide) ?_
      refine xp_S_textCount C hw (k := 0) rfl gf_S_36 dX7_init_193 h (fun s8 h => ?_)
      exact sm_vret C dX7_init_196 h
    · refine sm_aload_n C 0 dX7_init_150 rfl rfl ?_
      refine xr_S_reader C hw (k := 0) rfl gf_S_26 dX7_init_151 ?_
      refine sm_ldcS (i := 0) C (by decide) rfl rfl dX7_init_154 ?_
      refine sm_iload_n C 1 dX7_init_156 rfl rfl ?_
      refine sm_callTI (i := 0) C [.int l1] (by decide) (xc_J0_charAt_5068e hw 0 l1 (by decide)) gm_J0_charAt_5068e gl_S_70 gi_J0_charAt_5068e ge_J0_charAt_5068e rfl rfl ⟨Nat.le_of_ble_eq_true rfl, Nat.le_of_ble_eq_true rfl⟩ rfl (Nat.le_of_ble_eq_true rfl) dX7_init_157 h (fun v9 s10 h => ?_)
      refine sm_callVI (k := 13) C [.int v9] (xc_X4_add hw v9) gm_X4_add gl_S_74 gi_X4_add ge_X4_add (xob_Reader hw rfl) rfl ⟨Nat.le_of_ble_eq_true rfl, Nat.le_of_ble_eq_true rfl⟩ rfl (Nat.le_of_ble_eq_true rfl) dX7_init_160 h (fun v11 s12 h => ?_)
      refine sm_pop C dX7_init_163 rfl ?_
      refine sm_iinc (lv' := fun v13 => [(1, .int v13), (0, .ref (sm_ad (sm_w X) 0))]) C 1 dX7_init_164 rfl (by decide) (fun _ => rfl) h (fun v13 h => ?_)
      refine sm_goto C 141 dX7_init_167 (by decide) ?_
      refine sm_sub (lv' := [(0, .ref (sm_ad (sm_w X) 0)), (1, .int v13)]) [1, 0] rfl ?_
      exact ih s12 v13 h
set_option maxRecDepth 4000 in
theorem xc_X7_init {X : sm_VC} (C : sm_Cx X prog_1_method_1_code 2 "SmokeGoesTo" 76 1786 none) (hw : xo_is (sm_w X)) {R : Unit × sm_St} (s0 : sm_St) (h : xf_X7_init s0 = some R) : sm_V X (sm_QV X R) 2 s0 139 [(0, .ref (sm_ad (sm_w X) 0))] [] := by
  unfold xf_X7_init at h
  refine sm_iconst (v := 0) C dX7_init_139 (by decide) ?_
  refine sm_istore_n (lv' := [(1, .int (0 : Int32)), (0, .ref (sm_ad (sm_w X) 0))]) C dX7_init_140 rfl (by decide) rfl ?_
  refine sm_sub (lv' := [(0, .ref (sm_ad (sm_w X) 0)), (1, .int (0 : Int32))]) [1, 0] rfl ?_
  exact xk_X7_init_p141 C hw sm_F s0 (0 : Int32) h
