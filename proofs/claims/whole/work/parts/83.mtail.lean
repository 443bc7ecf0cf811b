/-! the reference: the first text is spelt (printed) -/
noncomputable def mf_X8_init (s0 : sm_St) : Option (Unit × sm_St) :=
  sm_c (mf_X8_spell (0 : Int32) (98 : Int32) (101 : Int32) (97 : Int32) (114 : Int32) (115 : Int32) (32 : Int32) (53 : Int32) (32 : Int32) s0) fun _ s2 =>
  sm_c (mf_X8_spell (8 : Int32) (43 : Int32) (32 : Int32) (108 : Int32) (111 : Int32) (110 : Int32) (103 : Int32) (32 : Int32) (59 : Int32) s2) fun _ s4 =>
  sm_c (mf_X8_spell (16 : Int32) (32 : Int32) (109 : Int32) (111 : Int32) (118 : Int32) (101 : Int32) (115 : Int32) (32 : Int32) (51 : Int32) s4) fun _ s6 =>
  sm_c (mf_X8_spell (24 : Int32) (32 : Int32) (59 : Int32) (32 : Int32) (104 : Int32) (101 : Int32) (97 : Int32) (116 : Int32) (32 : Int32) s6) fun _ s8 =>
  sm_c (mf_X8_spell (32 : Int32) (48 : Int32) (32 : Int32) (59 : Int32) (32 : Int32) (32 : Int32) (32 : Int32) (32 : Int32) (32 : Int32) s8) fun _ s10 =>
  sm_g (sm_in (0 : Int32) 6) <| sm_b (sm_sI s10 2 (0 : Int32).toNatClampNeg (40 : Int32)) fun s11 =>
  sm_b (sm_sI s11 0 3 (1 : Int32)) fun s12 =>
  some ((), s12)
set_option maxRecDepth 4000 in
theorem mc_X8_init {X : sm_VC} (C : sm_Cx X prog_10_method_5_code 1 "SmokeGoesToModel" 3 129 none) (hw : mo_is (sm_w X)) {R : Unit × sm_St} (s0 : sm_St) (h : mf_X8_init s0 = some R) : sm_V X (sm_QV X R) 1 s0 194 [(0, .ref (sm_ad (sm_w X) 0))] [] := by
  unfold mf_X8_init at h
  refine sm_aload_n C 0 dX8_init_194 rfl rfl ?_
  refine sm_iconst (v := 0) C dX8_init_195 (by decide) ?_
  refine sm_bipush (v := 98) C dX8_init_196 (by decide) ?_
  refine sm_bipush (v := 101) C dX8_init_198 (by decide) ?_
  refine sm_bipush (v := 97) C dX8_init_200 (by decide) ?_
  refine sm_bipush (v := 114) C dX8_init_202 (by decide) ?_
  refine sm_bipush (v := 115) C dX8_init_204 (by decide) ?_
  refine sm_bipush (v := 32) C dX8_init_206 (by decide) ?_
  refine sm_bipush (v := 53) C dX8_init_208 (by decide) ?_
  refine sm_bipush (v := 32) C dX8_init_210 (by decide) ?_
  refine sm_callVV (k := 0) C [.int (0 : Int32), .int (98 : Int32), .int (101 : Int32), .int (97 : Int32), .int (114 : Int32), .int (115 : Int32), .int (32 : Int32), .int (53 : Int32), .int (32 : Int32)] (mc_X8_spell hw (0 : Int32) (98 : Int32) (101 : Int32) (97 : Int32) (114 : Int32) (115 : Int32) (32 : Int32) (53 : Int32) (32 : Int32)) gm_X8_spell gl_M_94 gi_X8_spell ge_X8_spell (mob_M hw rfl) rfl ⟨Nat.le_of_ble_eq_true rfl, Nat.le_of_ble_eq_true rfl⟩ rfl (Nat.le_of_ble_eq_true rfl) dX8_init_212 h (fun v1 s2 h => ?_)
  refine sm_aload_n C 0 dX8_init_215 rfl rfl ?_
  refine sm_bipush (v := 8) C dX8_init_216 (by decide) ?_
  refine sm_bipush (v := 43) C dX8_init_218 (by decide) ?_
  refine sm_bipush (v := 32) C dX8_init_220 (by decide) ?_
  refine sm_bipush (v := 108) C dX8_init_222 (by decide) ?_
  refine sm_bipush (v := 111) C dX8_init_224 (by decide) ?_
  refine sm_bipush (v := 110) C dX8_init_226 (by decide) ?_
  refine sm_bipush (v := 103) C dX8_init_228 (by decide) ?_
  refine sm_bipush (v := 32) C dX8_init_230 (by decide) ?_
  refine sm_bipush (v := 59) C dX8_init_232 (by decide) ?_
  refine sm_callVV (k := 0) C [.int (8 : Int32), .int (43 : Int32), .int (32 : Int32), .int (108 : Int32), .int (111 : Int32), .int (110 : Int32), .int (103 : Int32), .int (32 : Int32), .int (59 : Int32)] (mc_X8_spell hw (8 : Int32) (43 : Int32) (32 : Int32) (108 : Int32) (111 : Int32) (110 : Int32) (103 : Int32) (32 : Int32) (59 : Int32)) gm_X8_spell gl_M_94 gi_X8_spell ge_X8_spell (mob_M hw rfl) rfl ⟨Nat.le_of_ble_eq_true rfl, Nat.le_of_ble_eq_true rfl⟩ rfl (Nat.le_of_ble_eq_true rfl) dX8_init_234 h (fun v3 s4 h => ?_)
  refine sm_aload_n C 0 dX8_init_237 rfl rfl ?_
  refine sm_bipush (v := 16) C dX8_init_238 (by decide) ?_
  refine sm_bipush (v := 32) C dX8_init_240 (by decide) ?_
  refine sm_bipush (v := 109) C dX8_init_242 (by decide) ?_
  refine sm_bipush (v := 111) C dX8_init_244 (by decide) ?_
  refine sm_bipush (v := 118) C dX8_init_246 (by decide) ?_
  refine sm_bipush (v := 101) C dX8_init_248 (by decide) ?_
  refine sm_bipush (v := 115) C dX8_init_250 (by decide) ?_
  refine sm_bipush (v := 32) C dX8_init_252 (by decide) ?_
  refine sm_bipush (v := 51) C dX8_init_254 (by decide) ?_
  refine sm_callVV (k := 0) C [.int (16 : Int32), .int (32 : Int32), .int (109 : Int32), .int (111 : Int32), .int (118 : Int32), .int (101 : Int32), .int (115 : Int32), .int (32 : Int32), .int (51 : Int32)] (mc_X8_spell hw (16 : Int32) (32 : Int32) (109 : Int32) (111 : Int32) (118 : Int32) (101 : Int32) (115 : Int32) (32 : Int32) (51 : Int32)) gm_X8_spell gl_M_94 gi_X8_spell ge_X8_spell (mob_M hw rfl) rfl ⟨Nat.le_of_ble_eq_true rfl, Nat.le_of_ble_eq_true rfl⟩ rfl (Nat.le_of_ble_eq_true rfl) dX8_init_256 h (fun v5 s6 h => ?_)
  refine sm_aload_n C 0 dX8_init_259 rfl rfl ?_
  refine sm_bipush (v := 24) C dX8_init_260 (by decide) ?_
  refine sm_bipush (v := 32) C dX8_init_262 (by decide) ?_
  refine sm_bipush (v := 59) C dX8_init_264 (by decide) ?_
  refine sm_bipush (v := 32) C dX8_init_266 (by decide) ?_
  refine sm_bipush (v := 104) C dX8_init_268 (by decide) ?_
  refine sm_bipush (v := 101) C dX8_init_270 (by decide) ?_
  refine sm_bipush (v := 97) C dX8_init_272 (by decide) ?_
  refine sm_bipush (v := 116) C dX8_init_274 (by decide) ?_
  refine sm_bipush (v := 32) C dX8_init_276 (by decide) ?_
  refine sm_callVV (k := 0) C [.int (24 : Int32), .int (32 : Int32), .int (59 : Int32), .int (32 : Int32), .int (104 : Int32), .int (101 : Int32), .int (97 : Int32), .int (116 : Int32), .int (32 : Int32)] (mc_X8_spell hw (24 : Int32) (32 : Int32) (59 : Int32) (32 : Int32) (104 : Int32) (101 : Int32) (97 : Int32) (116 : Int32) (32 : Int32)) gm_X8_spell gl_M_94 gi_X8_spell ge_X8_spell (mob_M hw rfl) rfl ⟨Nat.le_of_ble_eq_true rfl, Nat.le_of_ble_eq_true rfl⟩ rfl (Nat.le_of_ble_eq_true rfl) dX8_init_278 h (fun v7 s8 h => ?_)
  refine sm_aload_n C 0 dX8_init_281 rfl rfl ?_
  refine sm_bipush (v := 32) C dX8_init_282 (by decide) ?_
  refine sm_bipush (v := 48) C dX8_init_284 (by decide) ?_
  refine sm_bipush (v := 32) C dX8_init_286 (by decide) ?_
  refine sm_bipush (v := 59) C dX8_init_288 (by decide) ?_
  refine sm_bipush (v := 32) C dX8_init_290 (by decide) ?_
  refine sm_bipush (v := 32) C dX8_init_292 (by decide) ?_
  refine sm_bipush (v := 32) C dX8_init_294 (by decide) ?_
  refine sm_bipush (v := 32) C dX8_init_296 (by decide) ?_
  refine sm_bipush (v := 32) C dX8_init_298 (by decide) ?_
  refine sm_callVV (k := 0) C [.int (32 : Int32), .int (48 : Int32), .int (32 : Int32), .int (59 : Int32), .int (32 : Int32), .int (32 : Int32), .int (32 : Int32), .int (32 : Int32), .int (32 : Int32)] (mc_X8_spell hw (32 : Int32) (48 : Int32) (32 : Int32) (59 : Int32) (32 : Int32) (32 : Int32) (32 : Int32) (32 : Int32) (32 : Int32)) gm_X8_spell gl_M_94 gi_X8_spell ge_X8_spell (mob_M hw rfl) rfl ⟨Nat.le_of_ble_eq_true rfl, Nat.le_of_ble_eq_true rfl⟩ rfl (Nat.le_of_ble_eq_true rfl) dX8_init_300 h (fun v9 s10 h => ?_)
  refine sm_aload_n C 0 dX8_init_303 rfl rfl ?_
  refine mr_M_textSize C hw (k := 0) rfl gf_M_17 dX8_init_304 ?_
  refine sm_iconst (v := 0) C dX8_init_307 (by decide) ?_
  refine sm_bipush (v := 40) C dX8_init_308 (by decide) ?_
  refine ma_iast C hw (k := 2) rfl rfl dX8_init_310 h (fun s11 h => ?_)
  refine sm_aload_n C 0 dX8_init_311 rfl rfl ?_
  refine sm_iconst (v := 1) C dX8_init_312 (by decide) ?_
  refine mp_M_textCount C hw (k := 0) rfl gf_M_98 dX8_init_313 h (fun s12 h => ?_)
  exact sm_vret C dX8_init_316 h
