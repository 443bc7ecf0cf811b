/-! THE CLASS'S PARTS ARE MADE (printed by wip/gen/ctor.py) -/
theorem co_eq {X : sm_VC} {nL : Nat} {Q : State → Prop} {ws ws' : va_W} {cs sl pc : Nat} {lv : List (Nat × Value)} {st : List Value} (h : ws = ws') (kk : co_V X Q nL ws' cs sl pc lv st) : co_V X Q nL ws cs sl pc lv st := by
  subst h
  exact kk
def co_oFire (cA : Nat → ClassId) (h : Nat) (ad : Nat → Nat) : va_W := [(h, .inr (1, [.int 0, .int 30, .int 30, .int 0, .int 0, .int 0, .int 0, .ref (ad 0), .ref (ad 1), .ref (ad 2)])), (ad 0, .inl (cA 0, 5, .inl fun _ => 0)), (ad 1, .inl (cA 0, 5, .inl fun _ => 0)), (ad 2, .inl (cA 0, 5, .inl fun _ => 0))]
set_option maxRecDepth 100000 in
set_option maxHeartbeats 4000000 in
theorem cc_Fire {w : sm_WD} {l : Launch} {cA : Nat → ClassId} (hcl : sm_cl w = xo_cl) (hty : sm_ty w = xo_ty cA) : co_C w l yX0_init prog_2_method_1_code 1 1 12 3 15 1 [.int 0, .int 0, .int 0, .int 0, .int 0, .int 0, .int 0, .null, .null, .null] (co_oFire cA) := by
  refine co_C.of rfl rfl (by decide) ?_
  intro X h0 hw hl C
  subst hw
  subst hl
  refine co_aload_n C 0 dX0_init_0 rfl rfl ?_
  refine co_obj C gl_Fire_3 dX0_init_1 (by decide) (by decide) ?_
  refine co_aload_n C 0 dX0_init_4 rfl rfl ?_
  refine co_iconst (v := 0) C dX0_init_5 (by decide) ?_
  refine co_put (fs' := [.int 0, .int 0, .int 0, .int 0, .int 0, .int 0, .int 0, .null, .null, .null]) (C0 := "SmokeGoesTo$Fire") (T := Rxo_Fire) (N := 10) (ty := .int) C 0 (by rw [hcl]; rfl) ixo_Fire kxo_Fire nxo_Fire (by decide) gf_Fire_9 rfl rfl rfl rfl (Nat.le_of_ble_eq_true rfl) dX0_init_6 rfl ?_
  refine co_aload_n C 0 dX0_init_9 rfl rfl ?_
  refine co_bipush (v := 30) C dX0_init_10 (by decide) ?_
  refine co_put (fs' := [.int 0, .int 30, .int 0, .int 0, .int 0, .int 0, .int 0, .null, .null, .null]) (C0 := "SmokeGoesTo$Fire") (T := Rxo_Fire) (N := 10) (ty := .int) C 1 (by rw [hcl]; rfl) ixo_Fire kxo_Fire nxo_Fire (by decide) gf_Fire_15 rfl rfl rfl rfl (Nat.le_of_ble_eq_true rfl) dX0_init_12 rfl ?_
  refine co_aload_n C 0 dX0_init_15 rfl rfl ?_
  refine co_bipush (v := 30) C dX0_init_16 (by decide) ?_
  refine co_put (fs' := [.int 0, .int 30, .int 30, .int 0, .int 0, .int 0, .int 0, .null, .null, .null]) (C0 := "SmokeGoesTo$Fire") (T := Rxo_Fire) (N := 10) (ty := .int) C 2 (by rw [hcl]; rfl) ixo_Fire kxo_Fire nxo_Fire (by decide) gf_Fire_18 rfl rfl rfl rfl (Nat.le_of_ble_eq_true rfl) dX0_init_18 rfl ?_
  refine co_aload_n C 0 dX0_init_21 rfl rfl ?_
  refine co_iconst (v := 0) C dX0_init_22 (by decide) ?_
  refine co_put (fs' := [.int 0, .int 30, .int 30, .int 0, .int 0, .int 0, .int 0, .null, .null, .null]) (C0 := "SmokeGoesTo$Fire") (T := Rxo_Fire) (N := 10) (ty := .int) C 3 (by rw [hcl]; rfl) ixo_Fire kxo_Fire nxo_Fire (by decide) gf_Fire_21 rfl rfl rfl rfl (Nat.le_of_ble_eq_true rfl) dX0_init_23 rfl ?_
  refine co_aload_n C 0 dX0_init_26 rfl rfl ?_
  refine co_iconst (v := 0) C dX0_init_27 (by decide) ?_
  refine co_put (fs' := [.int 0, .int 30, .int 30, .int 0, .int 0, .int 0, .int 0, .null, .null, .null]) (C0 := "SmokeGoesTo$Fire") (T := Rxo_Fire) (N := 10) (ty := .int) C 4 (by rw [hcl]; rfl) ixo_Fire kxo_Fire nxo_Fire (by decide) gf_Fire_24 rfl rfl rfl rfl (Nat.le_of_ble_eq_true rfl) dX0_init_28 rfl ?_
  refine co_aload_n C 0 dX0_init_31 rfl rfl ?_
  refine co_iconst (v := 0) C dX0_init_32 (by decide) ?_
  refine co_put (fs' := [.int 0, .int 30, .int 30, .int 0, .int 0, .int 0, .int 0, .null, .null, .null]) (C0 := "SmokeGoesTo$Fire") (T := Rxo_Fire) (N := 10) (ty := .int) C 5 (by rw [hcl]; rfl) ixo_Fire kxo_Fire nxo_Fire (by decide) gf_Fire_27 rfl rfl rfl rfl (Nat.le_of_ble_eq_true rfl) dX0_init_33 rfl ?_
  refine co_aload_n C 0 dX0_init_36 rfl rfl ?_
  refine co_iconst (v := 0) C dX0_init_37 (by decide) ?_
  refine co_put (fs' := [.int 0, .int 30, .int 30, .int 0, .int 0, .int 0, .int 0, .null, .null, .null]) (C0 := "SmokeGoesTo$Fire") (T := Rxo_Fire) (N := 10) (ty := .int) C 6 (by rw [hcl]; rfl) ixo_Fire kxo_Fire nxo_Fire (by decide) gf_Fire_30 rfl rfl rfl rfl (Nat.le_of_ble_eq_true rfl) dX0_init_38 rfl ?_
  refine co_aload_n C 0 dX0_init_41 rfl rfl ?_
  refine co_iconst (v := 5) C dX0_init_42 (by decide) ?_
  refine co_newI (cA := cA 0) (N := 5) C (by rw [hty]; rfl) (by decide) (by decide) (by decide) (by decide) (by decide) dX0_init_43 (fun a1 => ?_)
  refine co_eq (ws' := [(h0, .inr (1, [.int 0, .int 30, .int 30, .int 0, .int 0, .int 0, .int 0, .null, .null, .null])), (a1, .inl (cA 0, 5, .inl fun _ => 0))]) rfl ?_
  refine co_putF (fs' := [.int 0, .int 30, .int 30, .int 0, .int 0, .int 0, .int 0, .ref a1, .null, .null]) (C0 := "SmokeGoesTo$Fire") (T := Rxo_Fire) (N := 10) (ty := .array .int) C 7 (by rw [hcl]; rfl) ixo_Fire kxo_Fire nxo_Fire (by decide) gf_Fire_33 rfl rfl rfl rfl rfl (Nat.le_of_ble_eq_true rfl) dX0_init_45 rfl ?_
  refine co_aload_n C 0 dX0_init_48 rfl rfl ?_
  refine co_iconst (v := 5) C dX0_init_49 (by decide) ?_
  refine co_newI (cA := cA 0) (N := 5) C (by rw [hty]; rfl) (by decide) (by decide) (by decide) (by decide) (by decide) dX0_init_50 (fun a2 => ?_)
  refine co_eq (ws' := [(h0, .inr (1, [.int 0, .int 30, .int 30, .int 0, .int 0, .int 0, .int 0, .ref a1, .null, .null])), (a1, .inl (cA 0, 5, .inl fun _ => 0)), (a2, .inl (cA 0, 5, .inl fun _ => 0))]) rfl ?_
  refine co_putF (fs' := [.int 0, .int 30, .int 30, .int 0, .int 0, .int 0, .int 0, .ref a1, .ref a2, .null]) (C0 := "SmokeGoesTo$Fire") (T := Rxo_Fire) (N := 10) (ty := .array .int) C 8 (by rw [hcl]; rfl) ixo_Fire kxo_Fire nxo_Fire (by decide) gf_Fire_37 rfl rfl rfl rfl rfl (Nat.le_of_ble_eq_true rfl) dX0_init_52 rfl ?_
  refine co_aload_n C 0 dX0_init_55 rfl rfl ?_
  refine co_iconst (v := 5) C dX0_init_56 (by decide) ?_
  refine co_newI (cA := cA 0) (N := 5) C (by rw [hty]; rfl) (by decide) (by decide) (by decide) (by decide) (by decide) dX0_init_57 (fun a3 => ?_)
  refine co_eq (ws' := [(h0, .inr (1, [.int 0, .int 30, .int 30, .int 0, .int 0, .int 0, .int 0, .ref a1, .ref a2, .null])), (a1, .inl (cA 0, 5, .inl fun _ => 0)), (a2, .inl (cA 0, 5, .inl fun _ => 0)), (a3, .inl (cA 0, 5, .inl fun _ => 0))]) rfl ?_
  refine co_putF (fs' := [.int 0, .int 30, .int 30, .int 0, .int 0, .int 0, .int 0, .ref a1, .ref a2, .ref a3]) (C0 := "SmokeGoesTo$Fire") (T := Rxo_Fire) (N := 10) (ty := .array .int) C 9 (by rw [hcl]; rfl) ixo_Fire kxo_Fire nxo_Fire (by decide) gf_Fire_40 rfl rfl rfl rfl rfl (Nat.le_of_ble_eq_true rfl) dX0_init_59 rfl ?_
  exact co_ret C (fun k => match k with | 0 => a1 | 1 => a2 | 2 => a3 | _ => 0) rfl (by decide) (by decide) dX0_init_62
def co_oReader (cA : Nat → ClassId) (h : Nat) (ad : Nat → Nat) : va_W := [(h, .inr (2, [.int 0, .ref (ad 0), .int 0, .int 0, .int 0, .int 0, .null])), (ad 0, .inl (cA 0, 160, .inl fun _ => 0))]
set_option maxRecDepth 100000 in
set_option maxHeartbeats 4000000 in
theorem cc_Reader {w : sm_WD} {l : Launch} {cA : Nat → ClassId} (hcl : sm_cl w = xo_cl) (hty : sm_ty w = xo_ty cA) : co_C w l yX4_init prog_6_method_1_code 1 1 12 1 160 2 [.int 0, .null, .int 0, .int 0, .int 0, .int 0, .null] (co_oReader cA) := by
  refine co_C.of rfl rfl (by decide) ?_
  intro X h0 hw hl C
  subst hw
  subst hl
  refine co_aload_n C 0 dX4_init_0 rfl rfl ?_
  refine co_obj C gl_Reader_7 dX4_init_1 (by decide) (by decide) ?_
  refine co_aload_n C 0 dX4_init_4 rfl rfl ?_
  refine co_iconst (v := 0) C dX4_init_5 (by decide) ?_
  refine co_put (fs' := [.int 0, .null, .int 0, .int 0, .int 0, .int 0, .null]) (C0 := "SmokeGoesTo$Reader") (T := Rxo_Reader) (N := 7) (ty := .int) C 0 (by rw [hcl]; rfl) ixo_Reader kxo_Reader nxo_Reader (by decide) gf_Reader_13 rfl rfl rfl rfl (Nat.le_of_ble_eq_true rfl) dX4_init_6 rfl ?_
  refine co_aload_n C 0 dX4_init_9 rfl rfl ?_
  refine co_sipush (v := 160) C dX4_init_10 (by decide) ?_
  refine co_newI (cA := cA 0) (N := 160) C (by rw [hty]; rfl) (by decide) (by decide) (by decide) (by decide) (by decide) dX4_init_13 (fun a1 => ?_)
  refine co_eq (ws' := [(h0, .inr (2, [.int 0, .null, .int 0, .int 0, .int 0, .int 0, .null])), (a1, .inl (cA 0, 160, .inl fun _ => 0))]) rfl ?_
  refine co_putF (fs' := [.int 0, .ref a1, .int 0, .int 0, .int 0, .int 0, .null]) (C0 := "SmokeGoesTo$Reader") (T := Rxo_Reader) (N := 7) (ty := .array .int) C 1 (by rw [hcl]; rfl) ixo_Reader kxo_Reader nxo_Reader (by decide) gf_Reader_17 rfl rfl rfl rfl rfl (Nat.le_of_ble_eq_true rfl) dX4_init_15 rfl ?_
  refine co_aload_n C 0 dX4_init_18 rfl rfl ?_
  refine co_iconst (v := 0) C dX4_init_19 (by decide) ?_
  refine co_put (fs' := [.int 0, .ref a1, .int 0, .int 0, .int 0, .int 0, .null]) (C0 := "SmokeGoesTo$Reader") (T := Rxo_Reader) (N := 7) (ty := .int) C 2 (by rw [hcl]; rfl) ixo_Reader kxo_Reader nxo_Reader (by decide) gf_Reader_21 rfl rfl rfl rfl (Nat.le_of_ble_eq_true rfl) dX4_init_20 rfl ?_
  refine co_aload_n C 0 dX4_init_23 rfl rfl ?_
  refine co_iconst (v := 0) C dX4_init_24 (by decide) ?_
  refine co_put (fs' := [.int 0, .ref a1, .int 0, .int 0, .int 0, .int 0, .null]) (C0 := "SmokeGoesTo$Reader") (T := Rxo_Reader) (N := 7) (ty := .int) C 3 (by rw [hcl]; rfl) ixo_Reader kxo_Reader nxo_Reader (by decide) gf_Reader_24 rfl rfl rfl rfl (Nat.le_of_ble_eq_true rfl) dX4_init_25 rfl ?_
  refine co_aload_n C 0 dX4_init_28 rfl rfl ?_
  refine co_iconst (v := 0) C dX4_init_29 (by decide) ?_
  refine co_put (fs' := [.int 0, .ref a1, .int 0, .int 0, .int 0, .int 0, .null]) (C0 := "SmokeGoesTo$Reader") (T := Rxo_Reader) (N := 7) (ty := .int) C 4 (by rw [hcl]; rfl) ixo_Reader kxo_Reader nxo_Reader (by decide) gf_Reader_27 rfl rfl rfl rfl (Nat.le_of_ble_eq_true rfl) dX4_init_30 rfl ?_
  refine co_aload_n C 0 dX4_init_33 rfl rfl ?_
  refine co_iconst (v := 0) C dX4_init_34 (by decide) ?_
  refine co_put (fs' := [.int 0, .ref a1, .int 0, .int 0, .int 0, .int 0, .null]) (C0 := "SmokeGoesTo$Reader") (T := Rxo_Reader) (N := 7) (ty := .int) C 5 (by rw [hcl]; rfl) ixo_Reader kxo_Reader nxo_Reader (by decide) gf_Reader_30 rfl rfl rfl rfl (Nat.le_of_ble_eq_true rfl) dX4_init_35 rfl ?_
  refine co_aload_n C 0 dX4_init_38 rfl rfl ?_
  refine co_null C dX4_init_39 ?_
  refine co_put (fs' := [.int 0, .ref a1, .int 0, .int 0, .int 0, .int 0, .null]) (C0 := "SmokeGoesTo$Reader") (T := Rxo_Reader) (N := 7) (ty := .object "SmokeGoesTo$Text") C 6 (by rw [hcl]; rfl) ixo_Reader kxo_Reader nxo_Reader (by decide) gf_Reader_33 rfl rfl rfl rfl (Nat.le_of_ble_eq_true rfl) dX4_init_40 rfl ?_
  exact co_ret C (fun k => match k with | 0 => a1 | _ => 0) rfl (by decide) (by decide) dX4_init_43
def co_oText (cA : Nat → ClassId) (h : Nat) (ad : Nat → Nat) : va_W := [(h, .inr (3, [.ref (ad 0), .ref (ad 1), .int 0])), (ad 0, .inl (cA 0, 160, .inl fun _ => 0)), (ad 1, .inl (cA 0, 3, .inl fun _ => 0))]
set_option maxRecDepth 100000 in
set_option maxHeartbeats 4000000 in
theorem cc_Text {w : sm_WD} {l : Launch} {cA : Nat → ClassId} (hcl : sm_cl w = xo_cl) (hty : sm_ty w = xo_ty cA) : co_C w l yX6_init prog_8_method_1_code 1 1 12 2 163 3 [.null, .null, .int 0] (co_oText cA) := by
  refine co_C.of rfl rfl (by decide) ?_
  intro X h0 hw hl C
  subst hw
  subst hl
  refine co_aload_n C 0 dX6_init_0 rfl rfl ?_
  refine co_obj C gl_Text_3 dX6_init_1 (by decide) (by decide) ?_
  refine co_aload_n C 0 dX6_init_4 rfl rfl ?_
  refine co_sipush (v := 160) C dX6_init_5 (by decide) ?_
  refine co_newI (cA := cA 0) (N := 160) C (by rw [hty]; rfl) (by decide) (by decide) (by decide) (by decide) (by decide) dX6_init_8 (fun a1 => ?_)
  refine co_eq (ws' := [(h0, .inr (3, [.null, .null, .int 0])), (a1, .inl (cA 0, 160, .inl fun _ => 0))]) rfl ?_
  refine co_putF (fs' := [.ref a1, .null, .int 0]) (C0 := "SmokeGoesTo$Text") (T := Rxo_Text) (N := 3) (ty := .array .int) C 0 (by rw [hcl]; rfl) ixo_Text kxo_Text nxo_Text (by decide) gf_Text_9 rfl rfl rfl rfl rfl (Nat.le_of_ble_eq_true rfl) dX6_init_10 rfl ?_
  refine co_aload_n C 0 dX6_init_13 rfl rfl ?_
  refine co_iconst (v := 3) C dX6_init_14 (by decide) ?_
  refine co_newI (cA := cA 0) (N := 3) C (by rw [hty]; rfl) (by decide) (by decide) (by decide) (by decide) (by decide) dX6_init_15 (fun a2 => ?_)
  refine co_eq (ws' := [(h0, .inr (3, [.ref a1, .null, .int 0])), (a1, .inl (cA 0, 160, .inl fun _ => 0)), (a2, .inl (cA 0, 3, .inl fun _ => 0))]) rfl ?_
  refine co_putF (fs' := [.ref a1, .ref a2, .int 0]) (C0 := "SmokeGoesTo$Text") (T := Rxo_Text) (N := 3) (ty := .array .int) C 1 (by rw [hcl]; rfl) ixo_Text kxo_Text nxo_Text (by decide) gf_Text_15 rfl rfl rfl rfl rfl (Nat.le_of_ble_eq_true rfl) dX6_init_17 rfl ?_
  refine co_aload_n C 0 dX6_init_20 rfl rfl ?_
  refine co_iconst (v := 0) C dX6_init_21 (by decide) ?_
  refine co_put (fs' := [.ref a1, .ref a2, .int 0]) (C0 := "SmokeGoesTo$Text") (T := Rxo_Text) (N := 3) (ty := .int) C 2 (by rw [hcl]; rfl) ixo_Text kxo_Text nxo_Text (by decide) gf_Text_18 rfl rfl rfl rfl (Nat.le_of_ble_eq_true rfl) dX6_init_22 rfl ?_
  exact co_ret C (fun k => match k with | 0 => a1 | 1 => a2 | _ => 0) rfl (by decide) (by decide) dX6_init_25
def co_oSheet (cA : Nat → ClassId) (h : Nat) (ad : Nat → Nat) : va_W := [(h, .inr (4, [.int (-1), .int 0, .ref (ad 0)])), (ad 0, .inl (cA 0, 40, .inl fun _ => 0))]
set_option maxRecDepth 100000 in
set_option maxHeartbeats 4000000 in
theorem cc_Sheet {w : sm_WD} {l : Launch} {cA : Nat → ClassId} (hcl : sm_cl w = xo_cl) (hty : sm_ty w = xo_ty cA) : co_C w l yX5_init prog_7_method_1_code 1 1 12 1 40 4 [.int 0, .int 0, .null] (co_oSheet cA) := by
  refine co_C.of rfl rfl (by decide) ?_
  intro X h0 hw hl C
  subst hw
  subst hl
  refine co_aload_n C 0 dX5_init_0 rfl rfl ?_
  refine co_obj C gl_Sheet_3 dX5_init_1 (by decide) (by decide) ?_
  refine co_aload_n C 0 dX5_init_4 rfl rfl ?_
  refine co_iconst (v := (-1)) C dX5_init_5 (by decide) ?_
  refine co_put (fs' := [.int (-1), .int 0, .null]) (C0 := "SmokeGoesTo$Sheet") (T := Rxo_Sheet) (N := 3) (ty := .int) C 0 (by rw [hcl]; rfl) ixo_Sheet kxo_Sheet nxo_Sheet (by decide) gf_Sheet_9 rfl rfl rfl rfl (Nat.le_of_ble_eq_true rfl) dX5_init_6 rfl ?_
  refine co_aload_n C 0 dX5_init_9 rfl rfl ?_
  refine co_iconst (v := 0) C dX5_init_10 (by decide) ?_
  refine co_put (fs' := [.int (-1), .int 0, .null]) (C0 := "SmokeGoesTo$Sheet") (T := Rxo_Sheet) (N := 3) (ty := .int) C 1 (by rw [hcl]; rfl) ixo_Sheet kxo_Sheet nxo_Sheet (by decide) gf_Sheet_15 rfl rfl rfl rfl (Nat.le_of_ble_eq_true rfl) dX5_init_11 rfl ?_
  refine co_aload_n C 0 dX5_init_14 rfl rfl ?_
  refine co_bipush (v := 40) C dX5_init_15 (by decide) ?_
  refine co_newI (cA := cA 0) (N := 40) C (by rw [hty]; rfl) (by decide) (by decide) (by decide) (by decide) (by decide) dX5_init_17 (fun a1 => ?_)
  refine co_eq (ws' := [(h0, .inr (4, [.int (-1), .int 0, .null])), (a1, .inl (cA 0, 40, .inl fun _ => 0))]) rfl ?_
  refine co_putF (fs' := [.int (-1), .int 0, .ref a1]) (C0 := "SmokeGoesTo$Sheet") (T := Rxo_Sheet) (N := 3) (ty := .array .int) C 2 (by rw [hcl]; rfl) ixo_Sheet kxo_Sheet nxo_Sheet (by decide) gf_Sheet_18 rfl rfl rfl rfl rfl (Nat.le_of_ble_eq_true rfl) dX5_init_19 rfl ?_
  exact co_ret C (fun k => match k with | 0 => a1 | _ => 0) rfl (by decide) (by decide) dX5_init_22
def co_oOdds (cA : Nat → ClassId) (h : Nat) (ad : Nat → Nat) : va_W := [(h, .inr (6, [.ref (ad 0), .ref (ad 1), .long 1, .ref (ad 2)])), (ad 0, .inl (cA 1, 8, .inr (.inl fun _ => 0))), (ad 1, .inl (cA 1, 8, .inr (.inl fun _ => 0))), (ad 2, .inl (cA 1, 8, .inr (.inl fun _ => 0)))]
set_option maxRecDepth 100000 in
set_option maxHeartbeats 4000000 in
theorem cc_Odds {w : sm_WD} {l : Launch} {cA : Nat → ClassId} (hcl : sm_cl w = xo_cl) (hty : sm_ty w = xo_ty cA) : co_C w l yX3_init prog_5_method_1_code 1 1 12 3 24 6 [.null, .null, .long 0, .null] (co_oOdds cA) := by
  refine co_C.of rfl rfl (by decide) ?_
  intro X h0 hw hl C
  subst hw
  subst hl
  refine co_aload_n C 0 dX3_init_0 rfl rfl ?_
  refine co_obj C gl_Odds_3 dX3_init_1 (by decide) (by decide) ?_
  refine co_aload_n C 0 dX3_init_4 rfl rfl ?_
  refine co_bipush (v := 8) C dX3_init_5 (by decide) ?_
  refine co_newL (cA := cA 1) (N := 8) C (by rw [hty]; rfl) (by decide) (by decide) (by decide) (by decide) (by decide) dX3_init_7 (fun a1 => ?_)
  refine co_eq (ws' := [(h0, .inr (6, [.null, .null, .long 0, .null])), (a1, .inl (cA 1, 8, .inr (.inl fun _ => 0)))]) rfl ?_
  refine co_putF (fs' := [.ref a1, .null, .long 0, .null]) (C0 := "SmokeGoesTo$Odds") (T := Rxo_Odds) (N := 4) (ty := .array .long) C 0 (by rw [hcl]; rfl) ixo_Odds kxo_Odds nxo_Odds (by decide) gf_Odds_9 rfl rfl rfl rfl rfl (Nat.le_of_ble_eq_true rfl) dX3_init_9 rfl ?_
  refine co_aload_n C 0 dX3_init_12 rfl rfl ?_
  refine co_bipush (v := 8) C dX3_init_13 (by decide) ?_
  refine co_newL (cA := cA 1) (N := 8) C (by rw [hty]; rfl) (by decide) (by decide) (by decide) (by decide) (by decide) dX3_init_15 (fun a2 => ?_)
  refine co_eq (ws' := [(h0, .inr (6, [.ref a1, .null, .long 0, .null])), (a1, .inl (cA 1, 8, .inr (.inl fun _ => 0))), (a2, .inl (cA 1, 8, .inr (.inl fun _ => 0)))]) rfl ?_
  refine co_putF (fs' := [.ref a1, .ref a2, .long 0, .null]) (C0 := "SmokeGoesTo$Odds") (T := Rxo_Odds) (N := 4) (ty := .array .long) C 1 (by rw [hcl]; rfl) ixo_Odds kxo_Odds nxo_Odds (by decide) gf_Odds_15 rfl rfl rfl rfl rfl (Nat.le_of_ble_eq_true rfl) dX3_init_17 rfl ?_
  refine co_aload_n C 0 dX3_init_20 rfl rfl ?_
  refine co_lconst (v := 1) C dX3_init_21 (by decide) ?_
  refine co_put (fs' := [.ref a1, .ref a2, .long 1, .null]) (C0 := "SmokeGoesTo$Odds") (T := Rxo_Odds) (N := 4) (ty := .long) C 2 (by rw [hcl]; rfl) ixo_Odds kxo_Odds nxo_Odds (by decide) gf_Odds_18 rfl rfl rfl rfl (Nat.le_of_ble_eq_true rfl) dX3_init_22 rfl ?_
  refine co_aload_n C 0 dX3_init_25 rfl rfl ?_
  refine co_bipush (v := 8) C dX3_init_26 (by decide) ?_
  refine co_newL (cA := cA 1) (N := 8) C (by rw [hty]; rfl) (by decide) (by decide) (by decide) (by decide) (by decide) dX3_init_28 (fun a3 => ?_)
  refine co_eq (ws' := [(h0, .inr (6, [.ref a1, .ref a2, .long 1, .null])), (a1, .inl (cA 1, 8, .inr (.inl fun _ => 0))), (a2, .inl (cA 1, 8, .inr (.inl fun _ => 0))), (a3, .inl (cA 1, 8, .inr (.inl fun _ => 0)))]) rfl ?_
  refine co_putF (fs' := [.ref a1, .ref a2, .long 1, .ref a3]) (C0 := "SmokeGoesTo$Odds") (T := Rxo_Odds) (N := 4) (ty := .array .long) C 3 (by rw [hcl]; rfl) ixo_Odds kxo_Odds nxo_Odds (by decide) gf_Odds_22 rfl rfl rfl rfl rfl (Nat.le_of_ble_eq_true rfl) dX3_init_30 rfl ?_
  exact co_ret C (fun k => match k with | 0 => a1 | 1 => a2 | 2 => a3 | _ => 0) rfl (by decide) (by decide) dX3_init_33
def co_oNight (cA : Nat → ClassId) (h : Nat) (ad : Nat → Nat) : va_W := [(h, .inr (5, [.ref (ad 0), .ref (ad 4), .ref (ad 5), .ref (ad 6), .ref (ad 7), .ref (ad 8), .ref (ad 9), .ref (ad 10), .ref (ad 11), .int 0, .int 0, .int (-1), .int (-1), .null])), (ad 0, .inr (1, [.int 0, .int 30, .int 30, .int 0, .int 0, .int 0, .int 0, .ref (ad 1), .ref (ad 2), .ref (ad 3)])), (ad 1, .inl (cA 0, 5, .inl fun _ => 0)), (ad 2, .inl (cA 0, 5, .inl fun _ => 0)), (ad 3, .inl (cA 0, 5, .inl fun _ => 0)), (ad 4, .inl (cA 0, 5, .inl fun _ => 0)), (ad 5, .inl (cA 0, 5, .inl fun _ => 0)), (ad 6, .inl (cA 0, 40, .inl fun _ => 0)), (ad 7, .inl (cA 0, 5, .inl fun _ => 0)), (ad 8, .inl (cA 0, 5, .inl fun _ => 0)), (ad 9, .inl (cA 0, 5, .inl fun _ => 0)), (ad 10, .inl (cA 0, 6, .inl fun _ => 0)), (ad 11, .inl (cA 0, 160, .inl fun _ => 0))]
set_option maxRecDepth 100000 in
set_option maxHeartbeats 4000000 in
theorem cc_Night {w : sm_WD} {l : Launch} {cA : Nat → ClassId} (hcl : sm_cl w = xo_cl) (hty : sm_ty w = xo_ty cA) : co_C w l yX2_init prog_4_method_1_code 1 2 32 12 256 5 [.null, .null, .null, .null, .null, .null, .null, .null, .null, .int 0, .int 0, .int 0, .int 0, .null] (co_oNight cA) := by
  refine co_C.of rfl rfl (by decide) ?_
  intro X h0 hw hl C
  subst hw
  subst hl
  refine co_aload_n C 0 dX2_init_0 rfl rfl ?_
  refine co_obj C gl_Night_3 dX2_init_1 (by decide) (by decide) ?_
  refine co_aload_n C 0 dX2_init_4 rfl rfl ?_
  refine co_new (fs := [.int 0, .int 0, .int 0, .int 0, .int 0, .int 0, .int 0, .null, .null, .null]) (T := Rxo_Fire) (N := 10) (ty := yxo_Fire) C (cc_Fire hcl hty) ixo_Fire kxo_Fire gx_Night_9 gt_Fire gn_Fire (by rw [hcl]; rfl) (by decide +kernel) gm_X0_init (by decide +kernel) gi_X0_init rfl ⟨by decide, by decide⟩ (by decide) (by decide) (Nat.le_of_ble_eq_true rfl) dX2_init_5 dX2_init_8 dX2_init_9 (fun q1 f1 => ?_)
  refine co_eq (ws' := [(h0, .inr (5, [.null, .null, .null, .null, .null, .null, .null, .null, .null, .int 0, .int 0, .int 0, .int 0, .null])), (q1, .inr (1, [.int 0, .int 30, .int 30, .int 0, .int 0, .int 0, .int 0, .ref (f1 0), .ref (f1 1), .ref (f1 2)])), (f1 0, .inl (cA 0, 5, .inl fun _ => 0)), (f1 1, .inl (cA 0, 5, .inl fun _ => 0)), (f1 2, .inl (cA 0, 5, .inl fun _ => 0))]) rfl ?_
  refine co_putF (fs' := [.ref q1, .null, .null, .null, .null, .null, .null, .null, .null, .int 0, .int 0, .int 0, .int 0, .null]) (C0 := "SmokeGoesTo$Night") (T := Rxo_Night) (N := 14) (ty := .object "SmokeGoesTo$Fire") C 0 (by rw [hcl]; rfl) ixo_Night kxo_Night nxo_Night (by decide) gf_Night_12 rfl rfl rfl rfl rfl (Nat.le_of_ble_eq_true rfl) dX2_init_12 rfl ?_
  refine co_aload_n C 0 dX2_init_15 rfl rfl ?_
  refine co_iconst (v := 5) C dX2_init_16 (by decide) ?_
  refine co_newI (cA := cA 0) (N := 5) C (by rw [hty]; rfl) (by decide) (by decide) (by decide) (by decide) (by decide) dX2_init_17 (fun a2 => ?_)
  refine co_eq (ws' := [(h0, .inr (5, [.ref q1, .null, .null, .null, .null, .null, .null, .null, .null, .int 0, .int 0, .int 0, .int 0, .null])), (q1, .inr (1, [.int 0, .int 30, .int 30, .int 0, .int 0, .int 0, .int 0, .ref (f1 0), .ref (f1 1), .ref (f1 2)])), (f1 0, .inl (cA 0, 5, .inl fun _ => 0)), (f1 1, .inl (cA 0, 5, .inl fun _ => 0)), (f1 2, .inl (cA 0, 5, .inl fun _ => 0)), (a2, .inl (cA 0, 5, .inl fun _ => 0))]) rfl ?_
  refine co_putF (fs' := [.ref q1, .ref a2, .null, .null, .null, .null, .null, .null, .null, .int 0, .int 0, .int 0, .int 0, .null]) (C0 := "SmokeGoesTo$Night") (T := Rxo_Night) (N := 14) (ty := .array .int) C 1 (by rw [hcl]; rfl) ixo_Night kxo_Night nxo_Night (by decide) gf_Night_18 rfl rfl rfl rfl rfl (Nat.le_of_ble_eq_true rfl) dX2_init_19 rfl ?_
  refine co_aload_n C 0 dX2_init_22 rfl rfl ?_
  refine co_iconst (v := 5) C dX2_init_23 (by decide) ?_
  refine co_newI (cA := cA 0) (N := 5) C (by rw [hty]; rfl) (by decide) (by decide) (by decide) (by decide) (by decide) dX2_init_24 (fun a3 => ?_)
  refine co_eq (ws' := [(h0, .inr (5, [.ref q1, .ref a2, .null, .null, .null, .null, .null, .null, .null, .int 0, .int 0, .int 0, .int 0, .null])), (q1, .inr (1, [.int 0, .int 30, .int 30, .int 0, .int 0, .int 0, .int 0, .ref (f1 0), .ref (f1 1), .ref (f1 2)])), (f1 0, .inl (cA 0, 5, .inl fun _ => 0)), (f1 1, .inl (cA 0, 5, .inl fun _ => 0)), (f1 2, .inl (cA 0, 5, .inl fun _ => 0)), (a2, .inl (cA 0, 5, .inl fun _ => 0)), (a3, .inl (cA 0, 5, .inl fun _ => 0))]) rfl ?_
  refine co_putF (fs' := [.ref q1, .ref a2, .ref a3, .null, .null, .null, .null, .null, .null, .int 0, .int 0, .int 0, .int 0, .null]) (C0 := "SmokeGoesTo$Night") (T := Rxo_Night) (N := 14) (ty := .array .int) C 2 (by rw [hcl]; rfl) ixo_Night kxo_Night nxo_Night (by decide) gf_Night_22 rfl rfl rfl rfl rfl (Nat.le_of_ble_eq_true rfl) dX2_init_26 rfl ?_
  refine co_aload_n C 0 dX2_init_29 rfl rfl ?_
  refine co_bipush (v := 40) C dX2_init_30 (by decide) ?_
  refine co_newI (cA := cA 0) (N := 40) C (by rw [hty]; rfl) (by decide) (by decide) (by decide) (by decide) (by decide) dX2_init_32 (fun a4 => ?_)
  refine co_eq (ws' := [(h0, .inr (5, [.ref q1, .ref a2, .ref a3, .null, .null, .null, .null, .null, .null, .int 0, .int 0, .int 0, .int 0, .null])), (q1, .inr (1, [.int 0, .int 30, .int 30, .int 0, .int 0, .int 0, .int 0, .ref (f1 0), .ref (f1 1), .ref (f1 2)])), (f1 0, .inl (cA 0, 5, .inl fun _ => 0)), (f1 1, .inl (cA 0, 5, .inl fun _ => 0)), (f1 2, .inl (cA 0, 5, .inl fun _ => 0)), (a2, .inl (cA 0, 5, .inl fun _ => 0)), (a3, .inl (cA 0, 5, .inl fun _ => 0)), (a4, .inl (cA 0, 40, .inl fun _ => 0))]) rfl ?_
  refine co_putF (fs' := [.ref q1, .ref a2, .ref a3, .ref a4, .null, .null, .null, .null, .null, .int 0, .int 0, .int 0, .int 0, .null]) (C0 := "SmokeGoesTo$Night") (T := Rxo_Night) (N := 14) (ty := .array .int) C 3 (by rw [hcl]; rfl) ixo_Night kxo_Night nxo_Night (by decide) gf_Night_25 rfl rfl rfl rfl rfl (Nat.le_of_ble_eq_true rfl) dX2_init_34 rfl ?_
  refine co_aload_n C 0 dX2_init_37 rfl rfl ?_
  refine co_iconst (v := 5) C dX2_init_38 (by decide) ?_
  refine co_newI (cA := cA 0) (N := 5) C (by rw [hty]; rfl) (by decide) (by decide) (by decide) (by decide) (by decide) dX2_init_39 (fun a5 => ?_)
  refine co_eq (ws' := [(h0, .inr (5, [.ref q1, .ref a2, .ref a3, .ref a4, .null, .null, .null, .null, .null, .int 0, .int 0, .int 0, .int 0, .null])), (q1, .inr (1, [.int 0, .int 30, .int 30, .int 0, .int 0, .int 0, .int 0, .ref (f1 0), .ref (f1 1), .ref (f1 2)])), (f1 0, .inl (cA 0, 5, .inl fun _ => 0)), (f1 1, .inl (cA 0, 5, .inl fun _ => 0)), (f1 2, .inl (cA 0, 5, .inl fun _ => 0)), (a2, .inl (cA 0, 5, .inl fun _ => 0)), (a3, .inl (cA 0, 5, .inl fun _ => 0)), (a4, .inl (cA 0, 40, .inl fun _ => 0)), (a5, .inl (cA 0, 5, .inl fun _ => 0))]) rfl ?_
  refine co_putF (fs' := [.ref q1, .ref a2, .ref a3, .ref a4, .ref a5, .null, .null, .null, .null, .int 0, .int 0, .int 0, .int 0, .null]) (C0 := "SmokeGoesTo$Night") (T := Rxo_Night) (N := 14) (ty := .array .int) C 4 (by rw [hcl]; rfl) ixo_Night kxo_Night nxo_Night (by decide) gf_Night_28 rfl rfl rfl rfl rfl (Nat.le_of_ble_eq_true rfl) dX2_init_41 rfl ?_
  refine co_aload_n C 0 dX2_init_44 rfl rfl ?_
  refine co_iconst (v := 5) C dX2_init_45 (by decide) ?_
  refine co_newI (cA := cA 0) (N := 5) C (by rw [hty]; rfl) (by decide) (by decide) (by decide) (by decide) (by decide) dX2_init_46 (fun a6 => ?_)
  refine co_eq (ws' := [(h0, .inr (5, [.ref q1, .ref a2, .ref a3, .ref a4, .ref a5, .null, .null, .null, .null, .int 0, .int 0, .int 0, .int 0, .null])), (q1, .inr (1, [.int 0, .int 30, .int 30, .int 0, .int 0, .int 0, .int 0, .ref (f1 0), .ref (f1 1), .ref (f1 2)])), (f1 0, .inl (cA 0, 5, .inl fun _ => 0)), (f1 1, .inl (cA 0, 5, .inl fun _ => 0)), (f1 2, .inl (cA 0, 5, .inl fun _ => 0)), (a2, .inl (cA 0, 5, .inl fun _ => 0)), (a3, .inl (cA 0, 5, .inl fun _ => 0)), (a4, .inl (cA 0, 40, .inl fun _ => 0)), (a5, .inl (cA 0, 5, .inl fun _ => 0)), (a6, .inl (cA 0, 5, .inl fun _ => 0))]) rfl ?_
  refine co_putF (fs' := [.ref q1, .ref a2, .ref a3, .ref a4, .ref a5, .ref a6, .null, .null, .null, .int 0, .int 0, .int 0, .int 0, .null]) (C0 := "SmokeGoesTo$Night") (T := Rxo_Night) (N := 14) (ty := .array .int) C 5 (by rw [hcl]; rfl) ixo_Night kxo_Night nxo_Night (by decide) gf_Night_31 rfl rfl rfl rfl rfl (Nat.le_of_ble_eq_true rfl) dX2_init_48 rfl ?_
  refine co_aload_n C 0 dX2_init_51 rfl rfl ?_
  refine co_iconst (v := 5) C dX2_init_52 (by decide) ?_
  refine co_newI (cA := cA 0) (N := 5) C (by rw [hty]; rfl) (by decide) (by decide) (by decide) (by decide) (by decide) dX2_init_53 (fun a7 => ?_)
  refine co_eq (ws' := [(h0, .inr (5, [.ref q1, .ref a2, .ref a3, .ref a4, .ref a5, .ref a6, .null, .null, .null, .int 0, .int 0, .int 0, .int 0, .null])), (q1, .inr (1, [.int 0, .int 30, .int 30, .int 0, .int 0, .int 0, .int 0, .ref (f1 0), .ref (f1 1), .ref (f1 2)])), (f1 0, .inl (cA 0, 5, .inl fun _ => 0)), (f1 1, .inl (cA 0, 5, .inl fun _ => 0)), (f1 2, .inl (cA 0, 5, .inl fun _ => 0)), (a2, .inl (cA 0, 5, .inl fun _ => 0)), (a3, .inl (cA 0, 5, .inl fun _ => 0)), (a4, .inl (cA 0, 40, .inl fun _ => 0)), (a5, .inl (cA 0, 5, .inl fun _ => 0)), (a6, .inl (cA 0, 5, .inl fun _ => 0)), (a7, .inl (cA 0, 5, .inl fun _ => 0))]) rfl ?_
  refine co_putF (fs' := [.ref q1, .ref a2, .ref a3, .ref a4, .ref a5, .ref a6, .ref a7, .null, .null, .int 0, .int 0, .int 0, .int 0, .null]) (C0 := "SmokeGoesTo$Night") (T := Rxo_Night) (N := 14) (ty := .array .int) C 6 (by rw [hcl]; rfl) ixo_Night kxo_Night nxo_Night (by decide) gf_Night_34 rfl rfl rfl rfl rfl (Nat.le_of_ble_eq_true rfl) dX2_init_55 rfl ?_
  refine co_aload_n C 0 dX2_init_58 rfl rfl ?_
  refine co_bipush (v := 6) C dX2_init_59 (by decide) ?_
  refine co_newI (cA := cA 0) (N := 6) C (by rw [hty]; rfl) (by decide) (by decide) (by decide) (by decide) (by decide) dX2_init_61 (fun a8 => ?_)
  refine co_eq (ws' := [(h0, .inr (5, [.ref q1, .ref a2, .ref a3, .ref a4, .ref a5, .ref a6, .ref a7, .null, .null, .int 0, .int 0, .int 0, .int 0, .null])), (q1, .inr (1, [.int 0, .int 30, .int 30, .int 0, .int 0, .int 0, .int 0, .ref (f1 0), .ref (f1 1), .ref (f1 2)])), (f1 0, .inl (cA 0, 5, .inl fun _ => 0)), (f1 1, .inl (cA 0, 5, .inl fun _ => 0)), (f1 2, .inl (cA 0, 5, .inl fun _ => 0)), (a2, .inl (cA 0, 5, .inl fun _ => 0)), (a3, .inl (cA 0, 5, .inl fun _ => 0)), (a4, .inl (cA 0, 40, .inl fun _ => 0)), (a5, .inl (cA 0, 5, .inl fun _ => 0)), (a6, .inl (cA 0, 5, .inl fun _ => 0)), (a7, .inl (cA 0, 5, .inl fun _ => 0)), (a8, .inl (cA 0, 6, .inl fun _ => 0))]) rfl ?_
  refine co_putF (fs' := [.ref q1, .ref a2, .ref a3, .ref a4, .ref a5, .ref a6, .ref a7, .ref a8, .null, .int 0, .int 0, .int 0, .int 0, .null]) (C0 := "SmokeGoesTo$Night") (T := Rxo_Night) (N := 14) (ty := .array .int) C 7 (by rw [hcl]; rfl) ixo_Night kxo_Night nxo_Night (by decide) gf_Night_39 rfl rfl rfl rfl rfl (Nat.le_of_ble_eq_true rfl) dX2_init_63 rfl ?_
  refine co_aload_n C 0 dX2_init_66 rfl rfl ?_
  refine co_sipush (v := 160) C dX2_init_67 (by decide) ?_
  refine co_newI (cA := cA 0) (N := 160) C (by rw [hty]; rfl) (by decide) (by decide) (by decide) (by decide) (by decide) dX2_init_70 (fun a9 => ?_)
  refine co_eq (ws' := [(h0, .inr (5, [.ref q1, .ref a2, .ref a3, .ref a4, .ref a5, .ref a6, .ref a7, .ref a8, .null, .int 0, .int 0, .int 0, .int 0, .null])), (q1, .inr (1, [.int 0, .int 30, .int 30, .int 0, .int 0, .int 0, .int 0, .ref (f1 0), .ref (f1 1), .ref (f1 2)])), (f1 0, .inl (cA 0, 5, .inl fun _ => 0)), (f1 1, .inl (cA 0, 5, .inl fun _ => 0)), (f1 2, .inl (cA 0, 5, .inl fun _ => 0)), (a2, .inl (cA 0, 5, .inl fun _ => 0)), (a3, .inl (cA 0, 5, .inl fun _ => 0)), (a4, .inl (cA 0, 40, .inl fun _ => 0)), (a5, .inl (cA 0, 5, .inl fun _ => 0)), (a6, .inl (cA 0, 5, .inl fun _ => 0)), (a7, .inl (cA 0, 5, .inl fun _ => 0)), (a8, .inl (cA 0, 6, .inl fun _ => 0)), (a9, .inl (cA 0, 160, .inl fun _ => 0))]) rfl ?_
  refine co_putF (fs' := [.ref q1, .ref a2, .ref a3, .ref a4, .ref a5, .ref a6, .ref a7, .ref a8, .ref a9, .int 0, .int 0, .int 0, .int 0, .null]) (C0 := "SmokeGoesTo$Night") (T := Rxo_Night) (N := 14) (ty := .array .int) C 8 (by rw [hcl]; rfl) ixo_Night kxo_Night nxo_Night (by decide) gf_Night_42 rfl rfl rfl rfl rfl (Nat.le_of_ble_eq_true rfl) dX2_init_72 rfl ?_
  refine co_aload_n C 0 dX2_init_75 rfl rfl ?_
  refine co_iconst (v := 0) C dX2_init_76 (by decide) ?_
  refine co_put (fs' := [.ref q1, .ref a2, .ref a3, .ref a4, .ref a5, .ref a6, .ref a7, .ref a8, .ref a9, .int 0, .int 0, .int 0, .int 0, .null]) (C0 := "SmokeGoesTo$Night") (T := Rxo_Night) (N := 14) (ty := .int) C 9 (by rw [hcl]; rfl) ixo_Night kxo_Night nxo_Night (by decide) gf_Night_45 rfl rfl rfl rfl (Nat.le_of_ble_eq_true rfl) dX2_init_77 rfl ?_
  refine co_aload_n C 0 dX2_init_80 rfl rfl ?_
  refine co_iconst (v := 0) C dX2_init_81 (by decide) ?_
  refine co_put (fs' := [.ref q1, .ref a2, .ref a3, .ref a4, .ref a5, .ref a6, .ref a7, .ref a8, .ref a9, .int 0, .int 0, .int 0, .int 0, .null]) (C0 := "SmokeGoesTo$Night") (T := Rxo_Night) (N := 14) (ty := .int) C 10 (by rw [hcl]; rfl) ixo_Night kxo_Night nxo_Night (by decide) gf_Night_49 rfl rfl rfl rfl (Nat.le_of_ble_eq_true rfl) dX2_init_82 rfl ?_
  refine co_aload_n C 0 dX2_init_85 rfl rfl ?_
  refine co_iconst (v := (-1)) C dX2_init_86 (by decide) ?_
  refine co_put (fs' := [.ref q1, .ref a2, .ref a3, .ref a4, .ref a5, .ref a6, .ref a7, .ref a8, .ref a9, .int 0, .int 0, .int (-1), .int 0, .null]) (C0 := "SmokeGoesTo$Night") (T := Rxo_Night) (N := 14) (ty := .int) C 11 (by rw [hcl]; rfl) ixo_Night kxo_Night nxo_Night (by decide) gf_Night_52 rfl rfl rfl rfl (Nat.le_of_ble_eq_true rfl) dX2_init_87 rfl ?_
  refine co_aload_n C 0 dX2_init_90 rfl rfl ?_
  refine co_iconst (v := (-1)) C dX2_init_91 (by decide) ?_
  refine co_put (fs' := [.ref q1, .ref a2, .ref a3, .ref a4, .ref a5, .ref a6, .ref a7, .ref a8, .ref a9, .int 0, .int 0, .int (-1), .int (-1), .null]) (C0 := "SmokeGoesTo$Night") (T := Rxo_Night) (N := 14) (ty := .int) C 12 (by rw [hcl]; rfl) ixo_Night kxo_Night nxo_Night (by decide) gf_Night_55 rfl rfl rfl rfl (Nat.le_of_ble_eq_true rfl) dX2_init_92 rfl ?_
  refine co_aload_n C 0 dX2_init_95 rfl rfl ?_
  refine co_null C dX2_init_96 ?_
  refine co_put (fs' := [.ref q1, .ref a2, .ref a3, .ref a4, .ref a5, .ref a6, .ref a7, .ref a8, .ref a9, .int 0, .int 0, .int (-1), .int (-1), .null]) (C0 := "SmokeGoesTo$Night") (T := Rxo_Night) (N := 14) (ty := .object "SmokeGoesTo$Text") C 13 (by rw [hcl]; rfl) ixo_Night kxo_Night nxo_Night (by decide) gf_Night_58 rfl rfl rfl rfl (Nat.le_of_ble_eq_true rfl) dX2_init_97 rfl ?_
  exact co_ret C (fun k => match k with | 0 => q1 | 1 => f1 0 | 2 => f1 1 | 3 => f1 2 | 4 => a2 | 5 => a3 | 6 => a4 | 7 => a5 | 8 => a6 | 9 => a7 | 10 => a8 | 11 => a9 | _ => 0) rfl (by decide) (by decide) dX2_init_100
