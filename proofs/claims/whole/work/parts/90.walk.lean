/-! THE LAW'S JUDGEMENT: both worlds in one heap, the script beside them -/
def la_sw (X : sm_VC) (wm : sm_WD) : sm_VC := (sm_p X, sm_l X, sm_e X, sm_R X, sm_s X, sm_m X, sm_as X, sm_be X, sm_me X, sm_co X, wm, sm_fA X, sm_cs X, sm_sl X)
def la_Cx (X : sm_VC) (wm : sm_WD) (b L : Nat) (xs : Nat → Int32) : Prop := sm_Cx X code 4 "SmokeGoesToLaw" 2048 84000 ret ∧ sm_Cx (la_sw X wm) code 4 "SmokeGoesToLaw" 2048 84000 ret ∧ xo_is (sm_w X) ∧ mo_is wm ∧ (∀ i j, i < 56 → j < 24 → sm_ad (sm_w X) i ≠ sm_ad wm j) ∧ va_X b L xs (sm_s X) (sm_s X).heap ∧ b < (sm_s X).heap.size ∧ ¬ sm_fA X b ∧ L ≤ 3072
def la_V (X : sm_VC) (wm : sm_WD) (Q : State → Prop) (σx σm : sm_St) (pc : Nat) (lv : List (Nat × Value)) (st : List Value) : Prop :=
  ∀ (H : Heap) (locs : List Loc) (ls : Array Slot), va_P (sm_D (sm_w X)) (sm_cl (sm_w X)) (sm_wd (sm_w X) σx) H → va_P (sm_D wm) (sm_cl wm) (sm_wd wm σm) H → va_S (sm_fA X) (sm_s X).heap H locs → lv_has ls 4 lv → sm_W X H locs Q (F0 (sm_m X) pc ls st)
abbrev la_lv (X : sm_VC) (wm : sm_WD) (b : Nat) (i : Int32) : List (Nat × Value) := [(3, .int i), (2, .ref (sm_ad wm 0)), (1, .ref (sm_ad (sm_w X) 0)), (0, .ref b)]
section
variable {X : sm_VC} {wm : sm_WD} {b L : Nat} {xs : Nat → Int32} {Q : State → Prop} {σx σm : sm_St} {pc : Nat} {lv : List (Nat × Value)} {st : List Value}
theorem la_xkept (C : la_Cx X wm b L xs) {H H1 : Heap} (hPx : va_P (sm_D (sm_w X)) (sm_cl (sm_w X)) (sm_wd (sm_w X) σx) H) (hk : ∀ q : Nat, q < H.size → ¬ sm_A wm H.size q → H1[q]? = H[q]?) : va_P (sm_D (sm_w X)) (sm_cl (sm_w X)) (sm_wd (sm_w X) σx) H1 := by
  obtain ⟨-, -, ⟨_, -, -, -, n1⟩, ⟨_, -, -, -, n2⟩, hap, -⟩ := C
  refine hPx.kept (fun k q hq => hk q.1 (hPx k q hq).lt (fun h => ?_))
  obtain ⟨h1, h2⟩ := sm_wdi hq
  rcases h with ⟨j, h3, h4⟩ | h
  · exact hap k j (by omega) (by omega) (h2.symm.trans h4)
  · have := (hPx k q hq).lt
    omega
theorem la_mkept (C : la_Cx X wm b L xs) {H H1 : Heap} (hPm : va_P (sm_D wm) (sm_cl wm) (sm_wd wm σm) H) (hk : ∀ q : Nat, q < H.size → ¬ sm_A (sm_w X) H.size q → H1[q]? = H[q]?) : va_P (sm_D wm) (sm_cl wm) (sm_wd wm σm) H1 := by
  obtain ⟨-, -, ⟨_, -, -, -, n1⟩, ⟨_, -, -, -, n2⟩, hap, -⟩ := C
  refine hPm.kept (fun k q hq => hk q.1 (hPm k q hq).lt (fun h => ?_))
  obtain ⟨h1, h2⟩ := sm_wdi hq
  rcases h with ⟨j, h3, h4⟩ | h
  · exact hap j k (by omega) (by omega) (h4.symm.trans h2)
  · have := (hPm k q hq).lt
    omega
theorem la_iconst (C : la_Cx X wm b L xs) {n : Int} {v : Int32} (hd : decode code pc = .ok (.iconst n, 1)) (hv : Int32.ofInt n = v) (kk : la_V X wm Q σx σm (pc + 1) lv (.int v :: st)) : la_V X wm Q σx σm pc lv st := by
  intro H locs ls hPx hPm hS hL
  exact lv_iconst C.1.hx C.1.hb hd hv (kk H locs ls hPx hPm hS hL)
theorem la_bipush (C : la_Cx X wm b L xs) {n : Int} {v : Int32} (hd : decode code pc = .ok (.bipush n, 2)) (hv : (Int8.ofInt n).toInt32 = v) (kk : la_V X wm Q σx σm (pc + 2) lv (.int v :: st)) : la_V X wm Q σx σm pc lv st := by
  intro H locs ls hPx hPm hS hL
  exact lv_bipush C.1.hx C.1.hb hd hv (kk H locs ls hPx hPm hS hL)
theorem la_iload_n (C : la_Cx X wm b L xs) {n : Fin 4} {i : Nat} {x : Int32} (k : Nat) (hd : decode code pc = .ok (.iload_n n, 1)) (hi : (n : Nat) = i) (hk : lv[k]? = some (i, .int x)) (kk : la_V X wm Q σx σm (pc + 1) lv (.int x :: st)) : la_V X wm Q σx σm pc lv st := by
  intro H locs ls hPx hPm hS hL
  exact lv_iload_n C.1.hx C.1.hb hd hi (lv_at hL k hk) (kk H locs ls hPx hPm hS hL)
theorem la_aload_n (C : la_Cx X wm b L xs) {n : Fin 4} {i : Nat} {x : Nat} (k : Nat) (hd : decode code pc = .ok (.aload_n n, 1)) (hi : (n : Nat) = i) (hk : lv[k]? = some (i, .ref x)) (kk : la_V X wm Q σx σm (pc + 1) lv (.ref x :: st)) : la_V X wm Q σx σm pc lv st := by
  intro H locs ls hPx hPm hS hL
  exact lv_aload_n C.1.hx C.1.hb hd hi (lv_at hL k hk) (kk H locs ls hPx hPm hS hL)
theorem la_istore_n (C : la_Cx X wm b L xs) {n : Fin 4} {i : Nat} {x : Int32} {lv' : List (Nat × Value)} (hd : decode code pc = .ok (.istore_n n, 1)) (hi : (n : Nat) = i) (hn : i < 4) (hl : (i, Value.int x) :: lv.filter (fun q => !(q.1 == i) && !(q.1 + 1 == i && q.2.category == 2)) = lv') (kk : la_V X wm Q σx σm (pc + 1) lv' st) : la_V X wm Q σx σm pc lv (.int x :: st) := by
  intro H locs ls hPx hPm hS hL
  exact lv_istore_n C.1.hx C.1.hb hd hi hL hn hl fun ls hL => kk H locs ls hPx hPm hS hL
theorem la_iinc (C : la_Cx X wm b L xs) {i : Nat} {n : Int} {x v : Int32} {lv' : List (Nat × Value)} (k : Nat) (hd : decode code pc = .ok (.iinc i n, 3)) (hk : lv[k]? = some (i, .int x)) (hv : x + Int32.ofInt n = v) (hn : i < 4) (hl : (i, Value.int v) :: lv.filter (fun q => !(q.1 == i) && !(q.1 + 1 == i && q.2.category == 2)) = lv') (kk : la_V X wm Q σx σm (pc + 3) lv' st) : la_V X wm Q σx σm pc lv st := by
  intro H locs ls hPx hPm hS hL
  exact lv_iinc C.1.hx C.1.hb hd hL hk hv hn hl fun ls hL => kk H locs ls hPx hPm hS hL
theorem la_goto (C : la_Cx X wm b L xs) {off : Int} (tgt : Nat) (hd : decode code pc = .ok (.goto off, 3)) (ht : (pc : Int) + off = (tgt : Int)) (kk : la_V X wm Q σx σm tgt lv st) : la_V X wm Q σx σm pc lv st := by
  intro H locs ls hPx hPm hS hL
  exact lv_goto C.1.hx C.1.hb hd ht (kk H locs ls hPx hPm hS hL)
theorem la_iadd (C : la_Cx X wm b L xs) {x y : Int32} (hd : decode code pc = .ok (.iadd, 1)) (kk : la_V X wm Q σx σm (pc + 1) lv (.int (x + y) :: st)) : la_V X wm Q σx σm pc lv (.int y :: .int x :: st) := by
  intro H locs ls hPx hPm hS hL
  exact lv_iadd C.1.hx C.1.hb hd (kk H locs ls hPx hPm hS hL)
theorem la_isub (C : la_Cx X wm b L xs) {x y : Int32} (hd : decode code pc = .ok (.isub, 1)) (kk : la_V X wm Q σx σm (pc + 1) lv (.int (x - y) :: st)) : la_V X wm Q σx σm pc lv (.int y :: .int x :: st) := by
  intro H locs ls hPx hPm hS hL
  exact lv_isub C.1.hx C.1.hb hd (kk H locs ls hPx hPm hS hL)
theorem la_iand (C : la_Cx X wm b L xs) {x y : Int32} (hd : decode code pc = .ok (.iand, 1)) (kk : la_V X wm Q σx σm (pc + 1) lv (.int (x &&& y) :: st)) : la_V X wm Q σx σm pc lv (.int y :: .int x :: st) := by
  intro H locs ls hPx hPm hS hL
  exact lv_iand C.1.hx C.1.hb hd (kk H locs ls hPx hPm hS hL)
theorem la_slen (C : la_Cx X wm b L xs) (hd : decode code pc = .ok (.arraylength, 1)) (kk : la_V X wm Q σx σm (pc + 1) lv (.int (Int32.ofNat L) :: st)) : la_V X wm Q σx σm pc lv (.ref b :: st) := by
  intro H locs ls hPx hPm hS hL
  exact va_slen C.1.hx C.1.hb C.2.2.2.2.2.1 C.2.2.2.2.2.2.1 C.2.2.2.2.2.2.2.1 hS hd (kk H locs ls hPx hPm hS hL)
theorem la_sld (C : la_Cx X wm b L xs) {i : Int32} (hin : vp_in i L) (hd : decode code pc = .ok (.iaload, 1)) (kk : la_V X wm Q σx σm (pc + 1) lv (.int (xs i.toNatClampNeg) :: st)) : la_V X wm Q σx σm pc lv (.int i :: .ref b :: st) := by
  intro H locs ls hPx hPm hS hL
  exact va_sld C.1.hx C.1.hb C.2.2.2.2.2.1 C.2.2.2.2.2.2.1 C.2.2.2.2.2.2.2.1 hS hin hd (kk H locs ls hPx hPm hS hL)
theorem la_tin (C : la_Cx X wm b L xs) {dflt lo1 hi : Int} {offs : Array Int} {len : Nat} {x : Int32} (off : Int) (tgt : Nat) (hd : decode code pc = .ok (.tableswitch dflt lo1 hi offs, len)) (hx : ¬ x.toInt < lo1 ∧ ¬ hi < x.toInt ∧ offs[(x.toInt - lo1).toNat]? = some off) (ht : (pc : Int) + off = (tgt : Int)) (kk : la_V X wm Q σx σm tgt lv st) : la_V X wm Q σx σm pc lv (.int x :: st) := by
  intro H locs ls hPx hPm hS hL
  exact lv_tableIn C.1.hx C.1.hb hd hx.1 hx.2.1 hx.2.2 ht (kk H locs ls hPx hPm hS hL)
theorem la_tout (C : la_Cx X wm b L xs) {dflt lo1 hi : Int} {offs : Array Int} {len : Nat} {x : Int32} (tgt : Nat) (hd : decode code pc = .ok (.tableswitch dflt lo1 hi offs, len)) (hx : x.toInt < lo1 ∨ hi < x.toInt) (ht : (pc : Int) + dflt = (tgt : Int)) (kk : la_V X wm Q σx σm tgt lv st) : la_V X wm Q σx σm pc lv (.int x :: st) := by
  intro H locs ls hPx hPm hS hL
  exact lv_tableOut C.1.hx C.1.hb hd hx ht (kk H locs ls hPx hPm hS hL)
theorem la_eqI (C : la_Cx X wm b L xs) {off : Int} {x : Int32} (tgt : Nat) (hd : decode code pc = .ok (.if_icmp .eq off, 3)) (ht : (pc : Int) + off = (tgt : Int)) (kk : la_V X wm Q σx σm tgt lv st) : la_V X wm Q σx σm pc lv (.int x :: .int x :: st) := by
  intro H locs ls hPx hPm hS hL
  exact lv_icmp_eq C.1.hx C.1.hb hd ht (fun _ => kk H locs ls hPx hPm hS hL) (fun h => absurd rfl h)
theorem la_if0 (C : la_Cx X wm b L xs) {off : Int} {x : Int32} (tgt : Nat) (hx : x = 0) (hd : decode code pc = .ok (.ifCond .eq off, 3)) (ht : (pc : Int) + off = (tgt : Int)) (kk : la_V X wm Q σx σm tgt lv st) : la_V X wm Q σx σm pc lv (.int x :: st) := by
  intro H locs ls hPx hPm hS hL
  exact lv_if_eq C.1.hx C.1.hb hd ht (fun _ => kk H locs ls hPx hPm hS hL) (fun h => absurd hx h)
theorem la_lcmp (C : la_Cx X wm b L xs) {x y : Int64} (hd : decode code pc = .ok (.lcmp, 1)) (kk : la_V X wm Q σx σm (pc + 1) lv (.int (lg_cmp x y) :: st)) : la_V X wm Q σx σm pc lv (.long y :: .long x :: st) := by
  intro H locs ls hPx hPm hS hL
  exact W.lcmp C.1.hx C.1.hb hd (kk H locs ls hPx hPm hS hL)
theorem la_gt (C : la_Cx X wm b L xs) {off : Int} {x y : Int32} (tgt : Nat) (hd : decode code pc = .ok (.if_icmp .gt off, 3)) (ht : (pc : Int) + off = (tgt : Int)) (kt : y < x → la_V X wm Q σx σm tgt lv st) (kf : ¬ y < x → la_V X wm Q σx σm (pc + 3) lv st) : la_V X wm Q σx σm pc lv (.int y :: .int x :: st) := by
  intro H locs ls hPx hPm hS hL
  exact lv_icmp_gt C.1.hx C.1.hb hd ht (fun h => kt h H locs ls hPx hPm hS hL) (fun h => kf h H locs ls hPx hPm hS hL)
theorem lg_same (x : Int64) : lg_cmp x x = 0 := by
  unfold lg_cmp
  simp
/-- an argument out of the script -/
theorem la_arg (C : la_Cx X wm b L xs) {i j : Nat} {k : Int} (hk : Int32.ofInt k = nI j) (hj : i + j < L) (d0 : decode code pc = .ok (.aload_n 0, 1)) (d1 : decode code (pc + 1) = .ok (.iload_n 3, 1)) (d2 : decode code (pc + 1 + 1) = .ok (.iconst k, 1)) (d3 : decode code (pc + 1 + 1 + 1) = .ok (.iadd, 1)) (d4 : decode code (pc + 1 + 1 + 1 + 1) = .ok (.iaload, 1)) (kk : la_V X wm Q σx σm (pc + 1 + 1 + 1 + 1 + 1) (la_lv X wm b (nI i)) (.int (xs (i + j)) :: st)) : la_V X wm Q σx σm pc (la_lv X wm b (nI i)) st := by
  have hL : L ≤ 3072 := C.2.2.2.2.2.2.2.2
  have e : nI i + nI j = nI (i + j) := nI_add i j
  have c : (nI (i + j)).toNatClampNeg = i + j := nI_cl (by omega)
  refine la_aload_n C 3 d0 rfl rfl ?_
  refine la_iload_n C 0 d1 rfl rfl ?_
  refine la_iconst C d2 hk ?_
  refine la_iadd C d3 ?_
  rw [e]
  refine la_sld C (vp_in_nI hj (by omega)) d4 ?_
  rw [c]
  exact kk
theorem la_callXI (C : la_Cx X wm b L xs) {y : MethodName} {bytes : ByteArray} {maxL n index fr1 lo1 : Nat} {ret1 : Option FieldType} {stk : List Value} {F : sm_St → Option (Int32 × sm_St)} {r : Int32} {σ' : sm_St} (As : List Value) (hM : sm_CI (sm_w X) (sm_l X) y bytes maxL ret1 fr1 lo1 (.ref (sm_ad (sm_w X) 0) :: As) F) (hm : sm_Mt y bytes maxL ret1 n) (hl : Cond.methodLink "SmokeGoesToLaw" index y ∈ sm_G) (hin : Cond.instanceMethod y ∈ sm_G) (hse : Cond.selects y.cls y y ∈ sm_G) (hy : y.cls = "SmokeGoesTo") (hn : As.length = n) (hroom : fr1 + 1 ≤ 2048 ∧ 8 + (maxL + 11) + lo1 ≤ 84000) (hstk : stk = As.reverse ++ .ref (sm_ad (sm_w X) 0) :: st) (hW : (st.map fun v => v.category).sum ≤ 8) (hd : decode code pc = .ok (.invokevirtual index, 3)) (h : F σx = some (r, σ')) (kk : la_V X wm Q σ' σm (pc + 3) lv (.int r :: st)) : la_V X wm Q σx σm pc lv stk := by
  intro H locs ls hPx hPm hS hL
  subst hstk
  have CC := C.1
  have hob : sm_Ob (sm_w X) 0 y.cls := by rw [hy]; exact xob_S C.2.2.1 rfl
  have cw : CallW (sm_R X) (sm_s X) (sm_as X) "SmokeGoesToLaw" y.cls index y bytes maxL ret1 (sm_ws y bytes maxL ret1) (sm_rm fr1 lo1) 0 0 n :=
    ⟨callB_of n CC.hts (sm_goodws hm.1) rfl rfl rfl (CC.hts _ hm.2.1) (CC.hts _ hl) hm.2.2 ⟨Nat.le_trans hroom.1 CC.hR.1, Nat.le_trans hroom.2 CC.hR.2⟩, CC.hts _ hin, CC.hts _ hse⟩
  refine va_calli (va_runV (As := As) (rest := st) ⟨CC.hx, CC.hb, CC.hml, CC.hown, CC.hts⟩ (hM σx (r, σ') h H.size) cw ⟨sm_blind, sm_obr hob CC.hK hPx, fun U hU hW => sm_pre CC hPx hS U hU hW⟩ rfl hn hL.1 rfl (lv_room (pc := pc) (ls := ls) hW) hd CC.hcs) hS (fun q _ h => sm_free CC hS q h) (sm_free CC hS) (fun r1 u t H1 locs1 ht hvm hp hB hz1 hk1 hS1 => ?_)
  rw [ht] at hB
  subst hp
  exact kk H1 locs1 ls hB (la_mkept C hPm hk1) hS1 hL
theorem la_callXL (C : la_Cx X wm b L xs) {y : MethodName} {bytes : ByteArray} {maxL n index fr1 lo1 : Nat} {ret1 : Option FieldType} {stk : List Value} {F : sm_St → Option (Int64 × sm_St)} {r : Int64} {σ' : sm_St} (As : List Value) (hM : sm_CL (sm_w X) (sm_l X) y bytes maxL ret1 fr1 lo1 (.ref (sm_ad (sm_w X) 0) :: As) F) (hm : sm_Mt y bytes maxL ret1 n) (hl : Cond.methodLink "SmokeGoesToLaw" index y ∈ sm_G) (hin : Cond.instanceMethod y ∈ sm_G) (hse : Cond.selects y.cls y y ∈ sm_G) (hy : y.cls = "SmokeGoesTo") (hn : As.length = n) (hroom : fr1 + 1 ≤ 2048 ∧ 8 + (maxL + 11) + lo1 ≤ 84000) (hstk : stk = As.reverse ++ .ref (sm_ad (sm_w X) 0) :: st) (hW : (st.map fun v => v.category).sum ≤ 8) (hd : decode code pc = .ok (.invokevirtual index, 3)) (h : F σx = some (r, σ')) (kk : la_V X wm Q σ' σm (pc + 3) lv (.long r :: st)) : la_V X wm Q σx σm pc lv stk := by
  intro H locs ls hPx hPm hS hL
  subst hstk
  have CC := C.1
  have hob : sm_Ob (sm_w X) 0 y.cls := by rw [hy]; exact xob_S C.2.2.1 rfl
  have cw : CallW (sm_R X) (sm_s X) (sm_as X) "SmokeGoesToLaw" y.cls index y bytes maxL ret1 (sm_ws y bytes maxL ret1) (sm_rm fr1 lo1) 0 0 n :=
    ⟨callB_of n CC.hts (sm_goodws hm.1) rfl rfl rfl (CC.hts _ hm.2.1) (CC.hts _ hl) hm.2.2 ⟨Nat.le_trans hroom.1 CC.hR.1, Nat.le_trans hroom.2 CC.hR.2⟩, CC.hts _ hin, CC.hts _ hse⟩
  refine va_calll (va_runV (As := As) (rest := st) ⟨CC.hx, CC.hb, CC.hml, CC.hown, CC.hts⟩ (hM σx (r, σ') h H.size) cw ⟨sm_blind, sm_obr hob CC.hK hPx, fun U hU hW => sm_pre CC hPx hS U hU hW⟩ rfl hn hL.1 rfl (lv_room (pc := pc) (ls := ls) hW) hd CC.hcs) hS (fun q _ h => sm_free CC hS q h) (sm_free CC hS) (fun r1 u t H1 locs1 ht hvm hp hB hz1 hk1 hS1 => ?_)
  rw [ht] at hB
  subst hp
  exact kk H1 locs1 ls hB (la_mkept C hPm hk1) hS1 hL
theorem la_callMI (C : la_Cx X wm b L xs) {y : MethodName} {bytes : ByteArray} {maxL n index fr1 lo1 : Nat} {ret1 : Option FieldType} {stk : List Value} {F : sm_St → Option (Int32 × sm_St)} {r : Int32} {σ' : sm_St} (As : List Value) (hM : sm_CI (wm) (sm_l X) y bytes maxL ret1 fr1 lo1 (.ref (sm_ad (wm) 0) :: As) F) (hm : sm_Mt y bytes maxL ret1 n) (hl : Cond.methodLink "SmokeGoesToLaw" index y ∈ sm_G) (hin : Cond.instanceMethod y ∈ sm_G) (hse : Cond.selects y.cls y y ∈ sm_G) (hy : y.cls = "SmokeGoesToModel") (hn : As.length = n) (hroom : fr1 + 1 ≤ 2048 ∧ 8 + (maxL + 11) + lo1 ≤ 84000) (hstk : stk = As.reverse ++ .ref (sm_ad (wm) 0) :: st) (hW : (st.map fun v => v.category).sum ≤ 8) (hd : decode code pc = .ok (.invokevirtual index, 3)) (h : F σm = some (r, σ')) (kk : la_V X wm Q σx σ' (pc + 3) lv (.int r :: st)) : la_V X wm Q σx σm pc lv stk := by
  intro H locs ls hPx hPm hS hL
  subst hstk
  have CC := C.2.1
  have hob : sm_Ob (sm_w (la_sw X wm)) 0 y.cls := by rw [hy]; exact mob_M C.2.2.2.1 rfl
  have cw : CallW (sm_R X) (sm_s X) (sm_as X) "SmokeGoesToLaw" y.cls index y bytes maxL ret1 (sm_ws y bytes maxL ret1) (sm_rm fr1 lo1) 0 0 n :=
    ⟨callB_of n CC.hts (sm_goodws hm.1) rfl rfl rfl (CC.hts _ hm.2.1) (CC.hts _ hl) hm.2.2 ⟨Nat.le_trans hroom.1 CC.hR.1, Nat.le_trans hroom.2 CC.hR.2⟩, CC.hts _ hin, CC.hts _ hse⟩
  refine va_calli (va_runV (As := As) (rest := st) ⟨CC.hx, CC.hb, CC.hml, CC.hown, CC.hts⟩ (hM σm (r, σ') h H.size) cw ⟨sm_blind, sm_obr hob CC.hK hPm, fun U hU hW => sm_pre CC hPm hS U hU hW⟩ rfl hn hL.1 rfl (lv_room (pc := pc) (ls := ls) hW) hd CC.hcs) hS (fun q _ h => sm_free CC hS q h) (sm_free CC hS) (fun r1 u t H1 locs1 ht hvm hp hB hz1 hk1 hS1 => ?_)
  rw [ht] at hB
  subst hp
  exact kk H1 locs1 ls (la_xkept C hPx hk1) hB hS1 hL
theorem la_callML (C : la_Cx X wm b L xs) {y : MethodName} {bytes : ByteArray} {maxL n index fr1 lo1 : Nat} {ret1 : Option FieldType} {stk : List Value} {F : sm_St → Option (Int64 × sm_St)} {r : Int64} {σ' : sm_St} (As : List Value) (hM : sm_CL (wm) (sm_l X) y bytes maxL ret1 fr1 lo1 (.ref (sm_ad (wm) 0) :: As) F) (hm : sm_Mt y bytes maxL ret1 n) (hl : Cond.methodLink "SmokeGoesToLaw" index y ∈ sm_G) (hin : Cond.instanceMethod y ∈ sm_G) (hse : Cond.selects y.cls y y ∈ sm_G) (hy : y.cls = "SmokeGoesToModel") (hn : As.length = n) (hroom : fr1 + 1 ≤ 2048 ∧ 8 + (maxL + 11) + lo1 ≤ 84000) (hstk : stk = As.reverse ++ .ref (sm_ad (wm) 0) :: st) (hW : (st.map fun v => v.category).sum ≤ 8) (hd : decode code pc = .ok (.invokevirtual index, 3)) (h : F σm = some (r, σ')) (kk : la_V X wm Q σx σ' (pc + 3) lv (.long r :: st)) : la_V X wm Q σx σm pc lv stk := by
  intro H locs ls hPx hPm hS hL
  subst hstk
  have CC := C.2.1
  have hob : sm_Ob (sm_w (la_sw X wm)) 0 y.cls := by rw [hy]; exact mob_M C.2.2.2.1 rfl
  have cw : CallW (sm_R X) (sm_s X) (sm_as X) "SmokeGoesToLaw" y.cls index y bytes maxL ret1 (sm_ws y bytes maxL ret1) (sm_rm fr1 lo1) 0 0 n :=
    ⟨callB_of n CC.hts (sm_goodws hm.1) rfl rfl rfl (CC.hts _ hm.2.1) (CC.hts _ hl) hm.2.2 ⟨Nat.le_trans hroom.1 CC.hR.1, Nat.le_trans hroom.2 CC.hR.2⟩, CC.hts _ hin, CC.hts _ hse⟩
  refine va_calll (va_runV (As := As) (rest := st) ⟨CC.hx, CC.hb, CC.hml, CC.hown, CC.hts⟩ (hM σm (r, σ') h H.size) cw ⟨sm_blind, sm_obr hob CC.hK hPm, fun U hU hW => sm_pre CC hPm hS U hU hW⟩ rfl hn hL.1 rfl (lv_room (pc := pc) (ls := ls) hW) hd CC.hcs) hS (fun q _ h => sm_free CC hS q h) (sm_free CC hS) (fun r1 u t H1 locs1 ht hvm hp hB hz1 hk1 hS1 => ?_)
  rw [ht] at hB
  subst hp
  exact kk H1 locs1 ls (la_xkept C hPx hk1) hB hS1 hL
end
