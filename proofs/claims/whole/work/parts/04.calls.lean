/-! CONTRACTS, CALLS, ENDS -/
def sm_QI (X : sm_VC) (R : Int32 × sm_St) : State → Prop := MQ (sm_be X) (va_Qi (fun r (_ : Unit) => r = R.1) (fun _ t => va_P (sm_D (sm_w X)) (sm_cl (sm_w X)) (sm_wd (sm_w X) R.2) t.heap) (sm_fA X)) (sm_as X) (sm_s X) (sm_cs X) (sm_sl X) (sm_fA X)
def sm_QL (X : sm_VC) (R : Int64 × sm_St) : State → Prop := MQ (sm_be X) (va_Ql (fun r (_ : Unit) => r = R.1) (fun _ t => va_P (sm_D (sm_w X)) (sm_cl (sm_w X)) (sm_wd (sm_w X) R.2) t.heap) (sm_fA X)) (sm_as X) (sm_s X) (sm_cs X) (sm_sl X) (sm_fA X)
def sm_QV (X : sm_VC) (R : Unit × sm_St) : State → Prop := MQ (sm_be X) (va_Qv (fun (_ : Unit) => True) (fun _ t => va_P (sm_D (sm_w X)) (sm_cl (sm_w X)) (sm_wd (sm_w X) R.2) t.heap) (sm_fA X)) (sm_as X) (sm_s X) (sm_cs X) (sm_sl X) (sm_fA X)
def sm_rm (fr lo : Nat) : Room := { frames := fr, cells := 0, slots := 0, locals := lo }
def sm_ws (y : MethodName) (bytes : ByteArray) (maxL : Nat) (ret : Option FieldType) : List Cond := .code y bytes maxL ret :: sm_G
def sm_CI (w : sm_WD) (l : Launch) (y : MethodName) (bytes : ByteArray) (maxL : Nat) (ret : Option FieldType) (fr lo : Nat) (av : List Value) (F : sm_St → Option (Int32 × sm_St)) : Prop :=
  ∀ (σ : sm_St) (R : Int32 × sm_St), F σ = some R → ∀ sz : Nat, Met l y (sm_ws y bytes maxL ret) (sm_rm fr lo) (va_Pc av (fun U => U.heap.size = sz ∧ sm_Pre w σ U)) (va_Qi (fun r (_ : Unit) => r = R.1) (fun _ t => va_P (sm_D w) (sm_cl w) (sm_wd w R.2) t.heap) (sm_A w sz)) 0 0 (sm_A w sz)
def sm_CL (w : sm_WD) (l : Launch) (y : MethodName) (bytes : ByteArray) (maxL : Nat) (ret : Option FieldType) (fr lo : Nat) (av : List Value) (F : sm_St → Option (Int64 × sm_St)) : Prop :=
  ∀ (σ : sm_St) (R : Int64 × sm_St), F σ = some R → ∀ sz : Nat, Met l y (sm_ws y bytes maxL ret) (sm_rm fr lo) (va_Pc av (fun U => U.heap.size = sz ∧ sm_Pre w σ U)) (va_Ql (fun r (_ : Unit) => r = R.1) (fun _ t => va_P (sm_D w) (sm_cl w) (sm_wd w R.2) t.heap) (sm_A w sz)) 0 0 (sm_A w sz)
def sm_CV (w : sm_WD) (l : Launch) (y : MethodName) (bytes : ByteArray) (maxL : Nat) (ret : Option FieldType) (fr lo : Nat) (av : List Value) (F : sm_St → Option (Unit × sm_St)) : Prop :=
  ∀ (σ : sm_St) (R : Unit × sm_St), F σ = some R → ∀ sz : Nat, Met l y (sm_ws y bytes maxL ret) (sm_rm fr lo) (va_Pc av (fun U => U.heap.size = sz ∧ sm_Pre w σ U)) (va_Qv (fun (_ : Unit) => True) (fun _ t => va_P (sm_D w) (sm_cl w) (sm_wd w R.2) t.heap) (sm_A w sz)) 0 0 (sm_A w sz)
theorem sm_CI.of {w : sm_WD} {l : Launch} {y : MethodName} {bytes : ByteArray} {maxL : Nat} {ret : Option FieldType} {fr lo : Nat} {av : List Value} {F : sm_St → Option (Int32 × sm_St)} (hy : plainName y.cls = true) (hlen : (lg_sl av).length ≤ maxL)
    (body : ∀ (X : sm_VC) (σ : sm_St) (R : Int32 × sm_St), sm_w X = w → sm_l X = l → sm_Cx X bytes maxL y.cls fr lo ret → F σ = some R → sm_V X (sm_QI X R) maxL σ 0 (lv_args 0 av) []) : sm_CI w l y bytes maxL ret fr lo av F := by
  intro σ R hF sz
  refine Met.ofW (cc := bytes) (maxL := maxL) (ret := ret) hy rfl ?_
  intro p e s m args below meth c s₁ B hml hv
  obtain ⟨rfl, hsz, hP, hK, hI, hT⟩ := hv
  subst hsz
  have hts := atoms_spec (ws := sm_ws y bytes maxL ret) B.pre
  have hown : s.vm.findClass y.cls = some m.cls := findClass_of_methodNamed B.named
  have K := body (p, l, e, sm_rm fr lo, s, m, av.toArray, below, meth, c, w, sm_A w s.heap.size, 0, 0) σ R rfl rfl
    ⟨B.exec, B.bytes, hml, hown, fun w hw => hts w (List.mem_cons_of_mem _ hw), hK, hI, fun q h => h, fun q h => by
      rcases h with ⟨k, h1, h2⟩ | h
      · rw [h2]; exact hI.2.1 k h1
      · exact Nat.le_trans hI.2.2 h, B.notSynchronized, B.returns, ⟨⟨Nat.le_refl _, Nat.le_refl _⟩, Nat.zero_le _, Nat.zero_le _⟩, hT⟩ hF
  rw [lg_entry_eq]
  exact K s.heap [] _ hP va_S.rf (lv_entry av hlen)
theorem sm_CL.of {w : sm_WD} {l : Launch} {y : MethodName} {bytes : ByteArray} {maxL : Nat} {ret : Option FieldType} {fr lo : Nat} {av : List Value} {F : sm_St → Option (Int64 × sm_St)} (hy : plainName y.cls = true) (hlen : (lg_sl av).length ≤ maxL)
    (body : ∀ (X : sm_VC) (σ : sm_St) (R : Int64 × sm_St), sm_w X = w → sm_l X = l → sm_Cx X bytes maxL y.cls fr lo ret → F σ = some R → sm_V X (sm_QL X R) maxL σ 0 (lv_args 0 av) []) : sm_CL w l y bytes maxL ret fr lo av F := by
  intro σ R hF sz
  refine Met.ofW (cc := bytes) (maxL := maxL) (ret := ret) hy rfl ?_
  intro p e s m args below meth c s₁ B hml hv
  obtain ⟨rfl, hsz, hP, hK, hI, hT⟩ := hv
  subst hsz
  have hts := atoms_spec (ws := sm_ws y bytes maxL ret) B.pre
  have hown : s.vm.findClass y.cls = some m.cls := findClass_of_methodNamed B.named
  have K := body (p, l, e, sm_rm fr lo, s, m, av.toArray, below, meth, c, w, sm_A w s.heap.size, 0, 0) σ R rfl rfl
    ⟨B.exec, B.bytes, hml, hown, fun w hw => hts w (List.mem_cons_of_mem _ hw), hK, hI, fun q h => h, fun q h => by
      rcases h with ⟨k, h1, h2⟩ | h
      · rw [h2]; exact hI.2.1 k h1
      · exact Nat.le_trans hI.2.2 h, B.notSynchronized, B.returns, ⟨⟨Nat.le_refl _, Nat.le_refl _⟩, Nat.zero_le _, Nat.zero_le _⟩, hT⟩ hF
  rw [lg_entry_eq]
  exact K s.heap [] _ hP va_S.rf (lv_entry av hlen)
theorem sm_CV.of {w : sm_WD} {l : Launch} {y : MethodName} {bytes : ByteArray} {maxL : Nat} {ret : Option FieldType} {fr lo : Nat} {av : List Value} {F : sm_St → Option (Unit × sm_St)} (hy : plainName y.cls = true) (hlen : (lg_sl av).length ≤ maxL)
    (body : ∀ (X : sm_VC) (σ : sm_St) (R : Unit × sm_St), sm_w X = w → sm_l X = l → sm_Cx X bytes maxL y.cls fr lo ret → F σ = some R → sm_V X (sm_QV X R) maxL σ 0 (lv_args 0 av) []) : sm_CV w l y bytes maxL ret fr lo av F := by
  intro σ R hF sz
  refine Met.ofW (cc := bytes) (maxL := maxL) (ret := ret) hy rfl ?_
  intro p e s m args below meth c s₁ B hml hv
  obtain ⟨rfl, hsz, hP, hK, hI, hT⟩ := hv
  subst hsz
  have hts := atoms_spec (ws := sm_ws y bytes maxL ret) B.pre
  have hown : s.vm.findClass y.cls = some m.cls := findClass_of_methodNamed B.named
  have K := body (p, l, e, sm_rm fr lo, s, m, av.toArray, below, meth, c, w, sm_A w s.heap.size, 0, 0) σ R rfl rfl
    ⟨B.exec, B.bytes, hml, hown, fun w hw => hts w (List.mem_cons_of_mem _ hw), hK, hI, fun q h => h, fun q h => by
      rcases h with ⟨k, h1, h2⟩ | h
      · rw [h2]; exact hI.2.1 k h1
      · exact Nat.le_trans hI.2.2 h, B.notSynchronized, B.returns, ⟨⟨Nat.le_refl _, Nat.le_refl _⟩, Nat.zero_le _, Nat.zero_le _⟩, hT⟩ hF
  rw [lg_entry_eq]
  exact K s.heap [] _ hP va_S.rf (lv_entry av hlen)
theorem sm_blind {w : sm_WD} {σ : sm_St} {av : List Value} {sz : Nat} : FrameBlind (va_Pc av (fun U => U.heap.size = sz ∧ sm_Pre w σ U)) := by
  intro a U g mk q
  obtain ⟨q0, q1, qP, qK, qI, qT⟩ := q
  exact ⟨q0, q1, qP, va_K.moved (u := U) (U := U.calling g mk a) (Vm.Alike.refl U.vm) qK, qI, sm_Str.same (s := U) (U := U.calling g mk a) rfl qT⟩
section
variable {X : sm_VC} {cc : ByteArray} {nL : Nat} {own : String} {fr lo : Nat} {ret : Option FieldType}
theorem sm_pre (C : sm_Cx X cc nL own fr lo ret) {σ : sm_St} {H : Heap} {locs : List Loc} {av : List Value} (hP : va_P (sm_D (sm_w X)) (sm_cl (sm_w X)) (sm_wd (sm_w X) σ) H) (hS : va_S (sm_fA X) (sm_s X).heap H locs) (U : State) (hU : U.heap = H) (hW : (sm_s X).WarmedH U.vm) : va_Pc av (fun U => U.heap.size = H.size ∧ sm_Pre (sm_w X) σ U) av.toArray U := by
  refine ⟨rfl, by rw [hU], by rw [hU]; exact hP, C.hK.moved hW.alike, ⟨C.hI.1, C.hI.2.1, by rw [hU]; exact Nat.le_trans C.hI.2.2 hS.1⟩, ?_⟩
  rw [hU]
  exact (C.hT.warm hW).kept (fun a ha hn => hS.2.1 a ha (fun h => hn (C.hz a h)))
theorem sm_free (C : sm_Cx X cc nL own fr lo ret) {H : Heap} {locs : List Loc} (hS : va_S (sm_fA X) (sm_s X).heap H locs) : ∀ q, sm_A (sm_w X) H.size q → sm_fA X q := by
  intro q h
  rcases h with ⟨k, h1, h2⟩ | h
  · rw [h2]; exact C.hAk k h1
  · exact C.hAz q (Nat.le_trans hS.1 h)
/-- what a call of a method needs of the tables -/
def sm_Mt (y : MethodName) (bytes : ByteArray) (maxL : Nat) (ret : Option FieldType) (n : Nat) : Prop := Cond.code y bytes maxL ret ∈ sm_G ∧ Cond.initialized y.cls ∈ sm_G ∧ (y.cls ≠ "java/lang/invoke/MethodHandle" ∧ y.cls ≠ "java/lang/invoke/VarHandle" ∧ (parseMethodDescriptor y.desc).map (fun d => d.parameters.length) = some n)
theorem sm_goodws {y : MethodName} {bytes : ByteArray} {maxL : Nat} {ret : Option FieldType} (h : Cond.code y bytes maxL ret ∈ sm_G) : GoodIn sm_G (sm_ws y bytes maxL ret) := fun w hw => by
  rcases List.mem_cons.mp hw with rfl | hw
  · exact sm_good _ h
  · exact sm_good _ hw
/-- the receiver: an object of class C0 at cell k -/
def sm_Ob (w : sm_WD) (k : Nat) (C0 : String) : Prop := k < sm_N w ∧ ∀ a b c, ∃ ci fs q, sm_sh w k a b c = .inr (ci, fs) ∧ (sm_cl w)[ci]? = some q ∧ q.1 = C0
theorem sm_obr {w : sm_WD} {k : Nat} {C0 : String} (h : sm_Ob w k C0) {s : State} {H : Heap} {σ : sm_St} {tys : List (ClassId × FieldType)} (hK : va_K (sm_D w) (sm_cl w) tys s) (hP : va_P (sm_D w) (sm_cl w) (sm_wd w σ) H) : ∃ cell : Cell, H[sm_ad w k]? = some cell ∧ cell.vm.isStatics = false ∧ s.vm.findClass C0 = some cell.cls := by
  obtain ⟨hk, h⟩ := h
  obtain ⟨ci, fs, q, h1, h2, rfl⟩ := h (σ.1 k) (σ.2.1 k) (σ.2.2 k)
  have ha := sm_at (w := w) (σ := σ) hk
  rw [h1] at ha
  exact va_recv hK hP h2 ha
end
section
variable {X : sm_VC} {cc : ByteArray} {nL : Nat} {own : String} {fr lo : Nat} {ret : Option FieldType} {Q : State → Prop} {σ : sm_St} {pc : Nat} {lv : List (Nat × Value)} {st : List Value} {β : Type} {z : β}
theorem sm_callVI (C : sm_Cx X cc nL own fr lo ret) {y : MethodName} {bytes : ByteArray} {maxL n index fr1 lo1 : Nat} {ret1 : Option FieldType} {stk : List Value} {k : Nat} {F : sm_St → Option (Int32 × sm_St)} {f : Int32 → sm_St → Option β} (As : List Value) (hM : sm_CI (sm_w X) (sm_l X) y bytes maxL ret1 fr1 lo1 (.ref (sm_ad (sm_w X) k) :: As) F) (hm : sm_Mt y bytes maxL ret1 n) (hl : Cond.methodLink own index y ∈ sm_G) (hin : Cond.instanceMethod y ∈ sm_G) (hse : Cond.selects y.cls y y ∈ sm_G) (hob : sm_Ob (sm_w X) k y.cls) (hn : As.length = n) (hroom : fr1 + 1 ≤ fr ∧ 8 + (maxL + 11) + lo1 ≤ lo) (hstk : stk = As.reverse ++ .ref (sm_ad (sm_w X) k) :: st) (hW : (st.map fun v => v.category).sum ≤ 8) (hd : decode cc pc = .ok (.invokevirtual index, 3)) (h : sm_c (F σ) f = some z) (kk : ∀ r s, f r s = some z → sm_V X Q nL s (pc + 3) lv (.int r :: st)) : sm_V X Q nL σ pc lv stk := by
  intro H locs ls hP hS hL
  subst hstk
  obtain ⟨a, s1, h1, h2⟩ := sm_cE h
  have cw : CallW (sm_R X) (sm_s X) (sm_as X) own y.cls index y bytes maxL ret1 (sm_ws y bytes maxL ret1) (sm_rm fr1 lo1) 0 0 n :=
    ⟨callB_of n C.hts (sm_goodws hm.1) rfl rfl rfl (C.hts _ hm.2.1) (C.hts _ hl) hm.2.2 ⟨Nat.le_trans hroom.1 C.hR.1, Nat.le_trans hroom.2 C.hR.2⟩, C.hts _ hin, C.hts _ hse⟩
  refine va_calli (va_runV (As := As) (rest := st) ⟨C.hx, C.hb, C.hml, C.hown, C.hts⟩ (hM σ (a, s1) h1 H.size) cw ⟨sm_blind, sm_obr hob C.hK hP, fun U hU hW => sm_pre C hP hS U hU hW⟩ rfl hn hL.1 rfl (lv_room (pc := pc) (ls := ls) hW) hd C.hcs) hS (fun q _ h => sm_free C hS q h) (sm_free C hS) (fun r u t H1 locs1 ht hvm hp hB hz1 hk1 hS1 => ?_)
  rw [ht] at hB
  subst hp
  exact kk _ _ h2 H1 locs1 ls hB hS1 hL
theorem sm_callNI (C : sm_Cx X cc nL own fr lo ret) {y : MethodName} {bytes : ByteArray} {maxL n index fr1 lo1 : Nat} {ret1 : Option FieldType} {stk : List Value} {F : sm_St → Option (Int32 × sm_St)} {f : Int32 → sm_St → Option β} (As : List Value) (hM : sm_CI (sm_w X) (sm_l X) y bytes maxL ret1 fr1 lo1 As F) (hm : sm_Mt y bytes maxL ret1 n) (hl : (own, index, y) ∈ sm_nl) (hin : Cond.static y ∈ sm_G) (hn : As.length = n) (hroom : fr1 + 1 ≤ fr ∧ 8 + (maxL + 11) + lo1 ≤ lo) (hstk : stk = As.reverse ++ st) (hW : (st.map fun v => v.category).sum ≤ 8) (hd : decode cc pc = .ok (.invokestatic index, 3)) (h : sm_c (F σ) f = some z) (kk : ∀ r s, f r s = some z → sm_V X Q nL s (pc + 3) lv (.int r :: st)) : sm_V X Q nL σ pc lv stk := by
  intro H locs ls hP hS hL
  subst hstk
  obtain ⟨a, s1, h1, h2⟩ := sm_cE h
  have cw : va_CN (sm_R X) (sm_s X) (sm_as X) own index y "SmokeGoesTo" bytes maxL ret1 (sm_ws y bytes maxL ret1) (sm_rm fr1 lo1) 0 0 n :=
    va_cnB n C.hts (sm_goodws hm.1) rfl rfl rfl (C.hT.2.2.2.2.1 (own, index, y) hl) (C.hts _ hm.2.1) hm.2.2 ⟨Nat.le_trans hroom.1 C.hR.1, Nat.le_trans hroom.2 C.hR.2⟩
  refine va_calli (va_runSN (As := As) (rest := st) ⟨C.hx, C.hb, C.hml, C.hown, C.hts⟩ (hM σ (a, s1) h1 H.size) ⟨cw, C.hts _ hin, trivial⟩ ⟨sm_blind, fun U hU hW => sm_pre C hP hS U hU hW⟩ rfl hn hL.1 rfl (lv_room (pc := pc) (ls := ls) hW) hd C.hcs) hS (fun q _ h => sm_free C hS q h) (sm_free C hS) (fun r u t H1 locs1 ht hvm hp hB hz1 hk1 hS1 => ?_)
  rw [ht] at hB
  subst hp
  exact kk _ _ h2 H1 locs1 ls hB hS1 hL
theorem sm_callSI (C : sm_Cx X cc nL own fr lo ret) {y : MethodName} {bytes : ByteArray} {maxL n index fr1 lo1 : Nat} {ret1 : Option FieldType} {stk : List Value} {F : sm_St → Option (Int32 × sm_St)} {f : Int32 → sm_St → Option β} (As : List Value) (hM : sm_CI (sm_w X) (sm_l X) y bytes maxL ret1 fr1 lo1 As F) (hm : sm_Mt y bytes maxL ret1 n) (hl : Cond.methodLink own index y ∈ sm_G) (hin : Cond.static y ∈ sm_G) (hn : As.length = n) (hroom : fr1 + 1 ≤ fr ∧ 8 + (maxL + 11) + lo1 ≤ lo) (hstk : stk = As.reverse ++ st) (hW : (st.map fun v => v.category).sum ≤ 8) (hd : decode cc pc = .ok (.invokestatic index, 3)) (h : sm_c (F σ) f = some z) (kk : ∀ r s, f r s = some z → sm_V X Q nL s (pc + 3) lv (.int r :: st)) : sm_V X Q nL σ pc lv stk := by
  intro H locs ls hP hS hL
  subst hstk
  obtain ⟨a, s1, h1, h2⟩ := sm_cE h
  have cw : CallB (sm_R X) (sm_s X) (sm_as X) own index y bytes maxL ret1 (sm_ws y bytes maxL ret1) (sm_rm fr1 lo1) 0 0 n :=
    callB_of n C.hts (sm_goodws hm.1) rfl rfl rfl (C.hts _ hm.2.1) (C.hts _ hl) hm.2.2 ⟨Nat.le_trans hroom.1 C.hR.1, Nat.le_trans hroom.2 C.hR.2⟩
  refine va_calli (va_runS (As := As) (rest := st) ⟨C.hx, C.hb, C.hml, C.hown, C.hts⟩ (hM σ (a, s1) h1 H.size) ⟨cw, C.hts _ hin⟩ ⟨sm_blind, fun U hU hW => sm_pre C hP hS U hU hW⟩ rfl hn hL.1 rfl (lv_room (pc := pc) (ls := ls) hW) hd C.hcs) hS (fun q _ h => sm_free C hS q h) (sm_free C hS) (fun r u t H1 locs1 ht hvm hp hB hz1 hk1 hS1 => ?_)
  rw [ht] at hB
  subst hp
  exact kk _ _ h2 H1 locs1 ls hB hS1 hL
theorem sm_callTI (C : sm_Cx X cc nL own fr lo ret) {y : MethodName} {bytes : ByteArray} {maxL n index fr1 lo1 : Nat} {ret1 : Option FieldType} {stk : List Value} {i : Nat} {F : sm_St → Option (Int32 × sm_St)} {f : Int32 → sm_St → Option β} (As : List Value) (hi : i < 3) (hM : sm_CI (sm_w X) (sm_l X) y bytes maxL ret1 fr1 lo1 (.ref (sm_aK (sm_w X) i) :: As) F) (hm : sm_Mt y bytes maxL ret1 n) (hl : Cond.methodLink own index y ∈ sm_G) (hin : Cond.instanceMethod y ∈ sm_G) (hse : Cond.selects y.cls y y ∈ sm_G) (hob : y.cls = "java/lang/String") (hn : As.length = n) (hroom : fr1 + 1 ≤ fr ∧ 8 + (maxL + 11) + lo1 ≤ lo) (hstk : stk = As.reverse ++ .ref (sm_aK (sm_w X) i) :: st) (hW : (st.map fun v => v.category).sum ≤ 8) (hd : decode cc pc = .ok (.invokevirtual index, 3)) (h : sm_c (F σ) f = some z) (kk : ∀ r s, f r s = some z → sm_V X Q nL s (pc + 3) lv (.int r :: st)) : sm_V X Q nL σ pc lv stk := by
  intro H locs ls hP hS hL
  subst hstk
  obtain ⟨a, s1, h1, h2⟩ := sm_cE h
  have cw : CallW (sm_R X) (sm_s X) (sm_as X) own y.cls index y bytes maxL ret1 (sm_ws y bytes maxL ret1) (sm_rm fr1 lo1) 0 0 n :=
    ⟨callB_of n C.hts (sm_goodws hm.1) rfl rfl rfl (C.hts _ hm.2.1) (C.hts _ hl) hm.2.2 ⟨Nat.le_trans hroom.1 C.hR.1, Nat.le_trans hroom.2 C.hR.2⟩, C.hts _ hin, C.hts _ hse⟩
  refine va_calli (va_runV (As := As) (rest := st) ⟨C.hx, C.hb, C.hml, C.hown, C.hts⟩ (hM σ (a, s1) h1 H.size) cw ⟨sm_blind, by rw [hob]; exact vk_recv C.hTA hi hS, fun U hU hW => sm_pre C hP hS U hU hW⟩ rfl hn hL.1 rfl (lv_room (pc := pc) (ls := ls) hW) hd C.hcs) hS (fun q _ h => sm_free C hS q h) (sm_free C hS) (fun r u t H1 locs1 ht hvm hp hB hz1 hk1 hS1 => ?_)
  rw [ht] at hB
  subst hp
  exact kk _ _ h2 H1 locs1 ls hB hS1 hL
theorem sm_callVL (C : sm_Cx X cc nL own fr lo ret) {y : MethodName} {bytes : ByteArray} {maxL n index fr1 lo1 : Nat} {ret1 : Option FieldType} {stk : List Value} {k : Nat} {F : sm_St → Option (Int64 × sm_St)} {f : Int64 → sm_St → Option β} (As : List Value) (hM : sm_CL (sm_w X) (sm_l X) y bytes maxL ret1 fr1 lo1 (.ref (sm_ad (sm_w X) k) :: As) F) (hm : sm_Mt y bytes maxL ret1 n) (hl : Cond.methodLink own index y ∈ sm_G) (hin : Cond.instanceMethod y ∈ sm_G) (hse : Cond.selects y.cls y y ∈ sm_G) (hob : sm_Ob (sm_w X) k y.cls) (hn : As.length = n) (hroom : fr1 + 1 ≤ fr ∧ 8 + (maxL + 11) + lo1 ≤ lo) (hstk : stk = As.reverse ++ .ref (sm_ad (sm_w X) k) :: st) (hW : (st.map fun v => v.category).sum ≤ 8) (hd : decode cc pc = .ok (.invokevirtual index, 3)) (h : sm_c (F σ) f = some z) (kk : ∀ r s, f r s = some z → sm_V X Q nL s (pc + 3) lv (.long r :: st)) : sm_V X Q nL σ pc lv stk := by
  intro H locs ls hP hS hL
  subst hstk
  obtain ⟨a, s1, h1, h2⟩ := sm_cE h
  have cw : CallW (sm_R X) (sm_s X) (sm_as X) own y.cls index y bytes maxL ret1 (sm_ws y bytes maxL ret1) (sm_rm fr1 lo1) 0 0 n :=
    ⟨callB_of n C.hts (sm_goodws hm.1) rfl rfl rfl (C.hts _ hm.2.1) (C.hts _ hl) hm.2.2 ⟨Nat.le_trans hroom.1 C.hR.1, Nat.le_trans hroom.2 C.hR.2⟩, C.hts _ hin, C.hts _ hse⟩
  refine va_calll (va_runV (As := As) (rest := st) ⟨C.hx, C.hb, C.hml, C.hown, C.hts⟩ (hM σ (a, s1) h1 H.size) cw ⟨sm_blind, sm_obr hob C.hK hP, fun U hU hW => sm_pre C hP hS U hU hW⟩ rfl hn hL.1 rfl (lv_room (pc := pc) (ls := ls) hW) hd C.hcs) hS (fun q _ h => sm_free C hS q h) (sm_free C hS) (fun r u t H1 locs1 ht hvm hp hB hz1 hk1 hS1 => ?_)
  rw [ht] at hB
  subst hp
  exact kk _ _ h2 H1 locs1 ls hB hS1 hL
theorem sm_callNL (C : sm_Cx X cc nL own fr lo ret) {y : MethodName} {bytes : ByteArray} {maxL n index fr1 lo1 : Nat} {ret1 : Option FieldType} {stk : List Value} {F : sm_St → Option (Int64 × sm_St)} {f : Int64 → sm_St → Option β} (As : List Value) (hM : sm_CL (sm_w X) (sm_l X) y bytes maxL ret1 fr1 lo1 As F) (hm : sm_Mt y bytes maxL ret1 n) (hl : (own, index, y) ∈ sm_nl) (hin : Cond.static y ∈ sm_G) (hn : As.length = n) (hroom : fr1 + 1 ≤ fr ∧ 8 + (maxL + 11) + lo1 ≤ lo) (hstk : stk = As.reverse ++ st) (hW : (st.map fun v => v.category).sum ≤ 8) (hd : decode cc pc = .ok (.invokestatic index, 3)) (h : sm_c (F σ) f = some z) (kk : ∀ r s, f r s = some z → sm_V X Q nL s (pc + 3) lv (.long r :: st)) : sm_V X Q nL σ pc lv stk := by
  intro H locs ls hP hS hL
  subst hstk
  obtain ⟨a, s1, h1, h2⟩ := sm_cE h
  have cw : va_CN (sm_R X) (sm_s X) (sm_as X) own index y "SmokeGoesTo" bytes maxL ret1 (sm_ws y bytes maxL ret1) (sm_rm fr1 lo1) 0 0 n :=
    va_cnB n C.hts (sm_goodws hm.1) rfl rfl rfl (C.hT.2.2.2.2.1 (own, index, y) hl) (C.hts _ hm.2.1) hm.2.2 ⟨Nat.le_trans hroom.1 C.hR.1, Nat.le_trans hroom.2 C.hR.2⟩
  refine va_calll (va_runSN (As := As) (rest := st) ⟨C.hx, C.hb, C.hml, C.hown, C.hts⟩ (hM σ (a, s1) h1 H.size) ⟨cw, C.hts _ hin, trivial⟩ ⟨sm_blind, fun U hU hW => sm_pre C hP hS U hU hW⟩ rfl hn hL.1 rfl (lv_room (pc := pc) (ls := ls) hW) hd C.hcs) hS (fun q _ h => sm_free C hS q h) (sm_free C hS) (fun r u t H1 locs1 ht hvm hp hB hz1 hk1 hS1 => ?_)
  rw [ht] at hB
  subst hp
  exact kk _ _ h2 H1 locs1 ls hB hS1 hL
theorem sm_callSL (C : sm_Cx X cc nL own fr lo ret) {y : MethodName} {bytes : ByteArray} {maxL n index fr1 lo1 : Nat} {ret1 : Option FieldType} {stk : List Value} {F : sm_St → Option (Int64 × sm_St)} {f : Int64 → sm_St → Option β} (As : List Value) (hM : sm_CL (sm_w X) (sm_l X) y bytes maxL ret1 fr1 lo1 As F) (hm : sm_Mt y bytes maxL ret1 n) (hl : Cond.methodLink own index y ∈ sm_G) (hin : Cond.static y ∈ sm_G) (hn : As.length = n) (hroom : fr1 + 1 ≤ fr ∧ 8 + (maxL + 11) + lo1 ≤ lo) (hstk : stk = As.reverse ++ st) (hW : (st.map fun v => v.category).sum ≤ 8) (hd : decode cc pc = .ok (.invokestatic index, 3)) (h : sm_c (F σ) f = some z) (kk : ∀ r s, f r s = some z → sm_V X Q nL s (pc + 3) lv (.long r :: st)) : sm_V X Q nL σ pc lv stk := by
  intro H locs ls hP hS hL
  subst hstk
  obtain ⟨a, s1, h1, h2⟩ := sm_cE h
  have cw : CallB (sm_R X) (sm_s X) (sm_as X) own index y bytes maxL ret1 (sm_ws y bytes maxL ret1) (sm_rm fr1 lo1) 0 0 n :=
    callB_of n C.hts (sm_goodws hm.1) rfl rfl rfl (C.hts _ hm.2.1) (C.hts _ hl) hm.2.2 ⟨Nat.le_trans hroom.1 C.hR.1, Nat.le_trans hroom.2 C.hR.2⟩
  refine va_calll (va_runS (As := As) (rest := st) ⟨C.hx, C.hb, C.hml, C.hown, C.hts⟩ (hM σ (a, s1) h1 H.size) ⟨cw, C.hts _ hin⟩ ⟨sm_blind, fun U hU hW => sm_pre C hP hS U hU hW⟩ rfl hn hL.1 rfl (lv_room (pc := pc) (ls := ls) hW) hd C.hcs) hS (fun q _ h => sm_free C hS q h) (sm_free C hS) (fun r u t H1 locs1 ht hvm hp hB hz1 hk1 hS1 => ?_)
  rw [ht] at hB
  subst hp
  exact kk _ _ h2 H1 locs1 ls hB hS1 hL
theorem sm_callTL (C : sm_Cx X cc nL own fr lo ret) {y : MethodName} {bytes : ByteArray} {maxL n index fr1 lo1 : Nat} {ret1 : Option FieldType} {stk : List Value} {i : Nat} {F : sm_St → Option (Int64 × sm_St)} {f : Int64 → sm_St → Option β} (As : List Value) (hi : i < 3) (hM : sm_CL (sm_w X) (sm_l X) y bytes maxL ret1 fr1 lo1 (.ref (sm_aK (sm_w X) i) :: As) F) (hm : sm_Mt y bytes maxL ret1 n) (hl : Cond.methodLink own index y ∈ sm_G) (hin : Cond.instanceMethod y ∈ sm_G) (hse : Cond.selects y.cls y y ∈ sm_G) (hob : y.cls = "java/lang/String") (hn : As.length = n) (hroom : fr1 + 1 ≤ fr ∧ 8 + (maxL + 11) + lo1 ≤ lo) (hstk : stk = As.reverse ++ .ref (sm_aK (sm_w X) i) :: st) (hW : (st.map fun v => v.category).sum ≤ 8) (hd : decode cc pc = .ok (.invokevirtual index, 3)) (h : sm_c (F σ) f = some z) (kk : ∀ r s, f r s = some z → sm_V X Q nL s (pc + 3) lv (.long r :: st)) : sm_V X Q nL σ pc lv stk := by
  intro H locs ls hP hS hL
  subst hstk
  obtain ⟨a, s1, h1, h2⟩ := sm_cE h
  have cw : CallW (sm_R X) (sm_s X) (sm_as X) own y.cls index y bytes maxL ret1 (sm_ws y bytes maxL ret1) (sm_rm fr1 lo1) 0 0 n :=
    ⟨callB_of n C.hts (sm_goodws hm.1) rfl rfl rfl (C.hts _ hm.2.1) (C.hts _ hl) hm.2.2 ⟨Nat.le_trans hroom.1 C.hR.1, Nat.le_trans hroom.2 C.hR.2⟩, C.hts _ hin, C.hts _ hse⟩
  refine va_calll (va_runV (As := As) (rest := st) ⟨C.hx, C.hb, C.hml, C.hown, C.hts⟩ (hM σ (a, s1) h1 H.size) cw ⟨sm_blind, by rw [hob]; exact vk_recv C.hTA hi hS, fun U hU hW => sm_pre C hP hS U hU hW⟩ rfl hn hL.1 rfl (lv_room (pc := pc) (ls := ls) hW) hd C.hcs) hS (fun q _ h => sm_free C hS q h) (sm_free C hS) (fun r u t H1 locs1 ht hvm hp hB hz1 hk1 hS1 => ?_)
  rw [ht] at hB
  subst hp
  exact kk _ _ h2 H1 locs1 ls hB hS1 hL
theorem sm_callVV (C : sm_Cx X cc nL own fr lo ret) {y : MethodName} {bytes : ByteArray} {maxL n index fr1 lo1 : Nat} {ret1 : Option FieldType} {stk : List Value} {k : Nat} {F : sm_St → Option (Unit × sm_St)} {f : Unit → sm_St → Option β} (As : List Value) (hM : sm_CV (sm_w X) (sm_l X) y bytes maxL ret1 fr1 lo1 (.ref (sm_ad (sm_w X) k) :: As) F) (hm : sm_Mt y bytes maxL ret1 n) (hl : Cond.methodLink own index y ∈ sm_G) (hin : Cond.instanceMethod y ∈ sm_G) (hse : Cond.selects y.cls y y ∈ sm_G) (hob : sm_Ob (sm_w X) k y.cls) (hn : As.length = n) (hroom : fr1 + 1 ≤ fr ∧ 8 + (maxL + 11) + lo1 ≤ lo) (hstk : stk = As.reverse ++ .ref (sm_ad (sm_w X) k) :: st) (hW : (st.map fun v => v.category).sum ≤ 8) (hd : decode cc pc = .ok (.invokevirtual index, 3)) (h : sm_c (F σ) f = some z) (kk : ∀ r s, f r s = some z → sm_V X Q nL s (pc + 3) lv (st)) : sm_V X Q nL σ pc lv stk := by
  intro H locs ls hP hS hL
  subst hstk
  obtain ⟨a, s1, h1, h2⟩ := sm_cE h
  have cw : CallW (sm_R X) (sm_s X) (sm_as X) own y.cls index y bytes maxL ret1 (sm_ws y bytes maxL ret1) (sm_rm fr1 lo1) 0 0 n :=
    ⟨callB_of n C.hts (sm_goodws hm.1) rfl rfl rfl (C.hts _ hm.2.1) (C.hts _ hl) hm.2.2 ⟨Nat.le_trans hroom.1 C.hR.1, Nat.le_trans hroom.2 C.hR.2⟩, C.hts _ hin, C.hts _ hse⟩
  refine va_callv (va_runV (As := As) (rest := st) ⟨C.hx, C.hb, C.hml, C.hown, C.hts⟩ (hM σ (a, s1) h1 H.size) cw ⟨sm_blind, sm_obr hob C.hK hP, fun U hU hW => sm_pre C hP hS U hU hW⟩ rfl hn hL.1 rfl (lv_room (pc := pc) (ls := ls) hW) hd C.hcs) hS (fun q _ h => sm_free C hS q h) (sm_free C hS) (fun u t H1 locs1 ht hvm hp hB hz1 hk1 hS1 => ?_)
  rw [ht] at hB
  skip
  exact kk _ _ h2 H1 locs1 ls hB hS1 hL
theorem sm_callNV (C : sm_Cx X cc nL own fr lo ret) {y : MethodName} {bytes : ByteArray} {maxL n index fr1 lo1 : Nat} {ret1 : Option FieldType} {stk : List Value} {F : sm_St → Option (Unit × sm_St)} {f : Unit → sm_St → Option β} (As : List Value) (hM : sm_CV (sm_w X) (sm_l X) y bytes maxL ret1 fr1 lo1 As F) (hm : sm_Mt y bytes maxL ret1 n) (hl : (own, index, y) ∈ sm_nl) (hin : Cond.static y ∈ sm_G) (hn : As.length = n) (hroom : fr1 + 1 ≤ fr ∧ 8 + (maxL + 11) + lo1 ≤ lo) (hstk : stk = As.reverse ++ st) (hW : (st.map fun v => v.category).sum ≤ 8) (hd : decode cc pc = .ok (.invokestatic index, 3)) (h : sm_c (F σ) f = some z) (kk : ∀ r s, f r s = some z → sm_V X Q nL s (pc + 3) lv (st)) : sm_V X Q nL σ pc lv stk := by
  intro H locs ls hP hS hL
  subst hstk
  obtain ⟨a, s1, h1, h2⟩ := sm_cE h
  have cw : va_CN (sm_R X) (sm_s X) (sm_as X) own index y "SmokeGoesTo" bytes maxL ret1 (sm_ws y bytes maxL ret1) (sm_rm fr1 lo1) 0 0 n :=
    va_cnB n C.hts (sm_goodws hm.1) rfl rfl rfl (C.hT.2.2.2.2.1 (own, index, y) hl) (C.hts _ hm.2.1) hm.2.2 ⟨Nat.le_trans hroom.1 C.hR.1, Nat.le_trans hroom.2 C.hR.2⟩
  refine va_callv (va_runSN (As := As) (rest := st) ⟨C.hx, C.hb, C.hml, C.hown, C.hts⟩ (hM σ (a, s1) h1 H.size) ⟨cw, C.hts _ hin, trivial⟩ ⟨sm_blind, fun U hU hW => sm_pre C hP hS U hU hW⟩ rfl hn hL.1 rfl (lv_room (pc := pc) (ls := ls) hW) hd C.hcs) hS (fun q _ h => sm_free C hS q h) (sm_free C hS) (fun u t H1 locs1 ht hvm hp hB hz1 hk1 hS1 => ?_)
  rw [ht] at hB
  skip
  exact kk _ _ h2 H1 locs1 ls hB hS1 hL
theorem sm_callSV (C : sm_Cx X cc nL own fr lo ret) {y : MethodName} {bytes : ByteArray} {maxL n index fr1 lo1 : Nat} {ret1 : Option FieldType} {stk : List Value} {F : sm_St → Option (Unit × sm_St)} {f : Unit → sm_St → Option β} (As : List Value) (hM : sm_CV (sm_w X) (sm_l X) y bytes maxL ret1 fr1 lo1 As F) (hm : sm_Mt y bytes maxL ret1 n) (hl : Cond.methodLink own index y ∈ sm_G) (hin : Cond.static y ∈ sm_G) (hn : As.length = n) (hroom : fr1 + 1 ≤ fr ∧ 8 + (maxL + 11) + lo1 ≤ lo) (hstk : stk = As.reverse ++ st) (hW : (st.map fun v => v.category).sum ≤ 8) (hd : decode cc pc = .ok (.invokestatic index, 3)) (h : sm_c (F σ) f = some z) (kk : ∀ r s, f r s = some z → sm_V X Q nL s (pc + 3) lv (st)) : sm_V X Q nL σ pc lv stk := by
  intro H locs ls hP hS hL
  subst hstk
  obtain ⟨a, s1, h1, h2⟩ := sm_cE h
  have cw : CallB (sm_R X) (sm_s X) (sm_as X) own index y bytes maxL ret1 (sm_ws y bytes maxL ret1) (sm_rm fr1 lo1) 0 0 n :=
    callB_of n C.hts (sm_goodws hm.1) rfl rfl rfl (C.hts _ hm.2.1) (C.hts _ hl) hm.2.2 ⟨Nat.le_trans hroom.1 C.hR.1, Nat.le_trans hroom.2 C.hR.2⟩
  refine va_callv (va_runS (As := As) (rest := st) ⟨C.hx, C.hb, C.hml, C.hown, C.hts⟩ (hM σ (a, s1) h1 H.size) ⟨cw, C.hts _ hin⟩ ⟨sm_blind, fun U hU hW => sm_pre C hP hS U hU hW⟩ rfl hn hL.1 rfl (lv_room (pc := pc) (ls := ls) hW) hd C.hcs) hS (fun q _ h => sm_free C hS q h) (sm_free C hS) (fun u t H1 locs1 ht hvm hp hB hz1 hk1 hS1 => ?_)
  rw [ht] at hB
  skip
  exact kk _ _ h2 H1 locs1 ls hB hS1 hL
theorem sm_iret {v : Int32} {R : Int32 × sm_St} (C : sm_Cx X cc nL own fr lo (some .int)) (hd : decode cc pc = .ok (.ireturn, 1)) (h : some (v, σ) = some R) : sm_V X (sm_QI X R) nL σ pc lv [.int v] := by
  intro H locs ls hP hS hL
  cases h
  exact W.iret C.hx C.hb C.hr (fun t ht hW => ⟨⟨v, (), rfl, rfl, by show va_P _ _ _ t.heap; rw [ht]; exact hP⟩, hS.F ht⟩) hS.2.2 hd C.hlk
theorem sm_zret {v : Int32} {ty : FieldType} {R : Int32 × sm_St} (C : sm_Cx X cc nL own fr lo (some ty)) (hd : decode cc pc = .ok (.ireturn, 1)) (h : sm_g (decide (narrow ty (.int v) = .int v)) (some (v, σ)) = some R) : sm_V X (sm_QI X R) nL σ pc lv [.int v] := by
  intro H locs ls hP hS hL
  obtain ⟨h1, h2⟩ := sm_gE h
  cases h2
  exact W.zret C.hx C.hb C.hr (of_decide_eq_true h1) (fun t ht hW => ⟨⟨v, (), rfl, rfl, by show va_P _ _ _ t.heap; rw [ht]; exact hP⟩, hS.F ht⟩) hS.2.2 hd C.hlk
theorem sm_zretK {v : Int32} {ty : FieldType} {R : Int32 × sm_St} (C : sm_Cx X cc nL own fr lo (some ty)) (hn : narrow ty (.int v) = .int v) (hd : decode cc pc = .ok (.ireturn, 1)) (h : some (v, σ) = some R) : sm_V X (sm_QI X R) nL σ pc lv [.int v] := by
  intro H locs ls hP hS hL
  cases h
  exact W.zret C.hx C.hb C.hr hn (fun t ht hW => ⟨⟨v, (), rfl, rfl, by show va_P _ _ _ t.heap; rw [ht]; exact hP⟩, hS.F ht⟩) hS.2.2 hd C.hlk
theorem sm_lret {v : Int64} {R : Int64 × sm_St} (C : sm_Cx X cc nL own fr lo (some .long)) (hd : decode cc pc = .ok (.lreturn, 1)) (h : some (v, σ) = some R) : sm_V X (sm_QL X R) nL σ pc lv [.long v] := by
  intro H locs ls hP hS hL
  cases h
  exact W.lret C.hx C.hb C.hr (fun t ht hW => ⟨⟨v, (), rfl, rfl, by show va_P _ _ _ t.heap; rw [ht]; exact hP⟩, hS.F ht⟩) hS.2.2 hd C.hlk
theorem sm_vret {R : Unit × sm_St} (C : sm_Cx X cc nL own fr lo none) (hd : decode cc pc = .ok (.return_, 1)) (h : some ((), σ) = some R) : sm_V X (sm_QV X R) nL σ pc lv [] := by
  intro H locs ls hP hS hL
  cases h
  exact W.vret C.hx C.hb C.hr (fun t ht hW => ⟨⟨(), rfl, trivial, by show va_P _ _ _ t.heap; rw [ht]; exact hP⟩, hS.F ht⟩) hS.2.2 hd C.hlk
end
