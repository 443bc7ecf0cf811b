/-! THE MAKING: a judgement over a world that grows (the constructors) -/
def co_V (X : sm_VC) (Q : State → Prop) (nL : Nat) (ws : va_W) (cs sl pc : Nat) (lv : List (Nat × Value)) (st : List Value) : Prop :=
  ∀ (H : Heap) (locs : List Loc) (ls : Array Slot), va_P (sm_D (sm_w X)) (sm_cl (sm_w X)) ws H → va_D (sm_fA X) ws → va_S (sm_fA X) (sm_s X).heap H locs → lv_has ls nL lv → W (sm_p X) (sm_l X) (sm_e X) (sm_R X) (sm_s X) (sm_m X) (sm_as X) (sm_be X) (sm_me X) (sm_co X) H locs cs sl Q (F0 (sm_m X) pc ls st)
def co_Cx (X : sm_VC) (cc : ByteArray) (nL : Nat) (own : String) (fr lo mc ms : Nat) : Prop :=
  (sm_p X).tables.exec = Jvm.exec ∧ (sm_co X).code = cc ∧ (sm_co X).maxLocals = nL ∧ (sm_s X).vm.findClass own = some (sm_m X).cls ∧ (∀ w ∈ sm_G, w.before (sm_as X) (sm_s X) = true) ∧ va_K (sm_D (sm_w X)) (sm_cl (sm_w X)) (sm_ty (sm_w X)) (sm_s X) ∧ (∀ q : Nat, (sm_s X).heap.size ≤ q → sm_fA X q) ∧ (∀ q, sm_fA X q → sm_z (sm_w X) ≤ q) ∧ (sm_me X).locks = false ∧ (sm_me X).sig.returnType = none ∧ (sm_me X).name = "<init>" ∧ ((fr ≤ (sm_R X).frames ∧ lo ≤ (sm_R X).locals) ∧ mc ≤ (sm_R X).cells ∧ ms ≤ (sm_R X).slots) ∧ sm_Str (sm_w X) (sm_s X) (sm_s X).heap
section
variable {X : sm_VC} {cc : ByteArray} {nL : Nat} {own : String} {fr lo mc ms : Nat}
theorem co_Cx.hx (C : co_Cx X cc nL own fr lo mc ms) : (sm_p X).tables.exec = Jvm.exec := C.1
theorem co_Cx.hb (C : co_Cx X cc nL own fr lo mc ms) : (sm_co X).code = cc := C.2.1
theorem co_Cx.hml (C : co_Cx X cc nL own fr lo mc ms) : (sm_co X).maxLocals = nL := C.2.2.1
theorem co_Cx.hown (C : co_Cx X cc nL own fr lo mc ms) : (sm_s X).vm.findClass own = some (sm_m X).cls := C.2.2.2.1
theorem co_Cx.hts (C : co_Cx X cc nL own fr lo mc ms) : ∀ w ∈ sm_G, w.before (sm_as X) (sm_s X) = true := C.2.2.2.2.1
theorem co_Cx.hK (C : co_Cx X cc nL own fr lo mc ms) : va_K (sm_D (sm_w X)) (sm_cl (sm_w X)) (sm_ty (sm_w X)) (sm_s X) := C.2.2.2.2.2.1
theorem co_Cx.hAz (C : co_Cx X cc nL own fr lo mc ms) : ∀ q : Nat, (sm_s X).heap.size ≤ q → sm_fA X q := C.2.2.2.2.2.2.1
theorem co_Cx.hz (C : co_Cx X cc nL own fr lo mc ms) : ∀ q, sm_fA X q → sm_z (sm_w X) ≤ q := C.2.2.2.2.2.2.2.1
theorem co_Cx.hlk (C : co_Cx X cc nL own fr lo mc ms) : (sm_me X).locks = false := C.2.2.2.2.2.2.2.2.1
theorem co_Cx.hr (C : co_Cx X cc nL own fr lo mc ms) : (sm_me X).sig.returnType = none := C.2.2.2.2.2.2.2.2.2.1
theorem co_Cx.hin (C : co_Cx X cc nL own fr lo mc ms) : (sm_me X).name = "<init>" := C.2.2.2.2.2.2.2.2.2.2.1
theorem co_Cx.hR (C : co_Cx X cc nL own fr lo mc ms) : (fr ≤ (sm_R X).frames ∧ lo ≤ (sm_R X).locals) ∧ mc ≤ (sm_R X).cells ∧ ms ≤ (sm_R X).slots := C.2.2.2.2.2.2.2.2.2.2.2.1
theorem co_Cx.hT (C : co_Cx X cc nL own fr lo mc ms) : sm_Str (sm_w X) (sm_s X) (sm_s X).heap := C.2.2.2.2.2.2.2.2.2.2.2.2
end
section
variable {X : sm_VC} {cc : ByteArray} {nL : Nat} {own : String} {fr lo mc ms : Nat} {Q : State → Prop} {ws : va_W} {cs sl pc : Nat} {lv : List (Nat × Value)} {st : List Value}
theorem co_iconst (C : co_Cx X cc nL own fr lo mc ms) {n : Int} {v : Int32} (hd : decode cc pc = .ok (.iconst n, 1)) (hv : Int32.ofInt n = v) (kk : co_V X Q nL ws cs sl (pc + 1) lv (.int v :: st)) : co_V X Q nL ws cs sl pc lv st := by
  intro H locs ls hP hD hS hL
  exact lv_iconst C.hx C.hb hd hv (kk H locs ls hP hD hS hL)
theorem co_bipush (C : co_Cx X cc nL own fr lo mc ms) {n : Int} {v : Int32} (hd : decode cc pc = .ok (.bipush n, 2)) (hv : (Int8.ofInt n).toInt32 = v) (kk : co_V X Q nL ws cs sl (pc + 2) lv (.int v :: st)) : co_V X Q nL ws cs sl pc lv st := by
  intro H locs ls hP hD hS hL
  exact lv_bipush C.hx C.hb hd hv (kk H locs ls hP hD hS hL)
theorem co_sipush (C : co_Cx X cc nL own fr lo mc ms) {n : Int} {v : Int32} (hd : decode cc pc = .ok (.sipush n, 3)) (hv : (Int16.ofInt n).toInt32 = v) (kk : co_V X Q nL ws cs sl (pc + 3) lv (.int v :: st)) : co_V X Q nL ws cs sl pc lv st := by
  intro H locs ls hP hD hS hL
  exact lv_sipush C.hx C.hb hd hv (kk H locs ls hP hD hS hL)
theorem co_lconst (C : co_Cx X cc nL own fr lo mc ms) {n : Fin 2} {v : Int64} (hd : decode cc pc = .ok (.lconst n, 1)) (hv : Int64.ofNat (n : Nat) = v) (kk : co_V X Q nL ws cs sl (pc + 1) lv (.long v :: st)) : co_V X Q nL ws cs sl pc lv st := by
  intro H locs ls hP hD hS hL
  exact lv_lconst C.hx C.hb hd hv (kk H locs ls hP hD hS hL)
theorem co_null (C : co_Cx X cc nL own fr lo mc ms) (hd : decode cc pc = .ok (.aconst_null, 1)) (kk : co_V X Q nL ws cs sl (pc + 1) lv (.null :: st)) : co_V X Q nL ws cs sl pc lv st := by
  intro H locs ls hP hD hS hL
  exact lv_null C.hx C.hb hd (kk H locs ls hP hD hS hL)
theorem co_iload_n (C : co_Cx X cc nL own fr lo mc ms) {n : Fin 4} {i : Nat} {x : Int32} (k : Nat) (hd : decode cc pc = .ok (.iload_n n, 1)) (hi : (n : Nat) = i) (hk : lv[k]? = some (i, .int x)) (kk : co_V X Q nL ws cs sl (pc + 1) lv (.int x :: st)) : co_V X Q nL ws cs sl pc lv st := by
  intro H locs ls hP hD hS hL
  exact lv_iload_n C.hx C.hb hd hi (lv_at hL k hk) (kk H locs ls hP hD hS hL)
theorem co_aload_n (C : co_Cx X cc nL own fr lo mc ms) {n : Fin 4} {i : Nat} {x : Nat} (k : Nat) (hd : decode cc pc = .ok (.aload_n n, 1)) (hi : (n : Nat) = i) (hk : lv[k]? = some (i, .ref x)) (kk : co_V X Q nL ws cs sl (pc + 1) lv (.ref x :: st)) : co_V X Q nL ws cs sl pc lv st := by
  intro H locs ls hP hD hS hL
  exact lv_aload_n C.hx C.hb hd hi (lv_at hL k hk) (kk H locs ls hP hD hS hL)
theorem co_istore_n (C : co_Cx X cc nL own fr lo mc ms) {n : Fin 4} {i : Nat} {x : Int32} {lv' : List (Nat × Value)} (hd : decode cc pc = .ok (.istore_n n, 1)) (hi : (n : Nat) = i) (hn : i < nL) (hl : (i, Value.int x) :: lv.filter (fun q => !(q.1 == i) && !(q.1 + 1 == i && q.2.category == 2)) = lv') (kk : co_V X Q nL ws cs sl (pc + 1) lv' st) : co_V X Q nL ws cs sl pc lv (.int x :: st) := by
  intro H locs ls hP hD hS hL
  exact lv_istore_n C.hx C.hb hd hi hL hn hl fun ls hL => kk H locs ls hP hD hS hL
theorem co_iinc (C : co_Cx X cc nL own fr lo mc ms) {i : Nat} {n : Int} {x v : Int32} {lv' : List (Nat × Value)} (k : Nat) (hd : decode cc pc = .ok (.iinc i n, 3)) (hk : lv[k]? = some (i, .int x)) (hv : x + Int32.ofInt n = v) (hn : i < nL) (hl : (i, Value.int v) :: lv.filter (fun q => !(q.1 == i) && !(q.1 + 1 == i && q.2.category == 2)) = lv') (kk : co_V X Q nL ws cs sl (pc + 3) lv' st) : co_V X Q nL ws cs sl pc lv st := by
  intro H locs ls hP hD hS hL
  exact lv_iinc C.hx C.hb hd hL hk hv hn hl fun ls hL => kk H locs ls hP hD hS hL
theorem co_goto (C : co_Cx X cc nL own fr lo mc ms) {off : Int} (tgt : Nat) (hd : decode cc pc = .ok (.goto off, 3)) (ht : (pc : Int) + off = (tgt : Int)) (kk : co_V X Q nL ws cs sl tgt lv st) : co_V X Q nL ws cs sl pc lv st := by
  intro H locs ls hP hD hS hL
  exact lv_goto C.hx C.hb hd ht (kk H locs ls hP hD hS hL)
theorem co_geN (C : co_Cx X cc nL own fr lo mc ms) {off : Int} {x y : Int32} (tgt : Nat) (hc : ¬ y ≤ x) (hd : decode cc pc = .ok (.if_icmp .ge off, 3)) (ht : (pc : Int) + off = (tgt : Int)) (kk : co_V X Q nL ws cs sl (pc + 3) lv st) : co_V X Q nL ws cs sl pc lv (.int y :: .int x :: st) := by
  intro H locs ls hP hD hS hL
  exact lv_icmp_ge C.hx C.hb hd ht (fun h => absurd h hc) (fun _ => kk H locs ls hP hD hS hL)
theorem co_geY (C : co_Cx X cc nL own fr lo mc ms) {off : Int} {x y : Int32} (tgt : Nat) (hc : y ≤ x) (hd : decode cc pc = .ok (.if_icmp .ge off, 3)) (ht : (pc : Int) + off = (tgt : Int)) (kk : co_V X Q nL ws cs sl tgt lv st) : co_V X Q nL ws cs sl pc lv (.int y :: .int x :: st) := by
  intro H locs ls hP hD hS hL
  exact lv_icmp_ge C.hx C.hb hd ht (fun _ => kk H locs ls hP hD hS hL) (fun h => absurd hc h)
theorem co_sub {lv' : List (Nat × Value)} (ks : List Nat) (hl : lv_pick lv ks = lv') (kk : co_V X Q nL ws cs sl pc lv' st) : co_V X Q nL ws cs sl pc lv st := fun H locs ls hP hD hS hL => kk H locs ls hP hD hS (lv_sub hL ks hl)
theorem co_widen {cs1 sl1 : Nat} (h1 : cs ≤ cs1) (h2 : sl ≤ sl1) (kk : co_V X Q nL ws cs1 sl1 pc lv st) : co_V X Q nL ws cs sl pc lv st := fun H locs ls hP hD hS hL => W.widen h1 h2 (kk H locs ls hP hD hS hL)
theorem co_obj (C : co_Cx X cc nL own fr lo mc ms) {ix a : Nat} (hl : Cond.methodLink own ix Lib.objectInit ∈ sm_G) (hd : decode cc pc = .ok (.invokespecial ix, 3)) (h1 : 1 ≤ fr) (h2 : 12 ≤ lo) (kk : co_V X Q nL ws cs sl (pc + 3) lv []) : co_V X Q nL ws cs sl pc lv [.ref a] := by
  intro H locs ls hP hD hS hL
  refine W.objInit C.hx C.hb C.hown (C.hts _ hl) (C.hts _ gi_objinit) (C.hts _ gc_objinit) rfl (by rw [C.hml]; exact hL.1) rfl hd (Nat.le_trans h1 C.hR.1.1) (Nat.le_trans (by exact h2) C.hR.1.2) ?_
  exact W.eq (g2 := F0 (sm_m X) (pc + 3) ls []) rfl (kk H locs ls hP hD hS hL)
theorem co_newa (C : co_Cx X cc nL own fr lo mc ms) {atype : ArrayType} (t0 : Nat) {cA : ClassId} {n : Int32} {N : Nat} {a0 : vp_A} (harr : Cond.arrayClass (newarray.typeOf atype) ∈ sm_G) (ht : (sm_ty (sm_w X))[t0]? = some (cA, newarray.typeOf atype)) (ha : vp_cell cA a0 = arrV cA N (fun _ => defaultValue (newarray.typeOf atype))) (hn : ¬ n < 0) (hN : n.toNatClampNeg = N) (hbytes : N * componentBytes (newarray.typeOf atype) ≤ 536870912) (hcs : cs + 1 ≤ mc) (hsl : sl + N ≤ ms) (hd : decode cc pc = .ok (.newarray atype, 2)) (kk : ∀ q : Nat, co_V X Q nL (ws ++ [(q, .inl (cA, a0))]) (cs + 1) (sl + N) (pc + 2) lv (.ref q :: st)) : co_V X Q nL ws cs sl pc lv (.int n :: st) := by
  intro H locs ls hP hD hS hL
  refine va_newaK C.hx C.hb (C.hts _ harr) rfl hd rfl hn hN hbytes (Nat.le_trans hcs C.hR.2.1) (Nat.le_trans hsl C.hR.2.2) rfl fun H1 cA1 e1 z1 o1 hAr hNm => ?_
  have hRA := (C.hK.2 t0 _ ht).2
  have he : cA1 = cA := by
    have h1 : (sm_s X).vm.findClass ("[" ++ (newarray.typeOf atype).toString) = some cA := by cases atype <;> exact hRA
    exact Option.some.inj (hNm.symm.trans h1)
  subst he
  have hk : ∀ (k : Nat) (x : Nat × va_E), ws[k]? = some x → H1[x.1]? = H[x.1]? := fun k x hx => o1 x.1 ((hP k x hx).lt)
  refine kk H.size H1 locs ls ((hP.kept hk).app (fun k x hx => ?_)) (hD.push hP rfl (C.hAz _ hS.1)) ⟨Nat.le_trans hS.1 (by omega), fun x h1 h2 => (o1 x (Nat.lt_of_lt_of_le h1 hS.1)).trans (hS.2.1 x h1 h2), hS.2.2⟩ hL
  have hz : k < 1 := (List.getElem?_eq_some_iff.mp hx).1
  rw [show k = 0 by omega] at hx
  cases hx
  show H1[H.size]? = some (vp_cell _ _)
  rw [ha]
  exact e1
theorem co_newI (C : co_Cx X cc nL own fr lo mc ms) {cA : ClassId} {n : Int32} {N : Nat} (ht : (sm_ty (sm_w X))[0]? = some (cA, .int)) (hn : ¬ n < 0) (hN : n.toNatClampNeg = N) (hbytes : N * 4 ≤ 536870912) (hcs : cs + 1 ≤ mc) (hsl : sl + N ≤ ms) (hd : decode cc pc = .ok (.newarray .int, 2)) (kk : ∀ q : Nat, co_V X Q nL (ws ++ [(q, .inl (cA, N, .inl fun _ => 0))]) (cs + 1) (sl + N) (pc + 2) lv (.ref q :: st)) : co_V X Q nL ws cs sl pc lv (.int n :: st) :=
  co_newa C 0 (atype := .int) (a0 := (N, .inl fun _ => 0)) ga_int ht rfl hn hN hbytes hcs hsl hd kk
theorem co_newL (C : co_Cx X cc nL own fr lo mc ms) {cA : ClassId} {n : Int32} {N : Nat} (ht : (sm_ty (sm_w X))[1]? = some (cA, .long)) (hn : ¬ n < 0) (hN : n.toNatClampNeg = N) (hbytes : N * 8 ≤ 536870912) (hcs : cs + 1 ≤ mc) (hsl : sl + N ≤ ms) (hd : decode cc pc = .ok (.newarray .long, 2)) (kk : ∀ q : Nat, co_V X Q nL (ws ++ [(q, .inl (cA, N, .inr (.inl fun _ => 0)))]) (cs + 1) (sl + N) (pc + 2) lv (.ref q :: st)) : co_V X Q nL ws cs sl pc lv (.int n :: st) :=
  co_newa C 1 (atype := .long) (a0 := (N, .inr (.inl fun _ => 0))) ga_long ht rfl hn hN hbytes hcs hsl hd kk
theorem co_newZ (C : co_Cx X cc nL own fr lo mc ms) {cA : ClassId} {n : Int32} {N : Nat} (ht : (sm_ty (sm_w X))[2]? = some (cA, .boolean)) (hn : ¬ n < 0) (hN : n.toNatClampNeg = N) (hbytes : N * 1 ≤ 536870912) (hcs : cs + 1 ≤ mc) (hsl : sl + N ≤ ms) (hd : decode cc pc = .ok (.newarray .boolean, 2)) (kk : ∀ q : Nat, co_V X Q nL (ws ++ [(q, .inl (cA, N, .inl fun _ => 0))]) (cs + 1) (sl + N) (pc + 2) lv (.ref q :: st)) : co_V X Q nL ws cs sl pc lv (.int n :: st) :=
  co_newa C 2 (atype := .boolean) (a0 := (N, .inl fun _ => 0)) ga_boolean ht rfl hn hN hbytes hcs hsl hd kk
theorem co_anew (C : co_Cx X cc nL own fr lo mc ms) {index : Nat} {C0 : String} (t0 : Nat) {cA : ClassId} {n : Int32} {N : Nat} (hcl : Cond.classLink own index C0 ∈ sm_G) (hao : va_AO C0 (sm_s X)) (ht : (sm_ty (sm_w X))[t0]? = some (cA, .object C0)) (hn : ¬ n < 0) (hN : n.toNatClampNeg = N) (hbytes : N * 4 ≤ 536870912) (hcs : cs + 1 ≤ mc) (hsl : sl + N ≤ ms) (hd : decode cc pc = .ok (.anewarray index, 3)) (kk : ∀ q : Nat, co_V X Q nL (ws ++ [(q, .inl (cA, N, .inr (.inr (.inr (.inr fun _ => none)))))]) (cs + 1) (sl + N) (pc + 3) lv (.ref q :: st)) : co_V X Q nL ws cs sl pc lv (.int n :: st) := by
  intro H locs ls hP hD hS hL
  subst hN
  refine W.anew C.hx C.hb C.hown (C.hts _ hcl) (va_AO.use hao) rfl hd rfl hn hbytes (Nat.le_trans hcs C.hR.2.1) (Nat.le_trans hsl C.hR.2.2) fun cA1 kA comp f1 f2 f3 f4 => ?_
  obtain ⟨_, _, _, _, _, hRA⟩ := (C.hK.2 t0 _ ht).2
  have he : cA1 = cA := Option.some.inj (f1.symm.trans hRA)
  subst he
  generalize hH1 : H.push ({ cls := cA1, slots := Array.replicate n.toNatClampNeg .null, vm := .none } : Cell) = H1
  have z1 : H1.size = H.size + 1 := by rw [← hH1, Array.size_push]
  have e1 : H1[H.size]? = some (arrV cA1 n.toNatClampNeg (fun _ => .null)) := by rw [← hH1, Array.getElem?_push_size, ← arrV_new]
  have o1 : ∀ q : Nat, q < H.size → H1[q]? = H[q]? := fun q hq => by rw [← hH1, Array.getElem?_push, if_neg (Nat.ne_of_lt hq)]
  have hk : ∀ (k : Nat) (x : Nat × va_E), ws[k]? = some x → H1[x.1]? = H[x.1]? := fun k x hx => o1 x.1 ((hP k x hx).lt)
  refine kk H.size H1 locs ls ((hP.kept hk).app (fun k x hx => ?_)) (hD.push hP rfl (C.hAz _ hS.1)) ⟨Nat.le_trans hS.1 (by omega), fun x h1 h2 => (o1 x (Nat.lt_of_lt_of_le h1 hS.1)).trans (hS.2.1 x h1 h2), hS.2.2⟩ hL
  have hz : k < 1 := (List.getElem?_eq_some_iff.mp hx).1
  rw [show k = 0 by omega] at hx
  cases hx
  show H1[H.size]? = some (vp_cell _ _)
  rw [vp_cell_q]
  exact e1
/-- the object itself is the world's first cell -/
theorem co_put (C : co_Cx X cc nL own fr lo mc ms) {a ci : Nat} {fs fs' : List Value} {wr : va_W} {C0 : String} {T : u_T} {N index : Nat} {ty0 : Nat → FieldType} {ty : FieldType} {v : Value} (j : Nat) (hc : (sm_cl (sm_w X))[ci]? = some (C0, T, N)) (hin : ∀ w ∈ u_ws C0 T N, w ∈ sm_G) (hty : ∀ k, k < N → parseFieldDescriptor (T k).2.2.1 = some (ty0 k)) (hnm : ∀ a, a < N → ∀ b, b < N → a ≠ b → (T a).2.1 ≠ (T b).2.1) (hj : j < N) (hl : Cond.fieldLink own index (T j).1 (T j).2.1 (T j).2.2.1 ∈ sm_G) (hfin : (T j).2.2.2 = false) (hdt : parseFieldDescriptor (T j).2.2.1 = some ty) (hn : narrow ty v = v) (hfit : fits ty v = true) (hlt : j < fs.length) (hd : decode cc pc = .ok (.putfield index, 3)) (hs : fs.set j v = fs') (kk : co_V X Q nL ((a, .inr (ci, fs')) :: wr) cs sl (pc + 3) lv st) : co_V X Q nL ((a, .inr (ci, fs)) :: wr) cs sl pc lv (v :: .ref a :: st) := by
  intro H locs ls hP hD hS hL
  subst hs
  exact va_put C.hx C.hb C.hts hin ty0 hty hnm C.hown C.hK hP hD hS 0 rfl hc j hj (C.hts _ hl) (fun _ h => h) hfin hdt hn hfit hlt hd (fun H1 locs1 hP1 hD1 hS1 => kk H1 locs1 ls hP1 hD1 hS1 hL)
theorem co_putF (C : co_Cx X cc nL own fr lo mc ms) {a ci : Nat} {fs fs' : List Value} {wr : va_W} {C0 : String} {T : u_T} {N index : Nat} {ty0 : Nat → FieldType} {ty : FieldType} {v : Value} (j : Nat) (hc : (sm_cl (sm_w X))[ci]? = some (C0, T, N)) (hin : ∀ w ∈ u_ws C0 T N, w ∈ sm_G) (hty : ∀ k, k < N → parseFieldDescriptor (T k).2.2.1 = some (ty0 k)) (hnm : ∀ a, a < N → ∀ b, b < N → a ≠ b → (T a).2.1 ≠ (T b).2.1) (hj : j < N) (hl : Cond.fieldLink own index (T j).1 (T j).2.1 (T j).2.2.1 ∈ sm_G) (hfin : (T j).2.2.2 = true) (hde : (T j).1 = own) (hdt : parseFieldDescriptor (T j).2.2.1 = some ty) (hn : narrow ty v = v) (hfit : fits ty v = true) (hlt : j < fs.length) (hd : decode cc pc = .ok (.putfield index, 3)) (hs : fs.set j v = fs') (kk : co_V X Q nL ((a, .inr (ci, fs')) :: wr) cs sl (pc + 3) lv st) : co_V X Q nL ((a, .inr (ci, fs)) :: wr) cs sl pc lv (v :: .ref a :: st) := by
  intro H locs ls hP hD hS hL
  subst hs
  exact va_putF C.hx C.hb C.hts hin ty0 hty hnm C.hown C.hK hP hD hS 0 rfl hc j hj (C.hts _ hl) (fun _ h => h) hfin C.hin hde hdt hn hfit hlt hd (fun H1 locs1 hP1 hD1 hS1 => kk H1 locs1 ls hP1 hD1 hS1 hL)
theorem co_get (C : co_Cx X cc nL own fr lo mc ms) {a ci : Nat} {fs : List Value} {wr : va_W} {C0 : String} {T : u_T} {N index : Nat} {v : Value} (j : Nat) (hc : (sm_cl (sm_w X))[ci]? = some (C0, T, N)) (hin : ∀ w ∈ u_ws C0 T N, w ∈ sm_G) (hj : j < N) (hl : Cond.fieldLink own index (T j).1 (T j).2.1 (T j).2.2.1 ∈ sm_G) (hv : fs[j]? = some v) (hd : decode cc pc = .ok (.getfield index, 3)) (kk : co_V X Q nL ((a, .inr (ci, fs)) :: wr) cs sl (pc + 3) lv (v :: st)) : co_V X Q nL ((a, .inr (ci, fs)) :: wr) cs sl pc lv (.ref a :: st) := by
  intro H locs ls hP hD hS hL
  exact va_get C.hx C.hb C.hts hin C.hown C.hK hP 0 rfl hc j hj (C.hts _ hl) (fun _ h => h) hv hd (kk H locs ls hP hD hS hL)
theorem co_ast (C : co_Cx X cc nL own fr lo mc ms) (q0 t0 qk ci : Nat) {a : Nat} {cA : ClassId} {r : vw_C} {n v : Nat} {vs : List Value} {f : Nat → Option Nat} {i : Int32} {i0 : Nat} {ws' : va_W} (ha : ws[q0]? = some (a, .inl (cA, n, .inr (.inr (.inr (.inr f)))))) (ht : (sm_ty (sm_w X))[t0]? = some (cA, .object r.1)) (hv : ws[qk]? = some (v, .inr (ci, vs))) (hc : (sm_cl (sm_w X))[ci]? = some r) (hin : vp_in i n) (hi : i.toNatClampNeg = i0) (hd : decode cc pc = .ok (.aastore, 1)) (hs : ws.set q0 (a, .inl (cA, n, .inr (.inr (.inr (.inr (va_up f i0 (some v))))))) = ws') (kk : co_V X Q nL ws' cs sl (pc + 1) lv st) : co_V X Q nL ws cs sl pc lv (.ref v :: .int i :: .ref a :: st) := by
  intro H locs ls hP hD hS hL
  subst hi
  subst hs
  exact va_astq C.hx C.hb C.hK hP hD hS q0 t0 qk ci ha ht hv hc hin hd (fun H1 locs1 hP1 hD1 hS1 => kk H1 locs1 ls hP1 hD1 hS1 hL)
end
/-- a constructor's contract: from the new object's cell to a world with it and what it has made -/
def co_C (w : sm_WD) (l : Launch) (y : MethodName) (bytes : ByteArray) (nL fr lo mc ms ci : Nat) (fs : List Value) (out : Nat → (Nat → Nat) → va_W) : Prop :=
  ∀ h0 sz : Nat, sm_z w ≤ h0 → Met l y (sm_ws y bytes nL none) { frames := fr, cells := mc, slots := ms, locals := lo } (va_Pc [.ref h0] (fun U => U.heap.size = sz ∧ va_P (sm_D w) (sm_cl w) [(h0, .inr (ci, fs))] U.heap ∧ va_K (sm_D w) (sm_cl w) (sm_ty w) U ∧ sm_z w ≤ sz ∧ sm_Str w U U.heap)) (va_Qv (fun (_ : Nat → Nat) => True) (fun ad t => va_P (sm_D w) (sm_cl w) (out h0 ad) t.heap ∧ va_D (va_A [(h0, .inr (ci, fs))] sz) (out h0 ad)) (va_A [(h0, .inr (ci, fs))] sz)) mc ms (va_A [(h0, .inr (ci, fs))] sz)
def co_Q (X : sm_VC) (mc ms : Nat) (out : (Nat → Nat) → va_W) : State → Prop := MQ (sm_be X) (va_Qv (fun (_ : Nat → Nat) => True) (fun ad t => va_P (sm_D (sm_w X)) (sm_cl (sm_w X)) (out ad) t.heap ∧ va_D (sm_fA X) (out ad)) (sm_fA X)) (sm_as X) (sm_s X) mc ms (sm_fA X)
theorem co_one {A : Nat → Prop} {a : Nat} {e : va_E} (h : A a) : va_D A [(a, e)] := by
  have key : ∀ (k : Nat) (q : Nat × va_E), [(a, e)][k]? = some q → k = 0 ∧ q = (a, e) := by
    intro k q hk
    have hz : k < 1 := (List.getElem?_eq_some_iff.mp hk).1
    have hk0 : k = 0 := by omega
    subst hk0
    exact ⟨rfl, (Option.some.inj hk).symm⟩
  refine ⟨fun i j x y hi hj _ => ?_, fun k q hk => ?_⟩
  · rw [(key i x hi).1, (key j y hj).1]
  · rw [(key k q hk).2]; exact h
theorem co_C.of {w : sm_WD} {l : Launch} {y : MethodName} {bytes : ByteArray} {nL fr lo mc ms ci : Nat} {fs : List Value} {out : Nat → (Nat → Nat) → va_W} (hy : plainName y.cls = true) (hyn : y.name = "<init>") (hlen : 1 ≤ nL)
    (body : ∀ (X : sm_VC) (h0 : Nat), sm_w X = w → sm_l X = l → co_Cx X bytes nL y.cls fr lo mc ms → co_V X (co_Q X mc ms (out h0)) nL [(h0, .inr (ci, fs))] 0 0 0 [(0, .ref h0)] []) : co_C w l y bytes nL fr lo mc ms ci fs out := by
  intro h0 sz hz0
  refine Met.ofW (cc := bytes) (maxL := nL) (ret := none) hy rfl ?_
  intro p e s m args below meth c s₁ B hml hv
  obtain ⟨rfl, hsz, hP, hK, hz, hT⟩ := hv
  subst hsz
  have hts := atoms_spec (ws := sm_ws y bytes nL none) B.pre
  have hown : s.vm.findClass y.cls = some m.cls := findClass_of_methodNamed B.named
  have K := body (p, l, e, { frames := fr, cells := mc, slots := ms, locals := lo }, s, m, [Value.ref h0].toArray, below, meth, c, w, va_A [(h0, .inr (ci, fs))] s.heap.size, 0, 0) h0 rfl rfl
    ⟨B.exec, B.bytes, hml, hown, fun w hw => hts w (List.mem_cons_of_mem _ hw), hK, fun q h => Or.inr h, fun q h => by
      rcases h with ⟨k, e, h⟩ | h
      · have hk : k < 1 := (List.getElem?_eq_some_iff.mp h).1
        rw [show k = 0 by omega] at h
        cases h
        exact hz0
      · exact Nat.le_trans hz h, B.notSynchronized, B.returns, ((name_of_methodNamed B.named B.method).1).trans hyn, ⟨⟨Nat.le_refl _, Nat.le_refl _⟩, Nat.le_refl _, Nat.le_refl _⟩, hT⟩
  rw [lg_entry_eq]
  exact K s.heap [] _ hP (co_one (Or.inl ⟨0, _, rfl⟩)) va_S.rf (lv_entry [.ref h0] hlen)
section
variable {X : sm_VC} {cc : ByteArray} {nL : Nat} {own : String} {fr lo mc ms : Nat} {Q : State → Prop} {ws : va_W} {cs sl pc : Nat} {lv : List (Nat × Value)} {st : List Value}
theorem co_ret (C : co_Cx X cc nL own fr lo mc ms) {out : (Nat → Nat) → va_W} (ad : Nat → Nat) (ho : out ad = ws) (hcs : cs ≤ mc) (hsl : sl ≤ ms) (hd : decode cc pc = .ok (.return_, 1)) : co_V X (co_Q X mc ms out) nL ws cs sl pc lv [] := by
  intro H locs ls hP hD hS hL
  subst ho
  refine W.widen hcs hsl ?_
  exact W.vret C.hx C.hb C.hr (fun t ht hW => ⟨⟨ad, rfl, trivial, by rw [ht]; exact hP, hD⟩, hS.F ht⟩) hS.2.2 hd C.hlk
theorem co_blind {w : sm_WD} {h0 sz ci : Nat} {fs : List Value} : FrameBlind (va_Pc [.ref h0] (fun U => U.heap.size = sz ∧ va_P (sm_D w) (sm_cl w) [(h0, .inr (ci, fs))] U.heap ∧ va_K (sm_D w) (sm_cl w) (sm_ty w) U ∧ sm_z w ≤ sz ∧ sm_Str w U U.heap)) := by
  intro a U g mk q
  obtain ⟨q0, q1, qP, qK, qI, qT⟩ := q
  exact ⟨q0, q1, qP, va_K.moved (u := U) (U := U.calling g mk a) (Vm.Alike.refl U.vm) qK, qI, sm_Str.same (s := U) (U := U.calling g mk a) rfl qT⟩
/-- the last cell of a world goes on to a world of its own -/
theorem co_join {A0 : Nat → Prop} {D : va_G} {cl : List vw_C} {wr w1 : va_W} {q : Nat} {e : va_E} {H H1 : Heap} (hP : va_P D cl (wr ++ [(q, e)]) H) (hD : va_D A0 (wr ++ [(q, e)])) (hk : ∀ x : Nat, x < H.size → ¬ va_A [(q, e)] H.size x → H1[x]? = H[x]?) (hF : ∀ x, va_A [(q, e)] H.size x → A0 x) (hP1 : va_P D cl w1 H1) (hD1 : va_D (va_A [(q, e)] H.size) w1) : va_P D cl (wr ++ w1) H1 ∧ va_D A0 (wr ++ w1) := by
  have hl : ∀ (k : Nat) (x : Nat × va_E), wr[k]? = some x → (wr ++ [(q, e)])[k]? = some x := fun k x hx => by
    rw [List.getElem?_append_left (List.getElem?_eq_some_iff.mp hx).1]; exact hx
  have hq : (wr ++ [(q, e)])[wr.length]? = some (q, e) := by simp
  have apart : ∀ (k : Nat) (x : Nat × va_E), wr[k]? = some x → x.1 < H.size ∧ ¬ va_A [(q, e)] H.size x.1 := by
    intro k x hx
    have h1 := (hP k x (hl k x hx)).lt
    refine ⟨h1, fun h => ?_⟩
    rcases h with ⟨k2, e2, h⟩ | h
    · have hz : k2 < 1 := (List.getElem?_eq_some_iff.mp h).1
      rw [show k2 = 0 by omega] at h
      have hxq : q = x.1 := by
        have := Option.some.inj h
        exact congrArg Prod.fst this
      have := hD.1 k wr.length x (q, e) (hl k x hx) hq hxq.symm
      have hlt := (List.getElem?_eq_some_iff.mp hx).1
      omega
    · omega
  refine ⟨va_P.app (fun k x hx => (hP k x (hl k x hx)).kept (hk x.1 (apart k x hx).1 (apart k x hx).2)) hP1, va_D.app ⟨fun i j x y hi hj hxy => hD.1 i j x y (hl i x hi) (hl j y hj) hxy, fun k x hx => hD.2 k x (hl k x hx)⟩ (hD1.weaken (fun k x _ h => hF x.1 h)) (fun i j x y hx hy hxy => ?_)⟩
  exact (apart i x hx).2 (by rw [hxy]; exact hD1.2 j y hy)
/-- new C; dup; invokespecial of a nest mate's constructor -/
theorem co_new (C : co_Cx X cc nL own fr lo mc ms) {C0 : String} {T : u_T} {N ci ix iy : Nat} {ty : Nat → FieldType} {fs : List Value} {y : MethodName} {bytes : ByteArray} {nL1 fr1 lo1 mc1 ms1 : Nat} {out : Nat → (Nat → Nat) → va_W} (hM : co_C (sm_w X) (sm_l X) y bytes nL1 fr1 lo1 mc1 ms1 ci fs out) (hin : ∀ w ∈ u_ws C0 T N, w ∈ sm_G) (hty : ∀ k, k < N → parseFieldDescriptor (T k).2.2.1 = some (ty k)) (hcl : Cond.classLink own ix C0 ∈ sm_G) (hinst : Cond.instantiable C0 N ∈ sm_G) (hini : Cond.initialized C0 ∈ sm_G) (hc : (sm_cl (sm_w X))[ci]? = some (C0, T, N)) (hfs : ∀ j, j < N → defaultValue (ty j) = vp_V fs j) (hm : sm_Mt y bytes nL1 none 0) (hnl : (own, iy, y) ∈ sm_nl) (hyi : Cond.instanceMethod y ∈ sm_G) (hyn : y.name = "<init>") (hroom : fr1 + 1 ≤ fr ∧ 8 + (nL1 + 11) + lo1 ≤ lo) (hcs : cs + 1 + mc1 ≤ mc) (hsl : sl + N + ms1 ≤ ms) (hst : (st.map fun v => v.category).sum ≤ 7) (hd1 : decode cc pc = .ok (.new ix, 3)) (hd2 : decode cc (pc + 3) = .ok (.dup, 1)) (hd3 : decode cc (pc + 3 + 1) = .ok (.invokespecial iy, 3)) (kk : ∀ (q : Nat) (ad : Nat → Nat), co_V X Q nL (ws ++ out q ad) (cs + 1 + mc1) (sl + N + ms1) (pc + 7) lv (.ref q :: st)) : co_V X Q nL ws cs sl pc lv st := by
  intro H locs ls hP hD hS hL
  have hcs1 : cs + 1 ≤ mc := by omega
  have hsl1 : sl + N ≤ ms := by omega
  refine va_new C.hx C.hb C.hts hin ty hty C.hown (C.hts _ hcl) (C.hts _ hinst) (C.hts _ hini) C.hK hP hD hS C.hAz hc hfs (Nat.le_trans hcs1 C.hR.2.1) (Nat.le_trans hsl1 C.hR.2.2) hd1 (fun q H1 hP1 hD1 hS1 => ?_)
  refine lv_dup C.hx C.hb hd2 rfl ?_
  have hq : (ws ++ [(q, Sum.inr (ci, fs))])[ws.length]? = some (q, (Sum.inr (ci, fs) : va_E)) := by simp
  have hPq : va_P (sm_D (sm_w X)) (sm_cl (sm_w X)) [(q, .inr (ci, fs))] H1 := by
    intro k x hx
    have hz : k < 1 := (List.getElem?_eq_some_iff.mp hx).1
    rw [show k = 0 by omega] at hx
    cases hx
    exact hP1 ws.length _ hq
  have hzq : sm_z (sm_w X) ≤ q := C.hz q (hD1.2 ws.length _ hq)
  have hF : ∀ x, va_A [(q, Sum.inr (ci, fs))] H1.size x → sm_fA X x := by
    intro x h
    rcases h with ⟨k, e, h⟩ | h
    · have hz : k < 1 := (List.getElem?_eq_some_iff.mp h).1
      rw [show k = 0 by omega] at h
      cases h
      exact hD1.2 ws.length _ hq
    · exact C.hAz x (Nat.le_trans hS1.1 h)
  have cw : va_CN (sm_R X) (sm_s X) (sm_as X) own iy y "SmokeGoesTo" bytes nL1 none (sm_ws y bytes nL1 none) { frames := fr1, cells := mc1, slots := ms1, locals := lo1 } mc1 ms1 0 :=
    va_cnB 0 C.hts (sm_goodws hm.1) rfl rfl rfl (C.hT.2.2.2.2.1 (own, iy, y) hnl) (C.hts _ hm.2.1) hm.2.2 ⟨Nat.le_trans hroom.1 C.hR.1.1, Nat.le_trans hroom.2 C.hR.1.2⟩
  refine va_callv (va_runIN (As := []) (rest := .ref q :: st) ⟨C.hx, C.hb, C.hml, C.hown, C.hts⟩ (hM q H1.size hzq) ⟨cw, hyn, C.hts _ hyi⟩ ⟨co_blind, fun U hU hW => ?_⟩ rfl rfl hL.1 rfl (lv_room (pc := pc + 3 + 1) (ls := ls) ?_) hd3 ⟨Nat.le_trans hcs C.hR.2.1, Nat.le_trans hsl C.hR.2.2⟩) hS1 (fun x _ h => hF x h) hF (fun ad t H2 locs2 ht hvm hp hB hz1 hk1 hS2 => ?_)
  · refine ⟨rfl, by rw [hU], by rw [hU]; exact hPq, C.hK.moved hW.alike, ?_, ?_⟩
    · rcases Nat.lt_or_ge (sm_z (sm_w X)) (H1.size + 1) with h | h
      · omega
      · exact Nat.le_trans hzq (Nat.le_of_lt (hP1 ws.length _ hq).lt)
    · rw [hU]
      exact (C.hT.warm hW).kept (fun a ha hn => hS1.2.1 a ha (fun h => hn (C.hz a h)))
  · simp only [List.map_cons, List.sum_cons]
    show 1 + _ ≤ 8
    omega
  · obtain ⟨hP2, hD2⟩ := hB
    rw [ht] at hP2
    obtain ⟨hP3, hD3⟩ := co_join hP1 hD1 hk1 hF hP2 hD2
    exact kk q ad H2 locs2 ls hP3 hD3 hS2 hL
end
