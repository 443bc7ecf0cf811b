/-! THE ROWS: an instruction over the judgement sm_V; the pure word's value h says where it goes -/
section
variable {X : sm_VC} {cc : ByteArray} {nL : Nat} {own : String} {fr lo : Nat} {ret : Option FieldType} {Q : State → Prop} {σ : sm_St} {pc : Nat} {lv : List (Nat × Value)} {st : List Value} {β : Type} {z : β}
theorem sm_sub {lv' : List (Nat × Value)} (ks : List Nat) (hl : lv_pick lv ks = lv') (kk : sm_V X Q nL σ pc lv' st) : sm_V X Q nL σ pc lv st := fun H locs ls hP hS hL => kk H locs ls hP hS (lv_sub hL ks hl)
theorem sm_iconst (C : sm_Cx X cc nL own fr lo ret) {n : Int} {v : Int32} (hd : decode cc pc = .ok (.iconst n, 1)) (hv : Int32.ofInt n = v) (kk : sm_V X Q nL σ (pc + 1) lv (.int v :: st)) : sm_V X Q nL σ pc lv st := by
  intro H locs ls hP hS hL
  exact lv_iconst C.hx C.hb hd hv (kk H locs ls hP hS hL)
theorem sm_bipush (C : sm_Cx X cc nL own fr lo ret) {n : Int} {v : Int32} (hd : decode cc pc = .ok (.bipush n, 2)) (hv : (Int8.ofInt n).toInt32 = v) (kk : sm_V X Q nL σ (pc + 2) lv (.int v :: st)) : sm_V X Q nL σ pc lv st := by
  intro H locs ls hP hS hL
  exact lv_bipush C.hx C.hb hd hv (kk H locs ls hP hS hL)
theorem sm_sipush (C : sm_Cx X cc nL own fr lo ret) {n : Int} {v : Int32} (hd : decode cc pc = .ok (.sipush n, 3)) (hv : (Int16.ofInt n).toInt32 = v) (kk : sm_V X Q nL σ (pc + 3) lv (.int v :: st)) : sm_V X Q nL σ pc lv st := by
  intro H locs ls hP hS hL
  exact lv_sipush C.hx C.hb hd hv (kk H locs ls hP hS hL)
theorem sm_lconst (C : sm_Cx X cc nL own fr lo ret) {n : Fin 2} {v : Int64} (hd : decode cc pc = .ok (.lconst n, 1)) (hv : Int64.ofNat (n : Nat) = v) (kk : sm_V X Q nL σ (pc + 1) lv (.long v :: st)) : sm_V X Q nL σ pc lv st := by
  intro H locs ls hP hS hL
  exact lv_lconst C.hx C.hb hd hv (kk H locs ls hP hS hL)
theorem sm_ldc (C : sm_Cx X cc nL own fr lo ret) {ix : Nat} {v : Int32} (hc : Cond.constant own ix v ∈ sm_G) (hd : decode cc pc = .ok (.ldc ix, 2)) (kk : sm_V X Q nL σ (pc + 2) lv (.int v :: st)) : sm_V X Q nL σ pc lv st := by
  intro H locs ls hP hS hL
  exact lv_ldc C.hx C.hb C.hown (C.hts _ hc) hd (kk H locs ls hP hS hL)
theorem sm_ldcw (C : sm_Cx X cc nL own fr lo ret) {ix : Nat} {v : Int32} (hc : Cond.constant own ix v ∈ sm_G) (hd : decode cc pc = .ok (.ldc_w ix, 3)) (kk : sm_V X Q nL σ (pc + 3) lv (.int v :: st)) : sm_V X Q nL σ pc lv st := by
  intro H locs ls hP hS hL
  exact lv_ldcw C.hx C.hb C.hown (C.hts _ hc) hd (kk H locs ls hP hS hL)
theorem sm_ldc2 (C : sm_Cx X cc nL own fr lo ret) {ix : Nat} {v : Int64} (hc : Cond.constantLong own ix v ∈ sm_G) (hd : decode cc pc = .ok (.ldc2_w ix, 3)) (kk : sm_V X Q nL σ (pc + 3) lv (.long v :: st)) : sm_V X Q nL σ pc lv st := by
  intro H locs ls hP hS hL
  exact lv_ldc2 C.hx C.hb C.hown (C.hts _ hc) hd (kk H locs ls hP hS hL)
theorem sm_null (C : sm_Cx X cc nL own fr lo ret)  (hd : decode cc pc = .ok (.aconst_null, 1)) (kk : sm_V X Q nL σ (pc + 1) lv (.null :: st)) : sm_V X Q nL σ pc lv st := by
  intro H locs ls hP hS hL
  exact lv_null C.hx C.hb hd (kk H locs ls hP hS hL)
theorem sm_ldcS (C : sm_Cx X cc nL own fr lo ret) {ix i : Nat} (hi : i < 3) (ho : (sm_tx i).1 = own) (hj : (sm_tx i).2.1 = ix) (hd : decode cc pc = .ok (.ldc ix, 2)) (kk : sm_V X Q nL σ (pc + 2) lv (.ref (sm_aK (sm_w X) i) :: st)) : sm_V X Q nL σ pc lv st := by
  intro H locs ls hP hS hL
  subst hj
  subst ho
  exact va_ldcS C.hx C.hb C.hown (C.hT.2.2.2.1 i hi) hd (kk H locs ls hP hS hL)
theorem sm_iload_n (C : sm_Cx X cc nL own fr lo ret) {n : Fin 4} {i : Nat} {x : Int32} (k : Nat) (hd : decode cc pc = .ok (.iload_n n, 1)) (hi : (n : Nat) = i) (hk : lv[k]? = some (i, .int x)) (kk : sm_V X Q nL σ (pc + 1) lv (.int x :: st)) : sm_V X Q nL σ pc lv st := by
  intro H locs ls hP hS hL
  exact lv_iload_n C.hx C.hb hd hi (lv_at hL k hk) (kk H locs ls hP hS hL)
theorem sm_iload (C : sm_Cx X cc nL own fr lo ret) {i : Nat} {x : Int32} (k : Nat) (hd : decode cc pc = .ok (.iload i, 2)) (hk : lv[k]? = some (i, .int x)) (kk : sm_V X Q nL σ (pc + 2) lv (.int x :: st)) : sm_V X Q nL σ pc lv st := by
  intro H locs ls hP hS hL
  exact lv_iload C.hx C.hb hd (lv_at hL k hk) (kk H locs ls hP hS hL)
theorem sm_lload_n (C : sm_Cx X cc nL own fr lo ret) {n : Fin 4} {i : Nat} {x : Int64} (k : Nat) (hd : decode cc pc = .ok (.lload_n n, 1)) (hi : (n : Nat) = i) (hk : lv[k]? = some (i, .long x)) (kk : sm_V X Q nL σ (pc + 1) lv (.long x :: st)) : sm_V X Q nL σ pc lv st := by
  intro H locs ls hP hS hL
  exact lv_lload_n C.hx C.hb hd hi (lv_at hL k hk) (kk H locs ls hP hS hL)
theorem sm_lload (C : sm_Cx X cc nL own fr lo ret) {i : Nat} {x : Int64} (k : Nat) (hd : decode cc pc = .ok (.lload i, 2)) (hk : lv[k]? = some (i, .long x)) (kk : sm_V X Q nL σ (pc + 2) lv (.long x :: st)) : sm_V X Q nL σ pc lv st := by
  intro H locs ls hP hS hL
  exact lv_lload C.hx C.hb hd (lv_at hL k hk) (kk H locs ls hP hS hL)
theorem sm_aload_n (C : sm_Cx X cc nL own fr lo ret) {n : Fin 4} {i : Nat} {x : Nat} (k : Nat) (hd : decode cc pc = .ok (.aload_n n, 1)) (hi : (n : Nat) = i) (hk : lv[k]? = some (i, .ref x)) (kk : sm_V X Q nL σ (pc + 1) lv (.ref x :: st)) : sm_V X Q nL σ pc lv st := by
  intro H locs ls hP hS hL
  exact lv_aload_n C.hx C.hb hd hi (lv_at hL k hk) (kk H locs ls hP hS hL)
theorem sm_aload (C : sm_Cx X cc nL own fr lo ret) {i : Nat} {x : Nat} (k : Nat) (hd : decode cc pc = .ok (.aload i, 2)) (hk : lv[k]? = some (i, .ref x)) (kk : sm_V X Q nL σ (pc + 2) lv (.ref x :: st)) : sm_V X Q nL σ pc lv st := by
  intro H locs ls hP hS hL
  exact lv_aload C.hx C.hb hd (lv_at hL k hk) (kk H locs ls hP hS hL)
theorem sm_aload_nq (C : sm_Cx X cc nL own fr lo ret) {n : Fin 4} {i : Nat} {r : Option Nat} (k : Nat) (hd : decode cc pc = .ok (.aload_n n, 1)) (hi : (n : Nat) = i) (hk : lv[k]? = some (i, va_rf r)) (kk : sm_V X Q nL σ (pc + 1) lv (va_rf r :: st)) : sm_V X Q nL σ pc lv st := by
  intro H locs ls hP hS hL
  cases r with
  | none => exact lv_aload_nN C.hx C.hb hd hi (lv_at hL k hk) (kk H locs ls hP hS hL)
  | some a => exact lv_aload_n C.hx C.hb hd hi (lv_at hL k hk) (kk H locs ls hP hS hL)
theorem sm_aloadq (C : sm_Cx X cc nL own fr lo ret) {i : Nat} {r : Option Nat} (k : Nat) (hd : decode cc pc = .ok (.aload i, 2)) (hk : lv[k]? = some (i, va_rf r)) (kk : sm_V X Q nL σ (pc + 2) lv (va_rf r :: st)) : sm_V X Q nL σ pc lv st := by
  intro H locs ls hP hS hL
  cases r with
  | none => exact lv_aloadN C.hx C.hb hd (lv_at hL k hk) (kk H locs ls hP hS hL)
  | some a => exact lv_aload C.hx C.hb hd (lv_at hL k hk) (kk H locs ls hP hS hL)
theorem sm_istore_n (C : sm_Cx X cc nL own fr lo ret) {n : Fin 4} {i : Nat} {x : Int32} {lv' : List (Nat × Value)} (hd : decode cc pc = .ok (.istore_n n, 1)) (hi : (n : Nat) = i) (hn : i < nL) (hl : (i, Value.int x) :: lv.filter (fun q => !(q.1 == i) && !(q.1 + 1 == i && q.2.category == 2)) = lv') (kk : sm_V X Q nL σ (pc + 1) lv' st) : sm_V X Q nL σ pc lv (.int x :: st) := by
  intro H locs ls hP hS hL
  exact lv_istore_n C.hx C.hb hd hi hL hn hl fun ls hL => kk H locs ls hP hS hL
theorem sm_istore (C : sm_Cx X cc nL own fr lo ret) {i : Nat} {x : Int32} {lv' : List (Nat × Value)} (hd : decode cc pc = .ok (.istore i, 2)) (hn : i < nL) (hl : (i, Value.int x) :: lv.filter (fun q => !(q.1 == i) && !(q.1 + 1 == i && q.2.category == 2)) = lv') (kk : sm_V X Q nL σ (pc + 2) lv' st) : sm_V X Q nL σ pc lv (.int x :: st) := by
  intro H locs ls hP hS hL
  exact lv_istore C.hx C.hb hd hL hn hl fun ls hL => kk H locs ls hP hS hL
theorem sm_lstore_n (C : sm_Cx X cc nL own fr lo ret) {n : Fin 4} {i : Nat} {x : Int64} {lv' : List (Nat × Value)} (hd : decode cc pc = .ok (.lstore_n n, 1)) (hi : (n : Nat) = i) (hn : i + 1 < nL) (hl : (i, Value.long x) :: lv.filter (fun q => !(q.1 == i) && (!(q.1 == i + 1) && !(q.1 + 1 == i && q.2.category == 2))) = lv') (kk : sm_V X Q nL σ (pc + 1) lv' st) : sm_V X Q nL σ pc lv (.long x :: st) := by
  intro H locs ls hP hS hL
  exact lv_lstore_n C.hx C.hb hd hi hL hn hl fun ls hL => kk H locs ls hP hS hL
theorem sm_lstore (C : sm_Cx X cc nL own fr lo ret) {i : Nat} {x : Int64} {lv' : List (Nat × Value)} (hd : decode cc pc = .ok (.lstore i, 2)) (hn : i + 1 < nL) (hl : (i, Value.long x) :: lv.filter (fun q => !(q.1 == i) && (!(q.1 == i + 1) && !(q.1 + 1 == i && q.2.category == 2))) = lv') (kk : sm_V X Q nL σ (pc + 2) lv' st) : sm_V X Q nL σ pc lv (.long x :: st) := by
  intro H locs ls hP hS hL
  exact lv_lstore C.hx C.hb hd hL hn hl fun ls hL => kk H locs ls hP hS hL
theorem sm_astore_n (C : sm_Cx X cc nL own fr lo ret) {n : Fin 4} {i : Nat} {x : Nat} {lv' : List (Nat × Value)} (hd : decode cc pc = .ok (.astore_n n, 1)) (hi : (n : Nat) = i) (hn : i < nL) (hl : (i, Value.ref x) :: lv.filter (fun q => !(q.1 == i) && !(q.1 + 1 == i && q.2.category == 2)) = lv') (kk : sm_V X Q nL σ (pc + 1) lv' st) : sm_V X Q nL σ pc lv (.ref x :: st) := by
  intro H locs ls hP hS hL
  exact lv_astore_n C.hx C.hb hd hi hL hn hl fun ls hL => kk H locs ls hP hS hL
theorem sm_astore (C : sm_Cx X cc nL own fr lo ret) {i : Nat} {x : Nat} {lv' : List (Nat × Value)} (hd : decode cc pc = .ok (.astore i, 2)) (hn : i < nL) (hl : (i, Value.ref x) :: lv.filter (fun q => !(q.1 == i) && !(q.1 + 1 == i && q.2.category == 2)) = lv') (kk : sm_V X Q nL σ (pc + 2) lv' st) : sm_V X Q nL σ pc lv (.ref x :: st) := by
  intro H locs ls hP hS hL
  exact lv_astore C.hx C.hb hd hL hn hl fun ls hL => kk H locs ls hP hS hL
theorem sm_iinc (C : sm_Cx X cc nL own fr lo ret) {i : Nat} {n : Int} {x : Int32} {lv' : Int32 → List (Nat × Value)} {f : Int32 → Option β} (k : Nat) (hd : decode cc pc = .ok (.iinc i n, 3)) (hk : lv[k]? = some (i, .int x)) (hn : i < nL) (hl : ∀ v : Int32, (i, Value.int v) :: lv.filter (fun q => !(q.1 == i) && !(q.1 + 1 == i && q.2.category == 2)) = lv' v) (h : sm_b (x + Int32.ofInt n) f = some z) (kk : ∀ v, f v = some z → sm_V X Q nL σ (pc + 3) (lv' v) st) : sm_V X Q nL σ pc lv st := by
  intro H locs ls hP hS hL
  exact lv_iinc C.hx C.hb hd hL hk rfl hn (hl _) fun ls hL => kk _ h H locs ls hP hS hL
theorem sm_iadd (C : sm_Cx X cc nL own fr lo ret) {x y : Int32} {f : Int32 → Option β} (hd : decode cc pc = .ok (.iadd, 1))  (h : sm_b (x + y) f = some z) (kk : ∀ v, f v = some z → sm_V X Q nL σ (pc + 1) lv (.int v :: st)) : sm_V X Q nL σ pc lv (.int y :: .int x :: st) := by
  intro H locs ls hP hS hL
  exact lv_iadd C.hx C.hb hd  (kk _ h H locs ls hP hS hL)
theorem sm_isub (C : sm_Cx X cc nL own fr lo ret) {x y : Int32} {f : Int32 → Option β} (hd : decode cc pc = .ok (.isub, 1))  (h : sm_b (x - y) f = some z) (kk : ∀ v, f v = some z → sm_V X Q nL σ (pc + 1) lv (.int v :: st)) : sm_V X Q nL σ pc lv (.int y :: .int x :: st) := by
  intro H locs ls hP hS hL
  exact lv_isub C.hx C.hb hd  (kk _ h H locs ls hP hS hL)
theorem sm_imul (C : sm_Cx X cc nL own fr lo ret) {x y : Int32} {f : Int32 → Option β} (hd : decode cc pc = .ok (.imul, 1))  (h : sm_b (x * y) f = some z) (kk : ∀ v, f v = some z → sm_V X Q nL σ (pc + 1) lv (.int v :: st)) : sm_V X Q nL σ pc lv (.int y :: .int x :: st) := by
  intro H locs ls hP hS hL
  exact lv_imul C.hx C.hb hd  (kk _ h H locs ls hP hS hL)
theorem sm_iand (C : sm_Cx X cc nL own fr lo ret) {x y : Int32} {f : Int32 → Option β} (hd : decode cc pc = .ok (.iand, 1))  (h : sm_b (x &&& y) f = some z) (kk : ∀ v, f v = some z → sm_V X Q nL σ (pc + 1) lv (.int v :: st)) : sm_V X Q nL σ pc lv (.int y :: .int x :: st) := by
  intro H locs ls hP hS hL
  exact lv_iand C.hx C.hb hd  (kk _ h H locs ls hP hS hL)
theorem sm_ior (C : sm_Cx X cc nL own fr lo ret) {x y : Int32} {f : Int32 → Option β} (hd : decode cc pc = .ok (.ior, 1))  (h : sm_b (x ||| y) f = some z) (kk : ∀ v, f v = some z → sm_V X Q nL σ (pc + 1) lv (.int v :: st)) : sm_V X Q nL σ pc lv (.int y :: .int x :: st) := by
  intro H locs ls hP hS hL
  exact lv_ior C.hx C.hb hd  (kk _ h H locs ls hP hS hL)
theorem sm_ixor (C : sm_Cx X cc nL own fr lo ret) {x y : Int32} {f : Int32 → Option β} (hd : decode cc pc = .ok (.ixor, 1))  (h : sm_b (x ^^^ y) f = some z) (kk : ∀ v, f v = some z → sm_V X Q nL σ (pc + 1) lv (.int v :: st)) : sm_V X Q nL σ pc lv (.int y :: .int x :: st) := by
  intro H locs ls hP hS hL
  exact lv_ixor C.hx C.hb hd  (kk _ h H locs ls hP hS hL)
theorem sm_ladd (C : sm_Cx X cc nL own fr lo ret) {x y : Int64} {f : Int64 → Option β} (hd : decode cc pc = .ok (.ladd, 1))  (h : sm_b (x + y) f = some z) (kk : ∀ v, f v = some z → sm_V X Q nL σ (pc + 1) lv (.long v :: st)) : sm_V X Q nL σ pc lv (.long y :: .long x :: st) := by
  intro H locs ls hP hS hL
  exact lv_ladd C.hx C.hb hd  (kk _ h H locs ls hP hS hL)
theorem sm_lsub (C : sm_Cx X cc nL own fr lo ret) {x y : Int64} {f : Int64 → Option β} (hd : decode cc pc = .ok (.lsub, 1))  (h : sm_b (x - y) f = some z) (kk : ∀ v, f v = some z → sm_V X Q nL σ (pc + 1) lv (.long v :: st)) : sm_V X Q nL σ pc lv (.long y :: .long x :: st) := by
  intro H locs ls hP hS hL
  exact lv_lsub C.hx C.hb hd  (kk _ h H locs ls hP hS hL)
theorem sm_lmul (C : sm_Cx X cc nL own fr lo ret) {x y : Int64} {f : Int64 → Option β} (hd : decode cc pc = .ok (.lmul, 1))  (h : sm_b (x * y) f = some z) (kk : ∀ v, f v = some z → sm_V X Q nL σ (pc + 1) lv (.long v :: st)) : sm_V X Q nL σ pc lv (.long y :: .long x :: st) := by
  intro H locs ls hP hS hL
  exact lv_lmul C.hx C.hb hd  (kk _ h H locs ls hP hS hL)
theorem sm_idiv (C : sm_Cx X cc nL own fr lo ret) {x y : Int32} {f : Int32 → Option β} (hd : decode cc pc = .ok (.idiv, 1)) (h : sm_g (!decide (y = 0)) (sm_b (x / y) f) = some z) (kk : ∀ v, f v = some z → sm_V X Q nL σ (pc + 1) lv (.int v :: st)) : sm_V X Q nL σ pc lv (.int y :: .int x :: st) := by
  intro H locs ls hP hS hL
  obtain ⟨h1, h2⟩ := sm_gE h
  exact lv_idiv C.hx C.hb hd (by simpa using h1) (kk _ h2 H locs ls hP hS hL)
theorem sm_irem (C : sm_Cx X cc nL own fr lo ret) {x y : Int32} {f : Int32 → Option β} (hd : decode cc pc = .ok (.irem, 1)) (h : sm_g (!decide (y = 0)) (sm_b (x - x / y * y) f) = some z) (kk : ∀ v, f v = some z → sm_V X Q nL σ (pc + 1) lv (.int v :: st)) : sm_V X Q nL σ pc lv (.int y :: .int x :: st) := by
  intro H locs ls hP hS hL
  obtain ⟨h1, h2⟩ := sm_gE h
  exact lv_irem C.hx C.hb hd (by simpa using h1) (kk _ h2 H locs ls hP hS hL)
theorem sm_ldiv (C : sm_Cx X cc nL own fr lo ret) {x y : Int64} {f : Int64 → Option β} (hd : decode cc pc = .ok (.ldiv, 1)) (h : sm_g (!decide (y = 0)) (sm_b (x / y) f) = some z) (kk : ∀ v, f v = some z → sm_V X Q nL σ (pc + 1) lv (.long v :: st)) : sm_V X Q nL σ pc lv (.long y :: .long x :: st) := by
  intro H locs ls hP hS hL
  obtain ⟨h1, h2⟩ := sm_gE h
  exact lv_ldiv C.hx C.hb hd (by simpa using h1) (kk _ h2 H locs ls hP hS hL)
theorem sm_lrem (C : sm_Cx X cc nL own fr lo ret) {x y : Int64} {f : Int64 → Option β} (hd : decode cc pc = .ok (.lrem, 1)) (h : sm_g (!decide (y = 0)) (sm_b (x - x / y * y) f) = some z) (kk : ∀ v, f v = some z → sm_V X Q nL σ (pc + 1) lv (.long v :: st)) : sm_V X Q nL σ pc lv (.long y :: .long x :: st) := by
  intro H locs ls hP hS hL
  obtain ⟨h1, h2⟩ := sm_gE h
  exact lv_lrem C.hx C.hb hd (by simpa using h1) (kk _ h2 H locs ls hP hS hL)
theorem sm_ineg (C : sm_Cx X cc nL own fr lo ret) {x : Int32} {f : Int32 → Option β} (hd : decode cc pc = .ok (.ineg, 1)) (h : sm_b (-x) f = some z) (kk : ∀ v, f v = some z → sm_V X Q nL σ (pc + 1) lv (.int v :: st)) : sm_V X Q nL σ pc lv (.int x :: st) := by
  intro H locs ls hP hS hL
  exact lv_ineg C.hx C.hb hd (kk _ h H locs ls hP hS hL)
theorem sm_ishl (C : sm_Cx X cc nL own fr lo ret) {x y : Int32} {f : Int32 → Option β} (hd : decode cc pc = .ok (.ishl, 1)) (h : sm_b (x <<< (y &&& 31)) f = some z) (kk : ∀ v, f v = some z → sm_V X Q nL σ (pc + 1) lv (.int v :: st)) : sm_V X Q nL σ pc lv (.int y :: .int x :: st) := by
  intro H locs ls hP hS hL
  exact lv_ishl C.hx C.hb hd (kk _ h H locs ls hP hS hL)
theorem sm_ishr (C : sm_Cx X cc nL own fr lo ret) {x y : Int32} {f : Int32 → Option β} (hd : decode cc pc = .ok (.ishr, 1)) (h : sm_b (x >>> (y &&& 31)) f = some z) (kk : ∀ v, f v = some z → sm_V X Q nL σ (pc + 1) lv (.int v :: st)) : sm_V X Q nL σ pc lv (.int y :: .int x :: st) := by
  intro H locs ls hP hS hL
  exact lv_ishr C.hx C.hb hd (kk _ h H locs ls hP hS hL)
theorem sm_iushr (C : sm_Cx X cc nL own fr lo ret) {x y : Int32} {f : Int32 → Option β} (hd : decode cc pc = .ok (.iushr, 1)) (h : sm_b ((x.toUInt32 >>> (y.toUInt32 &&& Int32.toUInt32 31)).toInt32) f = some z) (kk : ∀ v, f v = some z → sm_V X Q nL σ (pc + 1) lv (.int v :: st)) : sm_V X Q nL σ pc lv (.int y :: .int x :: st) := by
  intro H locs ls hP hS hL
  exact lv_iushr C.hx C.hb hd rfl (kk _ h H locs ls hP hS hL)
theorem sm_i2l (C : sm_Cx X cc nL own fr lo ret) {x : Int32} {f : Int64 → Option β} (hd : decode cc pc = .ok (.i2l, 1)) (h : sm_b (x.toInt64) f = some z) (kk : ∀ v, f v = some z → sm_V X Q nL σ (pc + 1) lv (.long v :: st)) : sm_V X Q nL σ pc lv (.int x :: st) := by
  intro H locs ls hP hS hL
  exact lv_i2l C.hx C.hb hd rfl (kk _ h H locs ls hP hS hL)
theorem sm_l2i (C : sm_Cx X cc nL own fr lo ret) {x : Int64} {f : Int32 → Option β} (hd : decode cc pc = .ok (.l2i, 1)) (h : sm_b (x.toInt32) f = some z) (kk : ∀ v, f v = some z → sm_V X Q nL σ (pc + 1) lv (.int v :: st)) : sm_V X Q nL σ pc lv (.long x :: st) := by
  intro H locs ls hP hS hL
  exact lv_l2i C.hx C.hb hd rfl (kk _ h H locs ls hP hS hL)
theorem sm_i2b (C : sm_Cx X cc nL own fr lo ret) {x : Int32} {f : Int32 → Option β} (hd : decode cc pc = .ok (.i2b, 1)) (h : sm_b (x.toInt8.toInt32) f = some z) (kk : ∀ v, f v = some z → sm_V X Q nL σ (pc + 1) lv (.int v :: st)) : sm_V X Q nL σ pc lv (.int x :: st) := by
  intro H locs ls hP hS hL
  exact lv_i2b C.hx C.hb hd rfl (kk _ h H locs ls hP hS hL)
theorem sm_i2s (C : sm_Cx X cc nL own fr lo ret) {x : Int32} {f : Int32 → Option β} (hd : decode cc pc = .ok (.i2s, 1)) (h : sm_b (x.toInt16.toInt32) f = some z) (kk : ∀ v, f v = some z → sm_V X Q nL σ (pc + 1) lv (.int v :: st)) : sm_V X Q nL σ pc lv (.int x :: st) := by
  intro H locs ls hP hS hL
  exact lv_i2s C.hx C.hb hd rfl (kk _ h H locs ls hP hS hL)
theorem sm_i2c (C : sm_Cx X cc nL own fr lo ret) {x : Int32} {f : Int32 → Option β} (hd : decode cc pc = .ok (.i2c, 1)) (h : sm_b ((x.toUInt32 % 65536).toInt32) f = some z) (kk : ∀ v, f v = some z → sm_V X Q nL σ (pc + 1) lv (.int v :: st)) : sm_V X Q nL σ pc lv (.int x :: st) := by
  intro H locs ls hP hS hL
  exact lv_i2c C.hx C.hb hd rfl (kk _ h H locs ls hP hS hL)
theorem sm_lcmp (C : sm_Cx X cc nL own fr lo ret) {x y : Int64} {f : Int32 → Option β} (hd : decode cc pc = .ok (.lcmp, 1)) (h : sm_b (lg_cmp x y) f = some z) (kk : ∀ v, f v = some z → sm_V X Q nL σ (pc + 1) lv (.int v :: st)) : sm_V X Q nL σ pc lv (.long y :: .long x :: st) := by
  intro H locs ls hP hS hL
  exact W.lcmp C.hx C.hb hd (kk _ h H locs ls hP hS hL)
theorem sm_dup (C : sm_Cx X cc nL own fr lo ret) {a : Value} (hd : decode cc pc = .ok (.dup, 1)) (ha : a.category = 1) (kk : sm_V X Q nL σ (pc + 1) lv (a :: a :: st)) : sm_V X Q nL σ pc lv (a :: st) := by
  intro H locs ls hP hS hL
  exact lv_dup C.hx C.hb hd ha (kk H locs ls hP hS hL)
theorem sm_pop (C : sm_Cx X cc nL own fr lo ret) {a : Value} (hd : decode cc pc = .ok (.pop, 1)) (ha : a.category = 1) (kk : sm_V X Q nL σ (pc + 1) lv st) : sm_V X Q nL σ pc lv (a :: st) := by
  intro H locs ls hP hS hL
  exact lv_pop C.hx C.hb hd ha (kk H locs ls hP hS hL)
theorem sm_dup_x1 (C : sm_Cx X cc nL own fr lo ret) {a b : Value} (hd : decode cc pc = .ok (.dup_x1, 1)) (ha : a.category = 1) (hb : b.category = 1) (kk : sm_V X Q nL σ (pc + 1) lv (a :: b :: a :: st)) : sm_V X Q nL σ pc lv (a :: b :: st) := by
  intro H locs ls hP hS hL
  exact lv_dup_x1 C.hx C.hb hd ha hb (kk H locs ls hP hS hL)
theorem sm_dup2 (C : sm_Cx X cc nL own fr lo ret) {a b : Value} (hd : decode cc pc = .ok (.dup2, 1)) (ha : a.category = 1) (hb : b.category = 1) (kk : sm_V X Q nL σ (pc + 1) lv (a :: b :: a :: b :: st)) : sm_V X Q nL σ pc lv (a :: b :: st) := by
  intro H locs ls hP hS hL
  exact lv_dup2_11 C.hx C.hb hd ha hb (kk H locs ls hP hS hL)
theorem sm_if_eq (C : sm_Cx X cc nL own fr lo ret) {x : Int32} {off : Int} {A B : Option β} (tgt : Nat) (hd : decode cc pc = .ok (.ifCond .eq off, 3)) (ht : (pc : Int) + off = (tgt : Int)) (h : (if x = 0 then A else B) = some z) (kt : A = some z → sm_V X Q nL σ tgt lv st) (kf : B = some z → sm_V X Q nL σ (pc + 3) lv st) : sm_V X Q nL σ pc lv (.int x :: st) := by
  intro H locs ls hP hS hL
  refine lv_if_eq C.hx C.hb hd ht (fun q => ?_) (fun q => ?_)
  · rw [if_pos q] at h
    exact kt h H locs ls hP hS hL
  · rw [if_neg q] at h
    exact kf h H locs ls hP hS hL
theorem sm_icmp_eq (C : sm_Cx X cc nL own fr lo ret) {x y : Int32} {off : Int} {A B : Option β} (tgt : Nat) (hd : decode cc pc = .ok (.if_icmp .eq off, 3)) (ht : (pc : Int) + off = (tgt : Int)) (h : (if x = y then A else B) = some z) (kt : A = some z → sm_V X Q nL σ tgt lv st) (kf : B = some z → sm_V X Q nL σ (pc + 3) lv st) : sm_V X Q nL σ pc lv (.int y :: .int x :: st) := by
  intro H locs ls hP hS hL
  refine lv_icmp_eq C.hx C.hb hd ht (fun q => ?_) (fun q => ?_)
  · rw [if_pos q] at h
    exact kt h H locs ls hP hS hL
  · rw [if_neg q] at h
    exact kf h H locs ls hP hS hL
theorem sm_if_ne (C : sm_Cx X cc nL own fr lo ret) {x : Int32} {off : Int} {A B : Option β} (tgt : Nat) (hd : decode cc pc = .ok (.ifCond .ne off, 3)) (ht : (pc : Int) + off = (tgt : Int)) (h : (if x = 0 then A else B) = some z) (kt : B = some z → sm_V X Q nL σ tgt lv st) (kf : A = some z → sm_V X Q nL σ (pc + 3) lv st) : sm_V X Q nL σ pc lv (.int x :: st) := by
  intro H locs ls hP hS hL
  refine lv_if_ne C.hx C.hb hd ht (fun q => ?_) (fun q => ?_)
  · rw [if_neg q] at h
    exact kt h H locs ls hP hS hL
  · rw [if_pos q] at h
    exact kf h H locs ls hP hS hL
theorem sm_icmp_ne (C : sm_Cx X cc nL own fr lo ret) {x y : Int32} {off : Int} {A B : Option β} (tgt : Nat) (hd : decode cc pc = .ok (.if_icmp .ne off, 3)) (ht : (pc : Int) + off = (tgt : Int)) (h : (if x = y then A else B) = some z) (kt : B = some z → sm_V X Q nL σ tgt lv st) (kf : A = some z → sm_V X Q nL σ (pc + 3) lv st) : sm_V X Q nL σ pc lv (.int y :: .int x :: st) := by
  intro H locs ls hP hS hL
  refine lv_icmp_ne C.hx C.hb hd ht (fun q => ?_) (fun q => ?_)
  · rw [if_neg q] at h
    exact kt h H locs ls hP hS hL
  · rw [if_pos q] at h
    exact kf h H locs ls hP hS hL
theorem sm_if_lt (C : sm_Cx X cc nL own fr lo ret) {x : Int32} {off : Int} {A B : Option β} (tgt : Nat) (hd : decode cc pc = .ok (.ifCond .lt off, 3)) (ht : (pc : Int) + off = (tgt : Int)) (h : (if x < 0 then A else B) = some z) (kt : A = some z → sm_V X Q nL σ tgt lv st) (kf : B = some z → sm_V X Q nL σ (pc + 3) lv st) : sm_V X Q nL σ pc lv (.int x :: st) := by
  intro H locs ls hP hS hL
  refine lv_if_lt C.hx C.hb hd ht (fun q => ?_) (fun q => ?_)
  · rw [if_pos q] at h
    exact kt h H locs ls hP hS hL
  · rw [if_neg q] at h
    exact kf h H locs ls hP hS hL
theorem sm_icmp_lt (C : sm_Cx X cc nL own fr lo ret) {x y : Int32} {off : Int} {A B : Option β} (tgt : Nat) (hd : decode cc pc = .ok (.if_icmp .lt off, 3)) (ht : (pc : Int) + off = (tgt : Int)) (h : (if x < y then A else B) = some z) (kt : A = some z → sm_V X Q nL σ tgt lv st) (kf : B = some z → sm_V X Q nL σ (pc + 3) lv st) : sm_V X Q nL σ pc lv (.int y :: .int x :: st) := by
  intro H locs ls hP hS hL
  refine lv_icmp_lt C.hx C.hb hd ht (fun q => ?_) (fun q => ?_)
  · rw [if_pos q] at h
    exact kt h H locs ls hP hS hL
  · rw [if_neg q] at h
    exact kf h H locs ls hP hS hL
theorem sm_if_ge (C : sm_Cx X cc nL own fr lo ret) {x : Int32} {off : Int} {A B : Option β} (tgt : Nat) (hd : decode cc pc = .ok (.ifCond .ge off, 3)) (ht : (pc : Int) + off = (tgt : Int)) (h : (if 0 ≤ x then A else B) = some z) (kt : A = some z → sm_V X Q nL σ tgt lv st) (kf : B = some z → sm_V X Q nL σ (pc + 3) lv st) : sm_V X Q nL σ pc lv (.int x :: st) := by
  intro H locs ls hP hS hL
  refine lv_if_ge C.hx C.hb hd ht (fun q => ?_) (fun q => ?_)
  · rw [if_pos q] at h
    exact kt h H locs ls hP hS hL
  · rw [if_neg q] at h
    exact kf h H locs ls hP hS hL
theorem sm_icmp_ge (C : sm_Cx X cc nL own fr lo ret) {x y : Int32} {off : Int} {A B : Option β} (tgt : Nat) (hd : decode cc pc = .ok (.if_icmp .ge off, 3)) (ht : (pc : Int) + off = (tgt : Int)) (h : (if y ≤ x then A else B) = some z) (kt : A = some z → sm_V X Q nL σ tgt lv st) (kf : B = some z → sm_V X Q nL σ (pc + 3) lv st) : sm_V X Q nL σ pc lv (.int y :: .int x :: st) := by
  intro H locs ls hP hS hL
  refine lv_icmp_ge C.hx C.hb hd ht (fun q => ?_) (fun q => ?_)
  · rw [if_pos q] at h
    exact kt h H locs ls hP hS hL
  · rw [if_neg q] at h
    exact kf h H locs ls hP hS hL
theorem sm_if_gt (C : sm_Cx X cc nL own fr lo ret) {x : Int32} {off : Int} {A B : Option β} (tgt : Nat) (hd : decode cc pc = .ok (.ifCond .gt off, 3)) (ht : (pc : Int) + off = (tgt : Int)) (h : (if 0 < x then A else B) = some z) (kt : A = some z → sm_V X Q nL σ tgt lv st) (kf : B = some z → sm_V X Q nL σ (pc + 3) lv st) : sm_V X Q nL σ pc lv (.int x :: st) := by
  intro H locs ls hP hS hL
  refine lv_if_gt C.hx C.hb hd ht (fun q => ?_) (fun q => ?_)
  · rw [if_pos q] at h
    exact kt h H locs ls hP hS hL
  · rw [if_neg q] at h
    exact kf h H locs ls hP hS hL
theorem sm_icmp_gt (C : sm_Cx X cc nL own fr lo ret) {x y : Int32} {off : Int} {A B : Option β} (tgt : Nat) (hd : decode cc pc = .ok (.if_icmp .gt off, 3)) (ht : (pc : Int) + off = (tgt : Int)) (h : (if y < x then A else B) = some z) (kt : A = some z → sm_V X Q nL σ tgt lv st) (kf : B = some z → sm_V X Q nL σ (pc + 3) lv st) : sm_V X Q nL σ pc lv (.int y :: .int x :: st) := by
  intro H locs ls hP hS hL
  refine lv_icmp_gt C.hx C.hb hd ht (fun q => ?_) (fun q => ?_)
  · rw [if_pos q] at h
    exact kt h H locs ls hP hS hL
  · rw [if_neg q] at h
    exact kf h H locs ls hP hS hL
theorem sm_if_le (C : sm_Cx X cc nL own fr lo ret) {x : Int32} {off : Int} {A B : Option β} (tgt : Nat) (hd : decode cc pc = .ok (.ifCond .le off, 3)) (ht : (pc : Int) + off = (tgt : Int)) (h : (if x ≤ 0 then A else B) = some z) (kt : A = some z → sm_V X Q nL σ tgt lv st) (kf : B = some z → sm_V X Q nL σ (pc + 3) lv st) : sm_V X Q nL σ pc lv (.int x :: st) := by
  intro H locs ls hP hS hL
  refine lv_if_le C.hx C.hb hd ht (fun q => ?_) (fun q => ?_)
  · rw [if_pos q] at h
    exact kt h H locs ls hP hS hL
  · rw [if_neg q] at h
    exact kf h H locs ls hP hS hL
theorem sm_icmp_le (C : sm_Cx X cc nL own fr lo ret) {x y : Int32} {off : Int} {A B : Option β} (tgt : Nat) (hd : decode cc pc = .ok (.if_icmp .le off, 3)) (ht : (pc : Int) + off = (tgt : Int)) (h : (if x ≤ y then A else B) = some z) (kt : A = some z → sm_V X Q nL σ tgt lv st) (kf : B = some z → sm_V X Q nL σ (pc + 3) lv st) : sm_V X Q nL σ pc lv (.int y :: .int x :: st) := by
  intro H locs ls hP hS hL
  refine lv_icmp_le C.hx C.hb hd ht (fun q => ?_) (fun q => ?_)
  · rw [if_pos q] at h
    exact kt h H locs ls hP hS hL
  · rw [if_neg q] at h
    exact kf h H locs ls hP hS hL
theorem sm_goto (C : sm_Cx X cc nL own fr lo ret) {off : Int} (tgt : Nat) (hd : decode cc pc = .ok (.goto off, 3)) (ht : (pc : Int) + off = (tgt : Int)) (kk : sm_V X Q nL σ tgt lv st) : sm_V X Q nL σ pc lv st := by
  intro H locs ls hP hS hL
  exact lv_goto C.hx C.hb hd ht (kk H locs ls hP hS hL)
theorem sm_ifnull (C : sm_Cx X cc nL own fr lo ret) {r : Option Nat} {off : Int} {A B : Option β} (tgt : Nat) (hd : decode cc pc = .ok (.ifnull off, 3)) (ht : (pc : Int) + off = (tgt : Int)) (h : (if r = none then A else B) = some z) (kt : A = some z → sm_V X Q nL σ tgt lv st) (kf : B = some z → sm_V X Q nL σ (pc + 3) lv st) : sm_V X Q nL σ pc lv (va_rf r :: st) := by
  intro H locs ls hP hS hL
  cases r with
  | none => exact lv_ifnullN C.hx C.hb hd ht (kt (by simpa using h) H locs ls hP hS hL)
  | some a => exact lv_ifnull C.hx C.hb hd (kf (by simpa using h) H locs ls hP hS hL)
theorem sm_ifnonnull (C : sm_Cx X cc nL own fr lo ret) {r : Option Nat} {off : Int} {A B : Option β} (tgt : Nat) (hd : decode cc pc = .ok (.ifnonnull off, 3)) (ht : (pc : Int) + off = (tgt : Int)) (h : (if r = none then A else B) = some z) (kt : A = some z → sm_V X Q nL σ (pc + 3) lv st) (kf : B = some z → sm_V X Q nL σ tgt lv st) : sm_V X Q nL σ pc lv (va_rf r :: st) := by
  intro H locs ls hP hS hL
  cases r with
  | none => exact lv_ifnonnullN C.hx C.hb hd (kt (by simpa using h) H locs ls hP hS hL)
  | some a => exact lv_ifnonnull C.hx C.hb hd ht (kf (by simpa using h) H locs ls hP hS hL)
theorem sm_tswIn (C : sm_Cx X cc nL own fr lo ret) {dflt lo1 hi : Int} {offs : Array Int} {len : Nat} {x : Int32} (off : Int) (tgt : Nat) (hd : decode cc pc = .ok (.tableswitch dflt lo1 hi offs, len)) (hx : ¬ x.toInt < lo1 ∧ ¬ hi < x.toInt ∧ offs[(x.toInt - lo1).toNat]? = some off) (ht : (pc : Int) + off = (tgt : Int)) (kk : sm_V X Q nL σ tgt lv st) : sm_V X Q nL σ pc lv (.int x :: st) := by
  intro H locs ls hP hS hL
  exact lv_tableIn C.hx C.hb hd hx.1 hx.2.1 hx.2.2 ht (kk H locs ls hP hS hL)
theorem sm_tswOut (C : sm_Cx X cc nL own fr lo ret) {dflt lo1 hi : Int} {offs : Array Int} {len : Nat} {x : Int32} (tgt : Nat) (hd : decode cc pc = .ok (.tableswitch dflt lo1 hi offs, len)) (hx : x.toInt < lo1 ∨ hi < x.toInt) (ht : (pc : Int) + dflt = (tgt : Int)) (kk : sm_V X Q nL σ tgt lv st) : sm_V X Q nL σ pc lv (.int x :: st) := by
  intro H locs ls hP hS hL
  exact lv_tableOut C.hx C.hb hd hx ht (kk H locs ls hP hS hL)
theorem sm_lsw (C : sm_Cx X cc nL own fr lo ret) {dflt : Int} {ps : Array (Int × Int)} {len : Nat} {x : Int32} (off : Int) (tgt : Nat) (hd : decode cc pc = .ok (.lookupswitch dflt ps, len)) (hp : (ps.toList.zip (ps.toList.drop 1)).all (fun (a, next) => a.1 < next.1) = true) (ho : Op.lookupswitch.offset ps.toList dflt x.toInt = off) (ht : (pc : Int) + off = (tgt : Int)) (kk : sm_V X Q nL σ tgt lv st) : sm_V X Q nL σ pc lv (.int x :: st) := by
  intro H locs ls hP hS hL
  exact lv_lookup C.hx C.hb hd hp ho ht (kk H locs ls hP hS hL)
theorem sm_get (C : sm_Cx X cc nL own fr lo ret) {C0 : String} {T : u_T} {N ci k : Nat} {fs : List Value} {index : Nat} {v : Value} (j : Nat) (hk : k < sm_N (sm_w X)) (he : sm_sh (sm_w X) k (σ.1 k) (σ.2.1 k) (σ.2.2 k) = .inr (ci, fs)) (hc : (sm_cl (sm_w X))[ci]? = some (C0, T, N)) (hin : ∀ w ∈ u_ws C0 T N, w ∈ sm_G) (hj : j < N) (hl : Cond.fieldLink own index (T j).1 (T j).2.1 (T j).2.2.1 ∈ sm_G) (hv : fs[j]? = some v) (hd : decode cc pc = .ok (.getfield index, 3)) (kk : sm_V X Q nL σ (pc + 3) lv (v :: st)) : sm_V X Q nL σ pc lv (.ref (sm_ad (sm_w X) k) :: st) := by
  intro H locs ls hP hS hL
  have ha := sm_at (w := sm_w X) (σ := σ) hk
  rw [he] at ha
  exact va_get C.hx C.hb C.hts hin C.hown C.hK hP k ha hc j hj (C.hts _ hl) (fun _ h9 => h9) hv hd (kk H locs ls hP hS hL)
theorem sm_put (C : sm_Cx X cc nL own fr lo ret) {C0 : String} {T : u_T} {N ci k : Nat} {fs : List Value} {index : Nat} {σ' : sm_St} {ty0 : Nat → FieldType} {ty : FieldType} {v : Value} (j : Nat) (hk : k < sm_N (sm_w X)) (he : sm_sh (sm_w X) k (σ.1 k) (σ.2.1 k) (σ.2.2 k) = .inr (ci, fs)) (hc : (sm_cl (sm_w X))[ci]? = some (C0, T, N)) (hin : ∀ w ∈ u_ws C0 T N, w ∈ sm_G) (hty : ∀ k, k < N → parseFieldDescriptor (T k).2.2.1 = some (ty0 k)) (hnm : ∀ a, a < N → ∀ b, b < N → a ≠ b → (T a).2.1 ≠ (T b).2.1) (hj : j < N) (hl : Cond.fieldLink own index (T j).1 (T j).2.1 (T j).2.2.1 ∈ sm_G) (hfin : (T j).2.2.2 = false) (hdt : parseFieldDescriptor (T j).2.2.1 = some ty) (hn : narrow ty v = v) (hfit : fits ty v = true) (hlen : j < fs.length) (hs : sm_sh (sm_w X) k (σ'.1 k) (σ'.2.1 k) (σ'.2.2 k) = .inr (ci, fs.set j v)) (ho : ∀ j, j ≠ k → σ'.1 j = σ.1 j ∧ σ'.2.1 j = σ.2.1 j ∧ σ'.2.2 j = σ.2.2 j) (hd : decode cc pc = .ok (.putfield index, 3)) (kk : sm_V X Q nL σ' (pc + 3) lv st) : sm_V X Q nL σ pc lv (v :: .ref (sm_ad (sm_w X) k) :: st) := by
  intro H locs ls hP hS hL
  have ha := sm_at (w := sm_w X) (σ := σ) hk
  rw [he] at ha
  refine va_put C.hx C.hb C.hts hin ty0 hty hnm C.hown C.hK hP C.hD hS k ha hc j hj (C.hts _ hl) (fun _ h9 => h9) hfin hdt hn hfit hlen hd (fun H1 locs1 hP1 _ hS1 => ?_)
  rw [sm_set hk hs ho] at hP1
  exact kk H1 locs1 ls hP1 hS1 hL
theorem sm_iald (C : sm_Cx X cc nL own fr lo ret) {k n t0 : Nat} {cA : ClassId} {i : Int32} {f : Int32 → Option β} (hk : k < sm_N (sm_w X)) (he : sm_sh (sm_w X) k (σ.1 k) (σ.2.1 k) (σ.2.2 k) = .inl (cA, n, .inl (σ.1 k))) (ht : (sm_ty (sm_w X))[t0]? = some (cA, .int)) (hd : decode cc pc = .ok (.iaload, 1)) (h : sm_g (sm_in i n) (sm_b (σ.1 k i.toNatClampNeg) f) = some z) (kk : ∀ v, f v = some z → sm_V X Q nL σ (pc + 1) lv (.int v :: st)) : sm_V X Q nL σ pc lv (.int i :: .ref (sm_ad (sm_w X) k) :: st) := by
  intro H locs ls hP hS hL
  have ha := sm_at (w := sm_w X) (σ := σ) hk
  rw [he] at ha
  obtain ⟨h1, h2⟩ := sm_gE h
  exact va_iald C.hx C.hb C.hK hP k t0 ha ht (sm_inE h1) hd (kk _ h2 H locs ls hP hS hL)
theorem sm_lald (C : sm_Cx X cc nL own fr lo ret) {k n t0 : Nat} {cA : ClassId} {i : Int32} {f : Int64 → Option β} (hk : k < sm_N (sm_w X)) (he : sm_sh (sm_w X) k (σ.1 k) (σ.2.1 k) (σ.2.2 k) = .inl (cA, n, .inr (.inl (σ.2.1 k)))) (ht : (sm_ty (sm_w X))[t0]? = some (cA, .long)) (hd : decode cc pc = .ok (.laload, 1)) (h : sm_g (sm_in i n) (sm_b (σ.2.1 k i.toNatClampNeg) f) = some z) (kk : ∀ v, f v = some z → sm_V X Q nL σ (pc + 1) lv (.long v :: st)) : sm_V X Q nL σ pc lv (.int i :: .ref (sm_ad (sm_w X) k) :: st) := by
  intro H locs ls hP hS hL
  have ha := sm_at (w := sm_w X) (σ := σ) hk
  rw [he] at ha
  obtain ⟨h1, h2⟩ := sm_gE h
  exact va_lald C.hx C.hb C.hK hP k t0 ha ht (sm_inE h1) hd (kk _ h2 H locs ls hP hS hL)
theorem sm_zald (C : sm_Cx X cc nL own fr lo ret) {k n t0 : Nat} {cA : ClassId} {i : Int32} {f : Int32 → Option β} (hk : k < sm_N (sm_w X)) (he : sm_sh (sm_w X) k (σ.1 k) (σ.2.1 k) (σ.2.2 k) = .inl (cA, n, .inl (σ.1 k))) (ht : (sm_ty (sm_w X))[t0]? = some (cA, .boolean)) (hd : decode cc pc = .ok (.baload, 1)) (h : sm_g (sm_in i n) (sm_b (σ.1 k i.toNatClampNeg) f) = some z) (kk : ∀ v, f v = some z → sm_V X Q nL σ (pc + 1) lv (.int v :: st)) : sm_V X Q nL σ pc lv (.int i :: .ref (sm_ad (sm_w X) k) :: st) := by
  intro H locs ls hP hS hL
  have ha := sm_at (w := sm_w X) (σ := σ) hk
  rw [he] at ha
  obtain ⟨h1, h2⟩ := sm_gE h
  exact va_zald C.hx C.hb C.hK hP k t0 ha ht (sm_inE h1) hd (kk _ h2 H locs ls hP hS hL)
theorem sm_iast (C : sm_Cx X cc nL own fr lo ret) {k n t0 : Nat} {cA : ClassId} {i : Int32} {x : Int32} {f : sm_St → Option β} (hk : k < sm_N (sm_w X)) (he : ∀ a b c, sm_sh (sm_w X) k a b c = .inl (cA, n, .inl a)) (ht : (sm_ty (sm_w X))[t0]? = some (cA, .int)) (hd : decode cc pc = .ok (.iastore, 1)) (h : sm_g (sm_in i n) (sm_b (sm_sI σ k i.toNatClampNeg x) f) = some z) (kk : ∀ s, f s = some z → sm_V X Q nL s (pc + 1) lv st) : sm_V X Q nL σ pc lv (.int x :: .int i :: .ref (sm_ad (sm_w X) k) :: st) := by
  intro H locs ls hP hS hL
  have ha := sm_at (w := sm_w X) (σ := σ) hk
  rw [he] at ha
  obtain ⟨h1, h2⟩ := sm_gE h
  refine va_iast C.hx C.hb C.hK hP C.hD hS k t0 ha ht (sm_inE h1) hd (fun H1 locs1 hP1 _ hS1 => ?_)
  rw [sm_set (σ' := sm_sI σ k i.toNatClampNeg x) hk (by rw [he, sm_sIk.1]) sm_sIo] at hP1
  exact kk _ h2 H1 locs1 ls hP1 hS1 hL
theorem sm_zast (C : sm_Cx X cc nL own fr lo ret) {k n t0 : Nat} {cA : ClassId} {i : Int32} {x : Int32} {f : sm_St → Option β} (hk : k < sm_N (sm_w X)) (he : ∀ a b c, sm_sh (sm_w X) k a b c = .inl (cA, n, .inl a)) (ht : (sm_ty (sm_w X))[t0]? = some (cA, .boolean)) (hd : decode cc pc = .ok (.bastore, 1)) (h : sm_g (sm_in i n) (sm_b (sm_sI σ k i.toNatClampNeg (vp_nar .boolean x)) f) = some z) (kk : ∀ s, f s = some z → sm_V X Q nL s (pc + 1) lv st) : sm_V X Q nL σ pc lv (.int x :: .int i :: .ref (sm_ad (sm_w X) k) :: st) := by
  intro H locs ls hP hS hL
  have ha := sm_at (w := sm_w X) (σ := σ) hk
  rw [he] at ha
  obtain ⟨h1, h2⟩ := sm_gE h
  refine va_zast C.hx C.hb C.hK hP C.hD hS k t0 ha ht (sm_inE h1) hd (fun H1 locs1 hP1 _ hS1 => ?_)
  rw [sm_set (σ' := sm_sI σ k i.toNatClampNeg (vp_nar .boolean x)) hk (by rw [he, sm_sIk.1]) sm_sIo] at hP1
  exact kk _ h2 H1 locs1 ls hP1 hS1 hL
theorem sm_last (C : sm_Cx X cc nL own fr lo ret) {k n t0 : Nat} {cA : ClassId} {i : Int32} {x : Int64} {f : sm_St → Option β} (hk : k < sm_N (sm_w X)) (he : ∀ a b c, sm_sh (sm_w X) k a b c = .inl (cA, n, .inr (.inl b))) (ht : (sm_ty (sm_w X))[t0]? = some (cA, .long)) (hd : decode cc pc = .ok (.lastore, 1)) (h : sm_g (sm_in i n) (sm_b (sm_sL σ k i.toNatClampNeg x) f) = some z) (kk : ∀ s, f s = some z → sm_V X Q nL s (pc + 1) lv st) : sm_V X Q nL σ pc lv (.long x :: .int i :: .ref (sm_ad (sm_w X) k) :: st) := by
  intro H locs ls hP hS hL
  have ha := sm_at (w := sm_w X) (σ := σ) hk
  rw [he] at ha
  obtain ⟨h1, h2⟩ := sm_gE h
  refine va_last C.hx C.hb C.hK hP C.hD hS k t0 ha ht (sm_inE h1) hd (fun H1 locs1 hP1 _ hS1 => ?_)
  rw [sm_set (σ' := sm_sL σ k i.toNatClampNeg x) hk (by rw [he, sm_sLk.2.1]) sm_sLo] at hP1
  exact kk _ h2 H1 locs1 ls hP1 hS1 hL
theorem sm_alen (C : sm_Cx X cc nL own fr lo ret) {k n t0 : Nat} {cA : ClassId} {ty : FieldType} {e : (Nat → Int32) ⊕ (Nat → Int64) ⊕ (Nat → UInt32) ⊕ (Nat → UInt64) ⊕ (Nat → Option Nat)} {v : Int32} (hk : k < sm_N (sm_w X)) (he : sm_sh (sm_w X) k (σ.1 k) (σ.2.1 k) (σ.2.2 k) = .inl (cA, n, e)) (ht : (sm_ty (sm_w X))[t0]? = some (cA, ty)) (hv : Int32.ofNat n = v) (hd : decode cc pc = .ok (.arraylength, 1)) (kk : sm_V X Q nL σ (pc + 1) lv (.int v :: st)) : sm_V X Q nL σ pc lv (.ref (sm_ad (sm_w X) k) :: st) := by
  intro H locs ls hP hS hL
  have ha := sm_at (w := sm_w X) (σ := σ) hk
  rw [he] at ha
  exact va_alen C.hx C.hb C.hK hP k t0 ha ht hv hd (kk H locs ls hP hS hL)
theorem sm_aldq (C : sm_Cx X cc nL own fr lo ret) {k n t0 b0 : Nat} {cA : ClassId} {C0 : String} {i : Int32} {x : Option β} (hk : k < sm_N (sm_w X)) (he : sm_sh (sm_w X) k (σ.1 k) (σ.2.1 k) (σ.2.2 k) = .inl (cA, n, .inr (.inr (.inr (.inr (fun j => some (sm_ad (sm_w X) (b0 + j)))))))) (ht : (sm_ty (sm_w X))[t0]? = some (cA, .object C0)) (hd : decode cc pc = .ok (.aaload, 1)) (h : sm_g (sm_in i n) x = some z) (kk : sm_in i n = true → x = some z → sm_V X Q nL σ (pc + 1) lv (.ref (sm_ad (sm_w X) (b0 + i.toNatClampNeg)) :: st)) : sm_V X Q nL σ pc lv (.int i :: .ref (sm_ad (sm_w X) k) :: st) := by
  intro H locs ls hP hS hL
  have ha := sm_at (w := sm_w X) (σ := σ) hk
  rw [he] at ha
  obtain ⟨h1, h2⟩ := sm_gE h
  exact va_aldq C.hx C.hb C.hK hP k t0 ha ht (sm_inE h1) hd (kk h1 h2 H locs ls hP hS hL)
theorem sm_mmax (C : sm_Cx X cc nL own fr lo ret) {index : Nat} {x y : Int32} {f : Int32 → Option β} (hl : Cond.methodLink own index Lib.Math.max.name ∈ sm_G) (h2 : Cond.static Lib.Math.max.name ∈ sm_G) (h3 : Cond.initialized "java/lang/Math" ∈ sm_G) (h4 : Cond.code Lib.Math.max.name Lib.Math.max.code 2 (some .int) ∈ sm_G) (h5 : 1 ≤ fr) (h6 : (st.map fun v => v.category).sum + 13 ≤ lo) (hd : decode cc pc = .ok (.invokestatic index, 3)) (h : sm_b (if x < y then y else x) f = some z) (kk : ∀ v, f v = some z → sm_V X Q nL σ (pc + 3) lv (.int v :: st)) : sm_V X Q nL σ pc lv (.int y :: .int x :: st) := by
  intro H locs ls hP hS hL
  exact va_mmax C.hx C.hb (C.hml.trans hL.1.symm) C.hown (C.hts _ hl) (C.hts _ h2) (C.hts _ h3) (C.hts _ h4) (Nat.le_trans h5 C.hR.1) (Nat.le_trans h6 C.hR.2) C.hcs.1 C.hcs.2 hd (kk _ h H locs ls hP hS hL)
theorem sm_mmin (C : sm_Cx X cc nL own fr lo ret) {index : Nat} {x y : Int32} {f : Int32 → Option β} (hl : Cond.methodLink own index Lib.Math.min.name ∈ sm_G) (h2 : Cond.static Lib.Math.min.name ∈ sm_G) (h3 : Cond.initialized "java/lang/Math" ∈ sm_G) (h4 : Cond.code Lib.Math.min.name Lib.Math.min.code 2 (some .int) ∈ sm_G) (h5 : 1 ≤ fr) (h6 : (st.map fun v => v.category).sum + 13 ≤ lo) (hd : decode cc pc = .ok (.invokestatic index, 3)) (h : sm_b (if y < x then y else x) f = some z) (kk : ∀ v, f v = some z → sm_V X Q nL σ (pc + 3) lv (.int v :: st)) : sm_V X Q nL σ pc lv (.int y :: .int x :: st) := by
  intro H locs ls hP hS hL
  exact va_mmin C.hx C.hb (C.hml.trans hL.1.symm) C.hown (C.hts _ hl) (C.hts _ h2) (C.hts _ h3) (C.hts _ h4) (Nat.le_trans h5 C.hR.1) (Nat.le_trans h6 C.hR.2) C.hcs.1 C.hcs.2 hd (kk _ h H locs ls hP hS hL)
def sm_cpyok (sp dp n : Int32) (n0 n1 : Nat) : Bool := decide (¬ sp < 0 ∧ ¬ dp < 0 ∧ ¬ n < 0 ∧ sp.toNatClampNeg + n.toNatClampNeg ≤ n0 ∧ dp.toNatClampNeg + n.toNatClampNeg ≤ n1)
theorem sm_copyi (C : sm_Cx X cc nL own fr lo ret) {index k k1 n0 n1 t0 : Nat} {cA : ClassId} {sp dp n : Int32} {f : sm_St → Option β} (hk : k < sm_N (sm_w X)) (hk1 : k1 < sm_N (sm_w X)) (he : ∀ a b c, sm_sh (sm_w X) k a b c = .inl (cA, n0, .inl a)) (he1 : ∀ a b c, sm_sh (sm_w X) k1 a b c = .inl (cA, n1, .inl a)) (ht : (sm_ty (sm_w X))[t0]? = some (cA, .int)) (hl : Cond.methodLink own index arraycopyName ∈ sm_G) (h2 : Cond.native arraycopyName ∈ sm_G) (h3 : Cond.static arraycopyName ∈ sm_G) (h4 : Cond.initialized "java/lang/System" ∈ sm_G) (h5 : 1 ≤ fr) (h6 : (st.map fun v => v.category).sum + (nativeFrameWords "java/lang/System" "arraycopy" 5 + 11) ≤ lo) (hd : decode cc pc = .ok (.invokestatic index, 3)) (h : sm_g (sm_cpyok sp dp n n0 n1) (sm_b (sm_cI σ k k1 sp.toNatClampNeg dp.toNatClampNeg n.toNatClampNeg) f) = some z) (kk : ∀ s, f s = some z → sm_V X Q nL s (pc + 3) lv st) : sm_V X Q nL σ pc lv (.int n :: .int dp :: .ref (sm_ad (sm_w X) k1) :: .int sp :: .ref (sm_ad (sm_w X) k) :: st) := by
  intro H locs ls hP hS hL
  have ha := sm_at (w := sm_w X) (σ := σ) hk
  have hb := sm_at (w := sm_w X) (σ := σ) hk1
  rw [he] at ha
  rw [he1] at hb
  obtain ⟨h0, h7⟩ := sm_gE h
  obtain ⟨g1, g2, g3, g4, g5⟩ := of_decide_eq_true (p := ¬ sp < 0 ∧ ¬ dp < 0 ∧ ¬ n < 0 ∧ sp.toNatClampNeg + n.toNatClampNeg ≤ n0 ∧ dp.toNatClampNeg + n.toNatClampNeg ≤ n1) h0
  refine va_copyi C.hx C.hb (C.hml.trans hL.1.symm) C.hown (C.hts _ hl) (C.hts _ h2) (C.hts _ h3) (C.hts _ h4) C.hK hP C.hD hS k k1 t0 t0 ha hb ht ht rfl g1 g2 g3 g4 g5 (fun _ _ => rfl) (Nat.le_trans h5 C.hR.1) (Nat.le_trans h6 C.hR.2) hd (fun H1 locs1 hP1 _ hS1 => ?_)
  rw [sm_set (σ' := sm_cI σ k k1 sp.toNatClampNeg dp.toNatClampNeg n.toNatClampNeg) hk1 (by rw [he1, sm_cIk.1]) sm_cIo] at hP1
  exact kk _ h7 H1 locs1 ls hP1 hS1 hL
theorem sm_copyl (C : sm_Cx X cc nL own fr lo ret) {index k k1 n0 n1 t0 : Nat} {cA : ClassId} {sp dp n : Int32} {f : sm_St → Option β} (hk : k < sm_N (sm_w X)) (hk1 : k1 < sm_N (sm_w X)) (he : ∀ a b c, sm_sh (sm_w X) k a b c = .inl (cA, n0, .inr (.inl b))) (he1 : ∀ a b c, sm_sh (sm_w X) k1 a b c = .inl (cA, n1, .inr (.inl b))) (ht : (sm_ty (sm_w X))[t0]? = some (cA, .long)) (hl : Cond.methodLink own index arraycopyName ∈ sm_G) (h2 : Cond.native arraycopyName ∈ sm_G) (h3 : Cond.static arraycopyName ∈ sm_G) (h4 : Cond.initialized "java/lang/System" ∈ sm_G) (h5 : 1 ≤ fr) (h6 : (st.map fun v => v.category).sum + (nativeFrameWords "java/lang/System" "arraycopy" 5 + 11) ≤ lo) (hd : decode cc pc = .ok (.invokestatic index, 3)) (h : sm_g (sm_cpyok sp dp n n0 n1) (sm_b (sm_cL σ k k1 sp.toNatClampNeg dp.toNatClampNeg n.toNatClampNeg) f) = some z) (kk : ∀ s, f s = some z → sm_V X Q nL s (pc + 3) lv st) : sm_V X Q nL σ pc lv (.int n :: .int dp :: .ref (sm_ad (sm_w X) k1) :: .int sp :: .ref (sm_ad (sm_w X) k) :: st) := by
  intro H locs ls hP hS hL
  have ha := sm_at (w := sm_w X) (σ := σ) hk
  have hb := sm_at (w := sm_w X) (σ := σ) hk1
  rw [he] at ha
  rw [he1] at hb
  obtain ⟨h0, h7⟩ := sm_gE h
  obtain ⟨g1, g2, g3, g4, g5⟩ := of_decide_eq_true (p := ¬ sp < 0 ∧ ¬ dp < 0 ∧ ¬ n < 0 ∧ sp.toNatClampNeg + n.toNatClampNeg ≤ n0 ∧ dp.toNatClampNeg + n.toNatClampNeg ≤ n1) h0
  refine va_copyl C.hx C.hb (C.hml.trans hL.1.symm) C.hown (C.hts _ hl) (C.hts _ h2) (C.hts _ h3) (C.hts _ h4) C.hK hP C.hD hS k k1 t0 t0 ha hb ht ht rfl g1 g2 g3 g4 g5 (fun _ _ => rfl) (Nat.le_trans h5 C.hR.1) (Nat.le_trans h6 C.hR.2) hd (fun H1 locs1 hP1 _ hS1 => ?_)
  rw [sm_set (σ' := sm_cL σ k k1 sp.toNatClampNeg dp.toNatClampNeg n.toNatClampNeg) hk1 (by rw [he1, sm_cLk.2.1]) sm_cLo] at hP1
  exact kk _ h7 H1 locs1 ls hP1 hS1 hL
theorem sm_gcomp (C : sm_Cx X cc nL own fr lo ret) {index : Nat} (hl : Cond.fieldLink own index "java/lang/String" "COMPACT_STRINGS" "Z" ∈ sm_G) (hd : decode cc pc = .ok (.getstatic index, 3)) (kk : sm_V X Q nL σ (pc + 3) lv (.int 1 :: st)) : sm_V X Q nL σ pc lv st := by
  intro H locs ls hP hS hL
  exact va_gets C.hx C.hb (C.hT.2.1.narrow C.hz) hS C.hown (C.hts _ hl) (fun _ h9 => h9) hd (kk H locs ls hP hS hL)
theorem sm_gform (C : sm_Cx X cc nL own fr lo ret) {index : Nat} (hl : Cond.fieldLink own index "jdk/internal/util/Preconditions" "SIOOBE_FORMATTER" "Ljava/util/function/BiFunction;" ∈ sm_G) (hd : decode cc pc = .ok (.getstatic index, 3)) (kk : ∀ r : Option Nat, sm_V X Q nL σ (pc + 3) lv (va_rf r :: st)) : sm_V X Q nL σ pc lv st := by
  intro H locs ls hP hS hL
  rcases C.hT.2.2.1.narrow C.hz with h | ⟨t, h⟩
  · exact va_gets C.hx C.hb h hS C.hown (C.hts _ hl) (fun _ h9 => h9) hd (kk none H locs ls hP hS hL)
  · exact va_gets C.hx C.hb h hS C.hown (C.hts _ hl) (fun _ h9 => h9) hd (kk (some t) H locs ls hP hS hL)
theorem sm_gcoder (C : sm_Cx X cc nL own fr lo ret) {index i : Nat} (hi : i < 3) (hl : Cond.fieldLink own index "java/lang/String" "coder" "B" ∈ sm_G) (hd : decode cc pc = .ok (.getfield index, 3)) (kk : sm_V X Q nL σ (pc + 3) lv (.int 0 :: st)) : sm_V X Q nL σ pc lv (.ref (sm_aK (sm_w X) i) :: st) := by
  intro H locs ls hP hS hL
  exact vk_getf C.hx C.hb (C.hTA.1 i hi).2.1 hS C.hown (C.hts _ hl) (fun _ h9 => h9) hd (kk H locs ls hP hS hL)
theorem sm_gvalue (C : sm_Cx X cc nL own fr lo ret) {index i : Nat} (hi : i < 3) (hl : Cond.fieldLink own index "java/lang/String" "value" "[B" ∈ sm_G) (hd : decode cc pc = .ok (.getfield index, 3)) (kk : sm_V X Q nL σ (pc + 3) lv (.ref (sm_aV (sm_w X) i) :: st)) : sm_V X Q nL σ pc lv (.ref (sm_aK (sm_w X) i) :: st) := by
  intro H locs ls hP hS hL
  exact vk_getf C.hx C.hb (C.hTA.1 i hi).2.2.1 hS C.hown (C.hts _ hl) (fun _ h9 => h9) hd (kk H locs ls hP hS hL)
theorem sm_slen (C : sm_Cx X cc nL own fr lo ret) {i : Nat} {f : Int32 → Option β} (hi : i < 3) (hd : decode cc pc = .ok (.arraylength, 1)) (h : sm_b (Int32.ofNat (sm_len.getD i 0)) f = some z) (kk : ∀ v, f v = some z → sm_V X Q nL σ (pc + 1) lv (.int v :: st)) : sm_V X Q nL σ pc lv (.ref (sm_aV (sm_w X) i) :: st) := by
  intro H locs ls hP hS hL
  exact va_tlen C.hx C.hb (C.hTA.1 i hi).2.2.2 hS rfl hd (kk _ h H locs ls hP hS hL)
theorem sm_sbald (C : sm_Cx X cc nL own fr lo ret) {i : Nat} {j : Int32} {f : Int32 → Option β} (hi : i < 3) (hd : decode cc pc = .ok (.baload, 1)) (h : sm_g (sm_in j (sm_len.getD i 0)) (sm_b ((sm_byt.getD i []).getD j.toNatClampNeg 0) f) = some z) (kk : ∀ v, f v = some z → sm_V X Q nL σ (pc + 1) lv (.int v :: st)) : sm_V X Q nL σ pc lv (.int j :: .ref (sm_aV (sm_w X) i) :: st) := by
  intro H locs ls hP hS hL
  obtain ⟨h1, h2⟩ := sm_gE h
  exact va_tb C.hx C.hb (C.hTA.1 i hi).2.2.2 hS (sm_inE h1) rfl hd (kk _ h2 H locs ls hP hS hL)
end
