/-! WHAT IS KNOWN at the law's entry -/
theorem la_ao {C : String} {s : State} (h : va_AO C s) : ∃ cA : ClassId, ArrOfT s cA (.object C) ∧ va_RA s cA (.object C) := by
  obtain ⟨comp, c, k, h1, h2, h3, h4, h5⟩ := Cond.arrayOver_spec h
  exact ⟨c, fun N z => ⟨(fun k h => by cases h), k, h3, comp, h4⟩, k, comp, h3, h4, h1, h5⟩
theorem la_arr {ty : ArrayType} {args : Array Value} {s : State} (h : (Cond.arrayClass (newarray.typeOf ty)).before args s = true) : ∃ cA : ClassId, ArrOfT s cA (newarray.typeOf ty) ∧ va_RA s cA (newarray.typeOf ty) := by
  obtain ⟨c, k, comp, h1, h2, h3⟩ := Cond.arrayClass_spec h
  exact ⟨c, fun N z => ⟨(fun k h => by cases h), k, h2, comp, h3⟩, by cases ty <;> exact h1⟩
theorem la_Kx {args : Array Value} {s : State} (hts : ∀ w ∈ sm_G, w.before args s = true) (h2 : va_AO "SmokeGoesTo$Text" s) (h3 : va_AO "SmokeGoesTo$Sheet" s) : ∃ (D : va_G) (cA : Nat → ClassId), va_K D xo_cl (xo_ty cA) s := by
  obtain ⟨c0, i0, k0⟩ := u_known hts ixo_S (hts _ gt_S)
  obtain ⟨c1, i1, k1⟩ := u_known hts ixo_Fire (hts _ gt_Fire)
  obtain ⟨c2, i2, k2⟩ := u_known hts ixo_Reader (hts _ gt_Reader)
  obtain ⟨c3, i3, k3⟩ := u_known hts ixo_Text (hts _ gt_Text)
  obtain ⟨c4, i4, k4⟩ := u_known hts ixo_Sheet (hts _ gt_Sheet)
  obtain ⟨c5, i5, k5⟩ := u_known hts ixo_Night (hts _ gt_Night)
  obtain ⟨c6, i6, k6⟩ := u_known hts ixo_Odds (hts _ gt_Odds)
  obtain ⟨a0, p0, r0⟩ := la_arr (ty := .int) (hts _ ga_int)
  obtain ⟨a1, p1, r1⟩ := la_arr (ty := .long) (hts _ ga_long)
  obtain ⟨a2, p2, r2⟩ := la_ao h2
  obtain ⟨a3, p3, r3⟩ := la_ao h3
  refine ⟨(fun k => match k with | 0 => c0 | 1 => c1 | 2 => c2 | 3 => c3 | 4 => c4 | 5 => c5 | _ => c6, fun k => match k with | 0 => i0 | 1 => i1 | 2 => i2 | 3 => i3 | 4 => i4 | 5 => i5 | _ => i6), fun k => match k with | 0 => a0 | 1 => a1 | 2 => a2 | _ => a3, fun k q hq => ?_, fun k q hq => ?_⟩
  · match k, hq with
    | 0, hq => cases hq; exact k0
    | 1, hq => cases hq; exact k1
    | 2, hq => cases hq; exact k2
    | 3, hq => cases hq; exact k3
    | 4, hq => cases hq; exact k4
    | 5, hq => cases hq; exact k5
    | 6, hq => cases hq; exact k6
    | k + 7, hq => simp [xo_cl] at hq
  · match k, hq with
    | 0, hq => cases hq; exact ⟨p0, r0⟩
    | 1, hq => cases hq; exact ⟨p1, r1⟩
    | 2, hq => cases hq; exact ⟨p2, r2⟩
    | 3, hq => cases hq; exact ⟨p3, r3⟩
    | k + 4, hq => simp [xo_ty] at hq
theorem la_Km {args : Array Value} {s : State} (hts : ∀ w ∈ sm_G, w.before args s = true) : ∃ (D : va_G) (cA : Nat → ClassId), va_K D mo_cl (mo_ty cA) s := by
  obtain ⟨c0, i0, k0⟩ := u_known hts imo_M (hts _ gt_M)
  obtain ⟨a0, p0, r0⟩ := la_arr (ty := .int) (hts _ ga_int)
  obtain ⟨a1, p1, r1⟩ := la_arr (ty := .long) (hts _ ga_long)
  obtain ⟨a2, p2, r2⟩ := la_arr (ty := .boolean) (hts _ ga_boolean)
  refine ⟨(fun _ => c0, fun _ => i0), fun k => match k with | 0 => a0 | 1 => a1 | _ => a2, fun k q hq => ?_, fun k q hq => ?_⟩
  · match k, hq with
    | 0, hq => cases hq; exact k0
    | k + 1, hq => simp [mo_cl] at hq
  · match k, hq with
    | 0, hq => cases hq; exact ⟨p0, r0⟩
    | 1, hq => cases hq; exact ⟨p1, r1⟩
    | 2, hq => cases hq; exact ⟨p2, r2⟩
    | k + 3, hq => simp [mo_ty] at hq
def la_tm (i : Nat) : Term := .string (sm_tx i).1 (sm_tx i).2.1
def la_NF : List Cond := flatC (Jvm.Cond.and given_1 narrow_1)
set_option maxRecDepth 100000 in
theorem la_n1 : ∀ i, i < 3 → Cond.exactly (la_tm i) "java/lang/String" ∈ la_NF ∧ Cond.eq (.field (la_tm i) "java/lang/String" "coder" "B") (.int 0) ∈ la_NF ∧ Cond.arrayOf (.field (la_tm i) "java/lang/String" "value" "[B") .byte ∈ la_NF ∧ Cond.eq (.length (.field (la_tm i) "java/lang/String" "value" "[B")) (.int (Int32.ofNat (sm_len.getD i 0))) ∈ la_NF := by decide +kernel
set_option maxRecDepth 100000 in
theorem la_n2 : ∀ i, i < 3 → ∀ j, j < sm_len.getD i 0 → Cond.eq (.elem (.field (la_tm i) "java/lang/String" "value" "[B") (.int (Int32.ofNat j))) (.int ((sm_byt.getD i []).getD j 0)) ∈ la_NF := by decide +kernel
set_option maxRecDepth 100000 in
theorem la_n3 : ∀ i, i < 3 → ∀ j, j < 3 → i ≠ j → Cond.not (Cond.eq (la_tm i) (la_tm j)) ∈ la_NF ∨ Cond.not (Cond.eq (la_tm j) (la_tm i)) ∈ la_NF := by decide +kernel
set_option maxRecDepth 100000 in
theorem la_n4 : Cond.eq (.static "java/lang/String" "COMPACT_STRINGS" "Z") (.int 1) ∈ la_NF ∧ Cond.isRef (.static "jdk/internal/util/Preconditions" "SIOOBE_FORMATTER" "Ljava/util/function/BiFunction;") ∈ la_NF := by decide +kernel
set_option maxRecDepth 100000 in
theorem la_n5 : ∀ i, i < 3 → Cond.stringRef (sm_tx i).1 (sm_tx i).2.1 (sm_tx i).2.2 ∈ lw_tbl := by decide +kernel
set_option maxRecDepth 100000 in
theorem la_n6 : ∀ q ∈ sm_nl, Cond.methodLinkNest q.1 q.2.1 q.2.2 "SmokeGoesTo" ∈ lw_tbl := by decide +kernel
set_option maxRecDepth 100000 in
theorem la_n7 : Cond.arrayOver (.object "SmokeGoesTo$Text") ∈ lw_tbl ∧ Cond.arrayOver (.object "SmokeGoesTo$Sheet") ∈ lw_tbl ∧ Cond.laysStatic "java/lang/String" "COMPACT_STRINGS" "Z" ∈ lw_tbl ∧ Cond.laysStatic "jdk/internal/util/Preconditions" "SIOOBE_FORMATTER" "Ljava/util/function/BiFunction;" ∈ lw_tbl ∧ Cond.initialized "java/lang/String" ∈ lw_tbl ∧ Cond.initialized "jdk/internal/util/Preconditions" ∈ lw_tbl := by decide +kernel
theorem la_Str {s : State} {b : Nat} (hts : ∀ w ∈ lw_tbl, w.before #[Value.ref b] s = true) (hgv : (Jvm.Cond.and given_1 narrow_1).before #[Value.ref b] s = true) : ∃ aK aV : Nat → Nat, ∀ w : sm_WD, sm_aK w = aK → sm_aV w = aV → sm_z w = s.heap.size → sm_Str w s s.heap := by
  have hf : ∀ c ∈ la_NF, c.before #[Value.ref b] s = true := flat_of_before _ hgv
  have hA : ∀ a : Nat, a < s.heap.size → ¬ (fun q : Nat => s.heap.size ≤ q) a := fun a h => Nat.not_le.mpr h
  obtain ⟨aK, aV, hS, hE⟩ := vk_Sof (args := #[Value.ref b]) (s := s) (N := 3) (tm := la_tm) (len := sm_len) (byt := sm_byt) (A := fun q : Nat => s.heap.size ≤ q) (by decide) (fun i hi => hf _ (la_n1 i hi).1) (fun i hi => hf _ (la_n1 i hi).2.1) (fun i hi => hf _ (la_n1 i hi).2.2.1) (fun i hi => hf _ (la_n1 i hi).2.2.2) (fun i hi j hj => hf _ (la_n2 i hi j hj)) (fun i j hi hj hij => (la_n3 i hi j hj hij).imp (fun h => hf _ h) (fun h => hf _ h)) hA
  refine ⟨aK, aV, fun w e1 e2 e3 => ?_⟩
  unfold sm_Str
  rw [e1, e2, e3]
  exact ⟨hS, va_Zof (hts _ la_n7.2.2.1) (hts _ la_n7.2.2.2.2.1) (va_eqi (hf _ la_n4.1)) hA, va_Zqof (hts _ la_n7.2.2.2.1) (hts _ la_n7.2.2.2.2.2) (hf _ la_n4.2) hA, fun i hi => vk_R.of (hts _ (la_n5 i hi)) (hE i hi), fun q hq => va_Nw.of rfl (hts _ (la_n6 q hq)), va_AO.of (hts _ la_n7.1), va_AO.of (hts _ la_n7.2.1)⟩
