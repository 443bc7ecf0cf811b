/-! THE FRAME: one judgement over an abstract state of cells and slots; a row an instruction -/
def sm_G : List Cond := lw_tbl.filter goodWord
theorem sm_gin {w : Cond} (h : w ∈ lw_tbl) (hg : goodWord w = true) : w ∈ sm_G := List.mem_filter.mpr ⟨h, hg⟩
theorem sm_good : GoodIn sm_G sm_G := fun w h => ⟨h, good_of_word (List.mem_filter.mp h).2⟩
abbrev sm_St : Type := (Nat → Nat → Int32) × (Nat → Nat → Int64) × (Nat → Nat → Option Nat)
def sm_sI (σ : sm_St) (k j : Nat) (v : Int32) : sm_St := (va_up σ.1 k (upd (σ.1 k) j v), σ.2.1, σ.2.2)
def sm_sL (σ : sm_St) (k j : Nat) (v : Int64) : sm_St := (σ.1, va_up σ.2.1 k (vp_updL (σ.2.1 k) j v), σ.2.2)
def sm_sR (σ : sm_St) (k j : Nat) (v : Option Nat) : sm_St := (σ.1, σ.2.1, va_up σ.2.2 k (va_up (σ.2.2 k) j v))
def sm_cI (σ : sm_St) (k k1 sp dp n : Nat) : sm_St := (va_up σ.1 k1 (va_cpy (σ.1 k) (σ.1 k1) sp dp n), σ.2.1, σ.2.2)
def sm_cL (σ : sm_St) (k k1 sp dp n : Nat) : sm_St := (σ.1, va_up σ.2.1 k1 (va_cpy (σ.2.1 k) (σ.2.1 k1) sp dp n), σ.2.2)
/-- pure words: a bound value, a guard, a call -/
def sm_b {α β : Type} (a : α) (f : α → Option β) : Option β := f a
def sm_g {β : Type} (b : Bool) (x : Option β) : Option β := match b with
  | true => x
  | false => none
def sm_c {α β : Type} (x : Option (α × sm_St)) (f : α → sm_St → Option β) : Option β := match x with
  | some q => f q.1 q.2
  | none => none
def sm_o {β : Type} (x : Option Nat) (f : Nat → Option β) : Option β := match x with
  | some q => f q
  | none => none
def sm_in (i : Int32) (n : Nat) : Bool := decide (¬ (i < 0 ∨ n ≤ i.toNatClampNeg))
theorem sm_inE {i : Int32} {n : Nat} (h : sm_in i n = true) : vp_in i n := of_decide_eq_true (p := ¬ (i < 0 ∨ n ≤ i.toNatClampNeg)) h
theorem sm_gE {β : Type} {b : Bool} {x : Option β} {r : β} (h : sm_g b x = some r) : b = true ∧ x = some r := by
  cases b with
  | true => exact ⟨rfl, h⟩
  | false => cases h
theorem sm_cE {α β : Type} {x : Option (α × sm_St)} {f : α → sm_St → Option β} {r : β} (h : sm_c x f = some r) : ∃ a σ, x = some (a, σ) ∧ f a σ = some r := by
  cases x with
  | none => cases h
  | some q => exact ⟨q.1, q.2, rfl, h⟩
theorem sm_oE {β : Type} {x : Option Nat} {f : Nat → Option β} {r : β} (h : sm_o x f = some r) : ∃ a, x = some a ∧ f a = some r := by
  cases x with
  | none => cases h
  | some q => exact ⟨q, rfl, h⟩
abbrev sm_Sh : Type := Nat → (Nat → Int32) → (Nat → Int64) → (Nat → Option Nat) → va_E
/-- a world: classes' numbers, classes, array classes, shapes, addresses, how many; the String constants' addresses; where the law began -/
abbrev sm_WD : Type := va_G × List vw_C × List (ClassId × FieldType) × sm_Sh × (Nat → Nat) × Nat × (Nat → Nat) × (Nat → Nat) × Nat
def sm_D (w : sm_WD) : va_G := w.1
def sm_cl (w : sm_WD) : List vw_C := w.2.1
def sm_ty (w : sm_WD) : List (ClassId × FieldType) := w.2.2.1
def sm_sh (w : sm_WD) : sm_Sh := w.2.2.2.1
def sm_ad (w : sm_WD) : Nat → Nat := w.2.2.2.2.1
def sm_N (w : sm_WD) : Nat := w.2.2.2.2.2.1
def sm_aK (w : sm_WD) : Nat → Nat := w.2.2.2.2.2.2.1
def sm_aV (w : sm_WD) : Nat → Nat := w.2.2.2.2.2.2.2.1
def sm_z (w : sm_WD) : Nat := w.2.2.2.2.2.2.2.2
def sm_wd (w : sm_WD) (σ : sm_St) : va_W := (List.range (sm_N w)).map fun k => (sm_ad w k, sm_sh w k (σ.1 k) (σ.2.1 k) (σ.2.2 k))
theorem sm_at {w : sm_WD} {σ : sm_St} {k : Nat} (h : k < sm_N w) : (sm_wd w σ)[k]? = some (sm_ad w k, sm_sh w k (σ.1 k) (σ.2.1 k) (σ.2.2 k)) := by
  simp [sm_wd, List.getElem?_range h]
theorem sm_set {w : sm_WD} {σ σ' : sm_St} {k : Nat} {e : va_E} (h : k < sm_N w) (he : sm_sh w k (σ'.1 k) (σ'.2.1 k) (σ'.2.2 k) = e) (ho : ∀ j, j ≠ k → σ'.1 j = σ.1 j ∧ σ'.2.1 j = σ.2.1 j ∧ σ'.2.2 j = σ.2.2 j) : (sm_wd w σ).set k (sm_ad w k, e) = sm_wd w σ' := by
  refine List.ext_getElem? fun i => ?_
  by_cases hi : i = k
  · subst hi
    rw [List.getElem?_set_self (by simp [sm_wd]; exact h), sm_at h, he]
  · rw [List.getElem?_set_ne (Ne.symm hi)]
    obtain ⟨h1, h2, h3⟩ := ho i hi
    by_cases hl : i < sm_N w
    · rw [sm_at hl, sm_at hl, h1, h2, h3]
    · rw [List.getElem?_eq_none (by simp [sm_wd]; omega), List.getElem?_eq_none (by simp [sm_wd]; omega)]
theorem sm_sIo {σ : sm_St} {k j : Nat} {v : Int32} : ∀ i, i ≠ k → (sm_sI σ k j v).1 i = σ.1 i ∧ (sm_sI σ k j v).2.1 i = σ.2.1 i ∧ (sm_sI σ k j v).2.2 i = σ.2.2 i := fun i hi => ⟨by simp [sm_sI, va_up, hi], rfl, rfl⟩
theorem sm_sLo {σ : sm_St} {k j : Nat} {v : Int64} : ∀ i, i ≠ k → (sm_sL σ k j v).1 i = σ.1 i ∧ (sm_sL σ k j v).2.1 i = σ.2.1 i ∧ (sm_sL σ k j v).2.2 i = σ.2.2 i := fun i hi => ⟨rfl, by simp [sm_sL, va_up, hi], rfl⟩
theorem sm_sRo {σ : sm_St} {k j : Nat} {v : Option Nat} : ∀ i, i ≠ k → (sm_sR σ k j v).1 i = σ.1 i ∧ (sm_sR σ k j v).2.1 i = σ.2.1 i ∧ (sm_sR σ k j v).2.2 i = σ.2.2 i := fun i hi => ⟨rfl, rfl, by simp [sm_sR, va_up, hi]⟩
theorem sm_cIo {σ : sm_St} {k k1 a b n : Nat} : ∀ i, i ≠ k1 → (sm_cI σ k k1 a b n).1 i = σ.1 i ∧ (sm_cI σ k k1 a b n).2.1 i = σ.2.1 i ∧ (sm_cI σ k k1 a b n).2.2 i = σ.2.2 i := fun i hi => ⟨by simp [sm_cI, va_up, hi], rfl, rfl⟩
theorem sm_cLo {σ : sm_St} {k k1 a b n : Nat} : ∀ i, i ≠ k1 → (sm_cL σ k k1 a b n).1 i = σ.1 i ∧ (sm_cL σ k k1 a b n).2.1 i = σ.2.1 i ∧ (sm_cL σ k k1 a b n).2.2 i = σ.2.2 i := fun i hi => ⟨rfl, by simp [sm_cL, va_up, hi], rfl⟩
theorem sm_sIk {σ : sm_St} {k j : Nat} {v : Int32} : (sm_sI σ k j v).1 k = upd (σ.1 k) j v ∧ (sm_sI σ k j v).2.1 k = σ.2.1 k ∧ (sm_sI σ k j v).2.2 k = σ.2.2 k := ⟨by simp [sm_sI, va_up], rfl, rfl⟩
theorem sm_sLk {σ : sm_St} {k j : Nat} {v : Int64} : (sm_sL σ k j v).1 k = σ.1 k ∧ (sm_sL σ k j v).2.1 k = vp_updL (σ.2.1 k) j v ∧ (sm_sL σ k j v).2.2 k = σ.2.2 k := ⟨rfl, by simp [sm_sL, va_up], rfl⟩
theorem sm_sRk {σ : sm_St} {k j : Nat} {v : Option Nat} : (sm_sR σ k j v).1 k = σ.1 k ∧ (sm_sR σ k j v).2.1 k = σ.2.1 k ∧ (sm_sR σ k j v).2.2 k = va_up (σ.2.2 k) j v := ⟨rfl, rfl, by simp [sm_sR, va_up]⟩
theorem sm_cIk {σ : sm_St} {k k1 a b n : Nat} : (sm_cI σ k k1 a b n).1 k1 = va_cpy (σ.1 k) (σ.1 k1) a b n ∧ (sm_cI σ k k1 a b n).2.1 k1 = σ.2.1 k1 ∧ (sm_cI σ k k1 a b n).2.2 k1 = σ.2.2 k1 := ⟨by simp [sm_cI, va_up], rfl, rfl⟩
theorem sm_cLk {σ : sm_St} {k k1 a b n : Nat} : (sm_cL σ k k1 a b n).1 k1 = σ.1 k1 ∧ (sm_cL σ k k1 a b n).2.1 k1 = va_cpy (σ.2.1 k) (σ.2.1 k1) a b n ∧ (sm_cL σ k k1 a b n).2.2 k1 = σ.2.2 k1 := ⟨rfl, by simp [sm_cL, va_up], rfl⟩
/-- the String constants, the two statics that are read -/
def sm_len : List Nat := [35, 72, 8]
def sm_byt : List (List Int32) := [[98, 101, 97, 114, 115, 32, 53, 32, 43, 32, 108, 111, 110, 103, 32, 59, 32, 109, 111, 118, 101, 115, 32, 51, 32, 59, 32, 104, 101, 97, 116, 32, 48, 32, 59], [112, 108, 97, 99, 101, 32, 115, 109, 111, 107, 101, 32, 109, 105, 110, 117, 116, 101, 108, 111, 110, 103, 32, 32, 110, 117, 109, 98, 101, 114, 115, 105, 116, 116, 101, 114, 98, 101, 97, 114, 115, 32, 109, 111, 118, 101, 115, 32, 104, 101, 97, 116, 32, 32, 111, 114, 32, 32, 32, 32, 97, 110, 100, 32, 32, 32, 110, 111, 116, 32, 32, 32], [40, 41, 59, 43, 45, 42, 60, 61]]
def sm_tx (i : Nat) : String × Nat × String := match i with
  | 0 => ("SmokeGoesTo", 62, "bears 5 + long ; moves 3 ; heat 0 ;")
  | 1 => ("SmokeGoesTo$Reader", 101, "place smoke minutelong  numbersitterbears moves heat  or    and   not   ")
  | _ => ("SmokeGoesTo$Reader", 90, "();+-*<=")
def sm_nl : List (String × Nat × MethodName) := [("SmokeGoesTo", 11, ⟨"SmokeGoesTo$Fire", "<init>", "()V"⟩), ("SmokeGoesTo", 25, ⟨"SmokeGoesTo$Reader", "<init>", "()V"⟩), ("SmokeGoesTo", 48, ⟨"SmokeGoesTo$Night", "<init>", "()V"⟩), ("SmokeGoesTo$Night", 11, ⟨"SmokeGoesTo$Fire", "<init>", "()V"⟩), ("SmokeGoesTo", 55, ⟨"SmokeGoesTo$Odds", "<init>", "()V"⟩), ("SmokeGoesTo", 60, ⟨"SmokeGoesTo$Text", "<init>", "()V"⟩), ("SmokeGoesTo", 61, ⟨"SmokeGoesTo$Sheet", "<init>", "()V"⟩), ("SmokeGoesTo$Fire", 59, ⟨"SmokeGoesTo", "isPlace", "(I)Z"⟩), ("SmokeGoesTo$Kind", 15, ⟨"SmokeGoesTo", "round", "(I)I"⟩), ("SmokeGoesTo$Night", 117, ⟨"SmokeGoesTo", "round", "(I)I"⟩), ("SmokeGoesTo$Odds", 37, ⟨"SmokeGoesTo", "round", "(I)I"⟩)]
def sm_Nst (U : State) : Prop := (∀ q ∈ sm_nl, va_Nw (.methodLinkNest q.1 q.2.1 q.2.2 "SmokeGoesTo") U) ∧ va_AO "SmokeGoesTo$Text" U ∧ va_AO "SmokeGoesTo$Sheet" U
def sm_Str (w : sm_WD) (U : State) (H : Heap) : Prop := vk_S 3 sm_len sm_byt (sm_aK w) (sm_aV w) (fun q => sm_z w ≤ q) U H ∧ va_Z "java/lang/String" "COMPACT_STRINGS" "Z" (.int 1) (fun q => sm_z w ≤ q) U H ∧ va_Zq "jdk/internal/util/Preconditions" "SIOOBE_FORMATTER" "Ljava/util/function/BiFunction;" (fun q => sm_z w ≤ q) U H ∧ (∀ i, i < 3 → vk_R (sm_tx i).1 (sm_tx i).2.1 (sm_tx i).2.2 (sm_aK w i) U) ∧ sm_Nst U
theorem sm_Str.kept {w : sm_WD} {U : State} {H H1 : Heap} (h : sm_Str w U H) (hq : ∀ a : Nat, a < H.size → ¬ sm_z w ≤ a → H1[a]? = H[a]?) : sm_Str w U H1 := ⟨h.1.kept hq, h.2.1.kept hq, h.2.2.1.kept hq, h.2.2.2⟩
theorem sm_Str.warm {w : sm_WD} {s U : State} {H : Heap} (hW : s.WarmedH U.vm) (h : sm_Str w s H) : sm_Str w U H := ⟨h.1.moved hW.alike, h.2.1.moved hW.alike, h.2.2.1.moved hW.alike, fun i hi => (h.2.2.2.1 i hi).warm hW, fun q hq => va_Nw.warmM hW (h.2.2.2.2.1 q hq), h.2.2.2.2.2.1.moved hW.alike, h.2.2.2.2.2.2.moved hW.alike⟩
theorem sm_Str.same {w : sm_WD} {s U : State} {H : Heap} (hv : U.vm = s.vm) (h : sm_Str w s H) : sm_Str w U H := ⟨h.1.moved (by rw [hv]; exact Vm.Alike.refl _), h.2.1.moved (by rw [hv]; exact Vm.Alike.refl _), h.2.2.1.moved (by rw [hv]; exact Vm.Alike.refl _), fun i hi => vk_R.same hv (h.2.2.2.1 i hi), fun q hq => va_Nw.same rfl hv.symm (h.2.2.2.2.1 q hq), h.2.2.2.2.2.1.moved (by rw [hv]; exact Vm.Alike.refl _), h.2.2.2.2.2.2.moved (by rw [hv]; exact Vm.Alike.refl _)⟩
def sm_Inj (w : sm_WD) (sz : Nat) : Prop := (∀ i j, i < sm_N w → j < sm_N w → sm_ad w i = sm_ad w j → i = j) ∧ (∀ k, k < sm_N w → sm_z w ≤ sm_ad w k) ∧ sm_z w ≤ sz
def sm_A (w : sm_WD) (sz : Nat) : Nat → Prop := fun q => (∃ k, k < sm_N w ∧ q = sm_ad w k) ∨ sz ≤ q
def sm_Pre (w : sm_WD) (σ : sm_St) (U : State) : Prop := va_P (sm_D w) (sm_cl w) (sm_wd w σ) U.heap ∧ va_K (sm_D w) (sm_cl w) (sm_ty w) U ∧ sm_Inj w U.heap.size ∧ sm_Str w U U.heap
theorem sm_wdi {w : sm_WD} {σ : sm_St} {i : Nat} {q : Nat × va_E} (h : (sm_wd w σ)[i]? = some q) : i < sm_N w ∧ q.1 = sm_ad w i := by
  have hl : i < sm_N w := by
    have := (List.getElem?_eq_some_iff.mp h).1
    simpa [sm_wd] using this
  rw [sm_at hl] at h
  cases h
  exact ⟨hl, rfl⟩
theorem sm_Dis {w : sm_WD} {σ : sm_St} {sz : Nat} {A : Nat → Prop} (h : sm_Inj w sz) (hA : ∀ k, k < sm_N w → A (sm_ad w k)) : va_D A (sm_wd w σ) := by
  refine ⟨fun i j p q hi hj hpq => ?_, fun k q hk => ?_⟩
  · obtain ⟨h1, e1⟩ := sm_wdi hi
    obtain ⟨h2, e2⟩ := sm_wdi hj
    exact h.1 i j h1 h2 (by rw [← e1, ← e2]; exact hpq)
  · obtain ⟨h1, e1⟩ := sm_wdi hk
    rw [e1]; exact hA k h1
/-- what is fixed in one run of a method -/
abbrev sm_VC : Type := Program × Launch × Env × Room × State × MethodId × Array Value × List Frame × Method × Code × sm_WD × (Nat → Prop) × Nat × Nat
def sm_p (X : sm_VC) : Program := X.1
def sm_l (X : sm_VC) : Launch := X.2.1
def sm_e (X : sm_VC) : Env := X.2.2.1
def sm_R (X : sm_VC) : Room := X.2.2.2.1
def sm_s (X : sm_VC) : State := X.2.2.2.2.1
def sm_m (X : sm_VC) : MethodId := X.2.2.2.2.2.1
def sm_as (X : sm_VC) : Array Value := X.2.2.2.2.2.2.1
def sm_be (X : sm_VC) : List Frame := X.2.2.2.2.2.2.2.1
def sm_me (X : sm_VC) : Method := X.2.2.2.2.2.2.2.2.1
def sm_co (X : sm_VC) : Code := X.2.2.2.2.2.2.2.2.2.1
def sm_w (X : sm_VC) : sm_WD := X.2.2.2.2.2.2.2.2.2.2.1
def sm_fA (X : sm_VC) : Nat → Prop := X.2.2.2.2.2.2.2.2.2.2.2.1
def sm_cs (X : sm_VC) : Nat := X.2.2.2.2.2.2.2.2.2.2.2.2.1
def sm_sl (X : sm_VC) : Nat := X.2.2.2.2.2.2.2.2.2.2.2.2.2
def sm_W (X : sm_VC) (H : Heap) (locs : List Loc) (Q : State → Prop) (g : JFrame) : Prop := W (sm_p X) (sm_l X) (sm_e X) (sm_R X) (sm_s X) (sm_m X) (sm_as X) (sm_be X) (sm_me X) (sm_co X) H locs (sm_cs X) (sm_sl X) Q g
/-- THE JUDGEMENT: from the abstract state σ, at pc, with these locals and this stack, the run comes to Q -/
def sm_V (X : sm_VC) (Q : State → Prop) (nL : Nat) (σ : sm_St) (pc : Nat) (lv : List (Nat × Value)) (st : List Value) : Prop :=
  ∀ (H : Heap) (locs : List Loc) (ls : Array Slot), va_P (sm_D (sm_w X)) (sm_cl (sm_w X)) (sm_wd (sm_w X) σ) H → va_S (sm_fA X) (sm_s X).heap H locs → lv_has ls nL lv → sm_W X H locs Q (F0 (sm_m X) pc ls st)
def sm_Cx (X : sm_VC) (cc : ByteArray) (nL : Nat) (own : String) (fr lo : Nat) (ret : Option FieldType) : Prop :=
  (sm_p X).tables.exec = Jvm.exec ∧ (sm_co X).code = cc ∧ (sm_co X).maxLocals = nL ∧ (sm_s X).vm.findClass own = some (sm_m X).cls ∧ (∀ w ∈ sm_G, w.before (sm_as X) (sm_s X) = true) ∧ va_K (sm_D (sm_w X)) (sm_cl (sm_w X)) (sm_ty (sm_w X)) (sm_s X) ∧ sm_Inj (sm_w X) (sm_s X).heap.size ∧ (∀ q, sm_A (sm_w X) (sm_s X).heap.size q → sm_fA X q) ∧ (∀ q, sm_fA X q → sm_z (sm_w X) ≤ q) ∧ (sm_me X).locks = false ∧ (sm_me X).sig.returnType = ret ∧ ((fr ≤ (sm_R X).frames ∧ lo ≤ (sm_R X).locals) ∧ sm_cs X ≤ (sm_R X).cells ∧ sm_sl X ≤ (sm_R X).slots) ∧ sm_Str (sm_w X) (sm_s X) (sm_s X).heap
section
variable {X : sm_VC} {cc : ByteArray} {nL : Nat} {own : String} {fr lo : Nat} {ret : Option FieldType}
theorem sm_Cx.hx (C : sm_Cx X cc nL own fr lo ret) : (sm_p X).tables.exec = Jvm.exec := C.1
theorem sm_Cx.hb (C : sm_Cx X cc nL own fr lo ret) : (sm_co X).code = cc := C.2.1
theorem sm_Cx.hml (C : sm_Cx X cc nL own fr lo ret) : (sm_co X).maxLocals = nL := C.2.2.1
theorem sm_Cx.hown (C : sm_Cx X cc nL own fr lo ret) : (sm_s X).vm.findClass own = some (sm_m X).cls := C.2.2.2.1
theorem sm_Cx.hts (C : sm_Cx X cc nL own fr lo ret) : ∀ w ∈ sm_G, w.before (sm_as X) (sm_s X) = true := C.2.2.2.2.1
theorem sm_Cx.hK (C : sm_Cx X cc nL own fr lo ret) : va_K (sm_D (sm_w X)) (sm_cl (sm_w X)) (sm_ty (sm_w X)) (sm_s X) := C.2.2.2.2.2.1
theorem sm_Cx.hI (C : sm_Cx X cc nL own fr lo ret) : sm_Inj (sm_w X) (sm_s X).heap.size := C.2.2.2.2.2.2.1
theorem sm_Cx.hA (C : sm_Cx X cc nL own fr lo ret) : ∀ q, sm_A (sm_w X) (sm_s X).heap.size q → sm_fA X q := C.2.2.2.2.2.2.2.1
theorem sm_Cx.hz (C : sm_Cx X cc nL own fr lo ret) : ∀ q, sm_fA X q → sm_z (sm_w X) ≤ q := C.2.2.2.2.2.2.2.2.1
theorem sm_Cx.hlk (C : sm_Cx X cc nL own fr lo ret) : (sm_me X).locks = false := C.2.2.2.2.2.2.2.2.2.1
theorem sm_Cx.hr (C : sm_Cx X cc nL own fr lo ret) : (sm_me X).sig.returnType = ret := C.2.2.2.2.2.2.2.2.2.2.1
theorem sm_Cx.hR (C : sm_Cx X cc nL own fr lo ret) : fr ≤ (sm_R X).frames ∧ lo ≤ (sm_R X).locals := C.2.2.2.2.2.2.2.2.2.2.2.1.1
theorem sm_Cx.hcs (C : sm_Cx X cc nL own fr lo ret) : sm_cs X ≤ (sm_R X).cells ∧ sm_sl X ≤ (sm_R X).slots := C.2.2.2.2.2.2.2.2.2.2.2.1.2
theorem sm_Cx.hT (C : sm_Cx X cc nL own fr lo ret) : sm_Str (sm_w X) (sm_s X) (sm_s X).heap := C.2.2.2.2.2.2.2.2.2.2.2.2
theorem sm_Cx.hAk (C : sm_Cx X cc nL own fr lo ret) : ∀ k, k < sm_N (sm_w X) → sm_fA X (sm_ad (sm_w X) k) := fun k h => C.hA _ (Or.inl ⟨k, h, rfl⟩)
theorem sm_Cx.hAz (C : sm_Cx X cc nL own fr lo ret) : ∀ q, (sm_s X).heap.size ≤ q → sm_fA X q := fun q h => C.hA _ (Or.inr h)
theorem sm_Cx.hD (C : sm_Cx X cc nL own fr lo ret) {σ : sm_St} : va_D (sm_fA X) (sm_wd (sm_w X) σ) := sm_Dis C.hI C.hAk
theorem sm_Cx.hTA (C : sm_Cx X cc nL own fr lo ret) : vk_S 3 sm_len sm_byt (sm_aK (sm_w X)) (sm_aV (sm_w X)) (sm_fA X) (sm_s X) (sm_s X).heap := C.hT.1.narrow C.hz
end
