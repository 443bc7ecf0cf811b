/-! THE PURE SIDE: what the words compute -/
def sm_ok {α : Type} (x : Option (α × sm_St)) (P : α → sm_St → Prop) : Prop := ∃ a s, x = some (a, s) ∧ P a s
theorem ok_some {α : Type} {a : α} {s : sm_St} {P : α → sm_St → Prop} : sm_ok (some (a, s)) P ↔ P a s := ⟨fun ⟨_, _, h, p⟩ => by cases h; exact p, fun h => ⟨a, s, rfl, h⟩⟩
theorem ok_b {α β : Type} {e : α} {f : α → Option (β × sm_St)} {P : β → sm_St → Prop} : sm_ok (sm_b e f) P ↔ sm_ok (f e) P := Iff.rfl
theorem ok_g {β : Type} {b : Bool} {x : Option (β × sm_St)} {P : β → sm_St → Prop} : sm_ok (sm_g b x) P ↔ b = true ∧ sm_ok x P := by
  cases b
  · refine ⟨fun h => ?_, fun h => ?_⟩
    · obtain ⟨_, _, h, _⟩ := h
      cases h
    · cases h.1
  · exact ⟨fun h => ⟨rfl, h⟩, fun h => h.2⟩
theorem ok_if {β : Type} {c : Prop} {d : Decidable c} {A B : Option (β × sm_St)} {P : β → sm_St → Prop} : sm_ok (if c then A else B) P ↔ (c → sm_ok A P) ∧ (¬ c → sm_ok B P) := by
  by_cases h : c
  · rw [if_pos h]; exact ⟨fun p => ⟨fun _ => p, fun n => absurd h n⟩, fun p => p.1 h⟩
  · rw [if_neg h]; exact ⟨fun p => ⟨fun n => absurd n h, fun _ => p⟩, fun p => p.2 h⟩
theorem ok_c {α β : Type} {x : Option (α × sm_St)} {f : α → sm_St → Option (β × sm_St)} {P : β → sm_St → Prop} {Q : α → sm_St → Prop} (h : sm_ok x Q) (k : ∀ a s, Q a s → sm_ok (f a s) P) : sm_ok (sm_c x f) P := by
  obtain ⟨a, s, e, q⟩ := h
  subst e
  exact k a s q
theorem ok_mono {α : Type} {x : Option (α × sm_St)} {P Q : α → sm_St → Prop} (h : sm_ok x P) (k : ∀ a s, P a s → Q a s) : sm_ok x Q := by
  obtain ⟨a, s, e, q⟩ := h
  exact ⟨a, s, e, k a s q⟩
theorem ok_eq {α : Type} {x : Option (α × sm_St)} {a : α} {s : sm_St} {P : α → sm_St → Prop} (h : x = some (a, s)) (p : P a s) : sm_ok x P := ⟨a, s, h, p⟩
theorem sm_cS {α β : Type} {a : α} {s : sm_St} {f : α → sm_St → Option β} : sm_c (some (a, s)) f = f a s := rfl
theorem sm_bS {α β : Type} {a : α} {f : α → Option β} : sm_b a f = f a := rfl
theorem sm_gT {β : Type} {x : Option β} : sm_g true x = x := rfl
theorem sm_inN {i n : Nat} (h : i < n) (hn : n < 2 ^ 31) : sm_in (nI i) n = true := decide_eq_true (vp_in_nI h hn)
theorem sm_gIn {β : Type} {i n : Nat} {x : Option β} (h : i < n) (hn : n < 2 ^ 31) : sm_g (sm_in (nI i) n) x = x := by rw [sm_inN h hn]; rfl
theorem nI_cl {n : Nat} (h : n < 2 ^ 31) : (nI n).toNatClampNeg = n := nI_clamp h
theorem nI_inc (n : Nat) : nI n + Int32.ofInt 1 = nI (n + 1) := nI_1 n
theorem nI_ofR {x : Int32} {n : Nat} (hn : n < 2 ^ 31) (h : 0 ≤ x) (h2 : x < nI n) : ∃ j : Nat, j < n ∧ x = nI j := by
  rcases pk_ix x hn with q | q | q
  · exact absurd q (Int32.not_lt.mpr h)
  · exact absurd h2 (Int32.not_lt.mpr q)
  · exact q
/-- the first that is so, of d numbers from i on -/
def pu_find (q : Nat → Bool) : Nat → Nat → Int32
  | 0, _ => -1
  | d + 1, i => if q i = true then nI i else pu_find q d (i + 1)
theorem nI_ne1 {n : Nat} (h : n < 2 ^ 31) : ¬ nI n = -1 := by
  intro e
  have := nI_pos' h
  rw [e] at this
  exact absurd this (by decide)
theorem pu_find_none {q : Nat → Bool} : ∀ (d i : Nat), i + d < 2 ^ 31 → (pu_find q d i = -1 ↔ ∀ j, i ≤ j → j < i + d → q j = false) := by
  intro d
  induction d with
  | zero => intro i _; exact ⟨fun _ j h1 h2 => by omega, fun _ => rfl⟩
  | succ d ih =>
    intro i hi
    unfold pu_find
    by_cases h : q i = true
    · rw [if_pos h]
      refine ⟨fun e => absurd e (nI_ne1 (by omega)), fun e => ?_⟩
      have := e i (Nat.le_refl _) (by omega)
      rw [h] at this
      cases this
    · rw [if_neg h, ih (i + 1) (by omega)]
      refine ⟨fun e j h1 h2 => ?_, fun e j h1 h2 => e j (by omega) (by omega)⟩
      rcases Nat.eq_or_lt_of_le h1 with z | z
      · subst z; simpa using h
      · exact e j z (by omega)
theorem pu_find_some {q : Nat → Bool} : ∀ (d i : Nat), ¬ pu_find q d i = -1 → ∃ j, i ≤ j ∧ j < i + d ∧ pu_find q d i = nI j ∧ q j = true := by
  intro d
  induction d with
  | zero => intro i h; exact absurd rfl h
  | succ d ih =>
    intro i h
    unfold pu_find at h ⊢
    by_cases hq : q i = true
    · rw [if_pos hq]
      exact ⟨i, Nat.le_refl _, by omega, rfl, hq⟩
    · rw [if_neg hq] at h ⊢
      obtain ⟨j, h1, h2, h3, h4⟩ := ih (i + 1) h
      exact ⟨j, by omega, by omega, h3, h4⟩
theorem mf_in (x lo hi : Int64) (σ : sm_St) : mf_X8_in x lo hi σ = some (if lo ≤ x ∧ x ≤ hi then 1 else 0, σ) := by
  unfold mf_X8_in
  simp only [sm_bS, lg_cmp]
  grind
theorem mf_inI {x lo hi : Int32} {σ : sm_St} : mf_X8_in x.toInt64 lo.toInt64 hi.toInt64 σ = some (if lo ≤ x ∧ x ≤ hi then 1 else 0, σ) := by
  rw [mf_in]; simp
theorem mf_isPlace (x : Int32) (σ : sm_St) : mf_X8_isPlace x σ = some (if 0 ≤ x ∧ x ≤ 7 then 1 else 0, σ) := by
  unfold mf_X8_isPlace
  have h := @mf_inI x 0 7 σ
  simp only [sm_bS, show ((0 : Int64)) = (0 : Int32).toInt64 from rfl, show ((7 : Int64)) = (7 : Int32).toInt64 from rfl, h, sm_cS]
  split <;> rfl
theorem mf_isSitter {σ : sm_St} {k : Nat} (hk : σ.1 0 15 = nI k) (h5 : k ≤ 5) (x : Int32) : mf_X8_isSitter x σ = some (if 0 ≤ x ∧ x < nI k then 1 else 0, σ) := by
  unfold mf_X8_isSitter
  simp only [sm_bS, hk, show ((0 : Int64)) = (0 : Int32).toInt64 from rfl, mf_inI, sm_cS]
  have e : x ≤ nI k - 1 ↔ x < nI k := by
    have h1 : 0 ≤ nI k := nI_pos' (by omega)
    have h2 : nI k ≤ nI 5 := nI_le h5 (by omega)
    have h3 : nI 5 = 5 := rfl
    rw [h3] at h2
    grind
  simp only [e]
  split <;> rfl
theorem mf_onPlaceL {σ : sm_St} {k : Nat} (hk : σ.1 0 15 = nI k) (h5 : k ≤ 5) (p but : Int32) : ∀ (d i n : Nat), i + d = k → d < n → mf_X8_onPlace_p2 p but n σ (nI i) = some (pu_find (fun x => decide (¬ nI x = but) && decide (σ.1 6 x = p)) d i, σ) := by
  intro d
  induction d with
  | zero =>
    intro i n hi hn
    obtain ⟨m, rfl⟩ : ∃ m, n = m + 1 := ⟨n - 1, by omega⟩
    rw [mf_X8_onPlace_p2]
    simp only [sm_bS, hk]
    rw [if_pos (nI_le (by omega) (by omega))]
    rfl
  | succ d ih =>
    intro i n hi hn
    obtain ⟨m, rfl⟩ : ∃ m, n = m + 1 := ⟨n - 1, by omega⟩
    rw [mf_X8_onPlace_p2]
    simp only [sm_bS, hk, mf_X8_onPlace_p27, nI_inc]
    rw [if_neg (nI_ge (by omega) (by omega)), ih (i + 1) m (by omega) (by omega), sm_gIn (by omega) (by omega), nI_cl (by omega)]
    simp only [pu_find]
    by_cases h1 : nI i = but <;> by_cases h2 : σ.1 6 i = p <;> simp [h1, h2]
theorem mf_onPlace {σ : sm_St} {k : Nat} (hk : σ.1 0 15 = nI k) (h5 : k ≤ 5) (p but : Int32) : mf_X8_onPlace p but σ = some (pu_find (fun x => decide (¬ nI x = but) && decide (σ.1 6 x = p)) k 0, σ) := mf_onPlaceL hk h5 p but k 0 sm_F (by omega) (by have := sm_Fge; omega)
theorem xf_whoL {σ : sm_St} {c k : Nat} (hk : σ.1 c 6 = nI k) (h5 : k ≤ 5) (p : Int32) : ∀ (d i n : Nat), i + d = k → d < n → xf_X0_whoIsOn_p2 c p n σ (nI i) = some (pu_find (fun x => decide (σ.1 (c + 9) x = p)) d i, σ) := by
  intro d
  induction d with
  | zero =>
    intro i n hi hn
    obtain ⟨m, rfl⟩ : ∃ m, n = m + 1 := ⟨n - 1, by omega⟩
    rw [xf_X0_whoIsOn_p2]
    simp only [sm_bS, hk]
    rw [if_pos (nI_le (by omega) (by omega))]
    rfl
  | succ d ih =>
    intro i n hi hn
    obtain ⟨m, rfl⟩ : ∃ m, n = m + 1 := ⟨n - 1, by omega⟩
    rw [xf_X0_whoIsOn_p2]
    simp only [sm_bS, hk, nI_inc]
    rw [if_neg (nI_ge (by omega) (by omega)), ih (i + 1) m (by omega) (by omega), sm_gIn (by omega) (by omega), nI_cl (by omega)]
    simp only [pu_find]
    by_cases h2 : σ.1 (c + 9) i = p <;> simp [h2]
theorem xf_who {σ : sm_St} {c k : Nat} (hk : σ.1 c 6 = nI k) (h5 : k ≤ 5) (p : Int32) : xf_X0_whoIsOn c p σ = some (pu_find (fun x => decide (σ.1 (c + 9) x = p)) k 0, σ) := xf_whoL hk h5 p k 0 sm_F (by omega) (by have := sm_Fge; omega)
theorem xf_has {σ : sm_St} {c : Nat} (x : Int32) : xf_X0_has c x σ = some (if 0 ≤ x ∧ x < σ.1 c 6 then 1 else 0, σ) := by
  unfold xf_X0_has
  simp only [sm_bS]
  grind
theorem xf_isPlace (x : Int32) (σ : sm_St) : xf_X7_isPlace x σ = some (if 0 ≤ x ∧ x ≤ 7 then 1 else 0, σ) := by
  unfold xf_X7_isPlace
  grind
theorem xf_round (x : Int32) (σ : sm_St) : xf_X7_round x σ = some (x &&& 7, σ) := rfl
/-- round, by the rest, twice -/
theorem pu_round : ∀ n : Nat, n < 24 → ((nI n - 8) - (nI n - 8) / 8 * 8) + 8 - (((nI n - 8) - (nI n - 8) / 8 * 8) + 8) / 8 * 8 = (nI n - 8) &&& 7 := by decide
theorem mf_round {x : Int32} (σ : sm_St) (h : -8 ≤ x) (h2 : x < 16) : mf_X8_round x σ = some (x &&& 7, σ) := by
  obtain ⟨n, hn, e⟩ := nI_ofR (x := x + 8) (n := 24) (by omega) (by grind) (by have : nI 24 = 24 := rfl; rw [this]; grind)
  have e2 : x = nI n - 8 := by rw [← e]; grind
  unfold mf_X8_round
  simp only [sm_bS]
  rw [e2, pu_round n hn]
  rfl
theorem pu_and7 : ∀ n : Nat, n < 24 → 0 ≤ (nI n - 8) &&& 7 ∧ (nI n - 8) &&& 7 ≤ 7 := by decide
