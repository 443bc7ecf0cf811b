/-! THE RELATION between the class's cells and the reference's -/
/-- what one may count on of a fire: its numbers a, its sitters' kinds, numbers, places; k sitters, tc texts -/
def pr_I (a kn nb pl : Nat → Int32) (k tc : Nat) : Prop :=
  (0 ≤ a 0 ∧ a 0 ≤ 7) ∧ (0 ≤ a 1 ∧ 0 ≤ a 2 ∧ a 1 ≤ 100 ∧ a 2 ≤ 100 ∧ a 1 + a 2 ≤ 100) ∧ (0 ≤ a 3 ∧ a 3 ≤ 255) ∧ (a 4 = 0 ∨ a 4 = 1) ∧ (0 ≤ a 5 ∧ a 5 < nI tc) ∧ a 6 = nI k ∧ (∀ x, x < k → (0 ≤ kn x ∧ kn x ≤ 5) ∧ (0 ≤ nb x ∧ nb x ≤ 9) ∧ (0 ≤ pl x ∧ pl x ≤ 7)) ∧ ∀ x y, x < k → y < k → pl x = pl y → x = y
def pr_F (σx σm : sm_St) (k : Nat) : Prop :=
  σm.1 0 15 = nI k ∧ σm.1 0 7 = σx.1 1 0 ∧ σm.1 0 8 = σx.1 1 1 ∧ σm.1 0 9 = σx.1 1 2 ∧ σm.1 0 10 = σx.1 1 3 ∧ σm.1 0 11 = σx.1 1 4 ∧ σm.1 0 4 = σx.1 1 5 ∧ ∀ x, x < k → σm.1 4 x = σx.1 4 x ∧ σm.1 5 x = σx.1 7 x ∧ σm.1 6 x = σx.1 10 x
def pr_K (σx σm : sm_St) (k tc : Nat) : Prop :=
  (σx.1 0 2 = 0 ∧ σm.1 0 51 = -1) ∨ (σx.1 0 2 = 1 ∧ ∃ q, q ≤ k ∧ σm.1 0 51 = nI q ∧ σm.1 19 10 = σx.1 2 0 ∧ σm.1 19 11 = σx.1 2 1 ∧ σm.1 19 12 = σx.1 2 2 ∧ σm.1 19 13 = σx.1 2 3 ∧ σm.1 19 14 = σx.1 2 4 ∧ σm.1 0 52 = σx.1 2 5 ∧ (∀ x, x < q → σm.1 19 x = σx.1 8 x ∧ σm.1 19 (5 + x) = σx.1 11 x ∧ σx.1 5 x = σx.1 4 x) ∧ pr_I (σx.1 2) (σx.1 5) (σx.1 8) (σx.1 11) q tc)
def pr_S1 (σx σm : sm_St) (s : Nat) : Prop :=
  (σx.1 (35 + s) 0 = -1 ∧ σm.1 20 s = 0) ∨ ∃ t n, t < 3 ∧ n ≤ 40 ∧ σx.1 (35 + s) 0 = nI t ∧ σm.1 20 s = 1 ∧ σm.1 21 s = nI t ∧ σx.1 (35 + s) 1 = nI n ∧ σm.1 22 s = nI n ∧ ∀ i, i < n → σm.1 23 (40 * s + i) = σx.1 (39 + s) i
def pr_S (σx σm : sm_St) : Prop := ∀ s, s < 4 → pr_S1 σx σm s
def pr_P (σx σm : sm_St) : Prop := ∃ n, n ≤ 160 ∧ σx.1 13 0 = nI n ∧ σm.1 0 6 = nI n ∧ ∀ i, i < n → σm.1 3 i = σx.1 14 i ∧ 0 ≤ σx.1 14 i ∧ σx.1 14 i ≤ 255
/-- which slots the relation speaks of; the rest is scratch -/
def pr_px (c j : Nat) : Bool := (c == 13 && j == 0) || !(c == 3 || c == 6 || c == 9 || c == 12 || c == 13 || (43 ≤ c))
def pr_pm (c j : Nat) : Bool := (c == 0 && !((16 ≤ j && j ≤ 30) || j == 37 || j == 38 || (43 ≤ j && j ≤ 49))) || !(c == 0 || (7 ≤ c && c ≤ 18))
def pr_ax (σ σ' : sm_St) : Prop := ∀ c j, pr_px c j = true → σ'.1 c j = σ.1 c j
def pr_am (σ σ' : sm_St) : Prop := ∀ c j, pr_pm c j = true → σ'.1 c j = σ.1 c j
theorem pr_ax.rf (σ : sm_St) : pr_ax σ σ := fun _ _ _ => rfl
theorem pr_am.rf (σ : sm_St) : pr_am σ σ := fun _ _ _ => rfl
theorem pr_ax.tr {a b c : sm_St} (h : pr_ax a b) (g : pr_ax b c) : pr_ax a c := fun x y z => (g x y z).trans (h x y z)
theorem pr_am.tr {a b c : sm_St} (h : pr_am a b) (g : pr_am b c) : pr_am a c := fun x y z => (g x y z).trans (h x y z)
/-- a text as the class keeps it (code, ends) is the reference's text of these bytes -/
def pr_T (cmp : (Nat → Int32) → Nat → (Nat → Int32) → (Nat → Int32) → Prop) (σx σm : sm_St) (tc : Nat) : Prop :=
  1 ≤ tc ∧ tc ≤ 6 ∧ σx.1 0 5 = nI tc ∧ σm.1 0 3 = nI tc ∧ ∀ t, t < tc → ∃ n, n ≤ 160 ∧ σm.1 2 t = nI n ∧ cmp (fun i => σm.1 1 (160 * t + i)) n (σx.1 (22 + t)) (σx.1 (28 + t))
def pr_R (cmp : (Nat → Int32) → Nat → (Nat → Int32) → (Nat → Int32) → Prop) (σx σm : sm_St) : Prop :=
  ∃ k tc, k ≤ 5 ∧ pr_F σx σm k ∧ pr_I (σx.1 1) (σx.1 4) (σx.1 7) (σx.1 10) k tc ∧ pr_K σx σm k tc ∧ pr_S σx σm ∧ pr_P σx σm ∧ pr_T cmp σx σm tc
theorem pr_cx {σ σ' : sm_St} (h : pr_ax σ σ') (c : Nat) (hc : ∀ j, pr_px c j = true) : σ'.1 c = σ.1 c := funext fun j => h c j (hc j)
theorem pr_cm {σ σ' : sm_St} (h : pr_am σ σ') (c : Nat) (hc : ∀ j, pr_pm c j = true) : σ'.1 c = σ.1 c := funext fun j => h c j (hc j)
theorem pr_pxc : ∀ c, c < 43 → c ≠ 3 → c ≠ 6 → c ≠ 9 → c ≠ 12 → c ≠ 13 → ∀ j, pr_px c j = true := by
  intro c h h3 h6 h9 h12 h13 j
  simp [pr_px, h3, h6, h9, h12, h13]
  omega
theorem pr_pmc : ∀ c, c ≠ 0 → c < 7 ∨ 18 < c → ∀ j, pr_pm c j = true := by
  intro c h h3 j
  simp [pr_pm, h]
  omega
/-- the relation stands, whatever becomes of the scratch -/
theorem pr_R.keep {cmp : (Nat → Int32) → Nat → (Nat → Int32) → (Nat → Int32) → Prop} {σx σm σx' σm' : sm_St} (h : pr_R cmp σx σm) (hx : pr_ax σx σx') (hm : pr_am σm σm') : pr_R cmp σx' σm' := by
  have cx : ∀ c, c < 43 → c ≠ 3 → c ≠ 6 → c ≠ 9 → c ≠ 12 → c ≠ 13 → σx'.1 c = σx.1 c := fun c h h3 h6 h9 h12 h13 => pr_cx hx c (pr_pxc c h h3 h6 h9 h12 h13)
  have cm : ∀ c, c ≠ 0 → c < 7 ∨ 18 < c → σm'.1 c = σm.1 c := fun c h h3 => pr_cm hm c (pr_pmc c h h3)
  obtain ⟨k, tc, h5, hF, hI, hK, hS, hP, hT⟩ := h
  refine ⟨k, tc, h5, ?_, ?_, ?_, ?_, ?_, ?_⟩
  · unfold pr_F at hF ⊢
    rw [hm 0 15 rfl, hm 0 7 rfl, hm 0 8 rfl, hm 0 9 rfl, hm 0 10 rfl, hm 0 11 rfl, hm 0 4 rfl, cm 4 (by decide) (by decide), cm 5 (by decide) (by decide), cm 6 (by decide) (by decide), cx 1 (by decide) (by decide) (by decide) (by decide) (by decide) (by decide), cx 4 (by decide) (by decide) (by decide) (by decide) (by decide) (by decide), cx 7 (by decide) (by decide) (by decide) (by decide) (by decide) (by decide), cx 10 (by decide) (by decide) (by decide) (by decide) (by decide) (by decide)]
    exact hF
  · rw [cx 1 (by decide) (by decide) (by decide) (by decide) (by decide) (by decide), cx 4 (by decide) (by decide) (by decide) (by decide) (by decide) (by decide), cx 7 (by decide) (by decide) (by decide) (by decide) (by decide) (by decide), cx 10 (by decide) (by decide) (by decide) (by decide) (by decide) (by decide)]
    exact hI
  · unfold pr_K at hK ⊢
    rw [hm 0 51 rfl, hm 0 52 rfl, cm 19 (by decide) (by decide), cx 0 (by decide) (by decide) (by decide) (by decide) (by decide) (by decide), cx 2 (by decide) (by decide) (by decide) (by decide) (by decide) (by decide), cx 4 (by decide) (by decide) (by decide) (by decide) (by decide) (by decide), cx 5 (by decide) (by decide) (by decide) (by decide) (by decide) (by decide), cx 8 (by decide) (by decide) (by decide) (by decide) (by decide) (by decide), cx 11 (by decide) (by decide) (by decide) (by decide) (by decide) (by decide)]
    exact hK
  · intro s hs
    have := hS s hs
    unfold pr_S1 at this ⊢
    rw [cm 20 (by decide) (by decide), cm 21 (by decide) (by decide), cm 22 (by decide) (by decide), cm 23 (by decide) (by decide), cx (35 + s) (by omega) (by omega) (by omega) (by omega) (by omega) (by omega), cx (39 + s) (by omega) (by omega) (by omega) (by omega) (by omega) (by omega)]
    exact this
  · unfold pr_P at hP ⊢
    rw [hx 13 0 rfl, hm 0 6 rfl, cm 3 (by decide) (by decide), cx 14 (by decide) (by decide) (by decide) (by decide) (by decide) (by decide)]
    exact hP
  · unfold pr_T at hT ⊢
    rw [hm 0 3 rfl, cm 2 (by decide) (by decide), cm 1 (by decide) (by decide), cx 0 (by decide) (by decide) (by decide) (by decide) (by decide) (by decide)]
    refine ⟨hT.1, hT.2.1, hT.2.2.1, hT.2.2.2.1, fun t ht => ?_⟩
    rw [cx (22 + t) (by omega) (by omega) (by omega) (by omega) (by omega) (by omega), cx (28 + t) (by omega) (by omega) (by omega) (by omega) (by omega) (by omega)]
    exact hT.2.2.2.2 t ht
/-- both answer alike, and the relation stands -/
def pr_sim {α : Type} (cmp : (Nat → Int32) → Nat → (Nat → Int32) → (Nat → Int32) → Prop) (x m : Option (α × sm_St)) : Prop := ∃ r s t, x = some (r, s) ∧ m = some (r, t) ∧ pr_R cmp s t
theorem pr_same {α : Type} {cmp : (Nat → Int32) → Nat → (Nat → Int32) → (Nat → Int32) → Prop} {r : α} {s t : sm_St} (h : pr_R cmp s t) : pr_sim cmp (some (r, s)) (some (r, t)) := ⟨r, s, t, rfl, rfl, h⟩
