/-! KINDS: who gets up, where one goes, what one bears -/
theorem g_2 {β : Type} {x : Option β} : sm_g (!decide ((2 : Int32) = 0)) x = x := rfl
theorem g_3 {β : Type} {x : Option β} : sm_g (!decide ((3 : Int32) = 0)) x = x := rfl
theorem g_8 {β : Type} {x : Option β} : sm_g (!decide ((8 : Int32) = 0)) x = x := rfl
theorem g_10 {β : Type} {x : Option β} : sm_g (!decide ((10 : Int32) = 0)) x = x := rfl
theorem g_100 {β : Type} {x : Option β} : sm_g (!decide ((100 : Int32) = 0)) x = x := rfl
def pu_up (k n l : Int32) : Int32 := if k = 1 then 1 else if k = 2 then (if l ≤ n then 0 else 1) else if k = 3 then 1 else if k = 4 then (if l - l / 2 * 2 = 0 then (if l ≤ n then 0 else 1) else 0) else 0
def pu_goes (k p w : Int32) : Int32 := (if k = 3 then (if w = 0 then p + 1 else p + w) else if k = 4 then p + 2 else p + 4) &&& 7
def pu_bears (k v l : Int32) : Int32 := if k = 1 then 2 * v else if k = 2 then v + l else if k = 3 then (if 0 < 2 * v - 1 then 2 * v - 1 else 0) else if k = 4 then (v + l) / 2 else if k = 5 then 0 else v
theorem pu_up01 (k n l : Int32) : pu_up k n l = 0 ∨ pu_up k n l = 1 := by
  unfold pu_up
  (repeat' split) <;> first | exact Or.inl rfl | exact Or.inr rfl
theorem xf_getsUp (k n l : Int32) (σ : sm_St) : xf_X1_getsUp k n l σ = some (pu_up k n l, σ) := by
  unfold xf_X1_getsUp pu_up
  simp only [g_2, sm_bS]
  (repeat' split) <;> rfl
theorem xf_goes (k p w : Int32) (σ : sm_St) : xf_X1_goes k p w σ = some (pu_goes k p w, σ) := by
  unfold xf_X1_goes pu_goes
  simp only [xf_X1_goes_p38, xf_round, sm_bS, sm_cS]
  (repeat' split) <;> rfl
theorem xf_bears (k v l : Int32) (σ : sm_St) : xf_X1_bears k v l σ = some (pu_bears k v l, σ) := by
  unfold xf_X1_bears pu_bears
  simp only [g_2, sm_bS, sm_cS]
  (repeat' split) <;> rfl
theorem mf_getsUp {σ : sm_St} {x : Nat} (hx : x < 5) (l : Int32) : mf_X8_getsUp (nI x) l σ = some (pu_up (σ.1 4 x) (σ.1 5 x) l, σ) := by
  unfold mf_X8_getsUp pu_up
  simp only [mf_X8_getsUp_p35, sm_bS, sm_gIn hx (by decide : 5 < 2 ^ 31), nI_cl (show x < 2 ^ 31 by omega), g_2]
  (repeat' split) <;> first | rfl | (exfalso; grind)
theorem mf_goes {σ : sm_St} {x : Nat} (hx : x < 5) {p w : Int32} (hp : 0 ≤ p ∧ p ≤ 7) (hw : -1 ≤ w ∧ w ≤ 1) : mf_X8_goesTo (nI x) p w σ = some (pu_goes (σ.1 4 x) p w, σ) := by
  unfold mf_X8_goesTo pu_goes
  have r1 : mf_X8_round (p + 1) σ = some ((p + 1) &&& 7, σ) := mf_round σ (by grind) (by grind)
  have r2 : mf_X8_round (p + w) σ = some ((p + w) &&& 7, σ) := mf_round σ (by grind) (by grind)
  have r3 : mf_X8_round (p + 2) σ = some ((p + 2) &&& 7, σ) := mf_round σ (by grind) (by grind)
  have r4 : mf_X8_round (p + 4) σ = some ((p + 4) &&& 7, σ) := mf_round σ (by grind) (by grind)
  simp only [mf_X8_goesTo_p45, sm_bS, sm_gIn hx (by decide : 5 < 2 ^ 31), nI_cl (show x < 2 ^ 31 by omega), r1, r2, r3, r4, sm_cS]
  (repeat' split) <;> rfl
section
variable {cmp : (Nat → Int32) → Nat → (Nat → Int32) → (Nat → Int32) → Prop} {σx σm σx' σm' : sm_St} {k tc : Nat}
theorem pr_told (h : pr_R cmp σx σm) (a1 a2 : Int32) : pr_sim cmp (xf_X7_told a1 a2 σx) (mf_X8_told a1 a2 σm) := by
  have h0 := h
  obtain ⟨k, tc, h5, hF, hI, -, -, -, -⟩ := h
  obtain ⟨f1, f2, f3, f4, f5, f6, f7, f8⟩ := hF
  have i1 := hI.2.2.2.2.2.1
  have i2 := hI.2.2.2.2.2.2.1
  unfold mf_X8_told xf_X7_told
  simp only [sm_bS, mf_in9, sm_cS, xf_has, mf_isSitter f1 h5, i1, xf_goes, xf_getsUp]
  by_cases c : 0 ≤ a1 ∧ a1 < nI k
  · obtain ⟨x, hx, rfl⟩ := nI_ofR (n := k) (by omega) c.1 c.2
    obtain ⟨j1, j2, j3⟩ := i2 x hx
    obtain ⟨e1, e2, e3⟩ := f8 x hx
    have hx5 : x < 5 := by omega
    have u := pu_up01 (σx.1 4 x) (σx.1 7 x) (a2 - 3)
    simp only [c, and_self, if_true, i10, if_false, sm_gIn hx5 (by decide : 5 < 2 ^ 31), nI_cl (show x < 2 ^ 31 by omega), mf_getsUp hx5, sm_cS, e1, e2, e3]
    rw [mf_goes hx5 j3 ⟨by decide, by decide⟩, e1]
    simp only [sm_cS]
    clear i1 i2 f1 f2 f3 f4 f5 f6 f7 f8 hI
    (repeat' split) <;> first | exact pr_same h0 | (clear h0; exfalso; grind)
  · simp only [c, if_false, if_true]
    exact pr_same h0
end
