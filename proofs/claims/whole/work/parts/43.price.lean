/-! what a sitter's cost is told to be, by what a text says -/
def nt_nm (pl sk mi lo nb si : Int32) : Nat → Int32 := fun i => if i = 0 then pl else if i = 1 then sk else if i = 2 then mi else if i = 3 then lo else if i = 4 then nb else si
def nt_cl (v : Int32) : Int32 := if 0 < (if v < 99 then v else 99) then (if v < 99 then v else 99) else 0
def nt_P (V : (Nat → Int32) → (Nat → Int32) → Int32 → (Nat → Int32) → Int32) (code ends nb : Nat → Int32) (pt : Int32) (x : Nat) (pl sk mi lo : Int32) : Int32 := nt_cl (V code ends pt (nt_nm pl sk mi lo (nb x) (nI x)))
/-- what the texts must keep: how the class's code and the reference's bytes say the same -/
def nt_I (cmp : (Nat → Int32) → Nat → (Nat → Int32) → (Nat → Int32) → Prop) (V : (Nat → Int32) → (Nat → Int32) → Int32 → (Nat → Int32) → Int32) : Prop :=
  (∀ b n code ends, cmp b n code ends → ∀ pt f g, (pt = 0 ∨ pt = 1 ∨ pt = 2) → (∀ i, i < 6 → f i = g i) → V code ends pt f = V code ends pt g) ∧
  (∀ t σ b n, t < 6 → cmp b n (σ.1 (22 + t)) (σ.1 (28 + t)) → ∀ pt, (pt = 0 ∨ pt = 1 ∨ pt = 2) → sm_ok (xf_X6_value (16 + t) pt 50 51 σ) (fun v s => v = V (σ.1 (22 + t)) (σ.1 (28 + t)) pt (σ.1 50) ∧ (∀ c, c ≠ 51 → s.1 c = σ.1 c) ∧ s.2 = σ.2)) ∧
  (∀ t σ n code ends, t < 6 → n ≤ 160 → σ.1 2 t = nI n → cmp (fun i => σ.1 1 (160 * t + i)) n code ends → ∀ pt, (pt = 0 ∨ pt = 1 ∨ pt = 2) → sm_ok (mf_X8_read (nI t) pt σ) (fun v s => v = V code ends pt (fun i => σ.1 0 (16 + i)) ∧ (∀ c, c ≠ 0 → s.1 c = σ.1 c) ∧ ∀ j, ¬ (22 ≤ j ∧ j ≤ 30) → s.1 0 j = σ.1 0 j))
theorem nt_cl99 (v : Int32) : 0 ≤ nt_cl v ∧ nt_cl v ≤ 99 := by
  unfold nt_cl
  grind
theorem g6 {β : Type} {x : Option β} : sm_g (sm_in 0 6) x = x ∧ sm_g (sm_in 1 6) x = x ∧ sm_g (sm_in 2 6) x = x ∧ sm_g (sm_in 3 6) x = x ∧ sm_g (sm_in 4 6) x = x ∧ sm_g (sm_in 5 6) x = x := ⟨rfl, rfl, rfl, rfl, rfl, rfl⟩
theorem c6 : (0 : Int32).toNatClampNeg = 0 ∧ (1 : Int32).toNatClampNeg = 1 ∧ (2 : Int32).toNatClampNeg = 2 ∧ (3 : Int32).toNatClampNeg = 3 ∧ (4 : Int32).toNatClampNeg = 4 ∧ (5 : Int32).toNatClampNeg = 5 := by decide
theorem xo_tagT : ∀ t, t < 6 → sm_g (decide (xo_tag (16 + t) = 3)) = fun (x : Option (Int32 × sm_St)) => x := by
  intro t ht
  rcases (by omega : t = 0 ∨ t = 1 ∨ t = 2 ∨ t = 3 ∨ t = 4 ∨ t = 5) with e | e | e | e | e | e <;> subst e <;> rfl
section
variable {cmp : (Nat → Int32) → Nat → (Nat → Int32) → (Nat → Int32) → Prop} {V : (Nat → Int32) → (Nat → Int32) → Int32 → (Nat → Int32) → Int32} {k : Nat} {σ0 : sm_St}
theorem xf_priceE {t n : Nat} {b : Nat → Int32} (hI : nt_I cmp V) (h5 : k ≤ 5) (ht : t < 6) (hc : cmp b n (σ0.1 (22 + t)) (σ0.1 (28 + t))) (hr : σ0.2.2 43 13 = some (16 + t)) : nt_XP true k (nt_P V (σ0.1 (22 + t)) (σ0.1 (28 + t)) (σ0.1 9)) σ0 := by
  refine ⟨⟨fun e => (by rw [hr] at e; cases e), fun e => (by cases e)⟩, fun σ hF pt m x hpt hx => ?_⟩
  have g5 : x < 5 := by omega
  have r : σ.2.2 43 13 = some (16 + t) := by rw [hF.2]; exact hr
  unfold xf_X2_price
  simp only [sm_bS, r, g6, c6, sm_gIn g5 (by decide : 5 < 2 ^ 31), nI_cl (show x < 2 ^ 31 by omega)]
  rw [if_neg (by simp)]
  generalize e0 : sm_sI (sm_sI (sm_sI (sm_sI (sm_sI (sm_sI σ 50 0 (σ.1 12 x)) 50 1 ((sm_sI σ 50 0 (σ.1 12 x)).1 3 0)) 50 2 m) 50 3 ((sm_sI (sm_sI (sm_sI σ 50 0 (σ.1 12 x)) 50 1 ((sm_sI σ 50 0 (σ.1 12 x)).1 3 0)) 50 2 m).1 49 x)) 50 4 ((sm_sI (sm_sI (sm_sI (sm_sI σ 50 0 (σ.1 12 x)) 50 1 ((sm_sI σ 50 0 (σ.1 12 x)).1 3 0)) 50 2 m) 50 3 ((sm_sI (sm_sI (sm_sI σ 50 0 (σ.1 12 x)) 50 1 ((sm_sI σ 50 0 (σ.1 12 x)).1 3 0)) 50 2 m).1 49 x)).1 9 x)) 50 5 (nI x) = u
  have u2 : u.2 = σ.2 := by rw [← e0]; rfl
  have uo : ∀ c, c ≠ 50 → u.1 c = σ.1 c := fun c h => by rw [← e0, sm_rI c h, sm_rI c h, sm_rI c h, sm_rI c h, sm_rI c h, sm_rI c h]
  have u50 : ∀ i, i < 6 → u.1 50 i = nt_nm (σ.1 12 x) (σ.1 3 0) m (σ.1 49 x) (σ.1 9 x) (nI x) i := by
    intro i hi
    rw [← e0]
    simp only [sm_rI 3 (by decide : 3 ≠ 50), sm_rI 49 (by decide : 49 ≠ 50), sm_rI 9 (by decide : 9 ≠ 50)]
    rcases (by omega : i = 0 ∨ i = 1 ∨ i = 2 ∨ i = 3 ∨ i = 4 ∨ i = 5) with e | e | e | e | e | e <;> subst e <;> simp (config := { decide := true }) only [sm_rI1, ne_eq, not_false_eq_true, true_or, or_true, sm_rE] <;> rfl
  rw [u2, r]
  show sm_ok (sm_g (decide (xo_tag (16 + t) = 3)) _) _
  rw [xo_tagT t ht]
  have c22 : u.1 (22 + t) = σ0.1 (22 + t) := by
    rw [uo _ (by omega)]
    exact funext fun j => hF.1 _ j (nt_fx0 _ (by omega) (by omega) (by omega) j)
  have c28 : u.1 (28 + t) = σ0.1 (28 + t) := by
    rw [uo _ (by omega)]
    exact funext fun j => hF.1 _ j (nt_fx0 _ (by omega) (by omega) (by omega) j)
  refine ok_c (hI.2.1 t u b n ht (by rw [c22, c28]; exact hc) pt hpt) (fun v s ⟨h1, h2, h3⟩ => ok_some.mpr ⟨?_, fun c c50 c51 => ?_, h3.trans u2⟩)
  · rw [if_pos trivial, h1, c22, c28]
    unfold nt_P nt_cl
    rw [hI.1 b n _ _ hc pt (u.1 50) (nt_nm (σ.1 12 x) (σ.1 3 0) m (σ.1 49 x) (σ0.1 9 x) (nI x)) hpt (fun i hi => by rw [u50 i hi, hF.1 9 x (by simp [nt_fx])])]
  · rw [h2 c c51, uo c c50]
/-- who asks for no costs -/
theorem xf_price0 {P : Int32 → Nat → Int32 → Int32 → Int32 → Int32 → Int32} (hr : σ0.2.2 43 13 = none) : nt_XP false k P σ0 := by
  refine ⟨⟨fun _ => rfl, fun _ => hr⟩, fun σ hF pt m x hpt hx => ?_⟩
  have r : σ.2.2 43 13 = none := by rw [hF.2]; exact hr
  unfold xf_X2_price
  simp only [sm_bS, r, if_true]
  exact ok_some.mpr ⟨rfl, fun _ _ _ => rfl, rfl⟩
theorem mf_saysE {t n : Nat} {code ends nb : Nat → Int32} (hI : nt_I cmp V) (h5 : k ≤ 5) (ht : t < 6) (hn : n ≤ 160) (h4 : σ0.1 0 4 = nI t) (h2 : σ0.1 2 t = nI n) (hc : cmp (fun i => σ0.1 1 (160 * t + i)) n code ends) (hb : ∀ x, x < k → σ0.1 5 x = nb x) : nt_MP k (nt_P V code ends nb) σ0 := by
  intro σ hF pt m l x hpt hx
  have g5 : x < 5 := by omega
  unfold mf_X8_says
  simp only [sm_bS, sm_gIn g5 (by decide : 5 < 2 ^ 31), nI_cl (show x < 2 ^ 31 by omega)]
  have s4 : σ.1 0 4 = nI t := by rw [hF 0 4 (by simp [nt_fm]), h4]
  simp only [sm_rI 5 (by decide : 5 ≠ 0)]
  simp (config := { decide := true }) only [sm_rI1, ne_eq, not_false_eq_true, true_or, or_true, s4]
  generalize e0 : sm_sI (sm_sI (sm_sI (sm_sI (sm_sI (sm_sI σ 0 16 (σ.1 6 x)) 0 17 (σ.1 0 7)) 0 18 m) 0 19 l) 0 20 (σ.1 5 x)) 0 21 (nI x) = u
  have uo : ∀ c, c ≠ 0 → u.1 c = σ.1 c := fun c h => by rw [← e0, sm_rI c h, sm_rI c h, sm_rI c h, sm_rI c h, sm_rI c h, sm_rI c h]
  have u0 : ∀ j, ¬ (16 ≤ j ∧ j ≤ 21) → u.1 0 j = σ.1 0 j := fun j h => by rw [← e0, sm_rI1 0 j (by omega), sm_rI1 0 j (by omega), sm_rI1 0 j (by omega), sm_rI1 0 j (by omega), sm_rI1 0 j (by omega), sm_rI1 0 j (by omega)]
  have u50 : ∀ i, i < 6 → u.1 0 (16 + i) = nt_nm (σ.1 6 x) (σ.1 0 7) m l (σ.1 5 x) (nI x) i := by
    intro i hi
    rw [← e0]
    rcases (by omega : i = 0 ∨ i = 1 ∨ i = 2 ∨ i = 3 ∨ i = 4 ∨ i = 5) with e | e | e | e | e | e <;> subst e <;> simp (config := { decide := true }) only [sm_rI1, ne_eq, not_false_eq_true, true_or, or_true, sm_rE, Nat.reduceAdd] <;> rfl
  have cc : (fun i => u.1 1 (160 * t + i)) = fun i => σ0.1 1 (160 * t + i) := by
    rw [uo 1 (by decide)]
    exact funext fun i => hF 1 _ (by simp [nt_fm])
  refine ok_c (hI.2.2 t u n code ends ht hn (by rw [uo 2 (by decide), hF 2 t (by simp [nt_fm]), h2]) (by rw [cc]; exact hc) pt hpt) (fun v s ⟨k1, k2, k3⟩ => ?_)
  have w : mf_X8_within v 0 99 s = some (nt_cl v, s) := by
    unfold mf_X8_within nt_cl
    grind
  rw [w]
  refine ok_some.mpr ⟨?_, nt_cl99 v, fun c h => by rw [k2 c h, uo c h], fun j hj => by rw [k3 j (by omega), u0 j (by omega)]⟩
  rw [k1]
  unfold nt_P
  rw [hI.1 _ n _ _ hc pt (fun i => u.1 0 (16 + i)) (nt_nm (σ.1 6 x) (σ.1 0 7) m l (nb x) (nI x)) hpt (fun i hi => by rw [← hb x hx, ← hF 5 x (by simp [nt_fm])]; exact u50 i hi)]
end
